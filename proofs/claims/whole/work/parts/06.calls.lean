def QcT (g : Gx) (r : Option Value) (hf : HP) : Array Value → State → Outcome → State → Prop := fun _ st oc t => oc = .returned (r.map (cv g)) ∧ WP g hf t t.heap ∧ va_F (gA g) st t
def PcT (g : Gx) (args : List Value) (h : HP) : Array Value → State → Prop := va_Pc (args.map (cv g)) (fun U => Tb g U ∧ gZ g U U.heap ∧ g_s0 g ≤ U.heap.size ∧ WP g h U U.heap)
/-- a method's contract at these arguments, in this heap: it answers r, and leaves the heap hf -/
def CallT (g : Gx) (M : Mx) (args : List Value) (h : HP) (r : Option Value) (hf : HP) : Prop := ∀ l : Launch, Met l (m_y M) (m_ws M) (m_rm M) (PcT g args h) (QcT g r hf) (m_mc M) (m_ms M) (gA g)
def CallR {β : Type} (g : Gx) (M : Mx) (emb : β → Option Value × HP) (args : List Value) (h : HP) (res : Option β) : Prop := ∀ b, res = some b → CallT g M args h (emb b).1 (emb b).2
theorem PcT.blind {g : Gx} {args : List Value} {h : HP} : FrameBlind (PcT g args h) := by
  intro a U f mk q
  obtain ⟨q1, ⟨q2, q3, q4, q8, q9⟩, q5, q6, q7⟩ := q
  refine ⟨q1, ⟨va_K.moved (u := U) (U := U.calling f mk a) (Vm.Alike.refl U.vm) q2, fun w hw => ?_, fun x hx => (q4 x hx).moved (u := U) (U := U.calling f mk a) (Vm.Alike.refl U.vm), fun x hx => va_Nw.same (u := U) (U := U.calling f mk a) rfl rfl (q8 x hx), va_AO.moved (u := U) (U := U.calling f mk a) (Vm.Alike.refl U.vm) q9⟩, va_Z.moved (u := U) (U := U.calling f mk a) (Vm.Alike.refl U.vm) q5, q6, WP.moved (u := U) (U := U.calling f mk a) (Vm.Alike.refl U.vm) q7⟩
  have h1 : w.onTables = true := by
    rcases nWd_nest w hw with ⟨a, i, b, n, d, x, rfl⟩ | ⟨a, i, x, y, rfl⟩ <;> rfl
  exact va_Nw.same (u := U) (U := U.calling f mk a) h1 rfl (q3 w hw)
theorem PcT.at {g : Gx} {M : Mx} {p : Program} {R : Room} {s : State} {m : MethodId} {args : Array Value} {meth : Method} {c : Code} {As : List Value} {h : HP} {H : Heap} {locs : List Loc} (X : CX g M p R s m args meth c) (w : WP g h s H) (hS : va_S (gA g) s.heap H locs) : ∀ U : State, U.heap = H → s.WarmedH U.vm → PcT g As h (As.map (cv g)).toArray U := by
  intro U hU hW
  refine ⟨rfl, X.2.1.warm hW, va_Z.moved hW.alike ?_, ?_, by rw [hU]; exact w.moved hW.alike⟩
  · rw [hU]
    exact va_Z.kept X.2.2.1 (fun a h1 h2 => hS.2.1 a h1 h2)
  · rw [hU]; exact Nat.le_trans X.2.2.2.1 hS.1
theorem go_call {g : Gx} {p : Program} {l : Launch} {e : Env} {R : Room} {s : State} {m : MethodId} {args : Array Value} {below : List Frame} {meth : Method} {c : Code} {H : Heap} {locs : List Loc} {cells slots mc ms pc : Nat} {ls : Array Slot} {rest st0 : List Value} {Q : State → Prop} {a : Array Value} {r : Option Value} {hf : HP}
    (hr : va_Run p l e R s m args below meth c H locs cells slots mc ms (F0 m pc ls st0) rest (QcT g r hf a) (gA g)) (hS : va_S (gA g) s.heap H locs)
    (kk : ∀ (H1 : Heap) (locs1 : List Loc), WP g hf s H1 → va_S (gA g) s.heap H1 locs1 → W p l e R s m args below meth c H1 locs1 (cells + mc) (slots + ms) Q (F0 m (pc + 3) ls ((r.toList.map (cv g)) ++ rest))) : W p l e R s m args below meth c H locs cells slots Q (F0 m pc ls st0) := by
  intro T hT X
  obtain ⟨v, st₀, t, T', L, h0, X', hL, e1, e2, ⟨hv, hp, hz, hk⟩, st⟩ := hr T hT X
  have hv : v = r.map (cv g) := by cases hv; rfl
  subst hv
  rw [h0] at hz hk
  obtain ⟨t2, a1, b1⟩ := kk T'.heap (locs ++ L) (by rw [e1]; exact hp.moved (by rw [← e2]; exact X'.warmed.alike.symm))
    ⟨Nat.le_trans hS.1 (by rw [e1]; exact hz), fun q h1 h2 => by rw [e1, hk q (Nat.lt_of_lt_of_le h1 hS.1) h2]; exact hS.2.1 q h1 h2, fun q hq => by
      rcases List.mem_append.mp hq with h | h
      · exact hS.2.2 q h
      · exact hL q h⟩ T' rfl X'
  refine ⟨t2, st t2 ?_, b1⟩
  have e3 : (r.map (cv g)).toList ++ rest = r.toList.map (cv g) ++ rest := by cases r <;> rfl
  rw [e3]
  exact a1
theorem good_cons {big : List Cond} {c : Cond} {ws : List Cond} (h1 : c ∈ big ∧ ((c.onTables && c.keeps) = true ∨ ∃ ty, c = .arrayClass ty)) (h2 : GoodIn big ws) : GoodIn big (c :: ws) := by
  intro w hw
  rcases List.mem_cons.mp hw with rfl | hw
  · exact h1
  · exact h2 w hw
theorem good_wB {M : Mx} (h : Cond.code (m_y M) (m_cc M) (m_L M) (m_ret M) ∈ wB) : GoodIn wB (m_ws M) := good_cons ⟨h, wB_good h⟩ (fun w hw => ⟨hw, wB_good hw⟩)
/-- links to methods, out of the tables -/
def LkV (own : String) (ixx : Nat) (M : Mx) (n : Nat) : Prop := (Cond.methodLink own ixx (m_y M) ∈ wB ∧ Cond.instanceMethod (m_y M) ∈ wB ∧ Cond.selects (m_y M).cls (m_y M) (m_y M) ∈ wB ∧ Cond.initialized (m_y M).cls ∈ wB ∧ Cond.code (m_y M) (m_cc M) (m_L M) (m_ret M) ∈ wB) ∧ (m_y M).cls = (m_y M).cls ∧ (m_y M).cls ≠ "java/lang/invoke/MethodHandle" ∧ (m_y M).cls ≠ "java/lang/invoke/VarHandle" ∧ (parseMethodDescriptor (m_y M).desc).map (fun d => d.parameters.length) = some n
def LkS (own : String) (ixx : Nat) (M : Mx) (n : Nat) : Prop := (Cond.methodLink own ixx (m_y M) ∈ wB ∧ Cond.static (m_y M) ∈ wB ∧ Cond.initialized (m_y M).cls ∈ wB ∧ Cond.code (m_y M) (m_cc M) (m_L M) (m_ret M) ∈ wB) ∧ (m_y M).cls ≠ "java/lang/invoke/MethodHandle" ∧ (m_y M).cls ≠ "java/lang/invoke/VarHandle" ∧ (parseMethodDescriptor (m_y M).desc).map (fun d => d.parameters.length) = some n
def LkN (own : String) (ixx : Nat) (M : Mx) (n : Nat) : Prop := ((∃ host, Cond.methodLinkNest own ixx (m_y M) host ∈ nWd) ∧ Cond.static (m_y M) ∈ wB ∧ Cond.initialized (m_y M).cls ∈ wB ∧ Cond.code (m_y M) (m_cc M) (m_L M) (m_ret M) ∈ wB) ∧ (m_y M).cls ≠ "java/lang/invoke/MethodHandle" ∧ (m_y M).cls ≠ "java/lang/invoke/VarHandle" ∧ (parseMethodDescriptor (m_y M).desc).map (fun d => d.parameters.length) = some n
def LkI (own : String) (ixx : Nat) (M : Mx) (n : Nat) : Prop := ((Cond.methodLink own ixx (m_y M) ∈ wB ∨ ∃ host, Cond.methodLinkNest own ixx (m_y M) host ∈ nWd) ∧ Cond.instanceMethod (m_y M) ∈ wB ∧ Cond.initialized (m_y M).cls ∈ wB ∧ Cond.code (m_y M) (m_cc M) (m_L M) (m_ret M) ∈ wB ∧ (m_y M).name = "<init>" ∧ m_ret M = none) ∧ (m_y M).cls ≠ "java/lang/invoke/MethodHandle" ∧ (m_y M).cls ≠ "java/lang/invoke/VarHandle" ∧ (parseMethodDescriptor (m_y M).desc).map (fun d => d.parameters.length) = some n
/-- a method of News, in the class C, where what runs is M -/
def LkU (own : String) (ixx : Nat) (C : String) (x : MethodName) (M : Mx) (n : Nat) : Prop := ∃ (b0 : ByteArray) (m0 : Nat) (r0 : Option FieldType), (Cond.methodLink own ixx x ∈ wB ∧ Cond.sameMethod x.cls "SoldNews$News" x.name x.desc ∈ wB ∧ Cond.instanceMethod ⟨"SoldNews$News", x.name, x.desc⟩ ∈ wB ∧ Cond.selects C x (m_y M) ∈ wB ∧ Cond.instanceMethod (m_y M) ∈ wB ∧ Cond.initialized (m_y M).cls ∈ wB ∧ Cond.code (m_y M) (m_cc M) (m_L M) (m_ret M) ∈ wB ∧ Cond.code ⟨"SoldNews$News", x.name, x.desc⟩ b0 m0 r0 ∈ wB) ∧ (parseMethodDescriptor x.desc).map (fun d => d.parameters.length) = some n
/-- the callee's room within the caller's -/
def Fit (M M' : Mx) (kc ks : Nat) : Prop := m_fr M' + 1 ≤ m_fr M ∧ 8 + (m_L M' + 11) + m_lo M' ≤ m_lo M ∧ kc + m_mc M' ≤ m_mc M ∧ ks + m_ms M' ≤ m_ms M
section WWc
variable {α β : Type} {g : Gx} {M M' : Mx} {emb : α → Option Value × HP} {emb' : β → Option Value × HP} {pc : Nat} {L : List (Nat × Value)} {st : List Value} {h : HP} {kc ks : Nat} {res' : Option β} {κ : β → Option α}
theorem WW.callG {stk : List Value}
    (hrun : ∀ (p : Program) (l : Launch) (e : Env) (R : Room) (s : State) (m : MethodId) (args : Array Value) (below : List Frame) (meth : Method) (c : Code), CX g M p R s m args meth c → ∀ b, res' = some b → ∀ (H : Heap) (locs : List Loc) (ls : Array Slot), WP g h s H → va_S (gA g) s.heap H locs → ls.size = m_L M → ∃ av,
      va_Run p l e R s m args below meth c H locs kc ks (m_mc M') (m_ms M') (F0 m pc ls (stk.map (cv g))) (st.map (cv g)) (QcT g (emb' b).1 (emb' b).2 av) (gA g))
    (hk : ∀ b, res' = some b → WW g M emb (pc + 3) L ((emb' b).1.toList ++ st) (emb' b).2 (kc + m_mc M') (ks + m_ms M') (κ b)) : WW g M emb pc L stk h kc ks (res'.bind κ) := by
  intro a ha p l e R s m args below meth c Q X hr H locs ls w hS hl
  cases hb : res' with
  | none => rw [hb] at ha; cases ha
  | some b =>
    rw [hb] at ha
    obtain ⟨av, hv⟩ := hrun p l e R s m args below meth c X b hb H locs ls w hS hl.1
    refine go_call hv hS (fun H1 locs1 w1 hS1 => ?_)
    have k1 := hk b hb a ha p l e R s m args below meth c Q X hr H1 locs1 ls w1 hS1 hl
    rw [List.map_append] at k1
    exact k1
theorem WW.callV {As : List Value} {ixx n ci o z : Nat} (hlk : LkV (m_own M) ixx M' n) (hc : CallR g M' emb' (.ref o :: As) h res') (h3 : 3 ≤ o) (hs : h.2.2.2[o]? = some (ci, z)) (hC : ∃ T N, ClK ci (m_y M').cls T N) (hn : As.length = n) (hst : (st.map fun v => v.category).sum ≤ 8) (hfit : Fit M M' kc ks) (hd : decode (m_cc M) pc = .ok (.invokevirtual ixx, 3)) {stk : List Value} (hstk : stk = As.reverse ++ .ref o :: st)
    (hk : ∀ b, res' = some b → WW g M emb (pc + 3) L ((emb' b).1.toList ++ st) (emb' b).2 (kc + m_mc M') (ks + m_ms M') (κ b)) : WW g M emb pc L stk h kc ks (res'.bind κ) := by
  subst hstk
  refine WW.callG (fun p l e R s m args below meth c X b hb H locs ls w hS hsz => ?_) hk
  obtain ⟨⟨k1, k2, k3, k4, k5⟩, k6⟩ := hlk
  have ho : o ≠ 0 := by omega
  obtain ⟨T, N, hC⟩ := hC
  have hat := w.2.1 o _ h3 hs
  rw [gent_obj hC.2.1] at hat
  have hrecv := va_recv X.2.1.1 (sgl hat) hC.1 (q0 := 0) rfl
  have hG : GoodIn wB (wsV (m_own M) ixx (m_y M').cls (m_y M') (m_ws M')) := good_cons ⟨k1, wB_good k1⟩ (good_cons ⟨k2, wB_good k2⟩ (good_cons ⟨k3, wB_good k3⟩ (good_cons ⟨k4, wB_good k4⟩ (good_wB k5))))
  have hr := va_runV (As := As.map (cv g)) (b := gad g o) (rest := st.map (cv g)) (e := e) (below := below) (meth := meth) (locs := locs) (cells := kc) (slots := ks) (g := F0 m pc ls ((As.reverse ++ Value.ref o :: st).map (cv g))) ⟨X.1.1, X.1.2.1, X.1.2.2.1, X.1.2.2.2.1, X.1.2.2.2.2⟩ (hc b hb l)
    (cwV n X.1.2.2.2.2 hG rfl rfl rfl k6 ⟨Nat.le_trans hfit.1 X.2.2.2.2.1.1, Nat.le_trans hfit.2.1 X.2.2.2.2.1.2.1⟩)
    ⟨PcT.blind, hrecv, fun U hU hW => by have h9 := PcT.at (As := .ref o :: As) X w hS U hU hW; rw [List.map_cons, cv_ref ho] at h9; exact h9⟩
    rfl (by rw [List.length_map]; exact hn) hsz (by simp [cv_ref ho]) (lv_room (by rw [List.map_map]; simpa [Function.comp_def, cv_cat] using hst)) hd ⟨Nat.le_trans hfit.2.2.1 X.2.2.2.2.1.2.2.1, Nat.le_trans hfit.2.2.2 X.2.2.2.2.1.2.2.2⟩
  exact ⟨_, hr⟩
theorem WW.callU {As : List Value} {ixx n ci o z : Nat} {C : String} {x : MethodName} (hlk : LkU (m_own M) ixx C x M' n) (hc : CallR g M' emb' (.ref o :: As) h res') (h3 : 3 ≤ o) (hs : h.2.2.2[o]? = some (ci, z)) (hC : ∃ T N, ClK ci C T N) (hn : As.length = n) (hst : (st.map fun v => v.category).sum ≤ 8) (hfit : Fit M M' kc ks) (hd : decode (m_cc M) pc = .ok (.invokevirtual ixx, 3)) {stk : List Value} (hstk : stk = As.reverse ++ .ref o :: st)
    (hk : ∀ b, res' = some b → WW g M emb (pc + 3) L ((emb' b).1.toList ++ st) (emb' b).2 (kc + m_mc M') (ks + m_ms M') (κ b)) : WW g M emb pc L stk h kc ks (res'.bind κ) := by
  subst hstk
  refine WW.callG (fun p l e R s m args below meth c X b hb H locs ls w hS hsz => ?_) hk
  obtain ⟨b0, m0, r0, ⟨k1, k2, k3, k4, k5, k6, k7, k8⟩, k9⟩ := hlk
  have ho : o ≠ 0 := by omega
  obtain ⟨T, N, hC⟩ := hC
  have hat := w.2.1 o _ h3 hs
  rw [gent_obj hC.2.1] at hat
  have hrecv := va_recv X.2.1.1 (sgl hat) hC.1 (q0 := 0) rfl
  have hG : GoodIn wB (va_wsO (m_own M) ixx C "SoldNews$News" x (m_y M') (m_ws M')) := good_cons ⟨k1, wB_good k1⟩ (good_cons ⟨k2, wB_good k2⟩ (good_cons ⟨k3, wB_good k3⟩ (good_cons ⟨k4, wB_good k4⟩ (good_cons ⟨k5, wB_good k5⟩ (good_cons ⟨k6, wB_good k6⟩ (good_wB k7))))))
  have hr := va_runU (As := As.map (cv g)) (b := gad g o) (rest := st.map (cv g)) (e := e) (below := below) (meth := meth) (locs := locs) (cells := kc) (slots := ks) (g := F0 m pc ls ((As.reverse ++ Value.ref o :: st).map (cv g))) ⟨X.1.1, X.1.2.1, X.1.2.2.1, X.1.2.2.2.1, X.1.2.2.2.2⟩ (hc b hb l)
    (va_cwO n X.1.2.2.2.2 hG rfl rfl rfl k8 ⟨by decide, by decide, k9⟩ ⟨Nat.le_trans hfit.1 X.2.2.2.2.1.1, Nat.le_trans hfit.2.1 X.2.2.2.2.1.2.1⟩)
    ⟨PcT.blind, hrecv, fun U hU hW => by have h9 := PcT.at (As := .ref o :: As) X w hS U hU hW; rw [List.map_cons, cv_ref ho] at h9; exact h9⟩
    rfl (by rw [List.length_map]; exact hn) hsz (by simp [cv_ref ho]) (lv_room (by rw [List.map_map]; simpa [Function.comp_def, cv_cat] using hst)) hd ⟨Nat.le_trans hfit.2.2.1 X.2.2.2.2.1.2.2.1, Nat.le_trans hfit.2.2.2 X.2.2.2.2.1.2.2.2⟩
  exact ⟨_, hr⟩
theorem WW.callS {As : List Value} {ixx n : Nat} (hlk : LkS (m_own M) ixx M' n) (hc : CallR g M' emb' As h res') (hn : As.length = n) (hst : (st.map fun v => v.category).sum ≤ 8) (hfit : Fit M M' kc ks) (hd : decode (m_cc M) pc = .ok (.invokestatic ixx, 3)) {stk : List Value} (hstk : stk = As.reverse ++ st)
    (hk : ∀ b, res' = some b → WW g M emb (pc + 3) L ((emb' b).1.toList ++ st) (emb' b).2 (kc + m_mc M') (ks + m_ms M') (κ b)) : WW g M emb pc L stk h kc ks (res'.bind κ) := by
  subst hstk
  refine WW.callG (fun p l e R s m args below meth c X b hb H locs ls w hS hsz => ?_) hk
  obtain ⟨⟨k1, k2, k3, k4⟩, k6⟩ := hlk
  have hG : GoodIn wB (va_wsS (m_own M) ixx (m_y M') (m_ws M')) := good_cons ⟨k1, wB_good k1⟩ (good_cons ⟨k2, wB_good k2⟩ (good_cons ⟨k3, wB_good k3⟩ (good_wB k4)))
  have hr := va_runS (As := As.map (cv g)) (rest := st.map (cv g)) (e := e) (below := below) (meth := meth) (locs := locs) (cells := kc) (slots := ks) (g := F0 m pc ls ((As.reverse ++ st).map (cv g))) ⟨X.1.1, X.1.2.1, X.1.2.2.1, X.1.2.2.2.1, X.1.2.2.2.2⟩ (hc b hb l)
    (va_cwS n X.1.2.2.2.2 hG rfl rfl rfl k6 ⟨Nat.le_trans hfit.1 X.2.2.2.2.1.1, Nat.le_trans hfit.2.1 X.2.2.2.2.1.2.1⟩)
    ⟨PcT.blind, PcT.at (As := As) X w hS⟩
    rfl (by rw [List.length_map]; exact hn) hsz (by simp) (lv_room (by rw [List.map_map]; simpa [Function.comp_def, cv_cat] using hst)) hd ⟨Nat.le_trans hfit.2.2.1 X.2.2.2.2.1.2.2.1, Nat.le_trans hfit.2.2.2 X.2.2.2.2.1.2.2.2⟩
  exact ⟨_, hr⟩
theorem WW.callN {As : List Value} {ixx n : Nat} (hlk : LkN (m_own M) ixx M' n) (hc : CallR g M' emb' As h res') (hn : As.length = n) (hst : (st.map fun v => v.category).sum ≤ 8) (hfit : Fit M M' kc ks) (hd : decode (m_cc M) pc = .ok (.invokestatic ixx, 3)) {stk : List Value} (hstk : stk = As.reverse ++ st)
    (hk : ∀ b, res' = some b → WW g M emb (pc + 3) L ((emb' b).1.toList ++ st) (emb' b).2 (kc + m_mc M') (ks + m_ms M') (κ b)) : WW g M emb pc L stk h kc ks (res'.bind κ) := by
  subst hstk
  refine WW.callG (fun p l e R s m args below meth c X b hb H locs ls w hS hsz => ?_) hk
  obtain ⟨⟨⟨host, k1⟩, k2, k3, k4⟩, k6⟩ := hlk
  have hr := va_runSN (As := As.map (cv g)) (rest := st.map (cv g)) (e := e) (below := below) (meth := meth) (locs := locs) (cells := kc) (slots := ks) (g := F0 m pc ls ((As.reverse ++ st).map (cv g))) ⟨X.1.1, X.1.2.1, X.1.2.2.1, X.1.2.2.2.1, X.1.2.2.2.2⟩ (hc b hb l)
    ⟨va_cnB n X.1.2.2.2.2 (good_wB k4) rfl rfl rfl (X.2.1.2.1 _ k1) (X.1.2.2.2.2 _ k3) k6 ⟨Nat.le_trans hfit.1 X.2.2.2.2.1.1, Nat.le_trans hfit.2.1 X.2.2.2.2.1.2.1⟩, X.1.2.2.2.2 _ k2, trivial⟩
    ⟨PcT.blind, PcT.at (As := As) X w hS⟩
    rfl (by rw [List.length_map]; exact hn) hsz (by simp) (lv_room (by rw [List.map_map]; simpa [Function.comp_def, cv_cat] using hst)) hd ⟨Nat.le_trans hfit.2.2.1 X.2.2.2.2.1.2.2.1, Nat.le_trans hfit.2.2.2 X.2.2.2.2.1.2.2.2⟩
  exact ⟨_, hr⟩
theorem WW.callI {As : List Value} {ixx n o : Nat} (hlk : LkI (m_own M) ixx M' n) (hc : CallR g M' emb' (.ref o :: As) h res') (h3 : 3 ≤ o) (hn : As.length = n) (hst : (st.map fun v => v.category).sum ≤ 8) (hfit : Fit M M' kc ks) (hd : decode (m_cc M) pc = .ok (.invokespecial ixx, 3)) {stk : List Value} (hstk : stk = As.reverse ++ .ref o :: st)
    (hk : ∀ b, res' = some b → WW g M emb (pc + 3) L ((emb' b).1.toList ++ st) (emb' b).2 (kc + m_mc M') (ks + m_ms M') (κ b)) : WW g M emb pc L stk h kc ks (res'.bind κ) := by
  subst hstk
  refine WW.callG (fun p l e R s m args below meth c X b hb H locs ls w hS hsz => ?_) hk
  obtain ⟨⟨k1, k2, k3, k4, k5, k7⟩, k6⟩ := hlk
  have ho : o ≠ 0 := by omega
  have hpre : PreS s H (PcT g (.ref o :: As) h) (Value.ref (gad g o) :: As.map (cv g)) := ⟨PcT.blind, fun U hU hW => by have h9 := PcT.at (As := .ref o :: As) X w hS U hU hW; rw [List.map_cons, cv_ref ho] at h9; exact h9⟩
  rcases k1 with k1 | ⟨host, k1⟩
  · exact ⟨_, va_runI (As := As.map (cv g)) (b := gad g o) (rest := st.map (cv g)) (e := e) (below := below) (meth := meth) (locs := locs) (cells := kc) (slots := ks) (g := F0 m pc ls ((As.reverse ++ Value.ref o :: st).map (cv g))) ⟨X.1.1, X.1.2.1, X.1.2.2.1, X.1.2.2.2.1, X.1.2.2.2.2⟩ (hc b hb l)
      (cwI n X.1.2.2.2.2 (good_wB k4) (by unfold m_ws; rw [k7]) rfl rfl (X.1.2.2.2.2 _ k3) (X.1.2.2.2.2 _ k1) (X.1.2.2.2.2 _ k2) k5 k6 ⟨Nat.le_trans hfit.1 X.2.2.2.2.1.1, Nat.le_trans hfit.2.1 X.2.2.2.2.1.2.1⟩)
      hpre rfl (by rw [List.length_map]; exact hn) hsz (by simp [cv_ref ho]) (lv_room (by rw [List.map_map]; simpa [Function.comp_def, cv_cat] using hst)) hd ⟨Nat.le_trans hfit.2.2.1 X.2.2.2.2.1.2.2.1, Nat.le_trans hfit.2.2.2 X.2.2.2.2.1.2.2.2⟩⟩
  · exact ⟨_, va_runIN (As := As.map (cv g)) (b := gad g o) (rest := st.map (cv g)) (e := e) (below := below) (meth := meth) (locs := locs) (cells := kc) (slots := ks) (g := F0 m pc ls ((As.reverse ++ Value.ref o :: st).map (cv g))) ⟨X.1.1, X.1.2.1, X.1.2.2.1, X.1.2.2.2.1, X.1.2.2.2.2⟩ (hc b hb l)
      ⟨va_cnB n X.1.2.2.2.2 (good_wB k4) (by unfold m_ws; rw [k7]) rfl rfl (X.2.1.2.1 _ k1) (X.1.2.2.2.2 _ k3) k6 ⟨Nat.le_trans hfit.1 X.2.2.2.2.1.1, Nat.le_trans hfit.2.1 X.2.2.2.2.1.2.1⟩, k5, X.1.2.2.2.2 _ k2⟩
      hpre rfl (by rw [List.length_map]; exact hn) hsz (by simp [cv_ref ho]) (lv_room (by rw [List.map_map]; simpa [Function.comp_def, cv_cat] using hst)) hd ⟨Nat.le_trans hfit.2.2.1 X.2.2.2.2.1.2.2.1, Nat.le_trans hfit.2.2.2 X.2.2.2.2.1.2.2.2⟩⟩
/-- returns -/
theorem WW.ret {a : α} {r : Option Value} {res : Option α} (hres : res = some a) (he : emb a = (r, h)) (hd : RetI M pc) (hk : kc ≤ m_mc M ∧ ks ≤ m_ms M) (hst : st = r.toList) : WW g M emb pc L st h kc ks res := by
  subst hres
  intro a' ha p l e R s m args below meth c Q X hr H locs ls w hS hl
  cases ha
  rw [he] at hr
  have := hr pc ls H locs kc ks hd hk.1 hk.2 w hS
  rw [hst]
  exact this
/-- what a method of this type answers -/
def RetOk (t : Option FieldType) (r : Option Value) : Prop := match t with
  | none => r = none
  | some .long => ∃ x, r = some (.long x)
  | some .int => ∃ x, r = some (.int x)
  | some .boolean => ∃ b : Bool, r = some (.int (b2i b))
  | some (.object _) => ∃ j, r = some (.ref j)
  | _ => False
theorem lg_sl_cv (g : Gx) (vs : List Value) : (lg_sl (vs.map (cv g))).length = (lg_sl vs).length := by
  induction vs with
  | nil => rfl
  | cons v t ih =>
    simp only [lg_sl, List.map_cons, List.flatMap_cons, List.length_append, cv_cat] at ih ⊢
    rw [ih]
    split <;> rfl
theorem lv_args_cv (g : Gx) (vs : List Value) : ∀ i, lv_args i (vs.map (cv g)) = (lv_args i vs).map (cvp g) := by
  induction vs with
  | nil => intro i; rfl
  | cons v t ih =>
    intro i
    simp only [lv_args, List.map_cons, cv_cat, ih]
    rfl
theorem CallR.intro {args : List Value} {res : Option α} (hy : plainName (m_y M).cls = true) (hown : (m_y M).cls = m_own M) (hargs : (lg_sl args).length ≤ m_L M) (hret : ∀ a, res = some a → RetOk (m_ret M) (emb a).1) (hw : WW g M emb 0 (lv_args 0 args) [] h 0 0 res) : CallR g M emb args h res := by
  intro a ha l
  refine Met.ofW (cc := m_cc M) (maxL := m_L M) (ret := m_ret M) hy rfl ?_
  intro p e s m as below meth c s₁ B hml hv
  obtain ⟨rfl, hT, hZ, hz0, hWP⟩ := hv
  have hts := atoms_spec (ws := m_ws M) B.pre
  have X : CX g M p (headSpec (m_ws M) (m_rm M)).room s m (args.map (cv g)).toArray meth c :=
    ⟨⟨B.exec, B.bytes, hml, by rw [← hown]; exact findClass_of_methodNamed B.named, fun w hw => hts w (List.mem_cons_of_mem _ hw)⟩, hT, hZ, hz0, ⟨Nat.le_refl _, Nat.le_refl _, Nat.le_refl _, Nat.le_refl _⟩, fun hi => by rw [(name_of_methodNamed B.named B.method).1]; exact hi⟩
  have hl := lv_entry (args.map (cv g)) (n := m_L M) (by rw [lg_sl_cv]; exact hargs)
  rw [lv_args_cv] at hl
  rw [lg_entry_eq]
  have hr := B.returns
  have hro := hret a ha
  refine hw a ha p l e _ s m _ below meth c _ X ?_ s.heap [] _ hWP va_S.rf hl
  intro pc' ls' H' locs' kc' ks' hri h1 h2 w' hS'
  refine W.widen h1 h2 ?_
  have hlocks := B.notSynchronized
  have hQ : ∀ t : State, t.heap = H' → s.WarmedH t.vm → QcT g (emb a).1 (emb a).2 (args.map (cv g)).toArray s (.returned ((emb a).1.map (cv g))) t := fun t ht hW => ⟨rfl, by rw [ht]; exact w'.moved hW.alike, hS'.F ht⟩
  unfold RetI at hri
  unfold RetOk at hro
  split at hri
  · rename_i e1
    rw [e1] at hro hr
    have hro : (emb a).1 = none := hro
    rw [hro] at hQ ⊢
    exact W.vret B.exec B.bytes hr hQ hS'.2.2 hri
  · rename_i e1
    rw [e1] at hro hr
    obtain ⟨x, hro⟩ : ∃ x, (emb a).1 = some (.long x) := hro
    rw [hro] at hQ ⊢
    exact W.lret (v := x) B.exec B.bytes hr hQ hS'.2.2 hri
  · rename_i C e1
    rw [e1] at hro hr
    obtain ⟨x, hro⟩ : ∃ x, (emb a).1 = some (.ref x) := hro
    rw [hro] at hQ ⊢
    refine W.aret (v := cv g (.ref x)) B.exec B.bytes hr (Or.inl ⟨C, rfl⟩) ?_ hQ hS'.2.2 hri
    by_cases hx : x = 0
    · exact Or.inl (by simp [cv, hx])
    · exact Or.inr ⟨_, cv_ref hx⟩
  · rename_i e1
    rw [e1] at hro hr
    obtain ⟨x, hro⟩ : ∃ x, (emb a).1 = some (.int x) := hro
    rw [hro] at hQ ⊢
    exact W.iret (v := x) B.exec B.bytes hr hQ hS'.2.2 hri
  · rename_i e1
    rw [e1] at hro hr
    obtain ⟨x, hro⟩ : ∃ b : Bool, (emb a).1 = some (.int (b2i b)) := hro
    rw [hro] at hQ ⊢
    exact W.zret (v := b2i x) B.exec B.bytes hr (by cases x <;> rfl) hQ hS'.2.2 hri
  · exact hri.elim
end WWc
