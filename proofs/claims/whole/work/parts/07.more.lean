/-- a new cell -/
def hp_nw (h : HP) (t : Nat × Nat) : HP := (fun j k => if j = h.2.2.2.length then 0 else h.1 j k, fun j k => if j = h.2.2.2.length then 0 else h.2.1 j k, fun j k => if j = h.2.2.2.length then 0 else h.2.2.1 j k, h.2.2.2 ++ [t])
theorem hp_nw_old {h : HP} {t : Nat × Nat} {j : Nat} (hj : j ≠ h.2.2.2.length) : (hp_nw h t).1 j = h.1 j ∧ (hp_nw h t).2.1 j = h.2.1 j ∧ (hp_nw h t).2.2.1 j = h.2.2.1 j := by
  refine ⟨?_, ?_, ?_⟩ <;> funext k <;> simp [hp_nw, hj]
theorem WP.new {g : Gx} {h : HP} {U : State} {H H1 : Heap} {t : Nat × Nat} (w : WP g h U H) (he : va_at g.1 vwCl (H.size, gent g (hp_nw h t) h.2.2.2.length t) H1) (hz : H1.size = H.size + 1) (hq : ∀ q, q < H.size → H1[q]? = H[q]?) : WP g (hp_nw h t) U H1 ∧ gad g h.2.2.2.length = H.size := by
  obtain ⟨⟨w1, w2, w3, w4⟩, w5, w6⟩ := w
  have hlen : (hp_nw h t).2.2.2.length = h.2.2.2.length + 1 := by simp [hp_nw]
  have ha : gad g h.2.2.2.length = H.size := by rw [gad_new w1, w2]
  refine ⟨⟨⟨by omega, by rw [hlen, hz, w2]; omega, w3, w4⟩, fun j t' h3 h4 => ?_, fun j h3 => ?_⟩, ha⟩
  · have h4' : (h.2.2.2 ++ [t])[j]? = some t' := h4
    by_cases e : j = h.2.2.2.length
    · subst e
      rw [List.getElem?_append_right (Nat.le_refl _)] at h4'
      simp at h4'
      subst h4'
      rw [ha]
      exact he
    · have hj : j < h.2.2.2.length := by
        have := (List.getElem?_eq_some_iff.mp h4').1
        simp at this
        omega
      rw [List.getElem?_append_left hj] at h4'
      obtain ⟨a1, a2, a3⟩ := hp_nw_old (h := h) (t := t) e
      have e2 : gent g (hp_nw h t) j t' = gent g h j t' := by
        unfold gent
        rw [a1, a2, a3]
        have : ∀ k, gfv (gty t'.1 k) (hp_nw h t) j k = gfv (gty t'.1 k) h j k := fun k => by
          unfold gfv; rw [a1, a2, a3]
        simp only [this]
      rw [e2]
      refine (w5 j t' h3 h4').kept (hq _ ?_)
      rw [gad_new h3, w2]; omega
  · obtain ⟨n, h4, h5⟩ := w6 j h3
    have hj : j < h.2.2.2.length := (List.getElem?_eq_some_iff.mp h4).1
    refine ⟨n, by show (h.2.2.2 ++ [t])[j]? = _; rw [List.getElem?_append_left hj]; exact h4, ?_⟩
    rw [(hp_nw_old (h := h) (t := t) (Nat.ne_of_lt hj)).1]
    refine h5.kept (hq _ ?_)
    rcases h3 with rfl | rfl <;> omega
/-- links to classes -/
def LkC (own : String) (ixx : Nat) (ci : Nat) : Prop := ∃ (C : String) (T : u_T) (N : Nat), ClK ci C T N ∧ Cond.classLink own ixx C ∈ wB ∧ Cond.instantiable C N ∈ wB ∧ Cond.initialized C ∈ wB ∧ ∀ k, k < N → gty ci k = .int ∨ gty ci k = .long ∨ gty ci k = .boolean ∨ (∃ C, gty ci k = .object C) ∨ ∃ t, gty ci k = .array t
/-- whether an object of class ci is one of class nm -/
def LkT (own : String) (ixx : Nat) (ci : Nat) (b : Bool) : Prop := ∃ (C : String) (T : u_T) (N : Nat) (nm : String), ClK ci C T N ∧ Cond.classLink own ixx nm ∈ wB ∧ ((b = true ∧ (C = nm ∨ (C, nm) ∈ caP)) ∨ (b = false ∧ (C, nm) ∈ ncP))
def LkM (own : String) (ixx : Nat) (x : MethodName) (cc : ByteArray) (n : Nat) (ret : Option FieldType) : Prop := Cond.methodLink own ixx x ∈ wB ∧ Cond.static x ∈ wB ∧ Cond.initialized "java/lang/Math" ∈ wB ∧ Cond.code x cc n ret ∈ wB
section WWm
variable {α : Type} {g : Gx} {M : Mx} {emb : α → Option Value × HP} {pc : Nat} {L : List (Nat × Value)} {st : List Value} {h : HP} {kc ks : Nat} {res : Option α}
theorem WW.new {ixx ci : Nat} (hlk : LkC (m_own M) ixx ci) (hk : kc + 1 ≤ m_mc M ∧ ks + gnf ci ≤ m_ms M) (hd : decode (m_cc M) pc = .ok (.new ixx, 3)) (kk : WW g M emb (pc + 3) L (.ref h.2.2.2.length :: st) (hp_nw h (ci, 0)) (kc + 1) (ks + gnf ci) res) : WW g M emb pc L st h kc ks res := by
  intro a ha p l e R s m args below meth c Q X hr H locs ls w hS hl
  obtain ⟨C, T, N, ⟨c1, c2, c3, c4, c5, c6⟩, l1, l2, l3, l4⟩ := hlk
  have hKn := X.2.1.1.1 ci _ c1
  subst c3
  refine W.newcK X.1.1 X.1.2.1 X.1.2.2.2.1 (X.1.2.2.2.2 _ l1) (X.1.2.2.2.2 _ l2) (X.1.2.2.2.2 _ l3) rfl hd (Nat.le_trans hk.1 X.2.2.2.2.1.2.2.1) (Nat.le_trans hk.2 X.2.2.2.2.1.2.2.2) hKn.2.1 rfl fun H1 kC hkC e1 z1 o1 => ?_
  have hw := w.new (t := (ci, 0)) (H1 := H1) (by
    rw [gent_obj c2]
    refine ⟨_, c1, (u_born (gty ci) X.1.2.2.2.2 c4 hKn hkC e1 c5).to (fun k hk => ?_)⟩
    show _ = vp_V ((List.range (gnf ci)).map _) k
    unfold vp_V
    rw [List.getD_eq_getElem?_getD, rng_get hk]
    rcases l4 k hk with q | q | q | ⟨_, q⟩ | ⟨_, q⟩ <;> rw [q] <;> simp [defaultValue, gfv, hp_nw, cv]) z1 o1
  have k1 := kk a ha p l e R s m args below meth c Q X hr H1 locs ls hw.1 ⟨Nat.le_trans hS.1 (by omega), fun x h1 h2 => (o1 x (Nat.lt_of_lt_of_le h1 hS.1)).trans (hS.2.1 x h1 h2), hS.2.2⟩ hl
  have ho : h.2.2.2.length ≠ 0 := by have := w.1.1; omega
  simp only [List.map_cons, cv_ref ho, hw.2] at k1
  exact k1
/-- a new row of numbers -/
theorem WW.newa {t N : Nat} {at_ : ArrayType} {n : Int32} (ht : (t = 20 ∧ at_ = .int) ∨ (t = 21 ∧ at_ = .long) ∨ (t = 22 ∧ at_ = .boolean)) (hw : Cond.arrayClass (newarray.typeOf at_) ∈ wB) (hn : ¬ n < 0) (hN : n.toNatClampNeg = N) (hbig : N ≤ 10000) (hk : kc + 1 ≤ m_mc M ∧ ks + N ≤ m_ms M) (hd : decode (m_cc M) pc = .ok (.newarray at_, 2)) (kk : WW g M emb (pc + 2) L (.ref h.2.2.2.length :: st) (hp_nw h (t, N)) (kc + 1) (ks + N) res) : WW g M emb pc L (.int n :: st) h kc ks res := by
  intro a ha p l e R s m args below meth c Q X hr H locs ls w hS hl
  refine va_newaK X.1.1 X.1.2.1 (X.1.2.2.2.2 _ hw) rfl hd rfl hn hN ?_ (Nat.le_trans hk.1 X.2.2.2.2.1.2.2.1) (Nat.le_trans hk.2 X.2.2.2.2.1.2.2.2) rfl fun H1 cA e1 z1 o1 hAr hNm => ?_
  · rcases ht with ⟨-, rfl⟩ | ⟨-, rfl⟩ | ⟨-, rfl⟩ <;> simp only [newarray.typeOf, componentBytes] <;> omega
  have hw := w.new (t := (t, N)) (H1 := H1) (by
    rcases ht with ⟨rfl, rfl⟩ | ⟨rfl, rfl⟩ | ⟨rfl, rfl⟩
    · have q : s.vm.findClass ("[" ++ (FieldType.int).toString) = some g.2.1.1 := (X.2.1.1.2 0 _ rfl).2
      have hNm : s.vm.findClass ("[" ++ (FieldType.int).toString) = some cA := hNm
      have e : cA = g.2.1.1 := Option.some.inj (hNm.symm.trans q)
      subst e
      rw [gent_ia]
      show H1[H.size]? = some (vp_cell _ _)
      rw [e1, vp_cell_i]
      congr 2
      funext k; simp [newarray.typeOf, defaultValue, hp_nw]
    · have q : s.vm.findClass ("[" ++ (FieldType.long).toString) = some g.2.1.2.1 := (X.2.1.1.2 1 _ rfl).2
      have hNm : s.vm.findClass ("[" ++ (FieldType.long).toString) = some cA := hNm
      have e : cA = g.2.1.2.1 := Option.some.inj (hNm.symm.trans q)
      subst e
      rw [gent_la]
      show H1[H.size]? = some (vp_cell _ _)
      rw [e1, vp_cell_l]
      congr 2
      funext k; simp [newarray.typeOf, defaultValue, hp_nw]
    · have q : s.vm.findClass ("[" ++ (FieldType.boolean).toString) = some g.2.1.2.2.1 := (X.2.1.1.2 2 _ rfl).2
      have hNm : s.vm.findClass ("[" ++ (FieldType.boolean).toString) = some cA := hNm
      have e : cA = g.2.1.2.2.1 := Option.some.inj (hNm.symm.trans q)
      subst e
      rw [gent_za]
      show H1[H.size]? = some (vp_cell _ _)
      rw [e1, vp_cell_i]
      congr 2
      funext k; simp [newarray.typeOf, defaultValue, hp_nw]) z1 o1
  have k1 := kk a ha p l e R s m args below meth c Q X hr H1 locs ls hw.1 ⟨Nat.le_trans hS.1 (by omega), fun x h1 h2 => (o1 x (Nat.lt_of_lt_of_le h1 hS.1)).trans (hS.2.1 x h1 h2), hS.2.2⟩ hl
  have ho : h.2.2.2.length ≠ 0 := by have := w.1.1; omega
  simp only [List.map_cons, cv_ref ho, hw.2] at k1
  exact k1
/-- a new row of News -/
theorem WW.anew {N ixx : Nat} {n : Int32} (hw : Cond.classLink (m_own M) ixx "SoldNews$News" ∈ wB) (hn : ¬ n < 0) (hN : n.toNatClampNeg = N) (hbig : N ≤ 10000) (hk : kc + 1 ≤ m_mc M ∧ ks + N ≤ m_ms M) (hd : decode (m_cc M) pc = .ok (.anewarray ixx, 3)) (kk : WW g M emb (pc + 3) L (.ref h.2.2.2.length :: st) (hp_nw h (23, N)) (kc + 1) (ks + N) res) : WW g M emb pc L (.int n :: st) h kc ks res := by
  intro a ha p l e R s m args below meth c Q X hr H locs ls w hS hl
  subst hN
  refine W.anew X.1.1 X.1.2.1 X.1.2.2.2.1 (X.1.2.2.2.2 _ hw) (va_AO.use X.2.1.2.2.2.2) rfl hd rfl hn (by omega) (Nat.le_trans hk.1 X.2.2.2.2.1.2.2.1) (Nat.le_trans hk.2 X.2.2.2.2.1.2.2.2) fun cA kA comp f1 f2 f3 f4 => ?_
  have hw := w.new (t := (23, n.toNatClampNeg)) (H1 := H.push { cls := cA, slots := Array.replicate n.toNatClampNeg .null, vm := .none }) (by
    obtain ⟨kA', comp', q1, q2, q3, q4⟩ := (X.2.1.1.2 3 _ rfl).2
    have e : cA = g.2.1.2.2.2 := Option.some.inj (f1.symm.trans q4)
    subst e
    rw [gent_ra]
    show (H.push _)[H.size]? = some (vp_cell _ _)
    rw [vp_cell_q, arrV_new]
    simp only [Array.getElem?_push_size]
    congr 2
    funext k; simp [hp_nw, grf, va_rf]) (by simp) (fun q hq => by rw [Array.getElem?_push, if_neg (Nat.ne_of_lt hq)])
  have k1 := kk a ha p l e R s m args below meth c Q X hr _ locs ls hw.1 ⟨Nat.le_trans hS.1 (by simp), fun x h1 h2 => by
    have : x < H.size := Nat.lt_of_lt_of_le h1 hS.1
    rw [Array.getElem?_push, if_neg (Nat.ne_of_lt this)]
    exact hS.2.1 x h1 h2, hS.2.2⟩ hl
  have ho : h.2.2.2.length ≠ 0 := by have := w.1.1; omega
  simp only [List.map_cons, cv_ref ho, hw.2] at k1
  exact k1
/-- Object's constructor -/
theorem WW.obj {ixx o : Nat} (hw : Cond.methodLink (m_own M) ixx Lib.objectInit ∈ wB ∧ Cond.instanceMethod Lib.objectInit ∈ wB ∧ Cond.code Lib.objectInit ⟨#[0xb1]⟩ 1 Option.none ∈ wB) (h3 : 3 ≤ o) (hst : (st.map fun v => v.category).sum + 12 ≤ m_lo M) (hf : 1 ≤ m_fr M) (hd : decode (m_cc M) pc = .ok (.invokespecial ixx, 3)) (kk : WW g M emb (pc + 3) L st h kc ks res) : WW g M emb pc L (.ref o :: st) h kc ks res := by
  intro a ha p l e R s m args below meth c Q X hr H locs ls w hS hl
  have ho : o ≠ 0 := by omega
  simp only [List.map_cons, cv_ref ho]
  refine W.objInit X.1.1 X.1.2.1 X.1.2.2.2.1 (X.1.2.2.2.2 _ hw.1) (X.1.2.2.2.2 _ hw.2.1) (X.1.2.2.2.2 _ hw.2.2) rfl (by rw [X.1.2.2.1]; exact hl.1) rfl hd (Nat.le_trans hf X.2.2.2.2.1.1) ?_ (kk a ha p l e R s m args below meth c Q X hr H locs ls w hS hl)
  refine Nat.le_trans ?_ X.2.2.2.2.1.2.1
  rw [List.map_map]
  have : (F0 m pc ls (.ref (gad g o) :: st.map (cv g))).monitorRoom = 0 := rfl
  rw [this]
  simpa [Function.comp_def, cv_cat] using hst
/-- instanceof -/
theorem WW.inst {ixx o ci z : Nat} {b : Bool} (hlk : LkT (m_own M) ixx ci b) (h3 : 3 ≤ o) (hs : h.2.2.2[o]? = some (ci, z)) (hd : decode (m_cc M) pc = .ok (.instanceof ixx, 3)) (kk : WW g M emb (pc + 3) L (.int (b2i b) :: st) h kc ks res) : WW g M emb pc L (.ref o :: st) h kc ks res := by
  intro a ha p l e R s m args below meth c Q X hr H locs ls w hS hl
  have kk2 := kk a ha p l e R s m args below meth c Q X hr H locs ls w hS hl
  have ho : o ≠ 0 := by omega
  obtain ⟨C, T, N, nm, hC, l1, l2⟩ := hlk
  have hat := w.2.1 o _ h3 hs
  rw [gent_obj hC.2.1] at hat
  have hrecv := va_recv X.2.1.1 (sgl hat) hC.1 (q0 := 0) rfl
  simp only [List.map_cons, cv_ref ho] at kk2 ⊢
  rcases l2 with ⟨rfl, rfl | q⟩ | ⟨rfl, q⟩
  · exact va_instS X.1.1 X.1.2.1 X.1.2.2.2.1 (X.1.2.2.2.2 _ l1) (X.2.1.1.1 ci _ hC.1).2 hrecv hd kk2
  · exact va_instY X.1.1 X.1.2.1 X.1.2.2.2.1 (X.1.2.2.2.2 _ l1) (X.2.1.2.2.2.1 _ q) hrecv hd kk2
  · exact va_instNo X.1.1 X.1.2.1 X.1.2.2.2.1 (X.1.2.2.2.2 _ l1) (X.2.1.2.2.1 _ q) hrecv hd kk2
/-- a News into the row -/
theorem WW.aast {o n x ci z : Nat} {i : Int32} (h3 : 3 ≤ o) (hs : h.2.2.2[o]? = some (23, n)) (hx3 : 3 ≤ x) (hx : h.2.2.2[x]? = some (ci, z)) (hC : ∃ C T N, ClK ci C T N ∧ (C = "SoldNews$News" ∨ (C, "SoldNews$News") ∈ caP)) (hd : decode (m_cc M) pc = .ok (.aastore, 1)) (kk : WW g M emb (pc + 1) L st (hp_pr h o (ix i) x) kc ks res) : WW g M emb pc L (.ref x :: .int i :: .ref o :: st) h kc ks (if inB i n = true then res else Option.none) := by
  by_cases hin : inB i n = true
  · rw [if_pos hin]
    have hin := inB_vp hin
    intro a ha p l e R s m args below meth c Q X hr H locs ls w hS hl
    have ho : o ≠ 0 := by omega
    have hx0 : x ≠ 0 := by omega
    obtain ⟨C, T, N, hC, hca⟩ := hC
    simp only [List.map_cons, cv_ref ho, cv_ref hx0]
    show W p l e R s m args below meth c H locs kc ks Q (F0 m pc ls (.ref (gad g x) :: .int i :: .ref (gad g o) :: st.map (cv g)))
    have hat := w.2.1 o _ h3 hs
    rw [gent_ra] at hat
    have hat : H[gad g o]? = some (vp_cell g.2.1.2.2.2 (n, .inr (.inr (.inr (.inr (fun k => grf g (h.2.2.1 o k))))))) := hat
    have hax := w.2.1 x _ hx3 hx
    rw [gent_obj hC.2.1] at hax
    obtain ⟨r', hr', cellV, g1, g2, g3, -⟩ := hax
    have hcls := (X.2.1.1.1 ci _ hC.1).2
    obtain ⟨kA, comp, k1, k2, k3, -⟩ := (X.2.1.1.2 3 _ rfl).2
    obtain ⟨kE, hkE, -⟩ := Vm.findClass_spec k3
    obtain ⟨kC, hkC, -⟩ := hcls.2
    have hlt : i.toNatClampNeg < n := Nat.not_le.mp fun q => hin (Or.inr q)
    have h0 : ¬ i < 0 := fun q => hin (Or.inl q)
    have hasg : s.vm.assignable cellV.cls comp = true := by
      rw [g2]
      rcases hca with rfl | q
      · have : comp = g.1.1 ci := Option.some.inj (k3.symm.trans hcls.1)
        rw [this]
        exact va_assign hcls
      · obtain ⟨c0, t1, f1, f2, f3⟩ := Cond.castable_spec (va_Nw.use (A := args) rfl (X.2.1.2.2.2.1 _ q))
        cases hcls.1.symm.trans f1
        cases k3.symm.trans f2
        exact f3
    refine W.aast X.1.1 X.1.2.1 hat (fun q h => by cases h) (fun h => by cases h) k1 k2 rfl hkE ⟨h0, by show _ < (arrV _ _ _).slots.size; rw [arrV_size]; exact hlt⟩ g1 (fun q h => by rw [g3] at h; cases h) (by rw [g2]; exact hkC) hasg rfl rfl hd fun H1 e1 e2 e3 => ?_
    refine kk a ha p l e R s m args below meth c Q X hr H1 _ ls (w.put h3 rfl hs hp_pr_ne ?_ e2 e3) (hS.put e2 e3 (gad_A h3)) hl
    rw [gent_ra]
    show H1[gad g o]? = some (vp_cell g.2.1.2.2.2 (n, .inr (.inr (.inr (.inr (fun k => grf g ((hp_pr h o (ix i) x).2.2.1 o k)))))))
    rw [e1, vp_cell_q, vp_cell_q, arrV_store]
    congr 2
    funext q
    by_cases hq : q = i.toNatClampNeg
    · subst hq; simp [updV, hp_pr, set2, ix, grf, hx0, va_rf]
    · simp [updV, hp_pr, set2, ix, hq]
  · rw [if_neg hin]; exact WW.none
def jmaxI (x y : Int32) : Int32 := if x < y then y else x
def jabsI (x : Int32) : Int32 := if 0 ≤ x then x else 0 - x
def jmaxL (x y : Int64) : Int64 := if y < x then x else y
def jminL (x y : Int64) : Int64 := if y < x then y else x
def jabsL (x : Int64) : Int64 := if 0 < x then x else -x
theorem WW.max {ixx : Nat} {x y : Int32} (hlk : LkM (m_own M) ixx Lib.Math.max.name Lib.Math.max.code 2 (some .int)) (hst : (st.map fun v => v.category).sum + 15 ≤ m_lo M) (hf : 1 ≤ m_fr M) (hk : kc ≤ m_mc M ∧ ks ≤ m_ms M) (hd : decode (m_cc M) pc = .ok (.invokestatic ixx, 3)) (kk : WW g M emb (pc + 3) L (.int (jmaxI x y) :: st) h kc ks res) : WW g M emb pc L (.int y :: .int x :: st) h kc ks res :=
  WW.gen (fun _ _ _ _ _ _ _ _ _ _ _ X _ _ ls hl k => va_mmax X.1.1 X.1.2.1 (by rw [X.1.2.2.1]; exact hl.1.symm) X.1.2.2.2.1 (X.1.2.2.2.2 _ hlk.1) (X.1.2.2.2.2 _ hlk.2.1) (X.1.2.2.2.2 _ hlk.2.2.1) (X.1.2.2.2.2 _ hlk.2.2.2) (Nat.le_trans hf X.2.2.2.2.1.1)
    (by refine Nat.le_trans ?_ (Nat.le_trans hst X.2.2.2.2.1.2.1); rw [List.map_map]; simp [Function.comp_def, cv_cat]) (Nat.le_trans hk.1 X.2.2.2.2.1.2.2.1) (Nat.le_trans hk.2 X.2.2.2.2.1.2.2.2) hd (k ls hl)) kk
theorem WW.abs {ixx : Nat} {x : Int32} (hlk : LkM (m_own M) ixx Lib.Math.abs.name Lib.Math.abs.code 1 (some .int)) (hst : (st.map fun v => v.category).sum + 15 ≤ m_lo M) (hf : 1 ≤ m_fr M) (hk : kc ≤ m_mc M ∧ ks ≤ m_ms M) (hd : decode (m_cc M) pc = .ok (.invokestatic ixx, 3)) (kk : WW g M emb (pc + 3) L (.int (jabsI x) :: st) h kc ks res) : WW g M emb pc L (.int x :: st) h kc ks res :=
  WW.gen (fun _ _ _ _ _ _ _ _ _ _ _ X _ _ ls hl k => va_mabs X.1.1 X.1.2.1 (by rw [X.1.2.2.1]; exact hl.1.symm) X.1.2.2.2.1 (X.1.2.2.2.2 _ hlk.1) (X.1.2.2.2.2 _ hlk.2.1) (X.1.2.2.2.2 _ hlk.2.2.1) (X.1.2.2.2.2 _ hlk.2.2.2) (Nat.le_trans hf X.2.2.2.2.1.1)
    (by refine Nat.le_trans ?_ (Nat.le_trans hst X.2.2.2.2.1.2.1); rw [List.map_map]; simp [Function.comp_def, cv_cat]) (Nat.le_trans hk.1 X.2.2.2.2.1.2.2.1) (Nat.le_trans hk.2 X.2.2.2.2.1.2.2.2) hd (k ls hl)) kk
theorem WW.maxl {ixx : Nat} {x y : Int64} (hlk : LkM (m_own M) ixx Lib.MathLoose.max_long.x Lib.MathLoose.max_long.code 4 (some .long)) (hst : (st.map fun v => v.category).sum + 15 ≤ m_lo M) (hf : 1 ≤ m_fr M) (hk : kc ≤ m_mc M ∧ ks ≤ m_ms M) (hd : decode (m_cc M) pc = .ok (.invokestatic ixx, 3)) (kk : WW g M emb (pc + 3) L (.long (jmaxL x y) :: st) h kc ks res) : WW g M emb pc L (.long y :: .long x :: st) h kc ks res :=
  WW.gen (fun _ _ _ _ _ _ _ _ _ _ _ X _ _ ls hl k => va_mmax_long X.1.1 X.1.2.1 (by rw [X.1.2.2.1]; exact hl.1.symm) X.1.2.2.2.1 (X.1.2.2.2.2 _ hlk.1) (X.1.2.2.2.2 _ hlk.2.1) (X.1.2.2.2.2 _ hlk.2.2.1) (X.1.2.2.2.2 _ hlk.2.2.2) (Nat.le_trans hf X.2.2.2.2.1.1)
    (by refine Nat.le_trans ?_ (Nat.le_trans hst X.2.2.2.2.1.2.1); rw [List.map_map]; simp [Function.comp_def, cv_cat]) (Nat.le_trans hk.1 X.2.2.2.2.1.2.2.1) (Nat.le_trans hk.2 X.2.2.2.2.1.2.2.2) hd (k ls hl)) kk
theorem WW.minl {ixx : Nat} {x y : Int64} (hlk : LkM (m_own M) ixx Lib.MathLoose.min_long.x Lib.MathLoose.min_long.code 4 (some .long)) (hst : (st.map fun v => v.category).sum + 15 ≤ m_lo M) (hf : 1 ≤ m_fr M) (hk : kc ≤ m_mc M ∧ ks ≤ m_ms M) (hd : decode (m_cc M) pc = .ok (.invokestatic ixx, 3)) (kk : WW g M emb (pc + 3) L (.long (jminL x y) :: st) h kc ks res) : WW g M emb pc L (.long y :: .long x :: st) h kc ks res :=
  WW.gen (fun _ _ _ _ _ _ _ _ _ _ _ X _ _ ls hl k => va_mmin_long X.1.1 X.1.2.1 (by rw [X.1.2.2.1]; exact hl.1.symm) X.1.2.2.2.1 (X.1.2.2.2.2 _ hlk.1) (X.1.2.2.2.2 _ hlk.2.1) (X.1.2.2.2.2 _ hlk.2.2.1) (X.1.2.2.2.2 _ hlk.2.2.2) (Nat.le_trans hf X.2.2.2.2.1.1)
    (by refine Nat.le_trans ?_ (Nat.le_trans hst X.2.2.2.2.1.2.1); rw [List.map_map]; simp [Function.comp_def, cv_cat]) (Nat.le_trans hk.1 X.2.2.2.2.1.2.2.1) (Nat.le_trans hk.2 X.2.2.2.2.1.2.2.2) hd (k ls hl)) kk
theorem WW.absl {ixx : Nat} {x : Int64} (hlk : LkM (m_own M) ixx Lib.MathLoose.abs_long.x Lib.MathLoose.abs_long.code 2 (some .long)) (hst : (st.map fun v => v.category).sum + 15 ≤ m_lo M) (hf : 1 ≤ m_fr M) (hk : kc ≤ m_mc M ∧ ks ≤ m_ms M) (hd : decode (m_cc M) pc = .ok (.invokestatic ixx, 3)) (kk : WW g M emb (pc + 3) L (.long (jabsL x) :: st) h kc ks res) : WW g M emb pc L (.long x :: st) h kc ks res :=
  WW.gen (fun _ _ _ _ _ _ _ _ _ _ _ X _ _ ls hl k => va_mabs_long X.1.1 X.1.2.1 (by rw [X.1.2.2.1]; exact hl.1.symm) X.1.2.2.2.1 (X.1.2.2.2.2 _ hlk.1) (X.1.2.2.2.2 _ hlk.2.1) (X.1.2.2.2.2 _ hlk.2.2.1) (X.1.2.2.2.2 _ hlk.2.2.2) (Nat.le_trans hf X.2.2.2.2.1.1)
    (by refine Nat.le_trans ?_ (Nat.le_trans hst X.2.2.2.2.1.2.1); rw [List.map_map]; simp [Function.comp_def, cv_cat]) (Nat.le_trans hk.1 X.2.2.2.2.1.2.2.1) (Nat.le_trans hk.2 X.2.2.2.2.1.2.2.2) hd (k ls hl)) kk
end WWm
