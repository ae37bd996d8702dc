def ClK (ci : Nat) (C : String) (T : u_T) (N : Nat) : Prop := vwCl[ci]? = some (C, T, N) ∧ ci < 13 ∧ gnf ci = N ∧ (∀ w ∈ u_ws C T N, w ∈ wB) ∧ (∀ k, k < N → parseFieldDescriptor (T k).2.2.1 = some (gty ci k)) ∧ ∀ a, a < N → ∀ b, b < N → a ≠ b → (T a).2.1 ≠ (T b).2.1
theorem clk0 : ClK 0 RX0 TX0 2 := ⟨rfl, by decide, rfl, inBX0, tyX0_ok, nmX0⟩
theorem clk1 : ClK 1 RX1 TX1 3 := ⟨rfl, by decide, rfl, inBX1, tyX1_ok, nmX1⟩
theorem clk2 : ClK 2 RX2 TX2 7 := ⟨rfl, by decide, rfl, inBX2, tyX2_ok, nmX2⟩
theorem clk3 : ClK 3 RX3 TX3 3 := ⟨rfl, by decide, rfl, inBX3, tyX3_ok, nmX3⟩
theorem clk4 : ClK 4 RX4 TX4 2 := ⟨rfl, by decide, rfl, inBX4, tyX4_ok, nmX4⟩
theorem clk5 : ClK 5 RX5 TX5 6 := ⟨rfl, by decide, rfl, inBX5, tyX5_ok, nmX5⟩
theorem clk6 : ClK 6 RX6 TX6 2 := ⟨rfl, by decide, rfl, inBX6, tyX6_ok, nmX6⟩
theorem clk7 : ClK 7 RX7 TX7 3 := ⟨rfl, by decide, rfl, inBX7, tyX7_ok, nmX7⟩
theorem clk8 : ClK 8 RX8 TX8 2 := ⟨rfl, by decide, rfl, inBX8, tyX8_ok, nmX8⟩
theorem clk9 : ClK 9 RX9 TX9 2 := ⟨rfl, by decide, rfl, inBX9, tyX9_ok, nmX9⟩
theorem clk10 : ClK 10 RX10 TX10 1 := ⟨rfl, by decide, rfl, inBX10, tyX10_ok, nmX10⟩
theorem clk11 : ClK 11 RX11 TX11 14 := ⟨rfl, by decide, rfl, inBX11, tyX11_ok, nmX11⟩
theorem clk12 : ClK 12 RX12 TX12 32 := ⟨rfl, by decide, rfl, inBX12, tyX12_ok, nmX12⟩
/-- a class's link to a field: entry ix names field k of class ci -/
def FLk (own : String) (ixx ci k : Nat) : Prop := ∃ (C : String) (T : u_T) (N : Nat) (ref : String), ClK ci C T N ∧ k < N ∧
  (Cond.fieldLink own ixx ref (T k).2.1 (T k).2.2.1 ∈ wB ∨ ∃ host, Cond.fieldLinkNest own ixx ref (T k).2.1 (T k).2.2.1 host ∈ nWd) ∧ (ref = (T k).1 ∨ Cond.sameField ref (T k).1 (T k).2.1 (T k).2.2.1 ∈ wB)
/-- .. that may be written: not final, or final and the class's own, in a constructor -/
def FPk (own : String) (ixx ci k : Nat) (init : Bool) : Prop := ∃ (C : String) (T : u_T) (N : Nat) (ref : String), ClK ci C T N ∧ k < N ∧
  ((init = false ∧ (T k).2.2.2 = false ∧ (Cond.fieldLink own ixx ref (T k).2.1 (T k).2.2.1 ∈ wB ∨ ∃ host, Cond.fieldLinkNest own ixx ref (T k).2.1 (T k).2.2.1 host ∈ nWd)) ∨ (init = true ∧ (T k).2.2.2 = true ∧ (T k).1 = own ∧ Cond.fieldLink own ixx ref (T k).2.1 (T k).2.2.1 ∈ wB)) ∧ ref = (T k).1
theorem gent_obj {g : Gx} {h : HP} {j ci z : Nat} (hc : ci < 13) : gent g h j (ci, z) = .inr (ci, (List.range (gnf ci)).map (fun k => cv g (gfv (gty ci k) h j k))) := by simp [gent, hc]
theorem rng_get {N k : Nat} {F : Nat → Value} (hk : k < N) : ((List.range N).map F)[k]? = some (F k) := by simp [hk]
theorem rng_set {N k : Nat} {F F' : Nat → Value} (hF : ∀ i, i ≠ k → F' i = F i) : (List.range N).map F' = ((List.range N).map F).set k (F' k) := by
  apply List.ext_getElem?
  intro i
  by_cases h : k = i
  · subst h
    rw [List.getElem?_set]
    by_cases hk : k < N <;> simp [hk]
  · rw [List.getElem?_set, if_neg h]
    by_cases hk : i < N
    · rw [rng_get hk, rng_get hk, hF i (Ne.symm h)]
    · simp [hk]
section WWh
variable {α : Type} {g : Gx} {M : Mx} {emb : α → Option Value × HP} {pc : Nat} {L : List (Nat × Value)} {st : List Value} {h : HP} {kc ks : Nat} {res : Option α}
theorem WW.getf {ixx ci k o z : Nat} (v : Value) (hf : FLk (m_own M) ixx ci k) (h3 : 3 ≤ o) (hs : h.2.2.2[o]? = some (ci, z)) (hv : gfv (gty ci k) h o k = v) (hd : decode (m_cc M) pc = .ok (.getfield ixx, 3)) (kk : WW g M emb (pc + 3) L (v :: st) h kc ks res) : WW g M emb pc L (.ref o :: st) h kc ks res := by
  intro a ha p l e R s m args below meth c Q X hr H locs ls w hS hl
  obtain ⟨C, T, N, ref, ⟨c1, c2, c3, c4, c5, c6⟩, hk, hlk, hsm⟩ := hf
  have hat := w.2.1 o _ h3 hs
  rw [gent_obj c2] at hat
  have hP : va_P g.1 vwCl [(gad g o, .inr (ci, (List.range (gnf ci)).map (fun k => cv g (gfv (gty ci k) h o k))))] H := by
    intro i q hq
    have hi : i < 1 := (List.getElem?_eq_some_iff.mp hq).1
    rw [show i = 0 by omega] at hq
    cases hq
    exact hat
  have hsame : ∀ x, s.fieldFound? (T k).1 (T k).2.1 (T k).2.2.1 = some x → s.fieldFound? ref (T k).2.1 (T k).2.2.1 = some x := by
    intro x hx
    rcases hsm with e | e
    · rw [e]; exact hx
    · exact u_same (X.1.2.2.2.2 _ e) x hx
  have hfs : ((List.range (gnf ci)).map (fun k => cv g (gfv (gty ci k) h o k)))[k]? = some (cv g v) := by
    rw [rng_get (by rw [c3]; exact hk), hv]
  have kk2 := kk a ha p l e R s m args below meth c Q X hr H locs ls w hS hl
  have ho : o ≠ 0 := by omega
  simp only [List.map_cons, cv_ref ho] at kk2 ⊢
  rcases hlk with e | ⟨host, e⟩
  · exact va_get (D := g.1) (ci := ci) X.1.1 X.1.2.1 X.1.2.2.2.2 c4 X.1.2.2.2.1 X.2.1.1 hP 0 rfl c1 k hk (X.1.2.2.2.2 _ e) hsame hfs hd kk2
  · exact va_getN (D := g.1) (ci := ci) X.1.1 X.1.2.1 X.1.2.2.2.2 c4 X.1.2.2.2.1 X.2.1.1 hP 0 rfl c1 k hk (va_Nw.use rfl (X.2.1.2.1 _ e)) hsame hfs hd kk2
/-- a field is written -/
theorem WW.putf {ixx ci k o z : Nat} {init : Bool} {v : Value} (h' : HP) (hf : FPk (m_own M) ixx ci k init) (hi : init = true → (m_y M).name = "<init>") (h3 : 3 ≤ o) (hs : h.2.2.2[o]? = some (ci, z)) (hs' : h'.2.2.2 = h.2.2.2)
    (hj : ∀ j, j ≠ o → h'.1 j = h.1 j ∧ h'.2.1 j = h.2.1 j ∧ h'.2.2.1 j = h.2.2.1 j) (hv : gfv (gty ci k) h' o k = v) (hk' : ∀ i, i ≠ k → gfv (gty ci i) h' o i = gfv (gty ci i) h o i) (hn : narrow (gty ci k) (cv g v) = cv g v) (hfit : fits (gty ci k) (cv g v) = true)
    (hd : decode (m_cc M) pc = .ok (.putfield ixx, 3)) (kk : WW g M emb (pc + 3) L st h' kc ks res) : WW g M emb pc L (v :: .ref o :: st) h kc ks res := by
  intro a ha p l e R s m args below meth c Q X hr H locs ls w hS hl
  obtain ⟨C, T, N, ref, ⟨c1, c2, c3, c4, c5, c6⟩, hk, hlk, hsm⟩ := hf
  have hat := w.2.1 o _ h3 hs
  rw [gent_obj c2] at hat
  obtain ⟨r, h1, cell, q1, q2, q3, q4⟩ := hat
  have hr2 : r = (C, T, N) := Option.some.inj (h1.symm.trans c1)
  subst hr2
  have hap := va_apart (own := m_own M) (s := s) (args := args) X.1.2.2.2.2 c4 (gty ci) c5 c6 X.2.1.1 c1
  obtain ⟨hS0, hfc, kC, hkC, hkind⟩ := X.2.1.1.1 ci _ c1
  obtain ⟨cf, kf, fi, f, hfi, hsl⟩ := hS0 k hk
  have ho : o ≠ 0 := by omega
  have hlen : k < ((List.range (gnf ci)).map (fun k => cv g (gfv (gty ci k) h o k))).length := by simp [c3, hk]
  have go : ∀ H1 : Heap, H1[gad g o]? = some (cell.setSlot f.slot (cv g v)) → H1.size = H.size → (∀ q, q ≠ gad g o → H1[q]? = H[q]?) → WP g h' s H1 := by
    intro H1 e1 e2 e3
    refine w.put h3 hs' hs hj ?_ e2 e3
    rw [gent_obj c2]
    refine ⟨_, c1, ?_⟩
    rw [rng_set (k := k) (F := fun k => cv g (gfv (gty ci k) h o k)) (fun i hi => by rw [hk' i hi]), hv]
    rw [hsl] at e1
    exact t_OB.to (V := updV (vp_V ((List.range (gnf ci)).map (fun k => cv g (gfv (gty ci k) h o k)))) k (cv g v)) ⟨_, e1, q2, q3, t_set q4 hap hk (cv g v)⟩ (fun j _ => vp_updV_set hlen (cv g v) j)
  simp only [List.map_cons, cv_ref ho]
  subst hsm
  have hst := (u_facts hfc hkC (u_lays X.1.2.2.2.2 c4 hk) hfi).1
  have hlt : f.slot < cell.slots.size := by rw [hsl]; exact k2_hasslot (q4 k hk)
  rcases hlk with ⟨-, hfin, hlk⟩ | ⟨hin, hfin, hown, hlk⟩
  · have hlay := X.1.2.2.2.2 _ (c4 _ (u_in_lay hk))
    unfold u_lay at hlay
    rw [if_neg (by rw [hfin]; decide)] at hlay
    have h6 := u_store hfc hkC hkind hlay hfi (c5 k hk) hn hfit
    rcases hlk with e1 | ⟨host, e1⟩
    · refine W.putK X.1.1 X.1.2.1 (f := f) ⟨X.1.2.2.2.1, X.1.2.2.2.2 _ e1, ⟨_, _, _, hfi⟩, hst⟩ (by rw [q2]; exact h6) q1 q3 hlt rfl rfl hd fun H1 g1 g2 g3 => ?_
      exact kk a ha p l e R s m args below meth c Q X hr H1 _ ls (go H1 g1 g2 g3) (hS.put g2 g3 (gad_A h3)) hl
    · refine va_WputK X.1.1 X.1.2.1 (f := f) X.1.2.2.2.1 (va_Nw.use rfl (X.2.1.2.1 _ e1)) hfi hst (by rw [q2]; exact h6) q1 q3 hlt rfl rfl hd fun H1 g1 g2 g3 => ?_
      exact kk a ha p l e R s m args below meth c Q X hr H1 _ ls (go H1 g1 g2 g3) (hS.put g2 g3 (gad_A h3)) hl
  · have hlay := X.1.2.2.2.2 _ (c4 _ (u_in_lay hk))
    unfold u_lay at hlay
    rw [if_pos hfin] at hlay
    have hcf : m.cls = cf := by
      obtain ⟨_, _, c', _, _, _, -, -, hf', -, -, -, hown2, -⟩ := Cond.laysFinal_spec hlay
      have e1 : c' = cf := by have := hfi.symm.trans hf'; simp at this; exact this.1.symm
      rw [hown] at hown2
      rw [← e1]; exact Option.some.inj (X.1.2.2.2.1.symm.trans hown2)
    have h6 := u_fits hfc hkC hkind (Or.inr hlay) hfi (c5 k hk) hn hfit
    refine W.putFinK X.1.1 X.1.2.1 X.1.2.2.2.1 (X.1.2.2.2.2 _ hlk) hfi hst hcf (X.2.2.2.2.2 (hi hin)) (by rw [q2]; exact h6) q1 q3 hlt rfl rfl hd fun H1 g1 g2 g3 => ?_
    exact kk a ha p l e R s m args below meth c Q X hr H1 _ ls (go H1 g1 g2 g3) (hS.put g2 g3 (gad_A h3)) hl
theorem gfv_pi {t : FieldType} {h : HP} {o k i : Nat} {x : Int32} (hi : i ≠ k) : gfv t (hp_pi h o k x) o i = gfv t h o i := by
  unfold gfv hp_pi; simp [set2, hi]
theorem gfv_pl {t : FieldType} {h : HP} {o k i : Nat} {x : Int64} (hi : i ≠ k) : gfv t (hp_pl h o k x) o i = gfv t h o i := by
  unfold gfv hp_pl; simp [set2, hi]
theorem gfv_pr {t : FieldType} {h : HP} {o k i : Nat} {x : Nat} (hi : i ≠ k) : gfv t (hp_pr h o k x) o i = gfv t h o i := by
  unfold gfv hp_pr; simp [set2, hi]
theorem hp_pi_ne {h : HP} {o k : Nat} {x : Int32} : ∀ j, j ≠ o → (hp_pi h o k x).1 j = h.1 j ∧ (hp_pi h o k x).2.1 j = h.2.1 j ∧ (hp_pi h o k x).2.2.1 j = h.2.2.1 j := fun _ hj => ⟨set2_ne hj, rfl, rfl⟩
theorem hp_pl_ne {h : HP} {o k : Nat} {x : Int64} : ∀ j, j ≠ o → (hp_pl h o k x).1 j = h.1 j ∧ (hp_pl h o k x).2.1 j = h.2.1 j ∧ (hp_pl h o k x).2.2.1 j = h.2.2.1 j := fun _ hj => ⟨rfl, set2_ne hj, rfl⟩
theorem hp_pr_ne {h : HP} {o k : Nat} {x : Nat} : ∀ j, j ≠ o → (hp_pr h o k x).1 j = h.1 j ∧ (hp_pr h o k x).2.1 j = h.2.1 j ∧ (hp_pr h o k x).2.2.1 j = h.2.2.1 j := fun _ hj => ⟨rfl, rfl, set2_ne hj⟩
theorem WW.puti {ixx ci k o z : Nat} {init : Bool} {x : Int32} (hf : FPk (m_own M) ixx ci k init) (hi : init = true → (m_y M).name = "<init>") (h3 : 3 ≤ o) (hs : h.2.2.2[o]? = some (ci, z)) (ht : gty ci k = .int ∨ (gty ci k = .boolean ∧ (x = 0 ∨ x = 1)))
    (hd : decode (m_cc M) pc = .ok (.putfield ixx, 3)) (kk : WW g M emb (pc + 3) L st (hp_pi h o k x) kc ks res) : WW g M emb pc L (.int x :: .ref o :: st) h kc ks res := by
  refine WW.putf (hp_pi h o k x) hf hi h3 hs rfl hp_pi_ne ?_ (fun i hi => gfv_pi hi) ?_ ?_ hd kk
  · rcases ht with e | ⟨e, -⟩ <;> rw [e] <;> simp [gfv, hp_pi, set2]
  · rcases ht with e | ⟨e, e2 | e2⟩ <;> rw [e]
    · rfl
    · subst e2; rfl
    · subst e2; rfl
  · rcases ht with e | ⟨e, e2 | e2⟩ <;> rw [e]
    · rfl
    · subst e2; rfl
    · subst e2; rfl
theorem WW.putl {ixx ci k o z : Nat} {init : Bool} {x : Int64} (hf : FPk (m_own M) ixx ci k init) (hi : init = true → (m_y M).name = "<init>") (h3 : 3 ≤ o) (hs : h.2.2.2[o]? = some (ci, z)) (ht : gty ci k = .long)
    (hd : decode (m_cc M) pc = .ok (.putfield ixx, 3)) (kk : WW g M emb (pc + 3) L st (hp_pl h o k x) kc ks res) : WW g M emb pc L (.long x :: .ref o :: st) h kc ks res := by
  refine WW.putf (hp_pl h o k x) hf hi h3 hs rfl hp_pl_ne ?_ (fun i hi => gfv_pl hi) ?_ ?_ hd kk
  · rw [ht]; simp [gfv, hp_pl, set2]
  · rw [ht]; rfl
  · rw [ht]; rfl
theorem WW.putr {ixx ci k o z : Nat} {init : Bool} {x : Nat} (hf : FPk (m_own M) ixx ci k init) (hi : init = true → (m_y M).name = "<init>") (h3 : 3 ≤ o) (hs : h.2.2.2[o]? = some (ci, z)) (ht : (∃ C, gty ci k = .object C) ∨ ∃ t, gty ci k = .array t) (hx : x ≠ 0)
    (hd : decode (m_cc M) pc = .ok (.putfield ixx, 3)) (kk : WW g M emb (pc + 3) L st (hp_pr h o k x) kc ks res) : WW g M emb pc L (.ref x :: .ref o :: st) h kc ks res := by
  refine WW.putf (hp_pr h o k x) hf hi h3 hs rfl hp_pr_ne ?_ (fun i hi => gfv_pr hi) ?_ ?_ hd kk
  · rcases ht with ⟨C, e⟩ | ⟨C, e⟩ <;> rw [e] <;> simp [gfv, hp_pr, set2]
  · rw [cv_ref hx]; rcases ht with ⟨C, e⟩ | ⟨C, e⟩ <;> rw [e] <;> rfl
  · rw [cv_ref hx]; rcases ht with ⟨C, e⟩ | ⟨C, e⟩ <;> rw [e] <;> rfl
theorem gent_ia {g : Gx} {h : HP} {j n : Nat} : gent g h j (20, n) = .inl (g.2.1.1, n, .inl (h.1 j)) := by simp [gent]
theorem gent_la {g : Gx} {h : HP} {j n : Nat} : gent g h j (21, n) = .inl (g.2.1.2.1, n, .inr (.inl (h.2.1 j))) := by simp [gent]
theorem gent_za {g : Gx} {h : HP} {j n : Nat} : gent g h j (22, n) = .inl (g.2.1.2.2.1, n, .inl (h.1 j)) := by simp [gent]
theorem gent_ra {g : Gx} {h : HP} {j n : Nat} : gent g h j (23, n) = .inl (g.2.1.2.2.2, n, .inr (.inr (.inr (.inr (fun k => grf g (h.2.2.1 j k)))))) := by simp [gent]
theorem sgl {g : Gx} {q : Nat × va_E} {H : Heap} (h : va_at g.1 vwCl q H) : va_P g.1 vwCl [q] H := by
  intro i x hx
  have hi : i < 1 := (List.getElem?_eq_some_iff.mp hx).1
  rw [show i = 0 by omega] at hx
  cases hx
  exact h
theorem ofNat_lt {n : Nat} (h : n < 2 ^ 31) : n.toInt32 = Int32.ofNat n := rfl
theorem grf_cv (g : Gx) (r : Nat) : va_rf (grf g r) = cv g (.ref r) := by
  unfold grf cv; by_cases h : r = 0 <;> simp [h, va_rf]
/-- an array's length -/
theorem WW.alen {o t n : Nat} (v : Int32) (h1 : 1 ≤ o) (ht : t = 20 ∨ t = 21 ∨ t = 22 ∨ t = 23) (hs : h.2.2.2[o]? = some (t, n)) (hv : Int32.ofNat n = v) (hd : decode (m_cc M) pc = .ok (.arraylength, 1)) (kk : WW g M emb (pc + 1) L (.int v :: st) h kc ks res) : WW g M emb pc L (.ref o :: st) h kc ks res := by
  intro a ha p l e R s m args below meth c Q X hr H locs ls w hS hl
  have kk2 := kk a ha p l e R s m args below meth c Q X hr H locs ls w hS hl
  have ho : o ≠ 0 := by omega
  simp only [List.map_cons, cv_ref ho] at kk2 ⊢
  by_cases h3 : 3 ≤ o
  · have hat := w.2.1 o _ h3 hs
    rcases ht with rfl | rfl | rfl | rfl
    · rw [gent_ia] at hat
      exact va_alen X.1.1 X.1.2.1 X.2.1.1 (sgl hat) 0 0 rfl (by rfl) hv hd kk2
    · rw [gent_la] at hat
      exact va_alen X.1.1 X.1.2.1 X.2.1.1 (sgl hat) 0 1 rfl (by rfl) hv hd kk2
    · rw [gent_za] at hat
      exact va_alen X.1.1 X.1.2.1 X.2.1.1 (sgl hat) 0 2 rfl (by rfl) hv hd kk2
    · rw [gent_ra] at hat
      exact va_alen X.1.1 X.1.2.1 X.2.1.1 (sgl hat) 0 3 rfl (by rfl) hv hd kk2
  · obtain ⟨n', q1, cell, q2, q3, q4, q5, q6⟩ := w.2.2 o (by omega)
    rw [hs] at q1
    cases q1
    exact W.alen (n := v) X.1.1 X.1.2.1 q2 q3 (by rw [q5]; exact hv) rfl rfl hd kk2
theorem WW.iald {o n : Nat} {i : Int32} (h1 : 1 ≤ o) (hs : h.2.2.2[o]? = some (20, n)) (hd : decode (m_cc M) pc = .ok (.iaload, 1)) (kk : WW g M emb (pc + 1) L (.int (h.1 o (ix i)) :: st) h kc ks res) : WW g M emb pc L (.int i :: .ref o :: st) h kc ks (if inB i n = true then res else Option.none) := by
  by_cases hin : inB i n = true
  · rw [if_pos hin]
    have hin := inB_vp hin
    intro a ha p l e R s m args below meth c Q X hr H locs ls w hS hl
    have kk2 := kk a ha p l e R s m args below meth c Q X hr H locs ls w hS hl
    have ho : o ≠ 0 := by omega
    simp only [List.map_cons, cv_ref ho] at kk2 ⊢
    by_cases h3 : 3 ≤ o
    · have hat := w.2.1 o _ h3 hs
      rw [gent_ia] at hat
      exact va_iald X.1.1 X.1.2.1 X.2.1.1 (sgl hat) 0 0 rfl (by rfl) hin hd kk2
    · obtain ⟨n', q1, cell, q2, q3, q4, q5, q6⟩ := w.2.2 o (by omega)
      rw [hs] at q1
      cases q1
      have hlt : i.toNatClampNeg < n := Nat.not_le.mp fun q => hin (Or.inr q)
      exact W.iald (v := .int (h.1 o i.toNatClampNeg)) X.1.1 X.1.2.1 q2 q3 q4 (by rw [q5]; exact hin) (q6 _ hlt) rfl rfl hd kk2
  · rw [if_neg hin]; exact WW.none
theorem WW.lald {o n : Nat} {i : Int32} (h3 : 3 ≤ o) (hs : h.2.2.2[o]? = some (21, n)) (hd : decode (m_cc M) pc = .ok (.laload, 1)) (kk : WW g M emb (pc + 1) L (.long (h.2.1 o (ix i)) :: st) h kc ks res) : WW g M emb pc L (.int i :: .ref o :: st) h kc ks (if inB i n = true then res else Option.none) := by
  by_cases hin : inB i n = true
  · rw [if_pos hin]
    have hin := inB_vp hin
    intro a ha p l e R s m args below meth c Q X hr H locs ls w hS hl
    have kk2 := kk a ha p l e R s m args below meth c Q X hr H locs ls w hS hl
    have ho : o ≠ 0 := by omega
    simp only [List.map_cons, cv_ref ho] at kk2 ⊢
    have hat := w.2.1 o _ h3 hs
    rw [gent_la] at hat
    exact va_lald X.1.1 X.1.2.1 X.2.1.1 (sgl hat) 0 1 rfl (by rfl) hin hd kk2
  · rw [if_neg hin]; exact WW.none
theorem WW.zald {o n : Nat} {i : Int32} (h3 : 3 ≤ o) (hs : h.2.2.2[o]? = some (22, n)) (hd : decode (m_cc M) pc = .ok (.baload, 1)) (kk : WW g M emb (pc + 1) L (.int (h.1 o (ix i)) :: st) h kc ks res) : WW g M emb pc L (.int i :: .ref o :: st) h kc ks (if inB i n = true then res else Option.none) := by
  by_cases hin : inB i n = true
  · rw [if_pos hin]
    have hin := inB_vp hin
    intro a ha p l e R s m args below meth c Q X hr H locs ls w hS hl
    have kk2 := kk a ha p l e R s m args below meth c Q X hr H locs ls w hS hl
    have ho : o ≠ 0 := by omega
    simp only [List.map_cons, cv_ref ho] at kk2 ⊢
    have hat := w.2.1 o _ h3 hs
    rw [gent_za] at hat
    exact va_zald X.1.1 X.1.2.1 X.2.1.1 (sgl hat) 0 2 rfl (by rfl) hin hd kk2
  · rw [if_neg hin]; exact WW.none
theorem WW.aald {o n : Nat} {i : Int32} (h3 : 3 ≤ o) (hs : h.2.2.2[o]? = some (23, n)) (hd : decode (m_cc M) pc = .ok (.aaload, 1)) (kk : WW g M emb (pc + 1) L (.ref (h.2.2.1 o (ix i)) :: st) h kc ks res) : WW g M emb pc L (.int i :: .ref o :: st) h kc ks (if inB i n = true then res else Option.none) := by
  by_cases hin : inB i n = true
  · rw [if_pos hin]
    have hin := inB_vp hin
    intro a ha p l e R s m args below meth c Q X hr H locs ls w hS hl
    have kk2 := kk a ha p l e R s m args below meth c Q X hr H locs ls w hS hl
    have ho : o ≠ 0 := by omega
    simp only [List.map_cons, cv_ref ho] at kk2 ⊢
    have hat := w.2.1 o _ h3 hs
    rw [gent_ra] at hat
    refine va_aldq X.1.1 X.1.2.1 X.2.1.1 (sgl hat) 0 3 rfl (by rfl) hin hd ?_
    rw [grf_cv]
    exact kk2
  · rw [if_neg hin]; exact WW.none
theorem WW.iast {o n : Nat} {i x : Int32} (h3 : 3 ≤ o) (hs : h.2.2.2[o]? = some (20, n)) (hd : decode (m_cc M) pc = .ok (.iastore, 1)) (kk : WW g M emb (pc + 1) L st (hp_pi h o (ix i) x) kc ks res) : WW g M emb pc L (.int x :: .int i :: .ref o :: st) h kc ks (if inB i n = true then res else Option.none) := by
  by_cases hin : inB i n = true
  · rw [if_pos hin]
    have hin := inB_vp hin
    intro a ha p l e R s m args below meth c Q X hr H locs ls w hS hl
    have ho : o ≠ 0 := by omega
    simp only [List.map_cons, cv_ref ho]
    have hat := w.2.1 o _ h3 hs
    rw [gent_ia] at hat
    have hat : H[gad g o]? = some (vp_cell g.2.1.1 (n, .inl (h.1 o))) := hat
    refine W.iast X.1.1 X.1.2.1 hat ((X.2.1.1.2 0 _ rfl).1 n (fun j => .int (h.1 o j))) (fun q => by cases q) (by show ¬ (i < 0 ∨ (arrV _ _ _).slots.size ≤ _); rw [arrV_size]; exact hin) rfl rfl hd fun H1 g1 g2 g3 => ?_
    refine kk a ha p l e R s m args below meth c Q X hr H1 _ ls (w.put h3 rfl hs hp_pi_ne ?_ g2 g3) (hS.put g2 g3 (gad_A h3)) hl
    rw [gent_ia]
    show H1[gad g o]? = some (vp_cell g.2.1.1 (n, .inl ((hp_pi h o (ix i) x).1 o)))
    rw [g1, vp_cell_i, vp_cell_i, arrV_store]
    congr 2
    funext q
    by_cases hq : q = i.toNatClampNeg
    · subst hq; simp [updV, hp_pi, set2, ix]
    · simp [updV, hp_pi, set2, ix, hq]
  · rw [if_neg hin]; exact WW.none
theorem WW.last {o n : Nat} {i : Int32} {x : Int64} (h3 : 3 ≤ o) (hs : h.2.2.2[o]? = some (21, n)) (hd : decode (m_cc M) pc = .ok (.lastore, 1)) (kk : WW g M emb (pc + 1) L st (hp_pl h o (ix i) x) kc ks res) : WW g M emb pc L (.long x :: .int i :: .ref o :: st) h kc ks (if inB i n = true then res else Option.none) := by
  by_cases hin : inB i n = true
  · rw [if_pos hin]
    have hin := inB_vp hin
    intro a ha p l e R s m args below meth c Q X hr H locs ls w hS hl
    have ho : o ≠ 0 := by omega
    simp only [List.map_cons, cv_ref ho]
    have hat := w.2.1 o _ h3 hs
    rw [gent_la] at hat
    have hat : H[gad g o]? = some (vp_cell g.2.1.2.1 (n, .inr (.inl (h.2.1 o)))) := hat
    refine W.last X.1.1 X.1.2.1 hat ((X.2.1.1.2 1 _ rfl).1 n (fun j => .long (h.2.1 o j))) (fun q => by cases q) (by show ¬ (i < 0 ∨ (arrV _ _ _).slots.size ≤ _); rw [arrV_size]; exact hin) rfl rfl hd fun H1 g1 g2 g3 => ?_
    refine kk a ha p l e R s m args below meth c Q X hr H1 _ ls (w.put h3 rfl hs hp_pl_ne ?_ g2 g3) (hS.put g2 g3 (gad_A h3)) hl
    rw [gent_la]
    show H1[gad g o]? = some (vp_cell g.2.1.2.1 (n, .inr (.inl ((hp_pl h o (ix i) x).2.1 o))))
    rw [g1, vp_cell_l, vp_cell_l, arrV_store]
    congr 2
    funext q
    by_cases hq : q = i.toNatClampNeg
    · subst hq; simp [updV, hp_pl, set2, ix]
    · simp [updV, hp_pl, set2, ix, hq]
  · rw [if_neg hin]; exact WW.none
theorem WW.zast {o n : Nat} {i x : Int32} (h3 : 3 ≤ o) (hs : h.2.2.2[o]? = some (22, n)) (hx : x &&& 1 = x) (hd : decode (m_cc M) pc = .ok (.bastore, 1)) (kk : WW g M emb (pc + 1) L st (hp_pi h o (ix i) x) kc ks res) : WW g M emb pc L (.int x :: .int i :: .ref o :: st) h kc ks (if inB i n = true then res else Option.none) := by
  by_cases hin : inB i n = true
  · rw [if_pos hin]
    have hin := inB_vp hin
    intro a ha p l e R s m args below meth c Q X hr H locs ls w hS hl
    have ho : o ≠ 0 := by omega
    simp only [List.map_cons, cv_ref ho]
    have hat := w.2.1 o _ h3 hs
    rw [gent_za] at hat
    have hat : H[gad g o]? = some (vp_cell g.2.1.2.2.1 (n, .inl (h.1 o))) := hat
    refine W.zast X.1.1 X.1.2.1 hat ((X.2.1.1.2 2 _ rfl).1 n (fun j => .int (h.1 o j))) (fun q => by cases q) (by show ¬ (i < 0 ∨ (arrV _ _ _).slots.size ≤ _); rw [arrV_size]; exact hin) rfl rfl hd fun H1 g1 g2 g3 => ?_
    refine kk a ha p l e R s m args below meth c Q X hr H1 _ ls (w.put h3 rfl hs hp_pi_ne ?_ g2 g3) (hS.put g2 g3 (gad_A h3)) hl
    rw [gent_za]
    show H1[gad g o]? = some (vp_cell g.2.1.2.2.1 (n, .inl ((hp_pi h o (ix i) x).1 o)))
    rw [g1, vp_cell_i, vp_cell_i, arrV_store]
    congr 2
    funext q
    have hx2 : narrow .boolean (.int x) = .int x := by show Value.int (x &&& 1) = _; rw [hx]
    by_cases hq : q = i.toNatClampNeg
    · subst hq; simp [updV, hp_pi, set2, ix, hx2, hx]
    · simp [updV, hp_pi, set2, ix, hq]
  · rw [if_neg hin]; exact WW.none
/-- the static row -/
theorem WW.gets {ixx : Nat} (hlk : Cond.fieldLink (m_own M) ixx "SoldNews" "PLACES" "[I" ∈ wB ∨ ∃ host, Cond.fieldLinkNest (m_own M) ixx "SoldNews" "PLACES" "[I" host ∈ nWd) (hd : decode (m_cc M) pc = .ok (.getstatic ixx, 3)) (kk : WW g M emb (pc + 3) L (.ref 1 :: st) h kc ks res) : WW g M emb pc L st h kc ks res := by
  intro a ha p l e R s m args below meth c Q X hr H locs ls w hS hl
  have kk2 := kk a ha p l e R s m args below meth c Q X hr H locs ls w hS hl
  simp only [List.map_cons, cv_ref (show (1 : Nat) ≠ 0 by decide)] at kk2
  rcases hlk with e1 | ⟨host, e1⟩
  · exact va_gets X.1.1 X.1.2.1 X.2.2.1 hS X.1.2.2.2.1 (X.1.2.2.2.2 _ e1) (fun _ h => h) hd kk2
  · exact va_getsN X.1.1 X.1.2.1 X.2.2.1 hS X.1.2.2.2.1 (va_Nw.use rfl (X.2.1.2.1 _ e1)) (fun _ h => h) hd kk2
end WWh
