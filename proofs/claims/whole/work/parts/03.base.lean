/-! the picture of the heap: numbered cells; cell 0 is null, 1 the static row, 2 the script, the rest lie one behind the other from a start on -/
abbrev Gx : Type := va_G × (ClassId × ClassId × ClassId × ClassId) × (Nat × Nat × Nat)
abbrev HP : Type := (Nat → Nat → Int32) × (Nat → Nat → Int64) × (Nat → Nat → Nat) × List (Nat × Nat)
def g_s0 (g : Gx) : Nat := g.2.2.2.2
def gad (g : Gx) (j : Nat) : Nat := if j = 1 then g.2.2.1 else if j = 2 then g.2.2.2.1 else g_s0 g + (j - 3)
def gA (g : Gx) : Nat → Prop := fun q => g_s0 g ≤ q
/-- a value of the picture: a reference is a cell's number, 0 is null -/
def cv (g : Gx) (v : Value) : Value := match v with
  | .ref j => if j = 0 then .null else .ref (gad g j)
  | v => v
def cvp (g : Gx) (q : Nat × Value) : Nat × Value := (q.1, cv g q.2)
theorem cv_cat (g : Gx) (v : Value) : (cv g v).category = v.category := by
  cases v with
  | ref j => unfold cv; by_cases h : j = 0 <;> simp [h, Value.category]
  | _ => rfl
theorem cv_ref {g : Gx} {j : Nat} (h : j ≠ 0) : cv g (.ref j) = .ref (gad g j) := by simp [cv, h]
def set2 {α : Type} (f : Nat → Nat → α) (o k : Nat) (v : α) : Nat → Nat → α := fun o' k' => if o' = o ∧ k' = k then v else f o' k'
theorem set2_ne {α : Type} {f : Nat → Nat → α} {o k j : Nat} {v : α} (h : j ≠ o) : set2 f o k v j = f j := by
  funext x; simp [set2, h]
theorem set2_upd {f : Nat → Nat → Int32} {o k : Nat} {v : Int32} : set2 f o k v o = upd (f o) k v := by
  funext x; simp [set2, upd]
theorem set2_updL {f : Nat → Nat → Int64} {o k : Nat} {v : Int64} : set2 f o k v o = vp_updL (f o) k v := by
  funext x; simp [set2, vp_updL]
def hp_pi (h : HP) (o k : Nat) (v : Int32) : HP := (set2 h.1 o k v, h.2)
def hp_pl (h : HP) (o k : Nat) (v : Int64) : HP := (h.1, set2 h.2.1 o k v, h.2.2)
def hp_pr (h : HP) (o k : Nat) (v : Nat) : HP := (h.1, h.2.1, set2 h.2.2.1 o k v, h.2.2.2)
/-- the fields' types -/
def gty (ci : Nat) : Nat → FieldType := match ci with
  | 0 => tyX0 | 1 => tyX1 | 2 => tyX2 | 3 => tyX3 | 4 => tyX4 | 5 => tyX5 | 6 => tyX6 | 7 => tyX7 | 8 => tyX8 | 9 => tyX9 | 10 => tyX10 | 11 => tyX11 | _ => tyX12
def gnf (ci : Nat) : Nat := match ci with
  | 0 => 2 | 1 => 3 | 2 => 7 | 3 => 3 | 4 => 2 | 5 => 6 | 6 => 2 | 7 => 3 | 8 => 2 | 9 => 2 | 10 => 1 | 11 => 14 | _ => 32
def gfv (t : FieldType) (h : HP) (j k : Nat) : Value := match t with
  | .long => .long (h.2.1 j k)
  | .object _ => .ref (h.2.2.1 j k)
  | .array _ => .ref (h.2.2.1 j k)
  | _ => .int (h.1 j k)
def grf (g : Gx) (r : Nat) : Option Nat := if r = 0 then none else some (gad g r)
def gent (g : Gx) (h : HP) (j : Nat) (t : Nat × Nat) : va_E :=
  if t.1 < 13 then .inr (t.1, (List.range (gnf t.1)).map (fun k => cv g (gfv (gty t.1 k) h j k)))
  else if t.1 = 20 then .inl (g.2.1.1, t.2, .inl (h.1 j))
  else if t.1 = 21 then .inl (g.2.1.2.1, t.2, .inr (.inl (h.2.1 j)))
  else if t.1 = 22 then .inl (g.2.1.2.2.1, t.2, .inl (h.1 j))
  else .inl (g.2.1.2.2.2, t.2, .inr (.inr (.inr (.inr (fun k => grf g (h.2.2.1 j k))))))
def gtys (g : Gx) : List (ClassId × FieldType) := [(g.2.1.1, .int), (g.2.1.2.1, .long), (g.2.1.2.2.1, .boolean), (g.2.1.2.2.2, .object "SoldNews$News")]
/-- an array that was there before -/
def OldA (a n : Nat) (f : Nat → Int32) (U : State) (H : Heap) : Prop := ∃ cell : Cell, H[a]? = some cell ∧ U.isArrayOf cell .int ∧ cell.vm ≠ .unknown ∧ cell.slots.size = n ∧ ∀ k : Nat, k < n → cell.slots[k]? = some (.int (f k))
def WP (g : Gx) (h : HP) (U : State) (H : Heap) : Prop :=
  (3 ≤ h.2.2.2.length ∧ H.size = g_s0 g + (h.2.2.2.length - 3) ∧ gad g 1 < g_s0 g ∧ gad g 2 < g_s0 g) ∧
  (∀ (j : Nat) (t : Nat × Nat), 3 ≤ j → h.2.2.2[j]? = some t → va_at g.1 vwCl (gad g j, gent g h j t) H) ∧
  (∀ j : Nat, j = 1 ∨ j = 2 → ∃ n : Nat, h.2.2.2[j]? = some (20, n) ∧ OldA (gad g j) n (h.1 j) U H)
theorem OldA.moved {a n : Nat} {f : Nat → Int32} {u U : State} {H : Heap} (hvm : u.vm.Alike U.vm) (h : OldA a n f u H) : OldA a n f U H := by
  obtain ⟨cell, h1, h2, h3⟩ := h
  exact ⟨cell, h1, State.isArrayOf_alike hvm h2, h3⟩
theorem OldA.kept {a n : Nat} {f : Nat → Int32} {U : State} {H H1 : Heap} (h : OldA a n f U H) (hq : H1[a]? = H[a]?) : OldA a n f U H1 := by
  obtain ⟨cell, h1, h2⟩ := h
  exact ⟨cell, by rw [hq]; exact h1, h2⟩
theorem WP.moved {g : Gx} {h : HP} {u U : State} {H : Heap} (hvm : u.vm.Alike U.vm) (w : WP g h u H) : WP g h U H :=
  ⟨w.1, w.2.1, fun j hj => by obtain ⟨n, h1, h2⟩ := w.2.2 j hj; exact ⟨n, h1, h2.moved hvm⟩⟩
theorem gad_new {g : Gx} {j : Nat} (h : 3 ≤ j) : gad g j = g_s0 g + (j - 3) := by
  unfold gad; rw [if_neg (by omega), if_neg (by omega)]
theorem gad_A {g : Gx} {j : Nat} (h : 3 ≤ j) : gA g (gad g j) := by
  rw [gad_new h]; exact Nat.le_add_right _ _
theorem gad_ne {g : Gx} {i j : Nat} (hi : 3 ≤ i) (hj : 3 ≤ j) (h : i ≠ j) : gad g i ≠ gad g j := by
  rw [gad_new hi, gad_new hj]; omega
/-- one cell of the picture is changed -/
theorem WP.put {g : Gx} {h h' : HP} {U : State} {H H1 : Heap} {o : Nat} {t : Nat × Nat} (w : WP g h U H) (ho : 3 ≤ o) (hs : h'.2.2.2 = h.2.2.2) (ht : h.2.2.2[o]? = some t)
    (hj : ∀ j, j ≠ o → h'.1 j = h.1 j ∧ h'.2.1 j = h.2.1 j ∧ h'.2.2.1 j = h.2.2.1 j) (he : va_at g.1 vwCl (gad g o, gent g h' o t) H1) (hz : H1.size = H.size) (hq : ∀ q, q ≠ gad g o → H1[q]? = H[q]?) : WP g h' U H1 := by
  obtain ⟨⟨w1, w2, w3, w4⟩, w5, w6⟩ := w
  refine ⟨⟨by rw [hs]; exact w1, by rw [hs, hz]; exact w2, w3, w4⟩, fun j t' h3 h4 => ?_, fun j h3 => ?_⟩
  · rw [hs] at h4
    by_cases e : j = o
    · subst e
      rw [ht] at h4
      cases h4
      exact he
    · have e2 : gent g h' j t' = gent g h j t' := by
        obtain ⟨a1, a2, a3⟩ := hj j e
        unfold gent
        rw [a1, a2, a3]
        have : ∀ k, gfv (gty t'.1 k) h' j k = gfv (gty t'.1 k) h j k := fun k => by
          unfold gfv; rw [a1, a2, a3]
        simp only [this]
      rw [e2]
      exact (w5 j t' h3 h4).kept (hq _ (gad_ne h3 ho e))
  · obtain ⟨n, h4, h5⟩ := w6 j h3
    have e : j ≠ o := by omega
    refine ⟨n, by rw [hs]; exact h4, ?_⟩
    rw [(hj j e).1]
    refine h5.kept (hq _ ?_)
    rw [gad_new ho]
    rcases h3 with rfl | rfl <;> omega
/-- a method: its class, name, bytes, locals, answer; frames, words of locals, cells, slots -/
abbrev Mx : Type := String × MethodName × ByteArray × Nat × Option FieldType × Nat × Nat × Nat × Nat
abbrev m_own (M : Mx) : String := M.1
abbrev m_y (M : Mx) : MethodName := M.2.1
abbrev m_cc (M : Mx) : ByteArray := M.2.2.1
abbrev m_L (M : Mx) : Nat := M.2.2.2.1
abbrev m_ret (M : Mx) : Option FieldType := M.2.2.2.2.1
abbrev m_fr (M : Mx) : Nat := M.2.2.2.2.2.1
abbrev m_lo (M : Mx) : Nat := M.2.2.2.2.2.2.1
abbrev m_mc (M : Mx) : Nat := M.2.2.2.2.2.2.2.1
abbrev m_ms (M : Mx) : Nat := M.2.2.2.2.2.2.2.2
def m_ws (M : Mx) : List Cond := .code (m_y M) (m_cc M) (m_L M) (m_ret M) :: wB
def m_rm (M : Mx) : Room := { frames := m_fr M, cells := m_mc M, slots := m_ms M, locals := m_lo M }
/-- what the tables say beside the words -/
def nWd : List Cond := [.methodLinkNest "SoldNews" 9 ⟨"SoldNews$Page", "<init>", "()V"⟩ "SoldNews", .fieldLinkNest "SoldNews" 78 "SoldNews$Page" "size" "I" "SoldNews", .fieldLinkNest "SoldNews" 86 "SoldNews$Page" "place" "I" "SoldNews", .methodLinkNest "SoldNews" 18 ⟨"SoldNews$Market", "<init>", "()V"⟩ "SoldNews", .fieldLinkNest "SoldNews$Hearing" 46 "SoldNews$Market" "base" "I" "SoldNews", .fieldLinkNest "SoldNews$Page" 44 "SoldNews$Market" "base" "I" "SoldNews", .fieldLinkNest "SoldNews" 103 "SoldNews$Market" "base" "I" "SoldNews", .fieldLinkNest "SoldNews$Page" 47 "SoldNews$Market" "slope" "I" "SoldNews", .fieldLinkNest "SoldNews" 106 "SoldNews$Market" "slope" "I" "SoldNews", .fieldLinkNest "SoldNews$Hearing" 21 "SoldNews$Market" "cases" "I" "SoldNews", .fieldLinkNest "SoldNews$Page" 28 "SoldNews$Market" "cases" "I" "SoldNews", .fieldLinkNest "SoldNews" 96 "SoldNews$Market" "cases" "I" "SoldNews", .fieldLinkNest "SoldNews$Page" 33 "SoldNews$Market" "weights" "I" "SoldNews", .fieldLinkNest "SoldNews" 281 "SoldNews$Market" "weights" "I" "SoldNews", .methodLinkNest "SoldNews" 34 ⟨"SoldNews$Hearing", "<init>", "()V"⟩ "SoldNews", .fieldLinkNest "SoldNews$Deals" 22 "SoldNews$Hearing" "weight" "J" "SoldNews", .fieldLinkNest "SoldNews" 171 "SoldNews$Hearing" "weight" "J" "SoldNews", .fieldLinkNest "SoldNews" 268 "SoldNews$Hearing" "value" "J" "SoldNews", .fieldLinkNest "SoldNews$Deals" 29 "SoldNews$Hearing" "edge" "J" "SoldNews", .fieldLinkNest "SoldNews" 189 "SoldNews$Hearing" "edge" "J" "SoldNews", .methodLinkNest "SoldNews" 41 ⟨"SoldNews$Deals", "<init>", "()V"⟩ "SoldNews", .methodLinkNest "SoldNews$Deals" 11 ⟨"SoldNews$Buyers", "<init>", "()V"⟩ "SoldNews", .fieldLinkNest "SoldNews$Deals" 61 "SoldNews$Buyers" "count" "I" "SoldNews", .fieldLinkNest "SoldNews" 243 "SoldNews$Buyers" "count" "I" "SoldNews", .fieldLinkNest "SoldNews" 46 "SoldNews$Deals" "buyers" "LSoldNews$Buyers;" "SoldNews", .methodLinkNest "SoldNews" 53 ⟨"SoldNews$Seed", "<init>", "()V"⟩ "SoldNews", .fieldLinkNest "SoldNews" 284 "SoldNews$Seed" "now" "J" "SoldNews", .methodLinkNest "SoldNews$Deals" 80 ⟨"SoldNews", "isIn", "(II)Z"⟩ "SoldNews", .fieldLinkNest "SoldNews$Deals" 87 "SoldNews" "PLACES" "[I" "SoldNews", .fieldLinkNest "SoldNews$Buyers" 18 "SoldNews" "PLACES" "[I" "SoldNews", .methodLinkNest "SoldNews$Market" 49 ⟨"SoldNews", "mixed", "(JJ)J"⟩ "SoldNews", .methodLinkNest "SoldNews$Buyers" 41 ⟨"SoldNews", "mixed", "(JJ)J"⟩ "SoldNews", .methodLinkNest "SoldNews$Page" 58 ⟨"SoldNews", "mixed", "(JJ)J"⟩ "SoldNews"]
def ncP : List (String × String) := [("SoldNews$Part", "SoldNews$Plain"), ("SoldNews$News", "SoldNews$Plain"), ("SoldNews$Plain", "SoldNews$Part"), ("SoldNews$Blur", "SoldNews$Part"), ("SoldNews$Late", "SoldNews$Part"), ("SoldNews$News", "SoldNews$Part"), ("SoldNews$Plain", "SoldNews$Blur"), ("SoldNews$Part", "SoldNews$Blur"), ("SoldNews$Late", "SoldNews$Blur"), ("SoldNews$News", "SoldNews$Blur"), ("SoldNews$Plain", "SoldNews$Late"), ("SoldNews$Part", "SoldNews$Late"), ("SoldNews$Blur", "SoldNews$Late"), ("SoldNews$News", "SoldNews$Late")]

theorem nWd_nest : ∀ w ∈ nWd, (∃ a i b n d h, w = .fieldLinkNest a i b n d h) ∨ ∃ a i x h, w = .methodLinkNest a i x h := by
  intro w hw
  simp only [nWd, List.mem_cons, List.not_mem_nil, or_false] at hw
  rcases hw with rfl | rfl | rfl | rfl | rfl | rfl | rfl | rfl | rfl | rfl | rfl | rfl | rfl | rfl | rfl | rfl | rfl | rfl | rfl | rfl | rfl | rfl | rfl | rfl | rfl | rfl | rfl | rfl | rfl | rfl | rfl | rfl | rfl <;> first | exact Or.inl ⟨_, _, _, _, _, _, rfl⟩ | exact Or.inr ⟨_, _, _, _, rfl⟩
def caP : List (String × String) := [("SoldNews$Blur", "SoldNews$Plain"), ("SoldNews$Late", "SoldNews$Plain"), ("SoldNews$Plain", "SoldNews$News"), ("SoldNews$Part", "SoldNews$News"), ("SoldNews$Blur", "SoldNews$News"), ("SoldNews$Late", "SoldNews$News")]
def Tb (g : Gx) (U : State) : Prop := va_K g.1 vwCl (gtys g) U ∧ (∀ w ∈ nWd, va_Nw w U) ∧ (∀ q ∈ ncP, va_Nc q.1 q.2 U) ∧ (∀ q ∈ caP, va_Nw (.castable q.1 q.2) U) ∧ va_AO "SoldNews$News" U
theorem Tb.warm {g : Gx} {s U : State} (hW : s.WarmedH U.vm) (h : Tb g s) : Tb g U := by
  refine ⟨va_K.moved hW.alike h.1, fun w hw => ?_, fun q hq => (h.2.2.1 q hq).moved hW.alike, fun q hq => va_Nw.warmC hW (h.2.2.2.1 q hq), h.2.2.2.2.moved hW.alike⟩
  rcases nWd_nest w hw with ⟨a, i, b, n, d, x, rfl⟩ | ⟨a, i, x, y, rfl⟩
  · exact va_Nw.warmF hW (h.2.1 _ hw)
  · exact va_Nw.warmM hW (h.2.1 _ hw)
def gZ (g : Gx) (U : State) (H : Heap) : Prop := va_Z "SoldNews" "PLACES" "[I" (.ref (gad g 1)) (gA g) U H
/-- where a method runs: the machine, its code, what the tables say, its room -/
def CX (g : Gx) (M : Mx) (p : Program) (R : Room) (s : State) (m : MethodId) (args : Array Value) (meth : Method) (c : Code) : Prop :=
  (p.tables.exec = Jvm.exec ∧ c.code = m_cc M ∧ c.maxLocals = m_L M ∧ s.vm.findClass (m_own M) = some m.cls ∧ ∀ w ∈ wB, w.before args s = true) ∧
  Tb g s ∧ gZ g s s.heap ∧ g_s0 g ≤ s.heap.size ∧ (m_fr M ≤ R.frames ∧ m_lo M ≤ R.locals ∧ m_mc M ≤ R.cells ∧ m_ms M ≤ R.slots) ∧ ((m_y M).name = "<init>" → meth.name = "<init>")
def RetI (M : Mx) (pc : Nat) : Prop := match m_ret M with
  | none => decode (m_cc M) pc = .ok (.return_, 1)
  | some .long => decode (m_cc M) pc = .ok (.lreturn, 1)
  | some (.object _) => decode (m_cc M) pc = .ok (.areturn, 1)
  | some .int => decode (m_cc M) pc = .ok (.ireturn, 1)
  | some .boolean => decode (m_cc M) pc = .ok (.ireturn, 1)
  | _ => False
def WA (g : Gx) (M : Mx) (r : Option Value) (hf : HP) (pc : Nat) (L : List (Nat × Value)) (st : List Value) (h : HP) (kc ks : Nat) : Prop :=
  ∀ (p : Program) (l : Launch) (e : Env) (R : Room) (s : State) (m : MethodId) (args : Array Value) (below : List Frame) (meth : Method) (c : Code) (Q : State → Prop), CX g M p R s m args meth c →
    (∀ (pc' : Nat) (ls' : Array Slot) (H' : Heap) (locs' : List Loc) (kc' ks' : Nat), RetI M pc' → kc' ≤ m_mc M → ks' ≤ m_ms M → WP g hf s H' → va_S (gA g) s.heap H' locs' → W p l e R s m args below meth c H' locs' kc' ks' Q (F0 m pc' ls' (r.toList.map (cv g)))) →
    ∀ (H : Heap) (locs : List Loc) (ls : Array Slot), WP g h s H → va_S (gA g) s.heap H locs → lv_has ls (m_L M) (L.map (cvp g)) → W p l e R s m args below meth c H locs kc ks Q (F0 m pc ls (st.map (cv g)))
/-- from here the method goes on to its return, with the answer and the heap that res tells -/
def WW {α : Type} (g : Gx) (M : Mx) (emb : α → Option Value × HP) (pc : Nat) (L : List (Nat × Value)) (st : List Value) (h : HP) (kc ks : Nat) (res : Option α) : Prop :=
  ∀ a, res = some a → WA g M (emb a).1 (emb a).2 pc L st h kc ks
section WWs
variable {α : Type} {g : Gx} {M : Mx} {emb : α → Option Value × HP} {pc : Nat} {L : List (Nat × Value)} {st : List Value} {h : HP} {kc ks : Nat} {res : Option α}
theorem WW.none : WW g M emb pc L st h kc ks Option.none := fun a ha => by cases ha
/-- an instruction that leaves the heap -/
theorem WW.gen {pc' : Nat} {L' : List (Nat × Value)} {st' : List Value}
    (hs : ∀ (p : Program) (l : Launch) (e : Env) (R : Room) (s : State) (m : MethodId) (args : Array Value) (below : List Frame) (meth : Method) (c : Code) (Q : State → Prop), CX g M p R s m args meth c → ∀ (H : Heap) (locs : List Loc) (ls : Array Slot), lv_has ls (m_L M) (L.map (cvp g)) →
      (∀ ls', lv_has ls' (m_L M) (L'.map (cvp g)) → W p l e R s m args below meth c H locs kc ks Q (F0 m pc' ls' (st'.map (cv g)))) → W p l e R s m args below meth c H locs kc ks Q (F0 m pc ls (st.map (cv g))))
    (k : WW g M emb pc' L' st' h kc ks res) : WW g M emb pc L st h kc ks res := by
  intro a ha p l e R s m args below meth c Q X hr H locs ls w hS hl
  exact hs p l e R s m args below meth c Q X H locs ls hl (fun ls' hl' => k a ha p l e R s m args below meth c Q X hr H locs ls' w hS hl')
theorem WW.eqL {L' : List (Nat × Value)} (e : L = L') (k : WW g M emb pc L' st h kc ks res) : WW g M emb pc L st h kc ks res := e ▸ k
/-- fewer locals, or in another order -/
theorem WW.sub (ps : List Nat) {L' : List (Nat × Value)} (e : lv_pick L ps = L') (k : WW g M emb pc L' st h kc ks res) : WW g M emb pc L st h kc ks res := by
  intro a ha p l e2 R s m args below meth c Q X hr H locs ls w hS hl
  refine k a ha p l e2 R s m args below meth c Q X hr H locs ls w hS (lv_sub hl ps ?_)
  rw [← e]
  unfold lv_pick
  rw [List.map_filterMap]
  congr 1
  funext i
  simp
-- constants
theorem WW.iconst {n : Int} (v : Int32) (hd : decode (m_cc M) pc = .ok (.iconst n, 1)) (hv : Int32.ofInt n = v) (k : WW g M emb (pc + 1) L (.int v :: st) h kc ks res) : WW g M emb pc L st h kc ks res :=
  WW.gen (fun _ _ _ _ _ _ _ _ _ _ _ X _ _ ls hl k => lv_iconst X.1.1 X.1.2.1 hd hv (k ls hl)) k
theorem WW.bipush {n : Int} (v : Int32) (hd : decode (m_cc M) pc = .ok (.bipush n, 2)) (hv : (Int8.ofInt n).toInt32 = v) (k : WW g M emb (pc + 2) L (.int v :: st) h kc ks res) : WW g M emb pc L st h kc ks res :=
  WW.gen (fun _ _ _ _ _ _ _ _ _ _ _ X _ _ ls hl k => lv_bipush X.1.1 X.1.2.1 hd hv (k ls hl)) k
theorem WW.sipush {n : Int} (v : Int32) (hd : decode (m_cc M) pc = .ok (.sipush n, 3)) (hv : (Int16.ofInt n).toInt32 = v) (k : WW g M emb (pc + 3) L (.int v :: st) h kc ks res) : WW g M emb pc L st h kc ks res :=
  WW.gen (fun _ _ _ _ _ _ _ _ _ _ _ X _ _ ls hl k => lv_sipush X.1.1 X.1.2.1 hd hv (k ls hl)) k
theorem WW.lconst {n : Fin 2} (v : Int64) (hd : decode (m_cc M) pc = .ok (.lconst n, 1)) (hv : Int64.ofNat (n : Nat) = v) (k : WW g M emb (pc + 1) L (.long v :: st) h kc ks res) : WW g M emb pc L st h kc ks res :=
  WW.gen (fun _ _ _ _ _ _ _ _ _ _ _ X _ _ ls hl k => lv_lconst X.1.1 X.1.2.1 hd hv (k ls hl)) k
theorem WW.ldc2 {ix : Nat} {v : Int64} (hw : Cond.constantLong (m_own M) ix v ∈ wB) (hd : decode (m_cc M) pc = .ok (.ldc2_w ix, 3)) (k : WW g M emb (pc + 3) L (.long v :: st) h kc ks res) : WW g M emb pc L st h kc ks res :=
  WW.gen (fun _ _ _ _ _ _ _ _ _ _ _ X _ _ ls hl k => lv_ldc2 X.1.1 X.1.2.1 X.1.2.2.2.1 (X.1.2.2.2.2 _ hw) hd (k ls hl)) k
theorem WW.ldcw {ix : Nat} {v : Int32} (hw : Cond.constant (m_own M) ix v ∈ wB) (hd : decode (m_cc M) pc = .ok (.ldc_w ix, 3)) (k : WW g M emb (pc + 3) L (.int v :: st) h kc ks res) : WW g M emb pc L st h kc ks res :=
  WW.gen (fun _ _ _ _ _ _ _ _ _ _ _ X _ _ ls hl k => lv_ldcw X.1.1 X.1.2.1 X.1.2.2.2.1 (X.1.2.2.2.2 _ hw) hd (k ls hl)) k
theorem WW.null (hd : decode (m_cc M) pc = .ok (.aconst_null, 1)) (k : WW g M emb (pc + 1) L (.ref 0 :: st) h kc ks res) : WW g M emb pc L st h kc ks res :=
  WW.gen (fun _ _ _ _ _ _ _ _ _ _ _ X _ _ ls hl k => lv_null X.1.1 X.1.2.1 hd (k ls hl)) k
-- loads
theorem lv_atm {ls : Array Slot} {n i j : Nat} {v : Value} (hl : lv_has ls n (L.map (cvp g))) (h : L[j]? = some (i, v)) : ls[i]? = some (.val (cv g v)) := lv_at hl j (by rw [List.getElem?_map, h]; rfl)
theorem WW.iload {i j : Nat} {x : Int32} (hL : L[j]? = some (i, .int x)) (hd : decode (m_cc M) pc = .ok (.iload i, 2)) (k : WW g M emb (pc + 2) L (.int x :: st) h kc ks res) : WW g M emb pc L st h kc ks res :=
  WW.gen (fun _ _ _ _ _ _ _ _ _ _ _ X _ _ ls hl k => lv_iload X.1.1 X.1.2.1 hd (lv_atm hl hL) (k ls hl)) k
theorem WW.iload_n {f : Fin 4} {j : Nat} {x : Int32} (hL : L[j]? = some ((f : Nat), .int x)) (hd : decode (m_cc M) pc = .ok (.iload_n f, 1)) (k : WW g M emb (pc + 1) L (.int x :: st) h kc ks res) : WW g M emb pc L st h kc ks res :=
  WW.gen (fun _ _ _ _ _ _ _ _ _ _ _ X _ _ ls hl k => lv_iload_n X.1.1 X.1.2.1 hd rfl (lv_atm hl hL) (k ls hl)) k
theorem WW.lload {i j : Nat} {x : Int64} (hL : L[j]? = some (i, .long x)) (hd : decode (m_cc M) pc = .ok (.lload i, 2)) (k : WW g M emb (pc + 2) L (.long x :: st) h kc ks res) : WW g M emb pc L st h kc ks res :=
  WW.gen (fun _ _ _ _ _ _ _ _ _ _ _ X _ _ ls hl k => lv_lload X.1.1 X.1.2.1 hd (lv_atm hl hL) (k ls hl)) k
theorem WW.lload_n {f : Fin 4} {j : Nat} {x : Int64} (hL : L[j]? = some ((f : Nat), .long x)) (hd : decode (m_cc M) pc = .ok (.lload_n f, 1)) (k : WW g M emb (pc + 1) L (.long x :: st) h kc ks res) : WW g M emb pc L st h kc ks res :=
  WW.gen (fun _ _ _ _ _ _ _ _ _ _ _ X _ _ ls hl k => lv_lload_n X.1.1 X.1.2.1 hd rfl (lv_atm hl hL) (k ls hl)) k
theorem WW.aload {i j : Nat} {x : Nat} (hL : L[j]? = some (i, .ref x)) (hd : decode (m_cc M) pc = .ok (.aload i, 2)) (k : WW g M emb (pc + 2) L (.ref x :: st) h kc ks res) : WW g M emb pc L st h kc ks res :=
  WW.gen (fun _ _ _ _ _ _ _ _ _ _ _ X _ _ ls hl k => by
    have h1 := lv_atm hl hL
    have h2 := k ls hl
    simp only [List.map_cons] at h2
    by_cases e : x = 0
    · simp only [cv, e, if_pos] at h1 h2
      exact lv_aloadN X.1.1 X.1.2.1 hd h1 h2
    · rw [cv_ref e] at h1 h2
      exact lv_aload X.1.1 X.1.2.1 hd h1 h2) k
theorem WW.aload_n {f : Fin 4} {j : Nat} {x : Nat} (hL : L[j]? = some ((f : Nat), .ref x)) (hd : decode (m_cc M) pc = .ok (.aload_n f, 1)) (k : WW g M emb (pc + 1) L (.ref x :: st) h kc ks res) : WW g M emb pc L st h kc ks res :=
  WW.gen (fun _ _ _ _ _ _ _ _ _ _ _ X _ _ ls hl k => by
    have h1 := lv_atm hl hL
    have h2 := k ls hl
    simp only [List.map_cons] at h2
    by_cases e : x = 0
    · simp only [cv, e, if_pos] at h1 h2
      exact lv_aload_nN X.1.1 X.1.2.1 hd rfl h1 h2
    · rw [cv_ref e] at h1 h2
      exact lv_aload_n X.1.1 X.1.2.1 hd rfl h1 h2) k
-- stores
theorem flt_map (i : Nat) (L : List (Nat × Value)) : (L.map (cvp g)).filter (fun q => !(q.1 == i) && !(q.1 + 1 == i && q.2.category == 2)) = (L.filter (fun q => !(q.1 == i) && !(q.1 + 1 == i && q.2.category == 2))).map (cvp g) := by
  rw [List.filter_map]
  congr 1
  refine List.filter_congr fun q _ => ?_
  simp only [Function.comp, cvp, cv_cat]
theorem flt_mapL (i : Nat) (L : List (Nat × Value)) : (L.map (cvp g)).filter (fun q => !(q.1 == i) && (!(q.1 == i + 1) && !(q.1 + 1 == i && q.2.category == 2))) = (L.filter (fun q => !(q.1 == i) && (!(q.1 == i + 1) && !(q.1 + 1 == i && q.2.category == 2)))).map (cvp g) := by
  rw [List.filter_map]
  congr 1
  refine List.filter_congr fun q _ => ?_
  simp only [Function.comp, cvp, cv_cat]
def ll1 (i : Nat) (v : Value) (L : List (Nat × Value)) : List (Nat × Value) := (i, v) :: L.filter (fun q => !(q.1 == i) && !(q.1 + 1 == i && q.2.category == 2))
def ll2 (i : Nat) (v : Value) (L : List (Nat × Value)) : List (Nat × Value) := (i, v) :: L.filter (fun q => !(q.1 == i) && (!(q.1 == i + 1) && !(q.1 + 1 == i && q.2.category == 2)))
theorem ll1_map (i : Nat) (v : Value) (L : List (Nat × Value)) : (ll1 i v L).map (cvp g) = (i, cv g v) :: (L.map (cvp g)).filter (fun q => !(q.1 == i) && !(q.1 + 1 == i && q.2.category == 2)) := by rw [flt_map]; rfl
theorem ll2_map (i : Nat) (v : Value) (L : List (Nat × Value)) : (ll2 i v L).map (cvp g) = (i, cv g v) :: (L.map (cvp g)).filter (fun q => !(q.1 == i) && (!(q.1 == i + 1) && !(q.1 + 1 == i && q.2.category == 2))) := by rw [flt_mapL]; rfl
theorem WW.istore {i : Nat} {x : Int32} (L' : List (Nat × Value)) (hL : ll1 i (.int x) L = L') (hi : i < m_L M) (hd : decode (m_cc M) pc = .ok (.istore i, 2)) (k : WW g M emb (pc + 2) L' st h kc ks res) : WW g M emb pc L (.int x :: st) h kc ks res :=
  WW.gen (fun _ _ _ _ _ _ _ _ _ _ _ X _ _ ls hl k => lv_istore X.1.1 X.1.2.1 hd hl hi (ll1_map i (.int x) L).symm (fun ls' h' => k ls' (by rw [← hL]; exact h'))) k
theorem WW.istore_n {f : Fin 4} {x : Int32} (L' : List (Nat × Value)) (hL : ll1 (f : Nat) (.int x) L = L') (hi : (f : Nat) < m_L M) (hd : decode (m_cc M) pc = .ok (.istore_n f, 1)) (k : WW g M emb (pc + 1) L' st h kc ks res) : WW g M emb pc L (.int x :: st) h kc ks res :=
  WW.gen (fun _ _ _ _ _ _ _ _ _ _ _ X _ _ ls hl k => lv_istore_n X.1.1 X.1.2.1 hd rfl hl hi (ll1_map (f : Nat) (.int x) L).symm (fun ls' h' => k ls' (by rw [← hL]; exact h'))) k
theorem WW.lstore {i : Nat} {x : Int64} (L' : List (Nat × Value)) (hL : ll2 i (.long x) L = L') (hi : i + 1 < m_L M) (hd : decode (m_cc M) pc = .ok (.lstore i, 2)) (k : WW g M emb (pc + 2) L' st h kc ks res) : WW g M emb pc L (.long x :: st) h kc ks res :=
  WW.gen (fun _ _ _ _ _ _ _ _ _ _ _ X _ _ ls hl k => lv_lstore X.1.1 X.1.2.1 hd hl hi (ll2_map i (.long x) L).symm (fun ls' h' => k ls' (by rw [← hL]; exact h'))) k
theorem WW.lstore_n {f : Fin 4} {x : Int64} (L' : List (Nat × Value)) (hL : ll2 (f : Nat) (.long x) L = L') (hi : (f : Nat) + 1 < m_L M) (hd : decode (m_cc M) pc = .ok (.lstore_n f, 1)) (k : WW g M emb (pc + 1) L' st h kc ks res) : WW g M emb pc L (.long x :: st) h kc ks res :=
  WW.gen (fun _ _ _ _ _ _ _ _ _ _ _ X _ _ ls hl k => lv_lstore_n X.1.1 X.1.2.1 hd rfl hl hi (ll2_map (f : Nat) (.long x) L).symm (fun ls' h' => k ls' (by rw [← hL]; exact h'))) k
theorem WW.astore {i : Nat} {x : Nat} (L' : List (Nat × Value)) (hL : ll1 i (.ref x) L = L') (hi : i < m_L M) (hd : decode (m_cc M) pc = .ok (.astore i, 2)) (k : WW g M emb (pc + 2) L' st h kc ks res) : WW g M emb pc L (.ref x :: st) h kc ks res :=
  WW.gen (fun _ _ _ _ _ _ _ _ _ _ _ X _ _ ls hl k => by
    have h1 := ll1_map (g := g) i (.ref x) L
    rw [hL] at h1
    simp only [List.map_cons]
    by_cases e : x = 0
    · simp only [cv, e, if_pos] at h1 ⊢
      exact lv_astoreN X.1.1 X.1.2.1 hd hl hi h1.symm (fun ls' h' => k ls' h')
    · rw [cv_ref e] at h1 ⊢
      exact lv_astore X.1.1 X.1.2.1 hd hl hi h1.symm (fun ls' h' => k ls' h')) k
theorem WW.astore_n {f : Fin 4} {x : Nat} (L' : List (Nat × Value)) (hL : ll1 (f : Nat) (.ref x) L = L') (hi : (f : Nat) < m_L M) (hd : decode (m_cc M) pc = .ok (.astore_n f, 1)) (k : WW g M emb (pc + 1) L' st h kc ks res) : WW g M emb pc L (.ref x :: st) h kc ks res :=
  WW.gen (fun _ _ _ _ _ _ _ _ _ _ _ X _ _ ls hl k => by
    have h1 := ll1_map (g := g) (f : Nat) (.ref x) L
    rw [hL] at h1
    simp only [List.map_cons]
    by_cases e : x = 0
    · simp only [cv, e, if_pos] at h1 ⊢
      exact lv_astore_nN X.1.1 X.1.2.1 hd rfl hl hi h1.symm (fun ls' h' => k ls' h')
    · rw [cv_ref e] at h1 ⊢
      exact lv_astore_n X.1.1 X.1.2.1 hd rfl hl hi h1.symm (fun ls' h' => k ls' h')) k
theorem WW.iinc {i j : Nat} {n : Int} {x : Int32} (v : Int32) (L' : List (Nat × Value)) (hj : L[j]? = some (i, .int x)) (hv : x + Int32.ofInt n = v) (hL : ll1 i (.int v) L = L') (hi : i < m_L M) (hd : decode (m_cc M) pc = .ok (.iinc i n, 3)) (k : WW g M emb (pc + 3) L' st h kc ks res) : WW g M emb pc L st h kc ks res :=
  WW.gen (fun _ _ _ _ _ _ _ _ _ _ _ X _ _ ls hl k => lv_iinc X.1.1 X.1.2.1 hd hl (k := j) (by rw [List.getElem?_map, hj]; rfl) hv hi (ll1_map i (.int v) L).symm (fun ls' h' => k ls' (by rw [← hL]; exact h'))) k
end WWs
