/-- a static method that the class inherits -/
def LkSI (own : String) (ixx : Nat) (cl : String) (M : Mx) (n : Nat) : Prop := (Cond.methodLink own ixx ⟨cl, (m_y M).name, (m_y M).desc⟩ ∈ wB ∧ Cond.sameMethod cl (m_y M).cls (m_y M).name (m_y M).desc ∈ wB ∧ Cond.static (m_y M) ∈ wB ∧ Cond.initialized (m_y M).cls ∈ wB ∧ Cond.code (m_y M) (m_cc M) (m_L M) (m_ret M) ∈ wB) ∧ ((m_y M).cls ≠ "java/lang/invoke/MethodHandle" ∧ (m_y M).cls ≠ "java/lang/invoke/VarHandle") ∧ (parseMethodDescriptor (m_y M).desc).map (fun d => d.parameters.length) = some n
section WWsi
variable {α β : Type} {g : Gx} {M M' : Mx} {emb : α → Option Value × HP} {emb' : β → Option Value × HP} {pc : Nat} {L : List (Nat × Value)} {st : List Value} {h : HP} {kc ks : Nat} {res' : Option β} {κ : β → Option α}
theorem WW.callSI {As : List Value} {ixx n : Nat} {cl : String} (hlk : LkSI (m_own M) ixx cl M' n) (hc : CallR g M' emb' As h res') (hn : As.length = n) (hst : (st.map fun v => v.category).sum ≤ 8) (hfit : Fit M M' kc ks) (hd : decode (m_cc M) pc = .ok (.invokestatic ixx, 3)) {stk : List Value} (hstk : stk = As.reverse ++ st)
    (hk : ∀ b, res' = some b → WW g M emb (pc + 3) L ((emb' b).1.toList ++ st) (emb' b).2 (kc + m_mc M') (ks + m_ms M') (κ b)) : WW g M emb pc L stk h kc ks (res'.bind κ) := by
  subst hstk
  refine WW.callG (fun p l e R s m args below meth c X b hb H locs ls w hS hsz => ?_) hk
  obtain ⟨⟨k1, k2, k3, k4, k5⟩, k6, k7⟩ := hlk
  refine ⟨(As.map (cv g)).toArray, ?_⟩
  have hts := X.1.2.2.2.2
  have hcode := hts _ k5
  have hM := hc b hb l
  have hK : Back l R p e below s args (m_y M') 3 8 (PreOf R (m_mc M') (m_ms M') (PcT g As h)) (PostOf (QcT g (emb' b).1 (emb' b).2) (m_mc M') (m_ms M') (gA g)) :=
    back_of (bytes := m_cc M') (maxL := m_L M') (ret := m_ret M') hM PcT.blind rfl rfl (Nat.le_trans hfit.1 X.2.2.2.2.1.1) (Nat.le_trans hfit.2.1 X.2.2.2.2.1.2.1) (pay_in hts (good_wB k5)) List.mem_cons_self (fun a' U hW => word_at hW (Or.inl (by first | rfl | simp [Cond.onTables, Cond.keeps, Cond.steady])) (hts _ k4))
  obtain ⟨mk, hnamed⟩ := Cond.code_named hcode
  obtain ⟨methM, cM, hmethM, -, -, -, -, -, -, hsigM⟩ := Cond.code_spec hnamed hcode
  intro T hT XT
  obtain ⟨v, vm₁, ⟨U', l2, c2, s2⟩, hW₁, X', ⟨g', mk', t, L2, e1, e2, hq, h1, hL, h2, h3⟩, st'⟩ := Jvm.Stand.staticBackUp (x := ⟨cl, (m_y M').name, (m_y M').desc⟩) (owner := (m_y M').cls) XT X.1.1 X.1.2.2.2.1 (hts _ k1) (hts _ k2) (hts _ k3) (hts _ k4) hnamed hmethM hsigM k6 hK (g := F0 m pc ls ((As.reverse ++ st).map (cv g))) rfl (hsz.trans X.1.2.2.1.symm) (Steps.refl _) (argsL := As.map (cv g)) (rest := st.map (cv g)) (fun sig hs => by
      rw [List.length_map, hn]
      have h9 := k7
      have hs : parseMethodDescriptor (m_y M').desc = some sig := hs
      rw [hs] at h9
      exact (Option.some.inj h9).symm) (by simp) (lv_room (by rw [List.map_map]; simpa [Function.comp_def, cv_cat] using hst)) (by rw [X.1.2.1]; exact hd)
    (fun vm₁ hW₁ => ⟨Nat.le_trans hfit.2.2.1 X.2.2.2.2.1.2.2.1, Nat.le_trans hfit.2.2.2 X.2.2.2.2.1.2.2.2, PcT.at (As := As) X w hS (T.setVm vm₁) hT hW₁⟩)
  dsimp only [Pt.U, Pt.locs, Pt.cells, Pt.slots] at X' e1 e2 h1 h2 h3 st'
  subst h1; subst h2; subst h3
  exact ⟨v, (T.setVm vm₁).calling g' mk' (As.map (cv g)).toArray, t, U', L2, hT, X', hL, e1, e2, hq, fun target hh => st'.trans hh⟩
end WWsi
