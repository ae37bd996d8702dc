def fX6_signOf (o : Nat) (a1 : Int32) : Option Int32 :=
  some 0
set_option maxHeartbeats 4000000 in
set_option maxRecDepth 100000 in
theorem okX6_signOf (g : Gx) (ρ : Rh) (hρ : Hr ρ) (d : Dd) (o : Nat) (a1 : Int32) (hn : NewsO ρ o) : CallR g M_X6_signOf (eIp ρ d) [.ref o, .int a1] (full d ρ) (fX6_signOf o a1) := by
  refine CallR.intro rfl rfl (Nat.le_of_ble_eq_true rfl) (fun a ha => ⟨_, rfl⟩) ?_
  show WW g _ _ 0 [(0, .ref o), (1, .int a1)] [] (full d ρ) 0 0 _
  unfold fX6_signOf
  refine WW.iconst (pc := 0) 0 dX6_signOf_0 rfl ?_
  exact WW.ret rfl rfl (show RetI M_X6_signOf 1 from dX6_signOf_1) ⟨Nat.le_refl _, Nat.le_refl _⟩ rfl
def fX8_signOf (ρ : Rh) (d : Dd) (o : Nat) (a1 : Int32) : Option Int32 :=
  some ((jshr (d_i d o 1) (2 * a1)) &&& 3)
set_option maxHeartbeats 4000000 in
set_option maxRecDepth 100000 in
theorem okX8_signOf (g : Gx) (ρ : Rh) (hρ : Hr ρ) (d : Dd) (o : Nat) (a1 : Int32) (hn : NewsO ρ o) (htg : tg ρ o = 8) : CallR g M_X8_signOf (eIp ρ d) [.ref o, .int a1] (full d ρ) (fX8_signOf ρ d o a1) := by
  refine CallR.intro rfl rfl (Nat.le_of_ble_eq_true rfl) (fun a ha => ⟨_, rfl⟩) ?_
  show WW g _ _ 0 [(0, .ref o), (1, .int a1)] [] (full d ρ) 0 0 _
  unfold fX8_signOf
  refine WW.aload_n (pc := 0) (j := 0) rfl dX8_signOf_0 ?_
  refine WW.sgi (pc := 1) fl_X8_7_8 (h3N hn) (shN hn htg) (Or.inl gt_8_1) dX8_signOf_1 ?_
  refine WW.iconst (pc := 4) 2 dX8_signOf_4 rfl ?_
  refine WW.iload_n (pc := 5) (j := 1) rfl dX8_signOf_5 ?_
  refine WW.imul (pc := 6) dX8_signOf_6 ?_
  refine WW.ishr (pc := 7) dX8_signOf_7 ?_
  refine WW.iconst (pc := 8) 3 dX8_signOf_8 rfl ?_
  refine WW.iand (pc := 9) dX8_signOf_9 ?_
  exact WW.ret rfl rfl (show RetI M_X8_signOf 10 from dX8_signOf_10) ⟨Nat.le_refl _, Nat.le_refl _⟩ rfl
def fv_signOf (ρ : Rh) (d : Dd) (o : Nat) (a1 : Int32) : Option Int32 :=
  if tg ρ o = 0 then fX9_signOf o a1 else if tg ρ o = 4 then fX9_signOf o a1 else if tg ρ o = 8 then fX8_signOf ρ d o a1 else if tg ρ o = 9 then fX9_signOf o a1 else fX6_signOf o a1
theorem WWv_signOf {α : Type} {g : Gx} {M : Mx} {emb : α → Option Value × HP} {pc : Nat} {L : List (Nat × Value)} {st stk : List Value} {ρ : Rh} {d : Dd} {kc ks : Nat} {κ : Int32 → Option α} {ixx o : Nat} {a1 : Int32} (hρ : Hr ρ) (hn : NewsO ρ o) (l0 : LkU (m_own M) ixx RX0 ⟨"SoldNews$News", "signOf", "(I)I"⟩ M_X9_signOf 1) (l4 : LkU (m_own M) ixx RX4 ⟨"SoldNews$News", "signOf", "(I)I"⟩ M_X9_signOf 1) (l6 : LkU (m_own M) ixx RX6 ⟨"SoldNews$News", "signOf", "(I)I"⟩ M_X6_signOf 1) (l8 : LkU (m_own M) ixx RX8 ⟨"SoldNews$News", "signOf", "(I)I"⟩ M_X8_signOf 1) (l9 : LkU (m_own M) ixx RX9 ⟨"SoldNews$News", "signOf", "(I)I"⟩ M_X9_signOf 1) (hst : (st.map fun v => v.category).sum ≤ 8) (ftX6_signOf : Fit M M_X6_signOf kc ks) (ftX8_signOf : Fit M M_X8_signOf kc ks) (ftX9_signOf : Fit M M_X9_signOf kc ks) (hd : decode (m_cc M) pc = .ok (.invokevirtual ixx, 3)) (hstk : stk = [.int a1].reverse ++ .ref o :: st)
    (hk : ∀ b, fv_signOf ρ d o a1 = some b → WW g M emb (pc + 3) L (((eIp ρ d) b).1.toList ++ st) ((eIp ρ d) b).2 (kc + 0) (ks + 0) (κ b)) : WW g M emb pc L stk (full d ρ) kc ks ((fv_signOf ρ d o a1).bind κ) := by
  rcases mem5 (tgT hρ hn) with e | e | e | e | e
  · have hf : fv_signOf ρ d o a1 = fX9_signOf o a1 := by simp [fv_signOf, e]
    rw [hf] at hk ⊢
    exact WW.callU l0 (okX9_signOf g ρ hρ d o a1 hn) (h3N hn) (shN hn e) ⟨_, _, clk0⟩ rfl hst ftX9_signOf hd hstk hk
  · have hf : fv_signOf ρ d o a1 = fX9_signOf o a1 := by simp [fv_signOf, e]
    rw [hf] at hk ⊢
    exact WW.callU l4 (okX9_signOf g ρ hρ d o a1 hn) (h3N hn) (shN hn e) ⟨_, _, clk4⟩ rfl hst ftX9_signOf hd hstk hk
  · have hf : fv_signOf ρ d o a1 = fX6_signOf o a1 := by simp [fv_signOf, e]
    rw [hf] at hk ⊢
    exact WW.callU l6 (okX6_signOf g ρ hρ d o a1 hn) (h3N hn) (shN hn e) ⟨_, _, clk6⟩ rfl hst ftX6_signOf hd hstk hk
  · have hf : fv_signOf ρ d o a1 = fX8_signOf ρ d o a1 := by simp [fv_signOf, e]
    rw [hf] at hk ⊢
    exact WW.callU l8 (okX8_signOf g ρ hρ d o a1 hn e) (h3N hn) (shN hn e) ⟨_, _, clk8⟩ rfl hst ftX8_signOf hd hstk hk
  · have hf : fv_signOf ρ d o a1 = fX9_signOf o a1 := by simp [fv_signOf, e]
    rw [hf] at hk ⊢
    exact WW.callU l9 (okX9_signOf g ρ hρ d o a1 hn) (h3N hn) (shN hn e) ⟨_, _, clk9⟩ rfl hst ftX9_signOf hd hstk hk
def fX6_share (ρ : Rh) (d : Dd) (o : Nat) (a1 : Int32) (a2 : Int32) (a3 : Int32) : Option Int32 :=
  (fv_signOf ρ d o a1).bind fun r1 =>
  if a2 = r1 then
    ((fX6_wholeOf a3).bind fun r2 =>
    some r2)
  else
    (some 0)
set_option maxHeartbeats 4000000 in
set_option maxRecDepth 100000 in
theorem okX6_share (g : Gx) (ρ : Rh) (hρ : Hr ρ) (d : Dd) (o : Nat) (a1 : Int32) (a2 : Int32) (a3 : Int32) (hn : NewsO ρ o) : CallR g M_X6_share (eIp ρ d) [.ref o, .int a1, .int a2, .int a3] (full d ρ) (fX6_share ρ d o a1 a2 a3) := by
  refine CallR.intro rfl rfl (Nat.le_of_ble_eq_true rfl) (fun a ha => ⟨_, rfl⟩) ?_
  show WW g _ _ 0 [(0, .ref o), (1, .int a1), (2, .int a2), (3, .int a3)] [] (full d ρ) 0 0 _
  unfold fX6_share
  refine WW.iload_n (pc := 0) (j := 2) rfl dX6_share_0 ?_
  refine WW.aload_n (pc := 1) (j := 0) rfl dX6_share_1 ?_
  refine WW.iload_n (pc := 2) (j := 1) rfl dX6_share_2 ?_
  refine WWv_signOf (pc := 3) (st := [.int a2]) hρ hn lk_X6_39_0 lk_X6_39_4 lk_X6_39_6 lk_X6_39_8 lk_X6_39_9 (Nat.le_of_ble_eq_true rfl) (by first | exact ⟨Nat.le_of_ble_eq_true rfl, Nat.le_of_ble_eq_true rfl, Nat.le_of_ble_eq_true rfl, Nat.le_of_ble_eq_true rfl⟩) (by first | exact ⟨Nat.le_of_ble_eq_true rfl, Nat.le_of_ble_eq_true rfl, Nat.le_of_ble_eq_true rfl, Nat.le_of_ble_eq_true rfl⟩) (by first | exact ⟨Nat.le_of_ble_eq_true rfl, Nat.le_of_ble_eq_true rfl, Nat.le_of_ble_eq_true rfl, Nat.le_of_ble_eq_true rfl⟩) dX6_share_3 rfl (fun r1 hr1 => ?_)
  show WW _ _ _ 6 _ [.int r1, .int a2] (full d ρ) 0 0 _
  refine WW.icmp_ne (pc := 6) 16 dX6_share_6 (by decide) (fun _ => ?_) (fun _ => ?_)
  · refine WW.iload_n (pc := 9) (j := 3) rfl dX6_share_9 ?_
    refine WW.callS (pc := 10) (As := [.int a3]) (st := []) lk_X6_43 (okX6_wholeOf g ρ hρ d a3) rfl (Nat.le_of_ble_eq_true rfl) ⟨Nat.le_of_ble_eq_true rfl, Nat.le_of_ble_eq_true rfl, Nat.le_of_ble_eq_true rfl, Nat.le_of_ble_eq_true rfl⟩ dX6_share_10 rfl (fun r2 hr2 => ?_)
    show WW _ _ _ 13 _ [.int r2] (full d ρ) 0 0 _
    refine WW.goto (pc := 13) 17 dX6_share_13 (by decide) ?_
    exact WW.ret rfl rfl (show RetI M_X6_share 17 from dX6_share_17) ⟨Nat.le_refl _, Nat.le_refl _⟩ rfl
  · refine WW.iconst (pc := 16) 0 dX6_share_16 rfl ?_
    exact WW.ret rfl rfl (show RetI M_X6_share 17 from dX6_share_17) ⟨Nat.le_refl _, Nat.le_refl _⟩ rfl
def fv_share (ρ : Rh) (d : Dd) (o : Nat) (a1 : Int32) (a2 : Int32) (a3 : Int32) : Option Int32 :=
  if tg ρ o = 0 then fX0_share ρ d o a1 a2 a3 else fX6_share ρ d o a1 a2 a3
theorem WWv_share {α : Type} {g : Gx} {M : Mx} {emb : α → Option Value × HP} {pc : Nat} {L : List (Nat × Value)} {st stk : List Value} {ρ : Rh} {d : Dd} {kc ks : Nat} {κ : Int32 → Option α} {ixx o : Nat} {a1 : Int32} {a2 : Int32} {a3 : Int32} (hρ : Hr ρ) (hn : NewsO ρ o) (l0 : LkU (m_own M) ixx RX0 ⟨"SoldNews$News", "share", "(III)I"⟩ M_X0_share 3) (l4 : LkU (m_own M) ixx RX4 ⟨"SoldNews$News", "share", "(III)I"⟩ M_X6_share 3) (l6 : LkU (m_own M) ixx RX6 ⟨"SoldNews$News", "share", "(III)I"⟩ M_X6_share 3) (l8 : LkU (m_own M) ixx RX8 ⟨"SoldNews$News", "share", "(III)I"⟩ M_X6_share 3) (l9 : LkU (m_own M) ixx RX9 ⟨"SoldNews$News", "share", "(III)I"⟩ M_X6_share 3) (hst : (st.map fun v => v.category).sum ≤ 8) (ftX0_share : Fit M M_X0_share kc ks) (ftX6_share : Fit M M_X6_share kc ks) (hd : decode (m_cc M) pc = .ok (.invokevirtual ixx, 3)) (hstk : stk = [.int a1, .int a2, .int a3].reverse ++ .ref o :: st)
    (hk : ∀ b, fv_share ρ d o a1 a2 a3 = some b → WW g M emb (pc + 3) L (((eIp ρ d) b).1.toList ++ st) ((eIp ρ d) b).2 (kc + 0) (ks + 0) (κ b)) : WW g M emb pc L stk (full d ρ) kc ks ((fv_share ρ d o a1 a2 a3).bind κ) := by
  rcases mem5 (tgT hρ hn) with e | e | e | e | e
  · have hf : fv_share ρ d o a1 a2 a3 = fX0_share ρ d o a1 a2 a3 := by simp [fv_share, e]
    rw [hf] at hk ⊢
    exact WW.callU l0 (okX0_share g ρ hρ d o a1 a2 a3 hn e) (h3N hn) (shN hn e) ⟨_, _, clk0⟩ rfl hst ftX0_share hd hstk hk
  · have hf : fv_share ρ d o a1 a2 a3 = fX6_share ρ d o a1 a2 a3 := by simp [fv_share, e]
    rw [hf] at hk ⊢
    exact WW.callU l4 (okX6_share g ρ hρ d o a1 a2 a3 hn) (h3N hn) (shN hn e) ⟨_, _, clk4⟩ rfl hst ftX6_share hd hstk hk
  · have hf : fv_share ρ d o a1 a2 a3 = fX6_share ρ d o a1 a2 a3 := by simp [fv_share, e]
    rw [hf] at hk ⊢
    exact WW.callU l6 (okX6_share g ρ hρ d o a1 a2 a3 hn) (h3N hn) (shN hn e) ⟨_, _, clk6⟩ rfl hst ftX6_share hd hstk hk
  · have hf : fv_share ρ d o a1 a2 a3 = fX6_share ρ d o a1 a2 a3 := by simp [fv_share, e]
    rw [hf] at hk ⊢
    exact WW.callU l8 (okX6_share g ρ hρ d o a1 a2 a3 hn) (h3N hn) (shN hn e) ⟨_, _, clk8⟩ rfl hst ftX6_share hd hstk hk
  · have hf : fv_share ρ d o a1 a2 a3 = fX6_share ρ d o a1 a2 a3 := by simp [fv_share, e]
    rw [hf] at hk ⊢
    exact WW.callU l9 (okX6_share g ρ hρ d o a1 a2 a3 hn) (h3N hn) (shN hn e) ⟨_, _, clk9⟩ rfl hst ftX6_share hd hstk hk
def fX6_nearer (o : Nat) : Option Int32 :=
  some 0
set_option maxHeartbeats 4000000 in
set_option maxRecDepth 100000 in
theorem okX6_nearer (g : Gx) (ρ : Rh) (hρ : Hr ρ) (d : Dd) (o : Nat) (hn : NewsO ρ o) : CallR g M_X6_nearer (eIp ρ d) [.ref o] (full d ρ) (fX6_nearer o) := by
  refine CallR.intro rfl rfl (Nat.le_of_ble_eq_true rfl) (fun a ha => ⟨_, rfl⟩) ?_
  show WW g _ _ 0 [(0, .ref o)] [] (full d ρ) 0 0 _
  unfold fX6_nearer
  refine WW.iconst (pc := 0) 0 dX6_nearer_0 rfl ?_
  exact WW.ret rfl rfl (show RetI M_X6_nearer 1 from dX6_nearer_1) ⟨Nat.le_refl _, Nat.le_refl _⟩ rfl
def fX4_nearer (ρ : Rh) (d : Dd) (o : Nat) : Option Int32 :=
  some (d_i d o 1)
set_option maxHeartbeats 4000000 in
set_option maxRecDepth 100000 in
theorem okX4_nearer (g : Gx) (ρ : Rh) (hρ : Hr ρ) (d : Dd) (o : Nat) (hn : NewsO ρ o) (htg : tg ρ o = 4) : CallR g M_X4_nearer (eIp ρ d) [.ref o] (full d ρ) (fX4_nearer ρ d o) := by
  refine CallR.intro rfl rfl (Nat.le_of_ble_eq_true rfl) (fun a ha => ⟨_, rfl⟩) ?_
  show WW g _ _ 0 [(0, .ref o)] [] (full d ρ) 0 0 _
  unfold fX4_nearer
  refine WW.aload_n (pc := 0) (j := 0) rfl dX4_nearer_0 ?_
  refine WW.sgi (pc := 1) fl_X4_7_4 (h3N hn) (shN hn htg) (Or.inl gt_4_1) dX4_nearer_1 ?_
  exact WW.ret rfl rfl (show RetI M_X4_nearer 4 from dX4_nearer_4) ⟨Nat.le_refl _, Nat.le_refl _⟩ rfl
def fv_nearer (ρ : Rh) (d : Dd) (o : Nat)  : Option Int32 :=
  if tg ρ o = 4 then fX4_nearer ρ d o  else fX6_nearer o 
theorem WWv_nearer {α : Type} {g : Gx} {M : Mx} {emb : α → Option Value × HP} {pc : Nat} {L : List (Nat × Value)} {st stk : List Value} {ρ : Rh} {d : Dd} {kc ks : Nat} {κ : Int32 → Option α} {ixx o : Nat}  (hρ : Hr ρ) (hn : NewsO ρ o) (l0 : LkU (m_own M) ixx RX0 ⟨"SoldNews$News", "nearer", "()I"⟩ M_X6_nearer 0) (l4 : LkU (m_own M) ixx RX4 ⟨"SoldNews$News", "nearer", "()I"⟩ M_X4_nearer 0) (l6 : LkU (m_own M) ixx RX6 ⟨"SoldNews$News", "nearer", "()I"⟩ M_X6_nearer 0) (l8 : LkU (m_own M) ixx RX8 ⟨"SoldNews$News", "nearer", "()I"⟩ M_X6_nearer 0) (l9 : LkU (m_own M) ixx RX9 ⟨"SoldNews$News", "nearer", "()I"⟩ M_X6_nearer 0) (hst : (st.map fun v => v.category).sum ≤ 8) (ftX4_nearer : Fit M M_X4_nearer kc ks) (ftX6_nearer : Fit M M_X6_nearer kc ks) (hd : decode (m_cc M) pc = .ok (.invokevirtual ixx, 3)) (hstk : stk = [].reverse ++ .ref o :: st)
    (hk : ∀ b, fv_nearer ρ d o  = some b → WW g M emb (pc + 3) L (((eIp ρ d) b).1.toList ++ st) ((eIp ρ d) b).2 (kc + 0) (ks + 0) (κ b)) : WW g M emb pc L stk (full d ρ) kc ks ((fv_nearer ρ d o ).bind κ) := by
  rcases mem5 (tgT hρ hn) with e | e | e | e | e
  · have hf : fv_nearer ρ d o  = fX6_nearer o  := by simp [fv_nearer, e]
    rw [hf] at hk ⊢
    exact WW.callU l0 (okX6_nearer g ρ hρ d o  hn) (h3N hn) (shN hn e) ⟨_, _, clk0⟩ rfl hst ftX6_nearer hd hstk hk
  · have hf : fv_nearer ρ d o  = fX4_nearer ρ d o  := by simp [fv_nearer, e]
    rw [hf] at hk ⊢
    exact WW.callU l4 (okX4_nearer g ρ hρ d o  hn e) (h3N hn) (shN hn e) ⟨_, _, clk4⟩ rfl hst ftX4_nearer hd hstk hk
  · have hf : fv_nearer ρ d o  = fX6_nearer o  := by simp [fv_nearer, e]
    rw [hf] at hk ⊢
    exact WW.callU l6 (okX6_nearer g ρ hρ d o  hn) (h3N hn) (shN hn e) ⟨_, _, clk6⟩ rfl hst ftX6_nearer hd hstk hk
  · have hf : fv_nearer ρ d o  = fX6_nearer o  := by simp [fv_nearer, e]
    rw [hf] at hk ⊢
    exact WW.callU l8 (okX6_nearer g ρ hρ d o  hn) (h3N hn) (shN hn e) ⟨_, _, clk8⟩ rfl hst ftX6_nearer hd hstk hk
  · have hf : fv_nearer ρ d o  = fX6_nearer o  := by simp [fv_nearer, e]
    rw [hf] at hk ⊢
    exact WW.callU l9 (okX6_nearer g ρ hρ d o  hn) (h3N hn) (shN hn e) ⟨_, _, clk9⟩ rfl hst ftX6_nearer hd hstk hk
def fX3_narrow (ρ : Rh) (d : Dd) (a1 : Nat) (a2 : Nat) : Option Dd :=
  (fv_nearer ρ d a2).bind fun r1 =>
  bnd (dL d 13 2 ((((d_l d 13 1) - ((d_l d 13 0) * (Int32.toInt64 (d_i d a1 0)))) * (Int32.toInt64 (100 - r1))) / 100)) fun d2 =>
  some d2
set_option maxHeartbeats 4000000 in
set_option maxRecDepth 100000 in
theorem okX3_narrow (g : Gx) (ρ : Rh) (hρ : Hr ρ) (d : Dd) (a1 : Nat) (a2 : Nat) (ho1 : a1 = 6 ∨ a1 = 9) (hn2 : NewsO ρ a2) : CallR g M_X3_narrow (eV ρ) [.ref 13, .ref a1, .ref a2] (full d ρ) (fX3_narrow ρ d a1 a2) := by
  refine CallR.intro rfl rfl (Nat.le_of_ble_eq_true rfl) (fun a ha => rfl) ?_
  show WW g _ _ 0 [(0, .ref 13), (1, .ref a1), (2, .ref a2)] [] (full d ρ) 0 0 _
  unfold fX3_narrow
  refine WW.aload_n (pc := 0) (j := 0) rfl dX3_narrow_0 ?_
  refine WW.aload_n (pc := 1) (j := 0) rfl dX3_narrow_1 ?_
  refine WW.sgl (pc := 2) fl_X3_15_3 h3_13 (sh_13 ρ) gt_3_1 dX3_narrow_2 ?_
  refine WW.aload_n (pc := 5) (j := 0) rfl dX3_narrow_5 ?_
  refine WW.sgl (pc := 6) fl_X3_9_3 h3_13 (sh_13 ρ) gt_3_0 dX3_narrow_6 ?_
  refine WW.aload_n (pc := 9) (j := 1) rfl dX3_narrow_9 ?_
  refine WW.sgi (pc := 10) fl_X3_46_5 (mk3 ho1) (mkS ho1) (Or.inl gt_5_0) dX3_narrow_10 ?_
  refine WW.i2l (pc := 13) dX3_narrow_13 ?_
  refine WW.lmul (pc := 14) dX3_narrow_14 ?_
  refine WW.lsub (pc := 15) dX3_narrow_15 ?_
  refine WW.bipush (pc := 16) 100 dX3_narrow_16 rfl ?_
  refine WW.aload_n (pc := 18) (j := 2) rfl dX3_narrow_18 ?_
  refine WWv_nearer (pc := 19) (st := [.int 100, .long ((d_l d 13 1) - ((d_l d 13 0) * (Int32.toInt64 (d_i d a1 0)))), .ref 13]) hρ hn2 lk_X3_49_0 lk_X3_49_4 lk_X3_49_6 lk_X3_49_8 lk_X3_49_9 (Nat.le_of_ble_eq_true rfl) (by first | exact ⟨Nat.le_of_ble_eq_true rfl, Nat.le_of_ble_eq_true rfl, Nat.le_of_ble_eq_true rfl, Nat.le_of_ble_eq_true rfl⟩) (by first | exact ⟨Nat.le_of_ble_eq_true rfl, Nat.le_of_ble_eq_true rfl, Nat.le_of_ble_eq_true rfl, Nat.le_of_ble_eq_true rfl⟩) dX3_narrow_19 rfl (fun r1 hr1 => ?_)
  show WW _ _ _ 22 _ [.int r1, .int 100, .long ((d_l d 13 1) - ((d_l d 13 0) * (Int32.toInt64 (d_i d a1 0)))), .ref 13] (full d ρ) 0 0 _
  refine WW.isub (pc := 22) dX3_narrow_22 ?_
  refine WW.i2l (pc := 23) dX3_narrow_23 ?_
  refine WW.lmul (pc := 24) dX3_narrow_24 ?_
  refine WW.ldc2 (pc := 25) wd_530 dX3_narrow_25 ?_
  refine WW.ldiv (pc := 28) (by decide) dX3_narrow_28 ?_
  refine WW.spl (pc := 29) fp_X3_18_3 h3_13 (sh_13 ρ) gt_3_2 dX3_narrow_29 (fun d2 => ?_)
  exact WW.ret rfl rfl (show RetI M_X3_narrow 32 from dX3_narrow_32) ⟨Nat.le_refl _, Nat.le_refl _⟩ rfl
def fX3_take (ρ : Rh) (d : Dd) (a1 : Nat) (a2 : Nat) (a3 : Int32) : Option Dd :=
  bnd (dL d 13 0 0) fun d1 =>
  bnd (dL d1 13 1 0) fun d2 =>
  bnd (dL d2 13 2 0) fun d3 =>
  if a2 = 0 then
    (some d3)
  else
    (lp (fun self6 (x5 : Int32 × Dd) =>
      if (d_i x5.2 a1 2) ≤ x5.1 then
        ((fX3_narrow ρ x5.2 a1 a2).bind fun r7 =>
        some r7)
      else
        ((fX5_weightOf ρ x5.2 a1 x5.1).bind fun r8 =>
        (fv_share ρ x5.2 a2 x5.1 a3 (d_i x5.2 a1 2)).bind fun r9 =>
        bnd (((Int32.toInt64 r8) * (Int32.toInt64 r9)) : Int64) fun v10 =>
        bnd (dL x5.2 13 0 ((d_l x5.2 13 0) + v10)) fun d11 =>
        (fX5_valueOf ρ d11 a1 x5.1).bind fun r12 =>
        bnd (dL d11 13 1 ((d_l d11 13 1) + (v10 * (Int32.toInt64 r12)))) fun d13 =>
        self6 ((x5.1 + 1), d13))
      ) 6000 (0, d3))
set_option maxHeartbeats 4000000 in
set_option maxRecDepth 100000 in
theorem okX3_take (g : Gx) (ρ : Rh) (hρ : Hr ρ) (d : Dd) (a1 : Nat) (a2 : Nat) (a3 : Int32) (ho1 : a1 = 6 ∨ a1 = 9) (hnw2 : NwOK ρ a2) : CallR g M_X3_take (eV ρ) [.ref 13, .ref a1, .ref a2, .int a3] (full d ρ) (fX3_take ρ d a1 a2 a3) := by
  refine CallR.intro rfl rfl (Nat.le_of_ble_eq_true rfl) (fun a ha => rfl) ?_
  show WW g _ _ 0 [(0, .ref 13), (1, .ref a1), (2, .ref a2), (3, .int a3)] [] (full d ρ) 0 0 _
  unfold fX3_take
  refine WW.aload_n (pc := 0) (j := 0) rfl dX3_take_0 ?_
  refine WW.lconst (pc := 1) 0 dX3_take_1 rfl ?_
  refine WW.spl (pc := 2) fp_X3_9_3 h3_13 (sh_13 ρ) gt_3_0 dX3_take_2 (fun d1 => ?_)
  refine WW.aload_n (pc := 5) (j := 0) rfl dX3_take_5 ?_
  refine WW.lconst (pc := 6) 0 dX3_take_6 rfl ?_
  refine WW.spl (pc := 7) fp_X3_15_3 h3_13 (sh_13 ρ) gt_3_1 dX3_take_7 (fun d2 => ?_)
  refine WW.aload_n (pc := 10) (j := 0) rfl dX3_take_10 ?_
  refine WW.lconst (pc := 11) 0 dX3_take_11 rfl ?_
  refine WW.spl (pc := 12) fp_X3_18_3 h3_13 (sh_13 ρ) gt_3_2 dX3_take_12 (fun d3 => ?_)
  refine WW.aload_n (pc := 15) (j := 2) rfl dX3_take_15 ?_
  refine WW.ifnonnull (pc := 16) 20 dX3_take_16 (by decide) (fun _ => ?_) (fun hq4 => ?_)
  · exact WW.ret rfl rfl (show RetI M_X3_take 19 from dX3_take_19) ⟨Nat.le_refl _, Nat.le_refl _⟩ rfl
  · refine WW.iconst (pc := 20) 0 dX3_take_20 rfl ?_
    refine WW.istore (pc := 21) [(4, .int 0), (0, .ref 13), (1, .ref a1), (2, .ref a2), (3, .int a3)] rfl (by decide) dX3_take_21 ?_
    refine WW.sub [1, 2, 3, 4, 0] rfl ?_
    refine WW.loop (pc := 23) (Lj := fun (x5 : Int32 × Dd) => [(0, .ref 13), (1, .ref a1), (2, .ref a2), (3, .int a3), (4, .int x5.1)]) (hj := fun (x5 : Int32 × Dd) => full x5.2 ρ) (fun self6 hself6 x5 => ?_) 6000 (0, d3)
    refine WW.iload (pc := 23) (j := 4) rfl dX3_take_23 ?_
    refine WW.aload_n (pc := 25) (j := 1) rfl dX3_take_25 ?_
    refine WW.sgi (pc := 26) fl_X3_21_5 (mk3 ho1) (mkS ho1) (Or.inl gt_5_2) dX3_take_26 ?_
    refine WW.icmp_ge (pc := 29) 90 dX3_take_29 (by decide) (fun _ => ?_) (fun _ => ?_)
    · refine WW.aload_n (pc := 90) (j := 0) rfl dX3_take_90 ?_
      refine WW.aload_n (pc := 91) (j := 1) rfl dX3_take_91 ?_
      refine WW.aload_n (pc := 92) (j := 2) rfl dX3_take_92 ?_
      refine WW.callV (pc := 93) (As := [.ref a1, .ref a2]) (st := []) lk_X3_40 (okX3_narrow g ρ hρ x5.2 a1 a2 ho1 (hnw2.resolve_left hq4)) h3_13 (sh_13 ρ) ⟨_, _, clk3⟩ rfl (Nat.le_of_ble_eq_true rfl) ⟨Nat.le_of_ble_eq_true rfl, Nat.le_of_ble_eq_true rfl, Nat.le_of_ble_eq_true rfl, Nat.le_of_ble_eq_true rfl⟩ dX3_take_93 rfl (fun r7 hr7 => ?_)
      show WW _ _ _ 96 _ [] (full r7 ρ) 0 0 _
      exact WW.ret rfl rfl (show RetI M_X3_take 96 from dX3_take_96) ⟨Nat.le_refl _, Nat.le_refl _⟩ rfl
    · refine WW.aload_n (pc := 32) (j := 1) rfl dX3_take_32 ?_
      refine WW.iload (pc := 33) (j := 4) rfl dX3_take_33 ?_
      refine WW.callV (pc := 35) (As := [.int x5.1]) (st := []) lk_X3_27 (okX5_weightOf g ρ hρ x5.2 a1 x5.1 ho1) (mk3 ho1) (mkS ho1) ⟨_, _, clk5⟩ rfl (Nat.le_of_ble_eq_true rfl) ⟨Nat.le_of_ble_eq_true rfl, Nat.le_of_ble_eq_true rfl, Nat.le_of_ble_eq_true rfl, Nat.le_of_ble_eq_true rfl⟩ dX3_take_35 rfl (fun r8 hr8 => ?_)
      show WW _ _ _ 38 _ [.int r8] (full x5.2 ρ) 0 0 _
      refine WW.i2l (pc := 38) dX3_take_38 ?_
      refine WW.aload_n (pc := 39) (j := 2) rfl dX3_take_39 ?_
      refine WW.iload (pc := 40) (j := 4) rfl dX3_take_40 ?_
      refine WW.iload_n (pc := 42) (j := 3) rfl dX3_take_42 ?_
      refine WW.aload_n (pc := 43) (j := 1) rfl dX3_take_43 ?_
      refine WW.sgi (pc := 44) fl_X3_21_5 (mk3 ho1) (mkS ho1) (Or.inl gt_5_2) dX3_take_44 ?_
      refine WWv_share (pc := 47) (st := [.long (Int32.toInt64 r8)]) hρ (hnw2.resolve_left hq4) lk_X3_31_0 lk_X3_31_4 lk_X3_31_6 lk_X3_31_8 lk_X3_31_9 (Nat.le_of_ble_eq_true rfl) (by first | exact ⟨Nat.le_of_ble_eq_true rfl, Nat.le_of_ble_eq_true rfl, Nat.le_of_ble_eq_true rfl, Nat.le_of_ble_eq_true rfl⟩) (by first | exact ⟨Nat.le_of_ble_eq_true rfl, Nat.le_of_ble_eq_true rfl, Nat.le_of_ble_eq_true rfl, Nat.le_of_ble_eq_true rfl⟩) dX3_take_47 rfl (fun r9 hr9 => ?_)
      show WW _ _ _ 50 _ [.int r9, .long (Int32.toInt64 r8)] (full x5.2 ρ) 0 0 _
      refine WW.i2l (pc := 50) dX3_take_50 ?_
      refine WW.lmul (pc := 51) dX3_take_51 ?_
      refine WW.nml (fun v10 => ?_)
      refine WW.lstore (pc := 52) [(5, .long v10), (0, .ref 13), (1, .ref a1), (2, .ref a2), (3, .int a3), (4, .int x5.1)] rfl (by decide) dX3_take_52 ?_
      refine WW.aload_n (pc := 54) (j := 1) rfl dX3_take_54 ?_
      refine WW.dup (pc := 55) rfl dX3_take_55 ?_
      refine WW.sgl (pc := 56) fl_X3_9_3 h3_13 (sh_13 ρ) gt_3_0 dX3_take_56 ?_
      refine WW.lload (pc := 59) (j := 0) rfl dX3_take_59 ?_
      refine WW.ladd (pc := 61) dX3_take_61 ?_
      refine WW.spl (pc := 62) fp_X3_9_3 h3_13 (sh_13 ρ) gt_3_0 dX3_take_62 (fun d11 => ?_)
      refine WW.aload_n (pc := 65) (j := 1) rfl dX3_take_65 ?_
      refine WW.dup (pc := 66) rfl dX3_take_66 ?_
      refine WW.sgl (pc := 67) fl_X3_15_3 h3_13 (sh_13 ρ) gt_3_1 dX3_take_67 ?_
      refine WW.lload (pc := 70) (j := 0) rfl dX3_take_70 ?_
      refine WW.aload_n (pc := 72) (j := 2) rfl dX3_take_72 ?_
      refine WW.iload (pc := 73) (j := 5) rfl dX3_take_73 ?_
      refine WW.callV (pc := 75) (As := [.int x5.1]) (st := [.long v10, .long (d_l d11 13 1), .ref 13]) lk_X3_37 (okX5_valueOf g ρ hρ d11 a1 x5.1 ho1) (mk3 ho1) (mkS ho1) ⟨_, _, clk5⟩ rfl (Nat.le_of_ble_eq_true rfl) ⟨Nat.le_of_ble_eq_true rfl, Nat.le_of_ble_eq_true rfl, Nat.le_of_ble_eq_true rfl, Nat.le_of_ble_eq_true rfl⟩ dX3_take_75 rfl (fun r12 hr12 => ?_)
      show WW _ _ _ 78 _ [.int r12, .long v10, .long (d_l d11 13 1), .ref 13] (full d11 ρ) 0 0 _
      refine WW.i2l (pc := 78) dX3_take_78 ?_
      refine WW.lmul (pc := 79) dX3_take_79 ?_
      refine WW.ladd (pc := 80) dX3_take_80 ?_
      refine WW.spl (pc := 81) fp_X3_15_3 h3_13 (sh_13 ρ) gt_3_1 dX3_take_81 (fun d13 => ?_)
      refine WW.iinc (pc := 84) (j := 5) (x5.1 + 1) [(4, .int (x5.1 + 1)), (5, .long v10), (0, .ref 13), (1, .ref a1), (2, .ref a2), (3, .int a3)] rfl rfl rfl (by decide) dX3_take_84 ?_
      refine WW.goto (pc := 87) 23 dX3_take_87 (by decide) ?_
      refine WW.sub [2, 3, 4, 5, 0] rfl ?_
      exact hself6 ((x5.1 + 1), d13)
def fX5_wholeWeight (ρ : Rh) (d : Dd) (o : Nat) : Option Int64 :=
  (fX6_wholeOf (d_i d o 2)).bind fun r1 =>
  some ((Int32.toInt64 (d_i d o 3)) * (Int32.toInt64 r1))
set_option maxHeartbeats 4000000 in
set_option maxRecDepth 100000 in
theorem okX5_wholeWeight (g : Gx) (ρ : Rh) (hρ : Hr ρ) (d : Dd) (o : Nat) (ho : o = 6 ∨ o = 9) : CallR g M_X5_wholeWeight (eLp ρ d) [.ref o] (full d ρ) (fX5_wholeWeight ρ d o) := by
  refine CallR.intro rfl rfl (Nat.le_of_ble_eq_true rfl) (fun a ha => ⟨_, rfl⟩) ?_
  show WW g _ _ 0 [(0, .ref o)] [] (full d ρ) 0 0 _
  unfold fX5_wholeWeight
  refine WW.aload_n (pc := 0) (j := 0) rfl dX5_wholeWeight_0 ?_
  refine WW.sgi (pc := 1) fl_X5_22_5 (mk3 ho) (mkS ho) (Or.inl gt_5_3) dX5_wholeWeight_1 ?_
  refine WW.i2l (pc := 4) dX5_wholeWeight_4 ?_
  refine WW.aload_n (pc := 5) (j := 0) rfl dX5_wholeWeight_5 ?_
  refine WW.sgi (pc := 6) fl_X5_18_5 (mk3 ho) (mkS ho) (Or.inl gt_5_2) dX5_wholeWeight_6 ?_
  refine WW.callS (pc := 9) (As := [.int (d_i d o 2)]) (st := [.long (Int32.toInt64 (d_i d o 3))]) lk_X5_25 (okX6_wholeOf g ρ hρ d (d_i d o 2)) rfl (Nat.le_of_ble_eq_true rfl) ⟨Nat.le_of_ble_eq_true rfl, Nat.le_of_ble_eq_true rfl, Nat.le_of_ble_eq_true rfl, Nat.le_of_ble_eq_true rfl⟩ dX5_wholeWeight_9 rfl (fun r1 hr1 => ?_)
  show WW _ _ _ 12 _ [.int r1, .long (Int32.toInt64 (d_i d o 3))] (full d ρ) 0 0 _
  refine WW.i2l (pc := 12) dX5_wholeWeight_12 ?_
  refine WW.lmul (pc := 13) dX5_wholeWeight_13 ?_
  exact WW.ret rfl rfl (show RetI M_X5_wholeWeight 14 from dX5_wholeWeight_14) ⟨Nat.le_refl _, Nat.le_refl _⟩ rfl
def fX11_commonDivisor (a0 : Int64) (a2 : Int64) : Option Int64 :=
  lp (fun self2 (x1 : Int64 × Int64 × Int32) =>
    if 200 ≤ x1.2.2 then
      (some x1.1)
    else
      (if x1.2.1 = 0 then
        (some x1.1)
      else
        (if x1.2.1 = 0 then none else
        bnd ((jlrem x1.1 x1.2.1) : Int64) fun v4 =>
        self2 (x1.2.1, v4, (x1.2.2 + 1))))
    ) 6000 (a0, a2, 0)
set_option maxHeartbeats 4000000 in
set_option maxRecDepth 100000 in
theorem okX11_commonDivisor (g : Gx) (ρ : Rh) (hρ : Hr ρ) (d : Dd) (a0 : Int64) (a2 : Int64) : CallR g M_X11_commonDivisor (eLp ρ d) [.long a0, .long a2] (full d ρ) (fX11_commonDivisor a0 a2) := by
  refine CallR.intro rfl rfl (Nat.le_of_ble_eq_true rfl) (fun a ha => ⟨_, rfl⟩) ?_
  show WW g _ _ 0 [(0, .long a0), (2, .long a2)] [] (full d ρ) 0 0 _
  unfold fX11_commonDivisor
  refine WW.lload_n (pc := 0) (j := 0) rfl dX11_commonDivisor_0 ?_
  refine WW.lstore (pc := 1) [(4, .long a0), (0, .long a0), (2, .long a2)] rfl (by decide) dX11_commonDivisor_1 ?_
  refine WW.lload_n (pc := 3) (j := 2) rfl dX11_commonDivisor_3 ?_
  refine WW.lstore (pc := 4) [(6, .long a2), (4, .long a0), (0, .long a0), (2, .long a2)] rfl (by decide) dX11_commonDivisor_4 ?_
  refine WW.iconst (pc := 6) 0 dX11_commonDivisor_6 rfl ?_
  refine WW.istore (pc := 7) [(8, .int 0), (6, .long a2), (4, .long a0), (0, .long a0), (2, .long a2)] rfl (by decide) dX11_commonDivisor_7 ?_
  refine WW.sub [2, 1, 0] rfl ?_
  refine WW.loop (pc := 9) (Lj := fun (x1 : Int64 × Int64 × Int32) => [(4, .long x1.1), (6, .long x1.2.1), (8, .int x1.2.2)]) (hj := fun (x1 : Int64 × Int64 × Int32) => full d ρ) (fun self2 hself2 x1 => ?_) 6000 (a0, a2, 0)
  refine WW.iload (pc := 9) (j := 2) rfl dX11_commonDivisor_9 ?_
  refine WW.sipush (pc := 11) 200 dX11_commonDivisor_11 rfl ?_
  refine WW.icmp_ge (pc := 14) 45 dX11_commonDivisor_14 (by decide) (fun _ => ?_) (fun _ => ?_)
  · refine WW.lload (pc := 45) (j := 0) rfl dX11_commonDivisor_45 ?_
    exact WW.ret rfl rfl (show RetI M_X11_commonDivisor 47 from dX11_commonDivisor_47) ⟨Nat.le_refl _, Nat.le_refl _⟩ rfl
  · refine WW.lload (pc := 17) (j := 1) rfl dX11_commonDivisor_17 ?_
    refine WW.lconst (pc := 19) 0 dX11_commonDivisor_19 rfl ?_
    refine WW.lcmp_eq (pc := 20) 45 dX11_commonDivisor_20 dX11_commonDivisor_21 (by decide) (fun _ => ?_) (fun _ => ?_)
    · refine WW.lload (pc := 45) (j := 0) rfl dX11_commonDivisor_45 ?_
      exact WW.ret rfl rfl (show RetI M_X11_commonDivisor 47 from dX11_commonDivisor_47) ⟨Nat.le_refl _, Nat.le_refl _⟩ rfl
    · refine WW.lload (pc := 24) (j := 0) rfl dX11_commonDivisor_24 ?_
      refine WW.lload (pc := 26) (j := 1) rfl dX11_commonDivisor_26 ?_
      refine WW.ite (fun _ => WW.none) (fun hz3 => ?_)
      refine WW.lrem (pc := 28) hz3 dX11_commonDivisor_28 ?_
      refine WW.nml (fun v4 => ?_)
      refine WW.lstore (pc := 29) [(9, .long v4), (4, .long x1.1), (6, .long x1.2.1), (8, .int x1.2.2)] rfl (by decide) dX11_commonDivisor_29 ?_
      refine WW.lload (pc := 31) (j := 2) rfl dX11_commonDivisor_31 ?_
      refine WW.lstore (pc := 33) [(4, .long x1.2.1), (9, .long v4), (6, .long x1.2.1), (8, .int x1.2.2)] rfl (by decide) dX11_commonDivisor_33 ?_
      refine WW.lload (pc := 35) (j := 1) rfl dX11_commonDivisor_35 ?_
      refine WW.lstore (pc := 37) [(6, .long v4), (4, .long x1.2.1), (9, .long v4), (8, .int x1.2.2)] rfl (by decide) dX11_commonDivisor_37 ?_
      refine WW.iinc (pc := 39) (j := 3) (x1.2.2 + 1) [(8, .int (x1.2.2 + 1)), (6, .long v4), (4, .long x1.2.1), (9, .long v4)] rfl rfl rfl (by decide) dX11_commonDivisor_39 ?_
      refine WW.goto (pc := 42) 9 dX11_commonDivisor_42 (by decide) ?_
      refine WW.sub [2, 1, 0] rfl ?_
      exact hself2 (x1.2.1, v4, (x1.2.2 + 1))
def fX11_partOf (a0 : Int64) (a2 : Int64) (a4 : Int32) : Option Int64 :=
  (fX11_commonDivisor (jabsL a0) a2).bind fun r1 =>
  if 1 ≤ r1 then
    (jn (fun (x2 : Int64) =>
      if r1 = 0 then none else
      some (x2 / r1)
      ) fun k3 =>
    if a4 = 0 then
      (k3 a0)
    else
      (k3 a2))
  else
    (some (-1000000000000000004))
set_option maxHeartbeats 4000000 in
set_option maxRecDepth 100000 in
theorem okX11_partOf (g : Gx) (ρ : Rh) (hρ : Hr ρ) (d : Dd) (a0 : Int64) (a2 : Int64) (a4 : Int32) : CallR g M_X11_partOf (eLp ρ d) [.long a0, .long a2, .int a4] (full d ρ) (fX11_partOf a0 a2 a4) := by
  refine CallR.intro rfl rfl (Nat.le_of_ble_eq_true rfl) (fun a ha => ⟨_, rfl⟩) ?_
  show WW g _ _ 0 [(0, .long a0), (2, .long a2), (4, .int a4)] [] (full d ρ) 0 0 _
  unfold fX11_partOf
  refine WW.lload_n (pc := 0) (j := 0) rfl dX11_partOf_0 ?_
  refine WW.absl (pc := 1) lk_X11_331 (Nat.le_of_ble_eq_true rfl) (Nat.le_of_ble_eq_true rfl) ⟨(Nat.le_of_ble_eq_true rfl), (Nat.le_of_ble_eq_true rfl)⟩ dX11_partOf_1 ?_
  refine WW.lload_n (pc := 4) (j := 1) rfl dX11_partOf_4 ?_
  refine WW.callS (pc := 5) (As := [.long (jabsL a0), .long a2]) (st := []) lk_X11_336 (okX11_commonDivisor g ρ hρ d (jabsL a0) a2) rfl (Nat.le_of_ble_eq_true rfl) ⟨Nat.le_of_ble_eq_true rfl, Nat.le_of_ble_eq_true rfl, Nat.le_of_ble_eq_true rfl, Nat.le_of_ble_eq_true rfl⟩ dX11_partOf_5 rfl (fun r1 hr1 => ?_)
  show WW _ _ _ 8 _ [.long r1] (full d ρ) 0 0 _
  refine WW.lstore (pc := 8) [(5, .long r1), (0, .long a0), (2, .long a2), (4, .int a4)] rfl (by decide) dX11_partOf_8 ?_
  refine WW.lload (pc := 10) (j := 0) rfl dX11_partOf_10 ?_
  refine WW.lconst (pc := 12) 1 dX11_partOf_12 rfl ?_
  refine WW.lcmp_ge (pc := 13) 21 dX11_partOf_13 dX11_partOf_14 (by decide) (fun _ => ?_) (fun _ => ?_)
  · refine WW.iload (pc := 21) (j := 3) rfl dX11_partOf_21 ?_
    refine WW.join (pj := 31) (Lj := fun (x2 : Int64) => [(5, .long r1)]) (sj := fun (x2 : Int64) => [.long x2]) (hj := fun (x2 : Int64) => full d ρ) (fun x2 => ?_) (fun k3 hk3 => ?_)
    · refine WW.lload (pc := 31) (j := 0) rfl dX11_partOf_31 ?_
      refine WW.ite (fun _ => WW.none) (fun hz4 => ?_)
      refine WW.ldiv (pc := 33) hz4 dX11_partOf_33 ?_
      exact WW.ret rfl rfl (show RetI M_X11_partOf 34 from dX11_partOf_34) ⟨Nat.le_refl _, Nat.le_refl _⟩ rfl
    · refine WW.if_ne (pc := 23) 30 dX11_partOf_23 (by decide) (fun _ => ?_) (fun _ => ?_)
      · refine WW.lload_n (pc := 26) (j := 1) rfl dX11_partOf_26 ?_
        refine WW.goto (pc := 27) 31 dX11_partOf_27 (by decide) ?_
        refine WW.sub [0] rfl ?_
        exact hk3 a0
      · refine WW.lload_n (pc := 30) (j := 2) rfl dX11_partOf_30 ?_
        refine WW.sub [0] rfl ?_
        exact hk3 a2
  · refine WW.ldc2 (pc := 17) wd_545 dX11_partOf_17 ?_
    exact WW.ret rfl rfl (show RetI M_X11_partOf 20 from dX11_partOf_20) ⟨Nat.le_refl _, Nat.le_refl _⟩ rfl
def fX11_heard (ρ : Rh) (d : Dd) (a1 : Int32) (a2 : Int32) (a3 : Int32) : Option (Int64 × Dd) :=
  (fX11_isSign a2).bind fun r1 =>
  jn (fun (x2 : Bool) =>
    (fX11_refusal ρ d a1 true x2).bind fun r4 =>
    if r4 = 0 then
      ((fX11_newsAt ρ d a1).bind fun r5 =>
      (fX3_take ρ d ρ.1 r5 a2).bind fun r6 =>
      (fX5_wholeWeight ρ r6 ρ.1).bind fun r7 =>
      (fX11_partOf (d_l r6 13 0) r7 a3).bind fun r8 =>
      some (r8, r6))
    else
      ((fX11_refusedPart r4).bind fun r9 =>
      some (r9, d))
    ) fun k3 =>
  jn (fun (x10 : Unit) =>
    k3 false
    ) fun k11 =>
  if r1 = true then
    ((fX11_isPart a3).bind fun r12 =>
    if r12 = true then
      (k3 true)
    else
      (k11 ()))
  else
    (k11 ())
set_option maxHeartbeats 4000000 in
set_option maxRecDepth 100000 in
theorem okX11_heard (g : Gx) (ρ : Rh) (hρ : Hr ρ) (d : Dd) (a1 : Int32) (a2 : Int32) (a3 : Int32) : CallR g M_X11_heard (eL ρ) [.ref 3, .int a1, .int a2, .int a3] (full d ρ) (fX11_heard ρ d a1 a2 a3) := by
  refine CallR.intro rfl rfl (Nat.le_of_ble_eq_true rfl) (fun a ha => ⟨_, rfl⟩) ?_
  show WW g _ _ 0 [(0, .ref 3), (1, .int a1), (2, .int a2), (3, .int a3)] [] (full d ρ) 0 0 _
  unfold fX11_heard
  refine WW.aload_n (pc := 0) (j := 0) rfl dX11_heard_0 ?_
  refine WW.iload_n (pc := 1) (j := 1) rfl dX11_heard_1 ?_
  refine WW.iconst (pc := 2) 1 dX11_heard_2 rfl ?_
  refine WW.iload_n (pc := 3) (j := 2) rfl dX11_heard_3 ?_
  refine WW.callS (pc := 4) (As := [.int a2]) (st := [.int 1, .int a1, .ref 3]) lk_X11_153 (okX11_isSign g ρ hρ d a2) rfl (Nat.le_of_ble_eq_true rfl) ⟨Nat.le_of_ble_eq_true rfl, Nat.le_of_ble_eq_true rfl, Nat.le_of_ble_eq_true rfl, Nat.le_of_ble_eq_true rfl⟩ dX11_heard_4 rfl (fun r1 hr1 => ?_)
  show WW _ _ _ 7 _ [.int (b2i r1), .int 1, .int a1, .ref 3] (full d ρ) 0 0 _
  refine WW.join (pj := 22) (Lj := fun (x2 : Bool) => [(0, .ref 3), (1, .int a1), (2, .int a2), (3, .int a3)]) (sj := fun (x2 : Bool) => [.int (b2i x2), .int 1, .int a1, .ref 3]) (hj := fun (x2 : Bool) => full d ρ) (fun x2 => ?_) (fun k3 hk3 => ?_)
  · refine WW.callV (pc := 22) (As := [.int a1, .int (b2i true), .int (b2i x2)]) (st := []) lk_X11_159 (okX11_refusal g ρ hρ d a1 true x2) h3_3 (sh_3 ρ) ⟨_, _, clk11⟩ rfl (Nat.le_of_ble_eq_true rfl) ⟨Nat.le_of_ble_eq_true rfl, Nat.le_of_ble_eq_true rfl, Nat.le_of_ble_eq_true rfl, Nat.le_of_ble_eq_true rfl⟩ dX11_heard_22 rfl (fun r4 hr4 => ?_)
    show WW _ _ _ 25 _ [.int r4] (full d ρ) 0 0 _
    refine WW.istore (pc := 25) [(4, .int r4), (0, .ref 3), (1, .int a1), (2, .int a2), (3, .int a3)] rfl (by decide) dX11_heard_25 ?_
    refine WW.iload (pc := 27) (j := 0) rfl dX11_heard_27 ?_
    refine WW.if_eq (pc := 29) 38 dX11_heard_29 (by decide) (fun _ => ?_) (fun _ => ?_)
    · refine WW.aload_n (pc := 38) (j := 1) rfl dX11_heard_38 ?_
      refine WW.sgr (pc := 39) fl_X11_35_11 h3_3 (sh_3 ρ) (Or.inl ⟨_, gt_11_8⟩) (hr_3_8 ρ) dX11_heard_39 ?_
      refine WW.aload_n (pc := 42) (j := 1) rfl dX11_heard_42 ?_
      refine WW.sgr (pc := 43) fl_X11_19_11 h3_3 (sh_3 ρ) (Or.inl ⟨_, gt_11_1⟩) (hr_mk ρ) dX11_heard_43 ?_
      refine WW.aload_n (pc := 46) (j := 1) rfl dX11_heard_46 ?_
      refine WW.iload_n (pc := 47) (j := 2) rfl dX11_heard_47 ?_
      refine WW.callV (pc := 48) (As := [.int a1]) (st := [.ref ρ.1, .ref 13]) lk_X11_146 (okX11_newsAt g ρ hρ d a1) h3_3 (sh_3 ρ) ⟨_, _, clk11⟩ rfl (Nat.le_of_ble_eq_true rfl) ⟨Nat.le_of_ble_eq_true rfl, Nat.le_of_ble_eq_true rfl, Nat.le_of_ble_eq_true rfl, Nat.le_of_ble_eq_true rfl⟩ dX11_heard_48 rfl (fun r5 hr5 => ?_)
      show WW _ _ _ 51 _ [.ref r5, .ref ρ.1, .ref 13] (full d ρ) 0 0 _
      refine WW.iload_n (pc := 51) (j := 3) rfl dX11_heard_51 ?_
      refine WW.callV (pc := 52) (As := [.ref ρ.1, .ref r5, .int a2]) (st := []) lk_X11_167 (okX3_take g ρ hρ d ρ.1 r5 a2 hρ.1 (nwAt hρ hr5)) h3_13 (sh_13 ρ) ⟨_, _, clk3⟩ rfl (Nat.le_of_ble_eq_true rfl) ⟨Nat.le_of_ble_eq_true rfl, Nat.le_of_ble_eq_true rfl, Nat.le_of_ble_eq_true rfl, Nat.le_of_ble_eq_true rfl⟩ dX11_heard_52 rfl (fun r6 hr6 => ?_)
      show WW _ _ _ 55 _ [] (full r6 ρ) 0 0 _
      refine WW.aload_n (pc := 55) (j := 1) rfl dX11_heard_55 ?_
      refine WW.sgr (pc := 56) fl_X11_35_11 h3_3 (sh_3 ρ) (Or.inl ⟨_, gt_11_8⟩) (hr_3_8 ρ) dX11_heard_56 ?_
      refine WW.sgl (pc := 59) fl_X11_171_3 h3_13 (sh_13 ρ) gt_3_0 dX11_heard_59 ?_
      refine WW.aload_n (pc := 62) (j := 1) rfl dX11_heard_62 ?_
      refine WW.sgr (pc := 63) fl_X11_19_11 h3_3 (sh_3 ρ) (Or.inl ⟨_, gt_11_1⟩) (hr_mk ρ) dX11_heard_63 ?_
      refine WW.callV (pc := 66) (As := []) (st := [.long (d_l r6 13 0)]) lk_X11_175 (okX5_wholeWeight g ρ hρ r6 ρ.1 hρ.1) (mk3 hρ.1) (mkS hρ.1) ⟨_, _, clk5⟩ rfl (Nat.le_of_ble_eq_true rfl) ⟨Nat.le_of_ble_eq_true rfl, Nat.le_of_ble_eq_true rfl, Nat.le_of_ble_eq_true rfl, Nat.le_of_ble_eq_true rfl⟩ dX11_heard_66 rfl (fun r7 hr7 => ?_)
      show WW _ _ _ 69 _ [.long r7, .long (d_l r6 13 0)] (full r6 ρ) 0 0 _
      refine WW.iload_n (pc := 69) (j := 4) rfl dX11_heard_69 ?_
      refine WW.callS (pc := 70) (As := [.long (d_l r6 13 0), .long r7, .int a3]) (st := []) lk_X11_179 (okX11_partOf g ρ hρ r6 (d_l r6 13 0) r7 a3) rfl (Nat.le_of_ble_eq_true rfl) ⟨Nat.le_of_ble_eq_true rfl, Nat.le_of_ble_eq_true rfl, Nat.le_of_ble_eq_true rfl, Nat.le_of_ble_eq_true rfl⟩ dX11_heard_70 rfl (fun r8 hr8 => ?_)
      show WW _ _ _ 73 _ [.long r8] (full r6 ρ) 0 0 _
      exact WW.ret rfl rfl (show RetI M_X11_heard 73 from dX11_heard_73) ⟨Nat.le_refl _, Nat.le_refl _⟩ rfl
    · refine WW.iload (pc := 32) (j := 0) rfl dX11_heard_32 ?_
      refine WW.callS (pc := 34) (As := [.int r4]) (st := []) lk_X11_163 (okX11_refusedPart g ρ hρ d r4) rfl (Nat.le_of_ble_eq_true rfl) ⟨Nat.le_of_ble_eq_true rfl, Nat.le_of_ble_eq_true rfl, Nat.le_of_ble_eq_true rfl, Nat.le_of_ble_eq_true rfl⟩ dX11_heard_34 rfl (fun r9 hr9 => ?_)
      show WW _ _ _ 37 _ [.long r9] (full d ρ) 0 0 _
      exact WW.ret rfl rfl (show RetI M_X11_heard 37 from dX11_heard_37) ⟨Nat.le_refl _, Nat.le_refl _⟩ rfl
  · refine WW.join (pj := 21) (Lj := fun (x10 : Unit) => [(0, .ref 3), (1, .int a1), (2, .int a2), (3, .int a3)]) (sj := fun (x10 : Unit) => [.int 1, .int a1, .ref 3]) (hj := fun (x10 : Unit) => full d ρ) (fun x10 => ?_) (fun k11 hk11 => ?_)
    · refine WW.iconst (pc := 21) 0 dX11_heard_21 rfl ?_
      exact hk3 false
    · refine WW.if_eqB (pc := 7) 21 dX11_heard_7 (by decide) (fun _ => ?_) (fun _ => ?_)
      · refine WW.iload_n (pc := 10) (j := 3) rfl dX11_heard_10 ?_
        refine WW.callS (pc := 11) (As := [.int a3]) (st := [.int 1, .int a1, .ref 3]) lk_X11_156 (okX11_isPart g ρ hρ d a3) rfl (Nat.le_of_ble_eq_true rfl) ⟨Nat.le_of_ble_eq_true rfl, Nat.le_of_ble_eq_true rfl, Nat.le_of_ble_eq_true rfl, Nat.le_of_ble_eq_true rfl⟩ dX11_heard_11 rfl (fun r12 hr12 => ?_)
        show WW _ _ _ 14 _ [.int (b2i r12), .int 1, .int a1, .ref 3] (full d ρ) 0 0 _
        refine WW.if_eqB (pc := 14) 21 dX11_heard_14 (by decide) (fun _ => ?_) (fun _ => ?_)
        · refine WW.iconst (pc := 17) 1 dX11_heard_17 rfl ?_
          refine WW.goto (pc := 18) 22 dX11_heard_18 (by decide) ?_
          exact hk3 true
        · exact hk11 ()
      · exact hk11 ()
def fX3_isNever (ρ : Rh) (d : Dd) : Option Bool :=
  if (d_l d 13 0) = 0 then
    (some true)
  else
    (some false)
set_option maxHeartbeats 4000000 in
set_option maxRecDepth 100000 in
theorem okX3_isNever (g : Gx) (ρ : Rh) (hρ : Hr ρ) (d : Dd)  : CallR g M_X3_isNever (eZp ρ d) [.ref 13] (full d ρ) (fX3_isNever ρ d) := by
  refine CallR.intro rfl rfl (Nat.le_of_ble_eq_true rfl) (fun a ha => ⟨_, rfl⟩) ?_
  show WW g _ _ 0 [(0, .ref 13)] [] (full d ρ) 0 0 _
  unfold fX3_isNever
  refine WW.aload_n (pc := 0) (j := 0) rfl dX3_isNever_0 ?_
  refine WW.sgl (pc := 1) fl_X3_9_3 h3_13 (sh_13 ρ) gt_3_0 dX3_isNever_1 ?_
  refine WW.lconst (pc := 4) 0 dX3_isNever_4 rfl ?_
  refine WW.lcmp_ne (pc := 5) 13 dX3_isNever_5 dX3_isNever_6 (by decide) (fun _ => ?_) (fun _ => ?_)
  · refine WW.iconst (pc := 9) 1 dX3_isNever_9 rfl ?_
    refine WW.goto (pc := 10) 14 dX3_isNever_10 (by decide) ?_
    exact WW.ret rfl rfl (show RetI M_X3_isNever 14 from dX3_isNever_14) ⟨Nat.le_refl _, Nat.le_refl _⟩ rfl
  · refine WW.iconst (pc := 13) 0 dX3_isNever_13 rfl ?_
    exact WW.ret rfl rfl (show RetI M_X3_isNever 14 from dX3_isNever_14) ⟨Nat.le_refl _, Nat.le_refl _⟩ rfl
def fX11_edge (ρ : Rh) (d : Dd) (a1 : Int32) (a2 : Int32) (a3 : Int32) : Option (Int64 × Dd) :=
  (fX11_isSign a2).bind fun r1 =>
  jn (fun (x2 : Bool) =>
    (fX11_refusal ρ d a1 true x2).bind fun r4 =>
    if r4 = 0 then
      ((fX11_newsAt ρ d a1).bind fun r5 =>
      (fX3_take ρ d ρ.1 r5 a2).bind fun r6 =>
      (fX3_isNever ρ r6).bind fun r7 =>
      if r7 = true then
        (some ((-1000000000000000004), r6))
      else
        ((fX11_partOf (d_l r6 13 2) (d_l r6 13 0) a3).bind fun r8 =>
        some (r8, r6)))
    else
      ((fX11_refusedPart r4).bind fun r9 =>
      some (r9, d))
    ) fun k3 =>
  jn (fun (x10 : Unit) =>
    k3 false
    ) fun k11 =>
  if r1 = true then
    ((fX11_isPart a3).bind fun r12 =>
    if r12 = true then
      (k3 true)
    else
      (k11 ()))
  else
    (k11 ())
set_option maxHeartbeats 4000000 in
set_option maxRecDepth 100000 in
theorem okX11_edge (g : Gx) (ρ : Rh) (hρ : Hr ρ) (d : Dd) (a1 : Int32) (a2 : Int32) (a3 : Int32) : CallR g M_X11_edge (eL ρ) [.ref 3, .int a1, .int a2, .int a3] (full d ρ) (fX11_edge ρ d a1 a2 a3) := by
  refine CallR.intro rfl rfl (Nat.le_of_ble_eq_true rfl) (fun a ha => ⟨_, rfl⟩) ?_
  show WW g _ _ 0 [(0, .ref 3), (1, .int a1), (2, .int a2), (3, .int a3)] [] (full d ρ) 0 0 _
  unfold fX11_edge
  refine WW.aload_n (pc := 0) (j := 0) rfl dX11_edge_0 ?_
  refine WW.iload_n (pc := 1) (j := 1) rfl dX11_edge_1 ?_
  refine WW.iconst (pc := 2) 1 dX11_edge_2 rfl ?_
  refine WW.iload_n (pc := 3) (j := 2) rfl dX11_edge_3 ?_
  refine WW.callS (pc := 4) (As := [.int a2]) (st := [.int 1, .int a1, .ref 3]) lk_X11_153 (okX11_isSign g ρ hρ d a2) rfl (Nat.le_of_ble_eq_true rfl) ⟨Nat.le_of_ble_eq_true rfl, Nat.le_of_ble_eq_true rfl, Nat.le_of_ble_eq_true rfl, Nat.le_of_ble_eq_true rfl⟩ dX11_edge_4 rfl (fun r1 hr1 => ?_)
  show WW _ _ _ 7 _ [.int (b2i r1), .int 1, .int a1, .ref 3] (full d ρ) 0 0 _
  refine WW.join (pj := 22) (Lj := fun (x2 : Bool) => [(0, .ref 3), (1, .int a1), (2, .int a2), (3, .int a3)]) (sj := fun (x2 : Bool) => [.int (b2i x2), .int 1, .int a1, .ref 3]) (hj := fun (x2 : Bool) => full d ρ) (fun x2 => ?_) (fun k3 hk3 => ?_)
  · refine WW.callV (pc := 22) (As := [.int a1, .int (b2i true), .int (b2i x2)]) (st := []) lk_X11_159 (okX11_refusal g ρ hρ d a1 true x2) h3_3 (sh_3 ρ) ⟨_, _, clk11⟩ rfl (Nat.le_of_ble_eq_true rfl) ⟨Nat.le_of_ble_eq_true rfl, Nat.le_of_ble_eq_true rfl, Nat.le_of_ble_eq_true rfl, Nat.le_of_ble_eq_true rfl⟩ dX11_edge_22 rfl (fun r4 hr4 => ?_)
    show WW _ _ _ 25 _ [.int r4] (full d ρ) 0 0 _
    refine WW.istore (pc := 25) [(4, .int r4), (0, .ref 3), (1, .int a1), (2, .int a2), (3, .int a3)] rfl (by decide) dX11_edge_25 ?_
    refine WW.iload (pc := 27) (j := 0) rfl dX11_edge_27 ?_
    refine WW.if_eq (pc := 29) 38 dX11_edge_29 (by decide) (fun _ => ?_) (fun _ => ?_)
    · refine WW.aload_n (pc := 38) (j := 1) rfl dX11_edge_38 ?_
      refine WW.sgr (pc := 39) fl_X11_35_11 h3_3 (sh_3 ρ) (Or.inl ⟨_, gt_11_8⟩) (hr_3_8 ρ) dX11_edge_39 ?_
      refine WW.aload_n (pc := 42) (j := 1) rfl dX11_edge_42 ?_
      refine WW.sgr (pc := 43) fl_X11_19_11 h3_3 (sh_3 ρ) (Or.inl ⟨_, gt_11_1⟩) (hr_mk ρ) dX11_edge_43 ?_
      refine WW.aload_n (pc := 46) (j := 1) rfl dX11_edge_46 ?_
      refine WW.iload_n (pc := 47) (j := 2) rfl dX11_edge_47 ?_
      refine WW.callV (pc := 48) (As := [.int a1]) (st := [.ref ρ.1, .ref 13]) lk_X11_146 (okX11_newsAt g ρ hρ d a1) h3_3 (sh_3 ρ) ⟨_, _, clk11⟩ rfl (Nat.le_of_ble_eq_true rfl) ⟨Nat.le_of_ble_eq_true rfl, Nat.le_of_ble_eq_true rfl, Nat.le_of_ble_eq_true rfl, Nat.le_of_ble_eq_true rfl⟩ dX11_edge_48 rfl (fun r5 hr5 => ?_)
      show WW _ _ _ 51 _ [.ref r5, .ref ρ.1, .ref 13] (full d ρ) 0 0 _
      refine WW.iload_n (pc := 51) (j := 3) rfl dX11_edge_51 ?_
      refine WW.callV (pc := 52) (As := [.ref ρ.1, .ref r5, .int a2]) (st := []) lk_X11_167 (okX3_take g ρ hρ d ρ.1 r5 a2 hρ.1 (nwAt hρ hr5)) h3_13 (sh_13 ρ) ⟨_, _, clk3⟩ rfl (Nat.le_of_ble_eq_true rfl) ⟨Nat.le_of_ble_eq_true rfl, Nat.le_of_ble_eq_true rfl, Nat.le_of_ble_eq_true rfl, Nat.le_of_ble_eq_true rfl⟩ dX11_edge_52 rfl (fun r6 hr6 => ?_)
      show WW _ _ _ 55 _ [] (full r6 ρ) 0 0 _
      refine WW.aload_n (pc := 55) (j := 1) rfl dX11_edge_55 ?_
      refine WW.sgr (pc := 56) fl_X11_35_11 h3_3 (sh_3 ρ) (Or.inl ⟨_, gt_11_8⟩) (hr_3_8 ρ) dX11_edge_56 ?_
      refine WW.callV (pc := 59) (As := []) (st := []) lk_X11_183 (okX3_isNever g ρ hρ r6 ) h3_13 (sh_13 ρ) ⟨_, _, clk3⟩ rfl (Nat.le_of_ble_eq_true rfl) ⟨Nat.le_of_ble_eq_true rfl, Nat.le_of_ble_eq_true rfl, Nat.le_of_ble_eq_true rfl, Nat.le_of_ble_eq_true rfl⟩ dX11_edge_59 rfl (fun r7 hr7 => ?_)
      show WW _ _ _ 62 _ [.int (b2i r7)] (full r6 ρ) 0 0 _
      refine WW.if_eqB (pc := 62) 71 dX11_edge_62 (by decide) (fun _ => ?_) (fun _ => ?_)
      · refine WW.ldc2 (pc := 65) wd_545 dX11_edge_65 ?_
        refine WW.goto (pc := 68) 89 dX11_edge_68 (by decide) ?_
        exact WW.ret rfl rfl (show RetI M_X11_edge 89 from dX11_edge_89) ⟨Nat.le_refl _, Nat.le_refl _⟩ rfl
      · refine WW.aload_n (pc := 71) (j := 1) rfl dX11_edge_71 ?_
        refine WW.sgr (pc := 72) fl_X11_35_11 h3_3 (sh_3 ρ) (Or.inl ⟨_, gt_11_8⟩) (hr_3_8 ρ) dX11_edge_72 ?_
        refine WW.sgl (pc := 75) fl_X11_189_3 h3_13 (sh_13 ρ) gt_3_2 dX11_edge_75 ?_
        refine WW.aload_n (pc := 78) (j := 1) rfl dX11_edge_78 ?_
        refine WW.sgr (pc := 79) fl_X11_35_11 h3_3 (sh_3 ρ) (Or.inl ⟨_, gt_11_8⟩) (hr_3_8 ρ) dX11_edge_79 ?_
        refine WW.sgl (pc := 82) fl_X11_171_3 h3_13 (sh_13 ρ) gt_3_0 dX11_edge_82 ?_
        refine WW.iload_n (pc := 85) (j := 4) rfl dX11_edge_85 ?_
        refine WW.callS (pc := 86) (As := [.long (d_l r6 13 2), .long (d_l r6 13 0), .int a3]) (st := []) lk_X11_179 (okX11_partOf g ρ hρ r6 (d_l r6 13 2) (d_l r6 13 0) a3) rfl (Nat.le_of_ble_eq_true rfl) ⟨Nat.le_of_ble_eq_true rfl, Nat.le_of_ble_eq_true rfl, Nat.le_of_ble_eq_true rfl, Nat.le_of_ble_eq_true rfl⟩ dX11_edge_86 rfl (fun r8 hr8 => ?_)
        show WW _ _ _ 89 _ [.long r8] (full r6 ρ) 0 0 _
        exact WW.ret rfl rfl (show RetI M_X11_edge 89 from dX11_edge_89) ⟨Nat.le_refl _, Nat.le_refl _⟩ rfl
    · refine WW.iload (pc := 32) (j := 0) rfl dX11_edge_32 ?_
      refine WW.callS (pc := 34) (As := [.int r4]) (st := []) lk_X11_163 (okX11_refusedPart g ρ hρ d r4) rfl (Nat.le_of_ble_eq_true rfl) ⟨Nat.le_of_ble_eq_true rfl, Nat.le_of_ble_eq_true rfl, Nat.le_of_ble_eq_true rfl, Nat.le_of_ble_eq_true rfl⟩ dX11_edge_34 rfl (fun r9 hr9 => ?_)
      show WW _ _ _ 37 _ [.long r9] (full d ρ) 0 0 _
      exact WW.ret rfl rfl (show RetI M_X11_edge 37 from dX11_edge_37) ⟨Nat.le_refl _, Nat.le_refl _⟩ rfl
  · refine WW.join (pj := 21) (Lj := fun (x10 : Unit) => [(0, .ref 3), (1, .int a1), (2, .int a2), (3, .int a3)]) (sj := fun (x10 : Unit) => [.int 1, .int a1, .ref 3]) (hj := fun (x10 : Unit) => full d ρ) (fun x10 => ?_) (fun k11 hk11 => ?_)
    · refine WW.iconst (pc := 21) 0 dX11_edge_21 rfl ?_
      exact hk3 false
    · refine WW.if_eqB (pc := 7) 21 dX11_edge_7 (by decide) (fun _ => ?_) (fun _ => ?_)
      · refine WW.iload_n (pc := 10) (j := 3) rfl dX11_edge_10 ?_
        refine WW.callS (pc := 11) (As := [.int a3]) (st := [.int 1, .int a1, .ref 3]) lk_X11_156 (okX11_isPart g ρ hρ d a3) rfl (Nat.le_of_ble_eq_true rfl) ⟨Nat.le_of_ble_eq_true rfl, Nat.le_of_ble_eq_true rfl, Nat.le_of_ble_eq_true rfl, Nat.le_of_ble_eq_true rfl⟩ dX11_edge_11 rfl (fun r12 hr12 => ?_)
        show WW _ _ _ 14 _ [.int (b2i r12), .int 1, .int a1, .ref 3] (full d ρ) 0 0 _
        refine WW.if_eqB (pc := 14) 21 dX11_edge_14 (by decide) (fun _ => ?_) (fun _ => ?_)
        · refine WW.iconst (pc := 17) 1 dX11_edge_17 rfl ?_
          refine WW.goto (pc := 18) 22 dX11_edge_18 (by decide) ?_
          exact hk3 true
        · exact hk11 ()
      · exact hk11 ()
def fX1_everybody (ρ : Rh) (d : Dd) : Option Int32 :=
  some ((jshl 1 (d_i d 15 2)) - 1)
set_option maxHeartbeats 4000000 in
set_option maxRecDepth 100000 in
theorem okX1_everybody (g : Gx) (ρ : Rh) (hρ : Hr ρ) (d : Dd)  : CallR g M_X1_everybody (eIp ρ d) [.ref 15] (full d ρ) (fX1_everybody ρ d) := by
  refine CallR.intro rfl rfl (Nat.le_of_ble_eq_true rfl) (fun a ha => ⟨_, rfl⟩) ?_
  show WW g _ _ 0 [(0, .ref 15)] [] (full d ρ) 0 0 _
  unfold fX1_everybody
  refine WW.iconst (pc := 0) 1 dX1_everybody_0 rfl ?_
  refine WW.aload_n (pc := 1) (j := 0) rfl dX1_everybody_1 ?_
  refine WW.sgi (pc := 2) fl_X1_21_1 h3_15 (sh_15 ρ) (Or.inl gt_1_2) dX1_everybody_2 ?_
  refine WW.ishl (pc := 5) dX1_everybody_5 ?_
  refine WW.iconst (pc := 6) 1 dX1_everybody_6 rfl ?_
  refine WW.isub (pc := 7) dX1_everybody_7 ?_
  exact WW.ret rfl rfl (show RetI M_X1_everybody 8 from dX1_everybody_8) ⟨Nat.le_refl _, Nat.le_refl _⟩ rfl
def fX11_isSet (ρ : Rh) (d : Dd) (a1 : Int32) : Option Bool :=
  if a1 < 0 then
    (some false)
  else
    ((fX1_everybody ρ d).bind fun r1 =>
    if r1 < a1 then
      (some false)
    else
      (some true))
set_option maxHeartbeats 4000000 in
set_option maxRecDepth 100000 in
theorem okX11_isSet (g : Gx) (ρ : Rh) (hρ : Hr ρ) (d : Dd) (a1 : Int32) : CallR g M_X11_isSet (eZp ρ d) [.ref 3, .int a1] (full d ρ) (fX11_isSet ρ d a1) := by
  refine CallR.intro rfl rfl (Nat.le_of_ble_eq_true rfl) (fun a ha => ⟨_, rfl⟩) ?_
  show WW g _ _ 0 [(0, .ref 3), (1, .int a1)] [] (full d ρ) 0 0 _
  unfold fX11_isSet
  refine WW.iload_n (pc := 0) (j := 1) rfl dX11_isSet_0 ?_
  refine WW.if_lt (pc := 1) 19 dX11_isSet_1 (by decide) (fun _ => ?_) (fun _ => ?_)
  · refine WW.iconst (pc := 19) 0 dX11_isSet_19 rfl ?_
    exact WW.ret rfl rfl (show RetI M_X11_isSet 20 from dX11_isSet_20) ⟨Nat.le_refl _, Nat.le_refl _⟩ rfl
  · refine WW.iload_n (pc := 4) (j := 1) rfl dX11_isSet_4 ?_
    refine WW.aload_n (pc := 5) (j := 0) rfl dX11_isSet_5 ?_
    refine WW.sgr (pc := 6) fl_X11_50_11 h3_3 (sh_3 ρ) (Or.inl ⟨_, gt_11_4⟩) (hr_3_4 ρ) dX11_isSet_6 ?_
    refine WW.callV (pc := 9) (As := []) (st := [.int a1]) lk_X11_253 (okX1_everybody g ρ hρ d ) h3_15 (sh_15 ρ) ⟨_, _, clk1⟩ rfl (Nat.le_of_ble_eq_true rfl) ⟨Nat.le_of_ble_eq_true rfl, Nat.le_of_ble_eq_true rfl, Nat.le_of_ble_eq_true rfl, Nat.le_of_ble_eq_true rfl⟩ dX11_isSet_9 rfl (fun r1 hr1 => ?_)
    show WW _ _ _ 12 _ [.int r1, .int a1] (full d ρ) 0 0 _
    refine WW.icmp_gt (pc := 12) 19 dX11_isSet_12 (by decide) (fun _ => ?_) (fun _ => ?_)
    · refine WW.iconst (pc := 19) 0 dX11_isSet_19 rfl ?_
      exact WW.ret rfl rfl (show RetI M_X11_isSet 20 from dX11_isSet_20) ⟨Nat.le_refl _, Nat.le_refl _⟩ rfl
    · refine WW.iconst (pc := 15) 1 dX11_isSet_15 rfl ?_
      refine WW.goto (pc := 16) 20 dX11_isSet_16 (by decide) ?_
      exact WW.ret rfl rfl (show RetI M_X11_isSet 20 from dX11_isSet_20) ⟨Nat.le_refl _, Nat.le_refl _⟩ rfl
def fX2_gain (ρ : Rh) (d : Dd) (a1 : Int32) (a2 : Int32) : Option Int64 :=
  if a1 < 0 then
    (some 0)
  else
    (if a1 < 4 then
      (if inB a1 4 = true then
        (bnd ((Int32.toInt64 ((d_i d 18 (ix a1)) + a2)) : Int64) fun v1 =>
        bnd ((((d_l d 14 4) * (Int32.toInt64 (d_i d 14 6))) * (Int32.toInt64 ((d_i d 14 2) + a2))) : Int64) fun v2 =>
        (fX1_feeOf ρ d a1).bind fun r3 =>
        if 0 ≤ v1 then
          (some ((v1 * ((d_l d 14 5) - v2)) - (((d_l d 14 4) * (Int32.toInt64 r3)) * v1)))
        else
          (some ((v1 * ((d_l d 14 5) - v2)) - (((d_l d 14 4) * (Int32.toInt64 r3)) * (-v1)))))
      else none)
    else
      (some 0))
set_option maxHeartbeats 4000000 in
set_option maxRecDepth 100000 in
theorem okX2_gain (g : Gx) (ρ : Rh) (hρ : Hr ρ) (d : Dd) (a1 : Int32) (a2 : Int32) : CallR g M_X2_gain (eLp ρ d) [.ref 14, .int a1, .int a2] (full d ρ) (fX2_gain ρ d a1 a2) := by
  refine CallR.intro rfl rfl (Nat.le_of_ble_eq_true rfl) (fun a ha => ⟨_, rfl⟩) ?_
  show WW g _ _ 0 [(0, .ref 14), (1, .int a1), (2, .int a2)] [] (full d ρ) 0 0 _
  unfold fX2_gain
  refine WW.iload_n (pc := 0) (j := 1) rfl dX2_gain_0 ?_
  refine WW.if_lt (pc := 1) 13 dX2_gain_1 (by decide) (fun _ => ?_) (fun _ => ?_)
  · refine WW.lconst (pc := 13) 0 dX2_gain_13 rfl ?_
    exact WW.ret rfl rfl (show RetI M_X2_gain 14 from dX2_gain_14) ⟨Nat.le_refl _, Nat.le_refl _⟩ rfl
  · refine WW.iload_n (pc := 4) (j := 1) rfl dX2_gain_4 ?_
    refine WW.aload_n (pc := 5) (j := 0) rfl dX2_gain_5 ?_
    refine WW.sgr (pc := 6) fl_X2_18_2 h3_14 (sh_14 ρ) (Or.inr ⟨_, gt_2_1⟩) (hr_14_1 ρ) dX2_gain_6 ?_
    refine WW.alen (pc := 9) 4 (one_le h3_18) (Or.inl rfl) (sh_18 ρ) rfl dX2_gain_9 ?_
    refine WW.icmp_lt (pc := 10) 15 dX2_gain_10 (by decide) (fun _ => ?_) (fun _ => ?_)
    · refine WW.aload_n (pc := 15) (j := 0) rfl dX2_gain_15 ?_
      refine WW.sgr (pc := 16) fl_X2_18_2 h3_14 (sh_14 ρ) (Or.inr ⟨_, gt_2_1⟩) (hr_14_1 ρ) dX2_gain_16 ?_
      refine WW.iload_n (pc := 19) (j := 1) rfl dX2_gain_19 ?_
      refine WW.siald (pc := 20) (one_le h3_18) (sh_18 ρ) dX2_gain_20 ?_
      refine WW.iload_n (pc := 21) (j := 2) rfl dX2_gain_21 ?_
      refine WW.iadd (pc := 22) dX2_gain_22 ?_
      refine WW.i2l (pc := 23) dX2_gain_23 ?_
      refine WW.nml (fun v1 => ?_)
      refine WW.lstore_n (pc := 24) [(3, .long v1), (0, .ref 14), (1, .int a1), (2, .int a2)] rfl (by decide) dX2_gain_24 ?_
      refine WW.aload_n (pc := 25) (j := 1) rfl dX2_gain_25 ?_
      refine WW.sgl (pc := 26) fl_X2_28_2 h3_14 (sh_14 ρ) gt_2_4 dX2_gain_26 ?_
      refine WW.aload_n (pc := 29) (j := 1) rfl dX2_gain_29 ?_
      refine WW.sgi (pc := 30) fl_X2_33_2 h3_14 (sh_14 ρ) (Or.inl gt_2_6) dX2_gain_30 ?_
      refine WW.i2l (pc := 33) dX2_gain_33 ?_
      refine WW.lmul (pc := 34) dX2_gain_34 ?_
      refine WW.aload_n (pc := 35) (j := 1) rfl dX2_gain_35 ?_
      refine WW.sgi (pc := 36) fl_X2_58_2 h3_14 (sh_14 ρ) (Or.inl gt_2_2) dX2_gain_36 ?_
      refine WW.iload_n (pc := 39) (j := 3) rfl dX2_gain_39 ?_
      refine WW.iadd (pc := 40) dX2_gain_40 ?_
      refine WW.i2l (pc := 41) dX2_gain_41 ?_
      refine WW.lmul (pc := 42) dX2_gain_42 ?_
      refine WW.nml (fun v2 => ?_)
      refine WW.lstore (pc := 43) [(5, .long v2), (3, .long v1), (0, .ref 14), (1, .int a1), (2, .int a2)] rfl (by decide) dX2_gain_43 ?_
      refine WW.lload_n (pc := 45) (j := 1) rfl dX2_gain_45 ?_
      refine WW.aload_n (pc := 46) (j := 2) rfl dX2_gain_46 ?_
      refine WW.sgl (pc := 47) fl_X2_32_2 h3_14 (sh_14 ρ) gt_2_5 dX2_gain_47 ?_
      refine WW.lload (pc := 50) (j := 0) rfl dX2_gain_50 ?_
      refine WW.lsub (pc := 52) dX2_gain_52 ?_
      refine WW.lmul (pc := 53) dX2_gain_53 ?_
      refine WW.aload_n (pc := 54) (j := 2) rfl dX2_gain_54 ?_
      refine WW.sgl (pc := 55) fl_X2_28_2 h3_14 (sh_14 ρ) gt_2_4 dX2_gain_55 ?_
      refine WW.aload_n (pc := 58) (j := 2) rfl dX2_gain_58 ?_
      refine WW.sgr (pc := 59) fl_X2_12_2 h3_14 (sh_14 ρ) (Or.inl ⟨_, gt_2_0⟩) (hr_14_0 ρ) dX2_gain_59 ?_
      refine WW.iload_n (pc := 62) (j := 3) rfl dX2_gain_62 ?_
      refine WW.callV (pc := 63) (As := [.int a1]) (st := [.long (d_l d 14 4), .long (v1 * ((d_l d 14 5) - v2))]) lk_X2_76 (okX1_feeOf g ρ hρ d a1) h3_15 (sh_15 ρ) ⟨_, _, clk1⟩ rfl (Nat.le_of_ble_eq_true rfl) ⟨Nat.le_of_ble_eq_true rfl, Nat.le_of_ble_eq_true rfl, Nat.le_of_ble_eq_true rfl, Nat.le_of_ble_eq_true rfl⟩ dX2_gain_63 rfl (fun r3 hr3 => ?_)
      show WW _ _ _ 66 _ [.int r3, .long (d_l d 14 4), .long (v1 * ((d_l d 14 5) - v2))] (full d ρ) 0 0 _
      refine WW.i2l (pc := 66) dX2_gain_66 ?_
      refine WW.lmul (pc := 67) dX2_gain_67 ?_
      refine WW.lload_n (pc := 68) (j := 1) rfl dX2_gain_68 ?_
      refine WW.lconst (pc := 69) 0 dX2_gain_69 rfl ?_
      refine WW.lcmp_ge (pc := 70) 79 dX2_gain_70 dX2_gain_71 (by decide) (fun _ => ?_) (fun _ => ?_)
      · refine WW.lload_n (pc := 79) (j := 1) rfl dX2_gain_79 ?_
        refine WW.lmul (pc := 80) dX2_gain_80 ?_
        refine WW.lsub (pc := 81) dX2_gain_81 ?_
        exact WW.ret rfl rfl (show RetI M_X2_gain 82 from dX2_gain_82) ⟨Nat.le_refl _, Nat.le_refl _⟩ rfl
      · refine WW.lload_n (pc := 74) (j := 1) rfl dX2_gain_74 ?_
        refine WW.lneg (pc := 75) dX2_gain_75 ?_
        refine WW.goto (pc := 76) 80 dX2_gain_76 (by decide) ?_
        refine WW.lmul (pc := 80) dX2_gain_80 ?_
        refine WW.lsub (pc := 81) dX2_gain_81 ?_
        exact WW.ret rfl rfl (show RetI M_X2_gain 82 from dX2_gain_82) ⟨Nat.le_refl _, Nat.le_refl _⟩ rfl
    · refine WW.lconst (pc := 13) 0 dX2_gain_13 rfl ?_
      exact WW.ret rfl rfl (show RetI M_X2_gain 14 from dX2_gain_14) ⟨Nat.le_refl _, Nat.le_refl _⟩ rfl
def fX11_keepWorths (ρ : Rh) (d : Dd) (a1 : Int32) (a2 : Bool) : Option Dd :=
  lp (fun self2 (x1 : Int32 × Dd) =>
    if 4 ≤ x1.1 then
      (some x1.2)
    else
      (bnd (((a1 * 4) + x1.1) : Int32) fun v3 =>
      jn (fun (x4 : Dd) =>
        self2 ((x1.1 + 1), x4)
        ) fun k5 =>
      if v3 < 0 then
        (k5 x1.2)
      else
        (if 512 ≤ v3 then
          (k5 x1.2)
        else
          (jn (fun (x6 : Int64) =>
            if inB v3 512 = true then
              (bnd (dL x1.2 22 (ix v3) x6) fun d8 =>
              k5 d8)
            else none
            ) fun k7 =>
          if a2 = true then
            (k7 0)
          else
            (if inB v3 512 = true then
              ((fX2_gain ρ x1.2 x1.1 0).bind fun r9 =>
              k7 ((d_l x1.2 22 (ix v3)) + r9))
            else none))))
    ) 6000 (0, d)
set_option maxHeartbeats 4000000 in
set_option maxRecDepth 100000 in
theorem okX11_keepWorths (g : Gx) (ρ : Rh) (hρ : Hr ρ) (d : Dd) (a1 : Int32) (a2 : Bool) : CallR g M_X11_keepWorths (eV ρ) [.ref 3, .int a1, .int (b2i a2)] (full d ρ) (fX11_keepWorths ρ d a1 a2) := by
  refine CallR.intro rfl rfl (Nat.le_of_ble_eq_true rfl) (fun a ha => rfl) ?_
  show WW g _ _ 0 [(0, .ref 3), (1, .int a1), (2, .int (b2i a2))] [] (full d ρ) 0 0 _
  unfold fX11_keepWorths
  refine WW.iconst (pc := 0) 0 dX11_keepWorths_0 rfl ?_
  refine WW.istore_n (pc := 1) [(3, .int 0), (0, .ref 3), (1, .int a1), (2, .int (b2i a2))] rfl (by decide) dX11_keepWorths_1 ?_
  refine WW.sub [1, 2, 3, 0] rfl ?_
  refine WW.loop (pc := 2) (Lj := fun (x1 : Int32 × Dd) => [(0, .ref 3), (1, .int a1), (2, .int (b2i a2)), (3, .int x1.1)]) (hj := fun (x1 : Int32 × Dd) => full x1.2 ρ) (fun self2 hself2 x1 => ?_) 6000 (0, d)
  refine WW.iload_n (pc := 2) (j := 3) rfl dX11_keepWorths_2 ?_
  refine WW.iconst (pc := 3) 4 dX11_keepWorths_3 rfl ?_
  refine WW.icmp_ge (pc := 4) 67 dX11_keepWorths_4 (by decide) (fun _ => ?_) (fun _ => ?_)
  · exact WW.ret rfl rfl (show RetI M_X11_keepWorths 67 from dX11_keepWorths_67) ⟨Nat.le_refl _, Nat.le_refl _⟩ rfl
  · refine WW.iload_n (pc := 7) (j := 1) rfl dX11_keepWorths_7 ?_
    refine WW.iconst (pc := 8) 4 dX11_keepWorths_8 rfl ?_
    refine WW.imul (pc := 9) dX11_keepWorths_9 ?_
    refine WW.iload_n (pc := 10) (j := 3) rfl dX11_keepWorths_10 ?_
    refine WW.iadd (pc := 11) dX11_keepWorths_11 ?_
    refine WW.nmi (fun v3 => ?_)
    refine WW.istore (pc := 12) [(4, .int v3), (0, .ref 3), (1, .int a1), (2, .int (b2i a2)), (3, .int x1.1)] rfl (by decide) dX11_keepWorths_12 ?_
    refine WW.iload (pc := 14) (j := 0) rfl dX11_keepWorths_14 ?_
    refine WW.join (pj := 61) (Lj := fun (x4 : Dd) => [(0, .ref 3), (1, .int a1), (2, .int (b2i a2)), (3, .int x1.1)]) (sj := fun (x4 : Dd) => []) (hj := fun (x4 : Dd) => full x4 ρ) (fun x4 => ?_) (fun k5 hk5 => ?_)
    · refine WW.iinc (pc := 61) (j := 3) (x1.1 + 1) [(3, .int (x1.1 + 1)), (0, .ref 3), (1, .int a1), (2, .int (b2i a2))] rfl rfl rfl (by decide) dX11_keepWorths_61 ?_
      refine WW.goto (pc := 64) 2 dX11_keepWorths_64 (by decide) ?_
      refine WW.sub [1, 2, 3, 0] rfl ?_
      exact hself2 ((x1.1 + 1), x4)
    · refine WW.if_lt (pc := 16) 61 dX11_keepWorths_16 (by decide) (fun _ => ?_) (fun _ => ?_)
      · refine WW.sub [1, 2, 3, 4] rfl ?_
        exact hk5 x1.2
      · refine WW.iload (pc := 19) (j := 0) rfl dX11_keepWorths_19 ?_
        refine WW.aload_n (pc := 21) (j := 1) rfl dX11_keepWorths_21 ?_
        refine WW.sgr (pc := 22) fl_X11_66_11 h3_3 (sh_3 ρ) (Or.inr ⟨_, gt_11_13⟩) (hr_3_13 ρ) dX11_keepWorths_22 ?_
        refine WW.alen (pc := 25) 512 (one_le h3_22) (Or.inr (Or.inl rfl)) (sh_22 ρ) rfl dX11_keepWorths_25 ?_
        refine WW.icmp_ge (pc := 26) 61 dX11_keepWorths_26 (by decide) (fun _ => ?_) (fun _ => ?_)
        · refine WW.sub [1, 2, 3, 4] rfl ?_
          exact hk5 x1.2
        · refine WW.aload_n (pc := 29) (j := 1) rfl dX11_keepWorths_29 ?_
          refine WW.sgr (pc := 30) fl_X11_66_11 h3_3 (sh_3 ρ) (Or.inr ⟨_, gt_11_13⟩) (hr_3_13 ρ) dX11_keepWorths_30 ?_
          refine WW.iload (pc := 33) (j := 0) rfl dX11_keepWorths_33 ?_
          refine WW.iload_n (pc := 35) (j := 3) rfl dX11_keepWorths_35 ?_
          refine WW.join (pj := 60) (Lj := fun (x6 : Int64) => [(0, .ref 3), (1, .int a1), (2, .int (b2i a2)), (3, .int x1.1)]) (sj := fun (x6 : Int64) => [.long x6, .int v3, .ref 22]) (hj := fun (x6 : Int64) => full x1.2 ρ) (fun x6 => ?_) (fun k7 hk7 => ?_)
          · refine WW.slast (pc := 60) h3_22 (sh_22 ρ) dX11_keepWorths_60 (fun d8 => ?_)
            exact hk5 d8
          · refine WW.if_eqB (pc := 36) 43 dX11_keepWorths_36 (by decide) (fun _ => ?_) (fun _ => ?_)
            · refine WW.lconst (pc := 39) 0 dX11_keepWorths_39 rfl ?_
              refine WW.goto (pc := 40) 60 dX11_keepWorths_40 (by decide) ?_
              refine WW.sub [1, 2, 3, 4] rfl ?_
              exact hk7 0
            · refine WW.aload_n (pc := 43) (j := 1) rfl dX11_keepWorths_43 ?_
              refine WW.sgr (pc := 44) fl_X11_66_11 h3_3 (sh_3 ρ) (Or.inr ⟨_, gt_11_13⟩) (hr_3_13 ρ) dX11_keepWorths_44 ?_
              refine WW.iload (pc := 47) (j := 0) rfl dX11_keepWorths_47 ?_
              refine WW.slald (pc := 49) h3_22 (sh_22 ρ) dX11_keepWorths_49 ?_
              refine WW.aload_n (pc := 50) (j := 1) rfl dX11_keepWorths_50 ?_
              refine WW.sgr (pc := 51) fl_X11_42_11 h3_3 (sh_3 ρ) (Or.inl ⟨_, gt_11_9⟩) (hr_3_9 ρ) dX11_keepWorths_51 ?_
              refine WW.iload_n (pc := 54) (j := 4) rfl dX11_keepWorths_54 ?_
              refine WW.iconst (pc := 55) 0 dX11_keepWorths_55 rfl ?_
              refine WW.callV (pc := 56) (As := [.int x1.1, .int 0]) (st := [.long (d_l x1.2 22 (ix v3)), .int v3, .ref 22]) lk_X11_346 (okX2_gain g ρ hρ x1.2 x1.1 0) h3_14 (sh_14 ρ) ⟨_, _, clk2⟩ rfl (Nat.le_of_ble_eq_true rfl) ⟨Nat.le_of_ble_eq_true rfl, Nat.le_of_ble_eq_true rfl, Nat.le_of_ble_eq_true rfl, Nat.le_of_ble_eq_true rfl⟩ dX11_keepWorths_56 rfl (fun r9 hr9 => ?_)
              show WW _ _ _ 59 _ [.long r9, .long (d_l x1.2 22 (ix v3)), .int v3, .ref 22] (full x1.2 ρ) 0 0 _
              refine WW.ladd (pc := 59) dX11_keepWorths_59 ?_
              refine WW.sub [1, 2, 3, 4] rfl ?_
              exact hk7 ((d_l x1.2 22 (ix v3)) + r9)
def fX2_begin (ρ : Rh) (d : Dd) (a2 : Int32) (a3 : Int32) : Option Dd :=
  bnd (dL d 14 4 (d_l d 13 0)) fun d1 =>
  bnd (dL d1 14 5 (d_l d1 13 2)) fun d2 =>
  bnd (dI d2 14 6 a2) fun d3 =>
  bnd (dI d3 14 3 a3) fun d4 =>
  some d4
set_option maxHeartbeats 4000000 in
set_option maxRecDepth 100000 in
theorem okX2_begin (g : Gx) (ρ : Rh) (hρ : Hr ρ) (d : Dd) (a2 : Int32) (a3 : Int32) : CallR g M_X2_begin (eV ρ) [.ref 14, .ref 13, .int a2, .int a3] (full d ρ) (fX2_begin ρ d a2 a3) := by
  refine CallR.intro rfl rfl (Nat.le_of_ble_eq_true rfl) (fun a ha => rfl) ?_
  show WW g _ _ 0 [(0, .ref 14), (1, .ref 13), (2, .int a2), (3, .int a3)] [] (full d ρ) 0 0 _
  unfold fX2_begin
  refine WW.aload_n (pc := 0) (j := 0) rfl dX2_begin_0 ?_
  refine WW.aload_n (pc := 1) (j := 1) rfl dX2_begin_1 ?_
  refine WW.sgl (pc := 2) fl_X2_22_3 h3_13 (sh_13 ρ) gt_3_0 dX2_begin_2 ?_
  refine WW.spl (pc := 5) fp_X2_28_2 h3_14 (sh_14 ρ) gt_2_4 dX2_begin_5 (fun d1 => ?_)
  refine WW.aload_n (pc := 8) (j := 0) rfl dX2_begin_8 ?_
  refine WW.aload_n (pc := 9) (j := 1) rfl dX2_begin_9 ?_
  refine WW.sgl (pc := 10) fl_X2_29_3 h3_13 (sh_13 ρ) gt_3_2 dX2_begin_10 ?_
  refine WW.spl (pc := 13) fp_X2_32_2 h3_14 (sh_14 ρ) gt_2_5 dX2_begin_13 (fun d2 => ?_)
  refine WW.aload_n (pc := 16) (j := 0) rfl dX2_begin_16 ?_
  refine WW.iload_n (pc := 17) (j := 2) rfl dX2_begin_17 ?_
  refine WW.spi (pc := 18) fp_X2_33_2 h3_14 (sh_14 ρ) gt_2_6 dX2_begin_18 (fun d3 => ?_)
  refine WW.aload_n (pc := 21) (j := 0) rfl dX2_begin_21 ?_
  refine WW.iload_n (pc := 22) (j := 3) rfl dX2_begin_22 ?_
  refine WW.spi (pc := 23) fp_X2_37_2 h3_14 (sh_14 ρ) gt_2_3 dX2_begin_23 (fun d4 => ?_)
  exact WW.ret rfl rfl (show RetI M_X2_begin 26 from dX2_begin_26) ⟨Nat.le_refl _, Nat.le_refl _⟩ rfl
def fX11_isIn (a0 : Int32) (a1 : Int32) : Option Bool :=
  if ((jshr a0 a1) &&& 1) = 1 then
    (some true)
  else
    (some false)
set_option maxHeartbeats 4000000 in
set_option maxRecDepth 100000 in
theorem okX11_isIn (g : Gx) (ρ : Rh) (hρ : Hr ρ) (d : Dd) (a0 : Int32) (a1 : Int32) : CallR g M_X11_isIn (eZp ρ d) [.int a0, .int a1] (full d ρ) (fX11_isIn a0 a1) := by
  refine CallR.intro rfl rfl (Nat.le_of_ble_eq_true rfl) (fun a ha => ⟨_, rfl⟩) ?_
  show WW g _ _ 0 [(0, .int a0), (1, .int a1)] [] (full d ρ) 0 0 _
  unfold fX11_isIn
  refine WW.iload_n (pc := 0) (j := 0) rfl dX11_isIn_0 ?_
  refine WW.iload_n (pc := 1) (j := 1) rfl dX11_isIn_1 ?_
  refine WW.ishr (pc := 2) dX11_isIn_2 ?_
  refine WW.iconst (pc := 3) 1 dX11_isIn_3 rfl ?_
  refine WW.iand (pc := 4) dX11_isIn_4 ?_
  refine WW.iconst (pc := 5) 1 dX11_isIn_5 rfl ?_
  refine WW.icmp_ne (pc := 6) 13 dX11_isIn_6 (by decide) (fun _ => ?_) (fun _ => ?_)
  · refine WW.iconst (pc := 9) 1 dX11_isIn_9 rfl ?_
    refine WW.goto (pc := 10) 14 dX11_isIn_10 (by decide) ?_
    exact WW.ret rfl rfl (show RetI M_X11_isIn 14 from dX11_isIn_14) ⟨Nat.le_refl _, Nat.le_refl _⟩ rfl
  · refine WW.iconst (pc := 13) 0 dX11_isIn_13 rfl ?_
    exact WW.ret rfl rfl (show RetI M_X11_isIn 14 from dX11_isIn_14) ⟨Nat.le_refl _, Nat.le_refl _⟩ rfl
def fX2_sellMost (ρ : Rh) (d : Dd) : Option Dd :=
  bnd (dI d 14 2 0) fun d1 =>
  lp (fun self3 (x2 : Int32 × Dd) =>
    if 4 ≤ x2.1 then
      (some x2.2)
    else
      ((fX11_isIn (d_i x2.2 14 3) x2.1).bind fun r4 =>
      jn (fun (x5 : Int32) =>
        if inB x2.1 4 = true then
          (bnd (dI x2.2 18 (ix x2.1) x5) fun d7 =>
          if inB x2.1 4 = true then
            (bnd (dI d7 14 2 ((d_i d7 14 2) + (d_i d7 18 (ix x2.1)))) fun d8 =>
            self3 ((x2.1 + 1), d8))
          else none)
        else none
        ) fun k6 =>
      if r4 = true then
        ((fX1_limitOf ρ x2.2 x2.1).bind fun r9 =>
        k6 (-r9))
      else
        (k6 0))
    ) 6000 (0, d1)
set_option maxHeartbeats 4000000 in
set_option maxRecDepth 100000 in
theorem okX2_sellMost (g : Gx) (ρ : Rh) (hρ : Hr ρ) (d : Dd)  : CallR g M_X2_sellMost (eV ρ) [.ref 14] (full d ρ) (fX2_sellMost ρ d) := by
  refine CallR.intro rfl rfl (Nat.le_of_ble_eq_true rfl) (fun a ha => rfl) ?_
  show WW g _ _ 0 [(0, .ref 14)] [] (full d ρ) 0 0 _
  unfold fX2_sellMost
  refine WW.aload_n (pc := 0) (j := 0) rfl dX2_sellMost_0 ?_
  refine WW.iconst (pc := 1) 0 dX2_sellMost_1 rfl ?_
  refine WW.spi (pc := 2) fp_X2_58_2 h3_14 (sh_14 ρ) gt_2_2 dX2_sellMost_2 (fun d1 => ?_)
  refine WW.iconst (pc := 5) 0 dX2_sellMost_5 rfl ?_
  refine WW.istore_n (pc := 6) [(1, .int 0), (0, .ref 14)] rfl (by decide) dX2_sellMost_6 ?_
  refine WW.sub [1, 0] rfl ?_
  refine WW.loop (pc := 7) (Lj := fun (x2 : Int32 × Dd) => [(0, .ref 14), (1, .int x2.1)]) (hj := fun (x2 : Int32 × Dd) => full x2.2 ρ) (fun self3 hself3 x2 => ?_) 6000 (0, d1)
  refine WW.iload_n (pc := 7) (j := 1) rfl dX2_sellMost_7 ?_
  refine WW.aload_n (pc := 8) (j := 0) rfl dX2_sellMost_8 ?_
  refine WW.sgr (pc := 9) fl_X2_18_2 h3_14 (sh_14 ρ) (Or.inr ⟨_, gt_2_1⟩) (hr_14_1 ρ) dX2_sellMost_9 ?_
  refine WW.alen (pc := 12) 4 (one_le h3_18) (Or.inl rfl) (sh_18 ρ) rfl dX2_sellMost_12 ?_
  refine WW.icmp_ge (pc := 13) 67 dX2_sellMost_13 (by decide) (fun _ => ?_) (fun _ => ?_)
  · exact WW.ret rfl rfl (show RetI M_X2_sellMost 67 from dX2_sellMost_67) ⟨Nat.le_refl _, Nat.le_refl _⟩ rfl
  · refine WW.aload_n (pc := 16) (j := 0) rfl dX2_sellMost_16 ?_
    refine WW.sgr (pc := 17) fl_X2_18_2 h3_14 (sh_14 ρ) (Or.inr ⟨_, gt_2_1⟩) (hr_14_1 ρ) dX2_sellMost_17 ?_
    refine WW.iload_n (pc := 20) (j := 1) rfl dX2_sellMost_20 ?_
    refine WW.aload_n (pc := 21) (j := 0) rfl dX2_sellMost_21 ?_
    refine WW.sgi (pc := 22) fl_X2_37_2 h3_14 (sh_14 ρ) (Or.inl gt_2_3) dX2_sellMost_22 ?_
    refine WW.iload_n (pc := 25) (j := 1) rfl dX2_sellMost_25 ?_
    refine WW.callN (pc := 26) (As := [.int (d_i x2.2 14 3), .int x2.1]) (st := [.int x2.1, .ref 18]) lk_X2_80 (okX11_isIn g ρ hρ x2.2 (d_i x2.2 14 3) x2.1) rfl (Nat.le_of_ble_eq_true rfl) ⟨Nat.le_of_ble_eq_true rfl, Nat.le_of_ble_eq_true rfl, Nat.le_of_ble_eq_true rfl, Nat.le_of_ble_eq_true rfl⟩ dX2_sellMost_26 rfl (fun r4 hr4 => ?_)
    show WW _ _ _ 29 _ [.int (b2i r4), .int x2.1, .ref 18] (full x2.2 ρ) 0 0 _
    refine WW.join (pj := 45) (Lj := fun (x5 : Int32) => [(0, .ref 14), (1, .int x2.1)]) (sj := fun (x5 : Int32) => [.int x5, .int x2.1, .ref 18]) (hj := fun (x5 : Int32) => full x2.2 ρ) (fun x5 => ?_) (fun k6 hk6 => ?_)
    · refine WW.siast (pc := 45) h3_18 (sh_18 ρ) dX2_sellMost_45 (fun d7 => ?_)
      refine WW.aload_n (pc := 46) (j := 0) rfl dX2_sellMost_46 ?_
      refine WW.dup (pc := 47) rfl dX2_sellMost_47 ?_
      refine WW.sgi (pc := 48) fl_X2_58_2 h3_14 (sh_14 ρ) (Or.inl gt_2_2) dX2_sellMost_48 ?_
      refine WW.aload_n (pc := 51) (j := 0) rfl dX2_sellMost_51 ?_
      refine WW.sgr (pc := 52) fl_X2_18_2 h3_14 (sh_14 ρ) (Or.inr ⟨_, gt_2_1⟩) (hr_14_1 ρ) dX2_sellMost_52 ?_
      refine WW.iload_n (pc := 55) (j := 1) rfl dX2_sellMost_55 ?_
      refine WW.siald (pc := 56) (one_le h3_18) (sh_18 ρ) dX2_sellMost_56 ?_
      refine WW.iadd (pc := 57) dX2_sellMost_57 ?_
      refine WW.spi (pc := 58) fp_X2_58_2 h3_14 (sh_14 ρ) gt_2_2 dX2_sellMost_58 (fun d8 => ?_)
      refine WW.iinc (pc := 61) (j := 1) (x2.1 + 1) [(1, .int (x2.1 + 1)), (0, .ref 14)] rfl rfl rfl (by decide) dX2_sellMost_61 ?_
      refine WW.goto (pc := 64) 7 dX2_sellMost_64 (by decide) ?_
      refine WW.sub [1, 0] rfl ?_
      exact hself3 ((x2.1 + 1), d8)
    · refine WW.if_eqB (pc := 29) 44 dX2_sellMost_29 (by decide) (fun _ => ?_) (fun _ => ?_)
      · refine WW.aload_n (pc := 32) (j := 0) rfl dX2_sellMost_32 ?_
        refine WW.sgr (pc := 33) fl_X2_12_2 h3_14 (sh_14 ρ) (Or.inl ⟨_, gt_2_0⟩) (hr_14_0 ρ) dX2_sellMost_33 ?_
        refine WW.iload_n (pc := 36) (j := 1) rfl dX2_sellMost_36 ?_
        refine WW.callV (pc := 37) (As := [.int x2.1]) (st := [.int x2.1, .ref 18]) lk_X2_84 (okX1_limitOf g ρ hρ x2.2 x2.1) h3_15 (sh_15 ρ) ⟨_, _, clk1⟩ rfl (Nat.le_of_ble_eq_true rfl) ⟨Nat.le_of_ble_eq_true rfl, Nat.le_of_ble_eq_true rfl, Nat.le_of_ble_eq_true rfl, Nat.le_of_ble_eq_true rfl⟩ dX2_sellMost_37 rfl (fun r9 hr9 => ?_)
        show WW _ _ _ 40 _ [.int r9, .int x2.1, .ref 18] (full x2.2 ρ) 0 0 _
        refine WW.ineg (pc := 40) dX2_sellMost_40 ?_
        refine WW.goto (pc := 41) 45 dX2_sellMost_41 (by decide) ?_
        exact hk6 (-r9)
      · refine WW.iconst (pc := 44) 0 dX2_sellMost_44 rfl ?_
        exact hk6 0
