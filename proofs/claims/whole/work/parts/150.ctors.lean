theorem nwo {l : List (Nat × Nat)} {t s : Nat × Nat} {j : Nat} (h : l[j]? = some s) : (l ++ [t])[j]? = some s := by
  rw [List.getElem?_append_left (List.getElem?_eq_some_iff.mp h).1]; exact h
theorem nwa {l : List (Nat × Nat)} {t : Nat × Nat} {n : Nat} (h : l.length = n) : (l ++ [t])[n]? = some t := by
  subst h; simp
theorem nwl {l : List (Nat × Nat)} {t : Nat × Nat} {n : Nat} (h : l.length = n) : (l ++ [t]).length = n + 1 := by
  subst h; simp
theorem nwr {h : HP} {t : Nat × Nat} {o k v : Nat} (ho : o < h.2.2.2.length) (hv : h.2.2.1 o k = v) : (hp_nw h t).2.2.1 o k = v := by
  rw [(hp_nw_old (Nat.ne_of_lt ho)).2.2]; exact hv
theorem prs {h : HP} {o k v : Nat} : (hp_pr h o k v).2.2.1 o k = v := by simp [hp_pr, set2]
theorem prn {h : HP} {o k k' v v' : Nat} (hk : k ≠ k') (hv : h.2.2.1 o k = v) : (hp_pr h o k' v').2.2.1 o k = v := by
  simp only [hp_pr, set2]
  rw [if_neg (by simp [hk])]; exact hv
theorem pro {h : HP} {o o' k k' v v' : Nat} (ho : o ≠ o') (hv : h.2.2.1 o k = v) : (hp_pr h o' k' v').2.2.1 o k = v := by
  simp only [hp_pr, set2]
  rw [if_neg (by simp [ho])]; exact hv
theorem ltl {l : List (Nat × Nat)} {o m : Nat} (h : l.length = m) (ho : o < m) : o < l.length := by rw [h]; exact ho
theorem gfr {h : HP} {ci k o v : Nat} {C : String} (ht : gty ci k = .object C) (hv : h.2.2.1 o k = v) : gfv (gty ci k) h o k = .ref v := by
  rw [ht]; simp [gfv, hv]
def eH : HP → Option Value × HP := fun h => (none, h)
section WWn
variable {α β : Type} {g : Gx} {M M' : Mx} {emb : α → Option Value × HP} {pc : Nat} {L : List (Nat × Value)} {st : List Value} {h : HP} {kc ks n0 : Nat} {res : Option α}
theorem WW.newn {ixx ci : Nat} (hl : h.2.2.2.length = n0) (hlk : LkC (m_own M) ixx ci) (hk : kc + 1 ≤ m_mc M ∧ ks + gnf ci ≤ m_ms M) (hd : decode (m_cc M) pc = .ok (.new ixx, 3)) (kk : WW g M emb (pc + 3) L (.ref n0 :: st) (hp_nw h (ci, 0)) (kc + 1) (ks + gnf ci) res) : WW g M emb pc L st h kc ks res := WW.new hlk hk hd (by rw [hl]; exact kk)
theorem WW.newan {t N : Nat} {at_ : ArrayType} {n : Int32} (hl : h.2.2.2.length = n0) (ht : (t = 20 ∧ at_ = .int) ∨ (t = 21 ∧ at_ = .long) ∨ (t = 22 ∧ at_ = .boolean)) (hw : Cond.arrayClass (newarray.typeOf at_) ∈ wB) (hn : ¬ n < 0) (hN : n.toNatClampNeg = N) (hbig : N ≤ 10000) (hk : kc + 1 ≤ m_mc M ∧ ks + N ≤ m_ms M) (hd : decode (m_cc M) pc = .ok (.newarray at_, 2)) (kk : WW g M emb (pc + 2) L (.ref n0 :: st) (hp_nw h (t, N)) (kc + 1) (ks + N) res) : WW g M emb pc L (.int n :: st) h kc ks res := WW.newa ht hw hn hN hbig hk hd (by rw [hl]; exact kk)
theorem WW.anewn {N ixx : Nat} {n : Int32} (hl : h.2.2.2.length = n0) (hw : Cond.classLink (m_own M) ixx "SoldNews$News" ∈ wB) (hn : ¬ n < 0) (hN : n.toNatClampNeg = N) (hbig : N ≤ 10000) (hk : kc + 1 ≤ m_mc M ∧ ks + N ≤ m_ms M) (hd : decode (m_cc M) pc = .ok (.anewarray ixx, 3)) (kk : WW g M emb (pc + 3) L (.ref n0 :: st) (hp_nw h (23, N)) (kc + 1) (ks + N) res) : WW g M emb pc L (.int n :: st) h kc ks res := WW.anew hw hn hN hbig hk hd (by rw [hl]; exact kk)
theorem WW.callI1 {As : List Value} {ixx n o : Nat} {h' : HP} (hlk : LkI (m_own M) ixx M' n) (hc : CallR g M' eH (.ref o :: As) h (some h')) (h3 : 3 ≤ o) (hn : As.length = n) (hst : (st.map fun v => v.category).sum ≤ 8) (hfit : Fit M M' kc ks) (hd : decode (m_cc M) pc = .ok (.invokespecial ixx, 3)) {stk : List Value} (hstk : stk = As.reverse ++ .ref o :: st)
    (hk : WW g M emb (pc + 3) L st h' (kc + m_mc M') (ks + m_ms M') res) : WW g M emb pc L stk h kc ks res :=
  WW.callI (κ := fun _ => res) hlk hc h3 hn hst hfit hd hstk (fun b hb => by cases hb; exact hk)
end WWn
abbrev M_X7_init : Mx := (RX7, yX7_init, cX7_init, 1, Option.none, 1, 24, 1, 60)
abbrev M_X5_init : Mx := (RX5, yX5_init, cX5_init, 1, Option.none, 1, 24, 2, 8)
abbrev M_X1_init : Mx := (RX1, yX1_init, cX1_init, 1, Option.none, 1, 24, 2, 8)
abbrev M_X3_init : Mx := (RX3, yX3_init, cX3_init, 1, Option.none, 1, 24, 0, 0)
abbrev M_X10_init : Mx := (RX10, yX10_init, cX10_init, 1, Option.none, 1, 24, 0, 0)
abbrev M_X2_init : Mx := (RX2, yX2_init, cX2_init, 1, Option.none, 2, 44, 4, 15)
abbrev M_X6_init : Mx := (RX6, yX6_init, cX6_init, 3, Option.none, 1, 24, 0, 0)
abbrev M_X9_init : Mx := (RX9, yX9_init, cX9_init, 3, Option.none, 2, 46, 0, 0)
abbrev M_X8_init : Mx := (RX8, yX8_init, cX8_init, 3, Option.none, 2, 46, 0, 0)
abbrev M_X0_init : Mx := (RX0, yX0_init, cX0_init, 3, Option.none, 3, 68, 0, 0)
abbrev M_X4_init : Mx := (RX4, yX4_init, cX4_init, 3, Option.none, 3, 68, 0, 0)
abbrev M_X12_init : Mx := (RX12, yX12_init, cX12_init, 1, Option.none, 1, 24, 11, 168)
abbrev M_X11_init : Mx := (RX11, yX11_init, cX11_init, 1, Option.none, 3, 64, 19, 1277)
theorem wo_93 : Cond.methodLink RX7 3 Lib.objectInit ∈ wB := wB_in 93 (by decide +kernel) (by decide +kernel)
theorem wo_86 : Cond.instanceMethod Lib.objectInit ∈ wB := wB_in 86 (by decide +kernel) (by decide +kernel)
theorem wo_87 : Cond.code Lib.objectInit ⟨#[0xb1]⟩ 1 Option.none ∈ wB := wB_in 87 (by decide +kernel) (by decide +kernel)
theorem ob_X7_3 : Cond.methodLink RX7 3 Lib.objectInit ∈ wB ∧ Cond.instanceMethod Lib.objectInit ∈ wB ∧ Cond.code Lib.objectInit ⟨#[0xb1]⟩ 1 Option.none ∈ wB := ⟨wo_93, wo_86, wo_87⟩
theorem wd_106 : Cond.arrayClass (FieldType.int) ∈ wB := wB_in 106 (by decide +kernel) (by decide +kernel)
theorem fp_X7_9_7i : FPk RX7 9 7 0 true := ⟨_, _, _, "SoldNews$Page", clk7, by decide, Or.inr ⟨rfl, rfl, rfl, wd_94⟩, rfl⟩
theorem wo_112 : Cond.methodLink RX5 3 Lib.objectInit ∈ wB := wB_in 112 (by decide +kernel) (by decide +kernel)
theorem ob_X5_3 : Cond.methodLink RX5 3 Lib.objectInit ∈ wB ∧ Cond.instanceMethod Lib.objectInit ∈ wB ∧ Cond.code Lib.objectInit ⟨#[0xb1]⟩ 1 Option.none ∈ wB := ⟨wo_112, wo_86, wo_87⟩
theorem fp_X5_9_5i : FPk RX5 9 5 4 true := ⟨_, _, _, "SoldNews$Market", clk5, by decide, Or.inr ⟨rfl, rfl, rfl, wd_127⟩, rfl⟩
theorem fp_X5_15_5i : FPk RX5 15 5 5 true := ⟨_, _, _, "SoldNews$Market", clk5, by decide, Or.inr ⟨rfl, rfl, rfl, wd_128⟩, rfl⟩
theorem wo_176 : Cond.methodLink RX1 3 Lib.objectInit ∈ wB := wB_in 176 (by decide +kernel) (by decide +kernel)
theorem ob_X1_3 : Cond.methodLink RX1 3 Lib.objectInit ∈ wB ∧ Cond.instanceMethod Lib.objectInit ∈ wB ∧ Cond.code Lib.objectInit ⟨#[0xb1]⟩ 1 Option.none ∈ wB := ⟨wo_176, wo_86, wo_87⟩
theorem fp_X1_9_1i : FPk RX1 9 1 0 true := ⟨_, _, _, "SoldNews$Buyers", clk1, by decide, Or.inr ⟨rfl, rfl, rfl, wd_177⟩, rfl⟩
theorem fp_X1_15_1i : FPk RX1 15 1 1 true := ⟨_, _, _, "SoldNews$Buyers", clk1, by decide, Or.inr ⟨rfl, rfl, rfl, wd_178⟩, rfl⟩
theorem wo_149 : Cond.methodLink RX3 3 Lib.objectInit ∈ wB := wB_in 149 (by decide +kernel) (by decide +kernel)
theorem ob_X3_3 : Cond.methodLink RX3 3 Lib.objectInit ∈ wB ∧ Cond.instanceMethod Lib.objectInit ∈ wB ∧ Cond.code Lib.objectInit ⟨#[0xb1]⟩ 1 Option.none ∈ wB := ⟨wo_149, wo_86, wo_87⟩
theorem wo_217 : Cond.methodLink RX10 1 Lib.objectInit ∈ wB := wB_in 217 (by decide +kernel) (by decide +kernel)
theorem ob_X10_1 : Cond.methodLink RX10 1 Lib.objectInit ∈ wB ∧ Cond.instanceMethod Lib.objectInit ∈ wB ∧ Cond.code Lib.objectInit ⟨#[0xb1]⟩ 1 Option.none ∈ wB := ⟨wo_217, wo_86, wo_87⟩
theorem wo_170 : Cond.methodLink RX2 3 Lib.objectInit ∈ wB := wB_in 170 (by decide +kernel) (by decide +kernel)
theorem ob_X2_3 : Cond.methodLink RX2 3 Lib.objectInit ∈ wB ∧ Cond.instanceMethod Lib.objectInit ∈ wB ∧ Cond.code Lib.objectInit ⟨#[0xb1]⟩ 1 Option.none ∈ wB := ⟨wo_170, wo_86, wo_87⟩
theorem wd_171 : Cond.classLink "SoldNews$Deals" 9 "SoldNews$Buyers" ∈ wB := wB_in 171 (by decide +kernel) (by decide +kernel)
theorem wd_172 : Cond.instantiable "SoldNews$Buyers" 3 ∈ wB := wB_in 172 (by decide +kernel) (by decide +kernel)
theorem lkc_X2_9 : LkC RX2 9 1 := ⟨_, _, _, clk1, wd_171, wd_172, wd_71, (fun k hk => by match k, hk with | 0, _ => exact Or.inr (Or.inr (Or.inr (Or.inr ⟨_, rfl⟩))) | 1, _ => exact Or.inr (Or.inr (Or.inr (Or.inr ⟨_, rfl⟩))) | 2, _ => exact Or.inl rfl | k + 3, h => exact absurd h (by omega))⟩
theorem wd_174 : Cond.instanceMethod yX1_init ∈ wB := wB_in 174 (by decide +kernel) (by decide +kernel)
theorem wd_175 : Cond.code yX1_init cX1_init 1 Option.none ∈ wB := wB_in 175 (by decide +kernel) (by decide +kernel)
theorem lki_X2_11 : LkI RX2 11 M_X1_init 0 := ⟨⟨Or.inr ⟨"SoldNews", (List.mem_of_getElem? (i := 21) rfl)⟩, wd_174, wd_71, wd_175, rfl, rfl⟩, by decide, by decide, by decide +kernel⟩
theorem fp_X2_12_2i : FPk RX2 12 2 0 true := ⟨_, _, _, "SoldNews$Deals", clk2, by decide, Or.inr ⟨rfl, rfl, rfl, wd_189⟩, rfl⟩
theorem fp_X2_18_2i : FPk RX2 18 2 1 true := ⟨_, _, _, "SoldNews$Deals", clk2, by decide, Or.inr ⟨rfl, rfl, rfl, wd_191⟩, rfl⟩
theorem wo_391 : Cond.methodLink RX6 3 Lib.objectInit ∈ wB := wB_in 391 (by decide +kernel) (by decide +kernel)
theorem ob_X6_3 : Cond.methodLink RX6 3 Lib.objectInit ∈ wB ∧ Cond.instanceMethod Lib.objectInit ∈ wB ∧ Cond.code Lib.objectInit ⟨#[0xb1]⟩ 1 Option.none ∈ wB := ⟨wo_391, wo_86, wo_87⟩
theorem wd_392 : Cond.fieldLink "SoldNews$News" 9 "SoldNews$News" "kind" "I" ∈ wB := wB_in 392 (by decide +kernel) (by decide +kernel)
theorem fp_X6_9_0i : FPk RX6 9 0 0 true := ⟨_, _, _, "SoldNews$News", clk0, by decide, Or.inr ⟨rfl, rfl, rfl, wd_392⟩, rfl⟩
theorem fp_X6_9_4i : FPk RX6 9 4 0 true := ⟨_, _, _, "SoldNews$News", clk4, by decide, Or.inr ⟨rfl, rfl, rfl, wd_392⟩, rfl⟩
theorem fp_X6_9_6i : FPk RX6 9 6 0 true := ⟨_, _, _, "SoldNews$News", clk6, by decide, Or.inr ⟨rfl, rfl, rfl, wd_392⟩, rfl⟩
theorem fp_X6_9_8i : FPk RX6 9 8 0 true := ⟨_, _, _, "SoldNews$News", clk8, by decide, Or.inr ⟨rfl, rfl, rfl, wd_392⟩, rfl⟩
theorem fp_X6_9_9i : FPk RX6 9 9 0 true := ⟨_, _, _, "SoldNews$News", clk9, by decide, Or.inr ⟨rfl, rfl, rfl, wd_392⟩, rfl⟩
theorem wd_394 : Cond.fieldLink "SoldNews$News" 15 "SoldNews$News" "n" "I" ∈ wB := wB_in 394 (by decide +kernel) (by decide +kernel)
theorem fp_X6_15_0i : FPk RX6 15 0 1 true := ⟨_, _, _, "SoldNews$News", clk0, by decide, Or.inr ⟨rfl, rfl, rfl, wd_394⟩, rfl⟩
theorem fp_X6_15_4i : FPk RX6 15 4 1 true := ⟨_, _, _, "SoldNews$News", clk4, by decide, Or.inr ⟨rfl, rfl, rfl, wd_394⟩, rfl⟩
theorem fp_X6_15_6i : FPk RX6 15 6 1 true := ⟨_, _, _, "SoldNews$News", clk6, by decide, Or.inr ⟨rfl, rfl, rfl, wd_394⟩, rfl⟩
theorem fp_X6_15_8i : FPk RX6 15 8 1 true := ⟨_, _, _, "SoldNews$News", clk8, by decide, Or.inr ⟨rfl, rfl, rfl, wd_394⟩, rfl⟩
theorem fp_X6_15_9i : FPk RX6 15 9 1 true := ⟨_, _, _, "SoldNews$News", clk9, by decide, Or.inr ⟨rfl, rfl, rfl, wd_394⟩, rfl⟩
theorem wd_388 : Cond.methodLink "SoldNews$Plain" 1 yX6_init ∈ wB := wB_in 388 (by decide +kernel) (by decide +kernel)
theorem wd_389 : Cond.instanceMethod yX6_init ∈ wB := wB_in 389 (by decide +kernel) (by decide +kernel)
theorem wd_390 : Cond.code yX6_init cX6_init 3 Option.none ∈ wB := wB_in 390 (by decide +kernel) (by decide +kernel)
theorem lki_X9_1 : LkI RX9 1 M_X6_init 2 := ⟨⟨Or.inl wd_388, wd_389, wd_74, wd_390, rfl, rfl⟩, by decide, by decide, by decide +kernel⟩
theorem wd_412 : Cond.methodLink "SoldNews$Part" 1 yX6_init ∈ wB := wB_in 412 (by decide +kernel) (by decide +kernel)
theorem lki_X8_1 : LkI RX8 1 M_X6_init 2 := ⟨⟨Or.inl wd_412, wd_389, wd_74, wd_390, rfl, rfl⟩, by decide, by decide, by decide +kernel⟩
theorem wd_421 : Cond.methodLink "SoldNews$Blur" 3 yX9_init ∈ wB := wB_in 421 (by decide +kernel) (by decide +kernel)
theorem wd_386 : Cond.instanceMethod yX9_init ∈ wB := wB_in 386 (by decide +kernel) (by decide +kernel)
theorem wd_387 : Cond.code yX9_init cX9_init 3 Option.none ∈ wB := wB_in 387 (by decide +kernel) (by decide +kernel)
theorem lki_X0_3 : LkI RX0 3 M_X9_init 2 := ⟨⟨Or.inl wd_421, wd_386, wd_75, wd_387, rfl, rfl⟩, by decide, by decide, by decide +kernel⟩
theorem wd_430 : Cond.methodLink "SoldNews$Late" 1 yX9_init ∈ wB := wB_in 430 (by decide +kernel) (by decide +kernel)
theorem lki_X4_1 : LkI RX4 1 M_X9_init 2 := ⟨⟨Or.inl wd_430, wd_386, wd_75, wd_387, rfl, rfl⟩, by decide, by decide, by decide +kernel⟩
theorem wo_821 : Cond.methodLink RX12 1 Lib.objectInit ∈ wB := wB_in 821 (by decide +kernel) (by decide +kernel)
theorem ob_X12_1 : Cond.methodLink RX12 1 Lib.objectInit ∈ wB ∧ Cond.instanceMethod Lib.objectInit ∈ wB ∧ Cond.code Lib.objectInit ⟨#[0xb1]⟩ 1 Option.none ∈ wB := ⟨wo_821, wo_86, wo_87⟩
theorem fp_X12_7_12i : FPk RX12 7 12 0 true := ⟨_, _, _, "SoldNewsModel", clk12, by decide, Or.inr ⟨rfl, rfl, rfl, wd_822⟩, rfl⟩
theorem fp_X12_13_12i : FPk RX12 13 12 5 true := ⟨_, _, _, "SoldNewsModel", clk12, by decide, Or.inr ⟨rfl, rfl, rfl, wd_827⟩, rfl⟩
theorem fp_X12_16_12i : FPk RX12 16 12 6 true := ⟨_, _, _, "SoldNewsModel", clk12, by decide, Or.inr ⟨rfl, rfl, rfl, wd_828⟩, rfl⟩
theorem fp_X12_19_12i : FPk RX12 19 12 13 true := ⟨_, _, _, "SoldNewsModel", clk12, by decide, Or.inr ⟨rfl, rfl, rfl, wd_835⟩, rfl⟩
theorem fp_X12_22_12i : FPk RX12 22 12 14 true := ⟨_, _, _, "SoldNewsModel", clk12, by decide, Or.inr ⟨rfl, rfl, rfl, wd_836⟩, rfl⟩
theorem fp_X12_25_12i : FPk RX12 25 12 16 true := ⟨_, _, _, "SoldNewsModel", clk12, by decide, Or.inr ⟨rfl, rfl, rfl, wd_838⟩, rfl⟩
theorem fp_X12_28_12i : FPk RX12 28 12 17 true := ⟨_, _, _, "SoldNewsModel", clk12, by decide, Or.inr ⟨rfl, rfl, rfl, wd_839⟩, rfl⟩
theorem fp_X12_31_12i : FPk RX12 31 12 19 true := ⟨_, _, _, "SoldNewsModel", clk12, by decide, Or.inr ⟨rfl, rfl, rfl, wd_841⟩, rfl⟩
theorem fp_X12_34_12i : FPk RX12 34 12 20 true := ⟨_, _, _, "SoldNewsModel", clk12, by decide, Or.inr ⟨rfl, rfl, rfl, wd_842⟩, rfl⟩
theorem wd_267 : Cond.arrayClass (FieldType.long) ∈ wB := wB_in 267 (by decide +kernel) (by decide +kernel)
theorem fp_X12_37_12i : FPk RX12 37 12 25 true := ⟨_, _, _, "SoldNewsModel", clk12, by decide, Or.inr ⟨rfl, rfl, rfl, wd_847⟩, rfl⟩
theorem fp_X12_41_12i : FPk RX12 41 12 29 true := ⟨_, _, _, "SoldNewsModel", clk12, by decide, Or.inr ⟨rfl, rfl, rfl, wd_851⟩, rfl⟩
theorem wo_85 : Cond.methodLink RX11 1 Lib.objectInit ∈ wB := wB_in 85 (by decide +kernel) (by decide +kernel)
theorem ob_X11_1 : Cond.methodLink RX11 1 Lib.objectInit ∈ wB ∧ Cond.instanceMethod Lib.objectInit ∈ wB ∧ Cond.code Lib.objectInit ⟨#[0xb1]⟩ 1 Option.none ∈ wB := ⟨wo_85, wo_86, wo_87⟩
theorem wd_88 : Cond.classLink "SoldNews" 7 "SoldNews$Page" ∈ wB := wB_in 88 (by decide +kernel) (by decide +kernel)
theorem wd_89 : Cond.instantiable "SoldNews$Page" 3 ∈ wB := wB_in 89 (by decide +kernel) (by decide +kernel)
theorem lkc_X11_7 : LkC RX11 7 7 := ⟨_, _, _, clk7, wd_88, wd_89, wd_67, (fun k hk => by match k, hk with | 0, _ => exact Or.inr (Or.inr (Or.inr (Or.inr ⟨_, rfl⟩))) | 1, _ => exact Or.inl rfl | 2, _ => exact Or.inl rfl | k + 3, h => exact absurd h (by omega))⟩
theorem wd_91 : Cond.instanceMethod yX7_init ∈ wB := wB_in 91 (by decide +kernel) (by decide +kernel)
theorem wd_92 : Cond.code yX7_init cX7_init 1 Option.none ∈ wB := wB_in 92 (by decide +kernel) (by decide +kernel)
theorem lki_X11_9 : LkI RX11 9 M_X7_init 0 := ⟨⟨Or.inr ⟨"SoldNews", (List.mem_of_getElem? (i := 0) rfl)⟩, wd_91, wd_67, wd_92, rfl, rfl⟩, by decide, by decide, by decide +kernel⟩
theorem fp_X11_10_11i : FPk RX11 10 11 0 true := ⟨_, _, _, "SoldNews", clk11, by decide, Or.inr ⟨rfl, rfl, rfl, wd_223⟩, rfl⟩
theorem wd_107 : Cond.classLink "SoldNews" 16 "SoldNews$Market" ∈ wB := wB_in 107 (by decide +kernel) (by decide +kernel)
theorem wd_108 : Cond.instantiable "SoldNews$Market" 6 ∈ wB := wB_in 108 (by decide +kernel) (by decide +kernel)
theorem lkc_X11_16 : LkC RX11 16 5 := ⟨_, _, _, clk5, wd_107, wd_108, wd_68, (fun k hk => by match k, hk with | 0, _ => exact Or.inl rfl | 1, _ => exact Or.inl rfl | 2, _ => exact Or.inl rfl | 3, _ => exact Or.inl rfl | 4, _ => exact Or.inr (Or.inr (Or.inr (Or.inr ⟨_, rfl⟩))) | 5, _ => exact Or.inr (Or.inr (Or.inr (Or.inr ⟨_, rfl⟩))) | k + 6, h => exact absurd h (by omega))⟩
theorem wd_110 : Cond.instanceMethod yX5_init ∈ wB := wB_in 110 (by decide +kernel) (by decide +kernel)
theorem wd_111 : Cond.code yX5_init cX5_init 1 Option.none ∈ wB := wB_in 111 (by decide +kernel) (by decide +kernel)
theorem lki_X11_18 : LkI RX11 18 M_X5_init 0 := ⟨⟨Or.inr ⟨"SoldNews", (List.mem_of_getElem? (i := 3) rfl)⟩, wd_110, wd_68, wd_111, rfl, rfl⟩, by decide, by decide, by decide +kernel⟩
theorem fp_X11_19_11 : FPk RX11 19 11 1 false := ⟨_, _, _, "SoldNews", clk11, by decide, Or.inl ⟨rfl, rfl, Or.inl wd_224⟩, rfl⟩
theorem fp_X11_23_11 : FPk RX11 23 11 2 false := ⟨_, _, _, "SoldNews", clk11, by decide, Or.inl ⟨rfl, rfl, Or.inl wd_225⟩, rfl⟩
theorem wd_142 : Cond.classLink "SoldNews" 26 "SoldNews$News" ∈ wB := wB_in 142 (by decide +kernel) (by decide +kernel)
theorem fp_X11_28_11i : FPk RX11 28 11 5 true := ⟨_, _, _, "SoldNews", clk11, by decide, Or.inr ⟨rfl, rfl, rfl, wd_228⟩, rfl⟩
theorem wd_144 : Cond.classLink "SoldNews" 32 "SoldNews$Hearing" ∈ wB := wB_in 144 (by decide +kernel) (by decide +kernel)
theorem wd_145 : Cond.instantiable "SoldNews$Hearing" 3 ∈ wB := wB_in 145 (by decide +kernel) (by decide +kernel)
theorem lkc_X11_32 : LkC RX11 32 3 := ⟨_, _, _, clk3, wd_144, wd_145, wd_69, (fun k hk => by match k, hk with | 0, _ => exact Or.inr (Or.inl rfl) | 1, _ => exact Or.inr (Or.inl rfl) | 2, _ => exact Or.inr (Or.inl rfl) | k + 3, h => exact absurd h (by omega))⟩
theorem wd_147 : Cond.instanceMethod yX3_init ∈ wB := wB_in 147 (by decide +kernel) (by decide +kernel)
theorem wd_148 : Cond.code yX3_init cX3_init 1 Option.none ∈ wB := wB_in 148 (by decide +kernel) (by decide +kernel)
theorem lki_X11_34 : LkI RX11 34 M_X3_init 0 := ⟨⟨Or.inr ⟨"SoldNews", (List.mem_of_getElem? (i := 14) rfl)⟩, wd_147, wd_69, wd_148, rfl, rfl⟩, by decide, by decide, by decide +kernel⟩
theorem fp_X11_35_11i : FPk RX11 35 11 8 true := ⟨_, _, _, "SoldNews", clk11, by decide, Or.inr ⟨rfl, rfl, rfl, wd_231⟩, rfl⟩
theorem wd_165 : Cond.classLink "SoldNews" 39 "SoldNews$Deals" ∈ wB := wB_in 165 (by decide +kernel) (by decide +kernel)
theorem wd_166 : Cond.instantiable "SoldNews$Deals" 7 ∈ wB := wB_in 166 (by decide +kernel) (by decide +kernel)
theorem lkc_X11_39 : LkC RX11 39 2 := ⟨_, _, _, clk2, wd_165, wd_166, wd_70, (fun k hk => by match k, hk with | 0, _ => exact Or.inr (Or.inr (Or.inr (Or.inl ⟨_, rfl⟩))) | 1, _ => exact Or.inr (Or.inr (Or.inr (Or.inr ⟨_, rfl⟩))) | 2, _ => exact Or.inl rfl | 3, _ => exact Or.inl rfl | 4, _ => exact Or.inr (Or.inl rfl) | 5, _ => exact Or.inr (Or.inl rfl) | 6, _ => exact Or.inl rfl | k + 7, h => exact absurd h (by omega))⟩
theorem wd_168 : Cond.instanceMethod yX2_init ∈ wB := wB_in 168 (by decide +kernel) (by decide +kernel)
theorem wd_169 : Cond.code yX2_init cX2_init 1 Option.none ∈ wB := wB_in 169 (by decide +kernel) (by decide +kernel)
theorem lki_X11_41 : LkI RX11 41 M_X2_init 0 := ⟨⟨Or.inr ⟨"SoldNews", (List.mem_of_getElem? (i := 20) rfl)⟩, wd_168, wd_70, wd_169, rfl, rfl⟩, by decide, by decide, by decide +kernel⟩
theorem fp_X11_42_11i : FPk RX11 42 11 9 true := ⟨_, _, _, "SoldNews", clk11, by decide, Or.inr ⟨rfl, rfl, rfl, wd_232⟩, rfl⟩
theorem fl_X11_46_2 : FLk RX11 46 2 0 := ⟨_, _, _, "SoldNews$Deals", clk2, by decide, Or.inr ⟨"SoldNews", (List.mem_of_getElem? (i := 24) rfl)⟩, Or.inl rfl⟩
theorem fp_X11_50_11i : FPk RX11 50 11 4 true := ⟨_, _, _, "SoldNews", clk11, by decide, Or.inr ⟨rfl, rfl, rfl, wd_227⟩, rfl⟩
theorem wd_212 : Cond.classLink "SoldNews" 51 "SoldNews$Seed" ∈ wB := wB_in 212 (by decide +kernel) (by decide +kernel)
theorem wd_213 : Cond.instantiable "SoldNews$Seed" 1 ∈ wB := wB_in 213 (by decide +kernel) (by decide +kernel)
theorem lkc_X11_51 : LkC RX11 51 10 := ⟨_, _, _, clk10, wd_212, wd_213, wd_72, (fun k hk => by match k, hk with | 0, _ => exact Or.inr (Or.inl rfl) | k + 1, h => exact absurd h (by omega))⟩
theorem wd_215 : Cond.instanceMethod yX10_init ∈ wB := wB_in 215 (by decide +kernel) (by decide +kernel)
theorem wd_216 : Cond.code yX10_init cX10_init 1 Option.none ∈ wB := wB_in 216 (by decide +kernel) (by decide +kernel)
theorem lki_X11_53 : LkI RX11 53 M_X10_init 0 := ⟨⟨Or.inr ⟨"SoldNews", (List.mem_of_getElem? (i := 25) rfl)⟩, wd_215, wd_72, wd_216, rfl, rfl⟩, by decide, by decide, by decide +kernel⟩
theorem fp_X11_54_11i : FPk RX11 54 11 10 true := ⟨_, _, _, "SoldNews", clk11, by decide, Or.inr ⟨rfl, rfl, rfl, wd_233⟩, rfl⟩
theorem wd_266 : Cond.arrayClass (FieldType.boolean) ∈ wB := wB_in 266 (by decide +kernel) (by decide +kernel)
theorem fp_X11_58_11i : FPk RX11 58 11 11 true := ⟨_, _, _, "SoldNews", clk11, by decide, Or.inr ⟨rfl, rfl, rfl, wd_234⟩, rfl⟩
theorem fp_X11_62_11i : FPk RX11 62 11 12 true := ⟨_, _, _, "SoldNews", clk11, by decide, Or.inr ⟨rfl, rfl, rfl, wd_235⟩, rfl⟩
theorem fp_X11_66_11i : FPk RX11 66 11 13 true := ⟨_, _, _, "SoldNews", clk11, by decide, Or.inr ⟨rfl, rfl, rfl, wd_236⟩, rfl⟩
def hX7_init (h : HP) (o : Nat) (n : Nat) : HP := (hp_pr (hp_nw h (20, 60)) o 0 n)
set_option maxHeartbeats 4000000 in
set_option maxRecDepth 100000 in
theorem okX7_init (g : Gx) (h : HP) (o : Nat) (n : Nat) (h3 : 3 ≤ o) (hn : 3 ≤ n) (hl : h.2.2.2.length = n) (hon : o < n) (hs : h.2.2.2[o]? = some (7, 0)) : CallR g M_X7_init eH [.ref o] h (some (hX7_init h o n)) := by
  refine CallR.intro rfl rfl (Nat.le_of_ble_eq_true rfl) (fun a ha => rfl) ?_
  show WW g _ _ 0 [(0, .ref o)] [] h 0 0 _
  unfold hX7_init
  refine WW.aload_n (pc := 0) (j := 0) rfl dX7_init_0 ?_
  refine WW.obj (pc := 1) ob_X7_3 h3 (Nat.le_of_ble_eq_true rfl) (Nat.le_of_ble_eq_true rfl) dX7_init_1 ?_
  refine WW.aload_n (pc := 4) (j := 0) rfl dX7_init_4 ?_
  refine WW.bipush (pc := 5) 60 dX7_init_5 rfl ?_
  refine WW.newan (pc := 7) (N := 60) hl (Or.inl ⟨rfl, rfl⟩) wd_106 (by decide) (by decide) (by decide) ⟨(Nat.le_of_ble_eq_true rfl), (Nat.le_of_ble_eq_true rfl)⟩ dX7_init_7 ?_
  refine WW.putr (pc := 9) fp_X7_9_7i (fun _ => rfl) h3 (nwo hs) (Or.inr ⟨_, gt_7_0⟩) (by omega) dX7_init_9 ?_
  exact WW.ret rfl rfl (show RetI M_X7_init 12 from dX7_init_12) ⟨(Nat.le_of_ble_eq_true rfl), (Nat.le_of_ble_eq_true rfl)⟩ rfl
def hX5_init (h : HP) (o : Nat) (n : Nat) : HP := (hp_pr (hp_nw (hp_pr (hp_nw h (20, 4)) o 4 n) (20, 4)) o 5 (n + 1))
set_option maxHeartbeats 4000000 in
set_option maxRecDepth 100000 in
theorem okX5_init (g : Gx) (h : HP) (o : Nat) (n : Nat) (h3 : 3 ≤ o) (hn : 3 ≤ n) (hl : h.2.2.2.length = n) (hon : o < n) (hs : h.2.2.2[o]? = some (5, 0)) : CallR g M_X5_init eH [.ref o] h (some (hX5_init h o n)) := by
  refine CallR.intro rfl rfl (Nat.le_of_ble_eq_true rfl) (fun a ha => rfl) ?_
  show WW g _ _ 0 [(0, .ref o)] [] h 0 0 _
  unfold hX5_init
  refine WW.aload_n (pc := 0) (j := 0) rfl dX5_init_0 ?_
  refine WW.obj (pc := 1) ob_X5_3 h3 (Nat.le_of_ble_eq_true rfl) (Nat.le_of_ble_eq_true rfl) dX5_init_1 ?_
  refine WW.aload_n (pc := 4) (j := 0) rfl dX5_init_4 ?_
  refine WW.iconst (pc := 5) 4 dX5_init_5 rfl ?_
  refine WW.newan (pc := 6) (N := 4) hl (Or.inl ⟨rfl, rfl⟩) wd_106 (by decide) (by decide) (by decide) ⟨(Nat.le_of_ble_eq_true rfl), (Nat.le_of_ble_eq_true rfl)⟩ dX5_init_6 ?_
  refine WW.putr (pc := 8) fp_X5_9_5i (fun _ => rfl) h3 (nwo hs) (Or.inr ⟨_, gt_5_4⟩) (by omega) dX5_init_8 ?_
  refine WW.aload_n (pc := 11) (j := 0) rfl dX5_init_11 ?_
  refine WW.iconst (pc := 12) 4 dX5_init_12 rfl ?_
  refine WW.newan (pc := 13) (N := 4) (nwl hl) (Or.inl ⟨rfl, rfl⟩) wd_106 (by decide) (by decide) (by decide) ⟨(Nat.le_of_ble_eq_true rfl), (Nat.le_of_ble_eq_true rfl)⟩ dX5_init_13 ?_
  refine WW.putr (pc := 15) fp_X5_15_5i (fun _ => rfl) h3 (nwo (nwo hs)) (Or.inr ⟨_, gt_5_5⟩) (by omega) dX5_init_15 ?_
  exact WW.ret rfl rfl (show RetI M_X5_init 18 from dX5_init_18) ⟨(Nat.le_of_ble_eq_true rfl), (Nat.le_of_ble_eq_true rfl)⟩ rfl
def hX1_init (h : HP) (o : Nat) (n : Nat) : HP := (hp_pr (hp_nw (hp_pr (hp_nw h (20, 4)) o 0 n) (20, 4)) o 1 (n + 1))
set_option maxHeartbeats 4000000 in
set_option maxRecDepth 100000 in
theorem okX1_init (g : Gx) (h : HP) (o : Nat) (n : Nat) (h3 : 3 ≤ o) (hn : 3 ≤ n) (hl : h.2.2.2.length = n) (hon : o < n) (hs : h.2.2.2[o]? = some (1, 0)) : CallR g M_X1_init eH [.ref o] h (some (hX1_init h o n)) := by
  refine CallR.intro rfl rfl (Nat.le_of_ble_eq_true rfl) (fun a ha => rfl) ?_
  show WW g _ _ 0 [(0, .ref o)] [] h 0 0 _
  unfold hX1_init
  refine WW.aload_n (pc := 0) (j := 0) rfl dX1_init_0 ?_
  refine WW.obj (pc := 1) ob_X1_3 h3 (Nat.le_of_ble_eq_true rfl) (Nat.le_of_ble_eq_true rfl) dX1_init_1 ?_
  refine WW.aload_n (pc := 4) (j := 0) rfl dX1_init_4 ?_
  refine WW.iconst (pc := 5) 4 dX1_init_5 rfl ?_
  refine WW.newan (pc := 6) (N := 4) hl (Or.inl ⟨rfl, rfl⟩) wd_106 (by decide) (by decide) (by decide) ⟨(Nat.le_of_ble_eq_true rfl), (Nat.le_of_ble_eq_true rfl)⟩ dX1_init_6 ?_
  refine WW.putr (pc := 8) fp_X1_9_1i (fun _ => rfl) h3 (nwo hs) (Or.inr ⟨_, gt_1_0⟩) (by omega) dX1_init_8 ?_
  refine WW.aload_n (pc := 11) (j := 0) rfl dX1_init_11 ?_
  refine WW.iconst (pc := 12) 4 dX1_init_12 rfl ?_
  refine WW.newan (pc := 13) (N := 4) (nwl hl) (Or.inl ⟨rfl, rfl⟩) wd_106 (by decide) (by decide) (by decide) ⟨(Nat.le_of_ble_eq_true rfl), (Nat.le_of_ble_eq_true rfl)⟩ dX1_init_13 ?_
  refine WW.putr (pc := 15) fp_X1_15_1i (fun _ => rfl) h3 (nwo (nwo hs)) (Or.inr ⟨_, gt_1_1⟩) (by omega) dX1_init_15 ?_
  exact WW.ret rfl rfl (show RetI M_X1_init 18 from dX1_init_18) ⟨(Nat.le_of_ble_eq_true rfl), (Nat.le_of_ble_eq_true rfl)⟩ rfl
def hX3_init (h : HP) (o : Nat) (n : Nat) : HP := h
set_option maxHeartbeats 4000000 in
set_option maxRecDepth 100000 in
theorem okX3_init (g : Gx) (h : HP) (o : Nat) (n : Nat) (h3 : 3 ≤ o) (hn : 3 ≤ n) (hl : h.2.2.2.length = n) (hon : o < n) (hs : h.2.2.2[o]? = some (3, 0)) : CallR g M_X3_init eH [.ref o] h (some (hX3_init h o n)) := by
  refine CallR.intro rfl rfl (Nat.le_of_ble_eq_true rfl) (fun a ha => rfl) ?_
  show WW g _ _ 0 [(0, .ref o)] [] h 0 0 _
  unfold hX3_init
  refine WW.aload_n (pc := 0) (j := 0) rfl dX3_init_0 ?_
  refine WW.obj (pc := 1) ob_X3_3 h3 (Nat.le_of_ble_eq_true rfl) (Nat.le_of_ble_eq_true rfl) dX3_init_1 ?_
  exact WW.ret rfl rfl (show RetI M_X3_init 4 from dX3_init_4) ⟨(Nat.le_of_ble_eq_true rfl), (Nat.le_of_ble_eq_true rfl)⟩ rfl
def hX10_init (h : HP) (o : Nat) (n : Nat) : HP := h
set_option maxHeartbeats 4000000 in
set_option maxRecDepth 100000 in
theorem okX10_init (g : Gx) (h : HP) (o : Nat) (n : Nat) (h3 : 3 ≤ o) (hn : 3 ≤ n) (hl : h.2.2.2.length = n) (hon : o < n) (hs : h.2.2.2[o]? = some (10, 0)) : CallR g M_X10_init eH [.ref o] h (some (hX10_init h o n)) := by
  refine CallR.intro rfl rfl (Nat.le_of_ble_eq_true rfl) (fun a ha => rfl) ?_
  show WW g _ _ 0 [(0, .ref o)] [] h 0 0 _
  unfold hX10_init
  refine WW.aload_n (pc := 0) (j := 0) rfl dX10_init_0 ?_
  refine WW.obj (pc := 1) ob_X10_1 h3 (Nat.le_of_ble_eq_true rfl) (Nat.le_of_ble_eq_true rfl) dX10_init_1 ?_
  exact WW.ret rfl rfl (show RetI M_X10_init 4 from dX10_init_4) ⟨(Nat.le_of_ble_eq_true rfl), (Nat.le_of_ble_eq_true rfl)⟩ rfl
def hX2_init (h : HP) (o : Nat) (n : Nat) : HP := (hp_pr (hp_nw (hp_pr (hX1_init (hp_nw h (1, 0)) n (n + 1)) o 0 n) (20, 4)) o 1 (n + 3))
set_option maxHeartbeats 4000000 in
set_option maxRecDepth 100000 in
theorem okX2_init (g : Gx) (h : HP) (o : Nat) (n : Nat) (h3 : 3 ≤ o) (hn : 3 ≤ n) (hl : h.2.2.2.length = n) (hon : o < n) (hs : h.2.2.2[o]? = some (2, 0)) : CallR g M_X2_init eH [.ref o] h (some (hX2_init h o n)) := by
  refine CallR.intro rfl rfl (Nat.le_of_ble_eq_true rfl) (fun a ha => rfl) ?_
  show WW g _ _ 0 [(0, .ref o)] [] h 0 0 _
  unfold hX2_init
  refine WW.aload_n (pc := 0) (j := 0) rfl dX2_init_0 ?_
  refine WW.obj (pc := 1) ob_X2_3 h3 (Nat.le_of_ble_eq_true rfl) (Nat.le_of_ble_eq_true rfl) dX2_init_1 ?_
  refine WW.aload_n (pc := 4) (j := 0) rfl dX2_init_4 ?_
  refine WW.newn (pc := 5) hl lkc_X2_9 ⟨(Nat.le_of_ble_eq_true rfl), (Nat.le_of_ble_eq_true rfl)⟩ dX2_init_5 ?_
  refine WW.dup (pc := 8) rfl dX2_init_8 ?_
  refine WW.callI1 (pc := 9) (As := []) (st := [.ref n, .ref o]) lki_X2_11 (okX1_init g (hp_nw h (1, 0)) n (n + 1) (by omega) (by omega) (nwl hl) (by omega) (nwa hl)) (by omega) rfl (Nat.le_of_ble_eq_true rfl) ⟨Nat.le_of_ble_eq_true rfl, Nat.le_of_ble_eq_true rfl, Nat.le_of_ble_eq_true rfl, Nat.le_of_ble_eq_true rfl⟩ dX2_init_9 rfl ?_
  show WW _ _ _ 12 _ [.ref n, .ref o] _ 3 11 _
  refine WW.putr (pc := 12) fp_X2_12_2i (fun _ => rfl) h3 (nwo (nwo (nwo hs))) (Or.inl ⟨_, gt_2_0⟩) (by omega) dX2_init_12 ?_
  refine WW.aload_n (pc := 15) (j := 0) rfl dX2_init_15 ?_
  refine WW.iconst (pc := 16) 4 dX2_init_16 rfl ?_
  refine WW.newan (pc := 17) (N := 4) (nwl (nwl (nwl hl))) (Or.inl ⟨rfl, rfl⟩) wd_106 (by decide) (by decide) (by decide) ⟨(Nat.le_of_ble_eq_true rfl), (Nat.le_of_ble_eq_true rfl)⟩ dX2_init_17 ?_
  refine WW.putr (pc := 19) fp_X2_18_2i (fun _ => rfl) h3 (nwo (nwo (nwo (nwo hs)))) (Or.inr ⟨_, gt_2_1⟩) (by omega) dX2_init_19 ?_
  exact WW.ret rfl rfl (show RetI M_X2_init 22 from dX2_init_22) ⟨(Nat.le_of_ble_eq_true rfl), (Nat.le_of_ble_eq_true rfl)⟩ rfl
theorem x2_buy {h : HP} {o n : Nat} (hl : h.2.2.2.length = n) (ho : o < n) : (hX2_init h o n).2.2.1 o 0 = n := by
  unfold hX2_init
  exact prn (by decide) (nwr (ltl (nwl (nwl (nwl hl))) (by omega)) prs)
def hX6_init (h : HP) (o : Nat) (n : Nat) (t : Nat) (a1 : Int32) (a2 : Int32) : HP := (hp_pi (hp_pi h o 0 a1) o 1 a2)
set_option maxHeartbeats 4000000 in
set_option maxRecDepth 100000 in
theorem okX6_init (g : Gx) (h : HP) (o : Nat) (n : Nat) (t : Nat) (a1 : Int32) (a2 : Int32) (h3 : 3 ≤ o) (hn : 3 ≤ n) (hl : h.2.2.2.length = n) (hon : o < n) (ht : t ∈ nT) (hs : h.2.2.2[o]? = some (t, 0)) : CallR g M_X6_init eH [.ref o, .int a1, .int a2] h (some (hX6_init h o n t a1 a2)) := by
  refine CallR.intro rfl rfl (Nat.le_of_ble_eq_true rfl) (fun a ha => rfl) ?_
  show WW g _ _ 0 [(0, .ref o), (1, .int a1), (2, .int a2)] [] h 0 0 _
  unfold hX6_init
  refine WW.aload_n (pc := 0) (j := 0) rfl dX6_init_0 ?_
  refine WW.obj (pc := 1) ob_X6_3 h3 (Nat.le_of_ble_eq_true rfl) (Nat.le_of_ble_eq_true rfl) dX6_init_1 ?_
  refine WW.aload_n (pc := 4) (j := 0) rfl dX6_init_4 ?_
  refine WW.iload_n (pc := 5) (j := 1) rfl dX6_init_5 ?_
  refine WW.puti (pc := 6) (init := true) (ci := t) (k := 0) (by rcases mem5 ht with rfl | rfl | rfl | rfl | rfl <;> first | exact fp_X6_9_0i | exact fp_X6_9_4i | exact fp_X6_9_6i | exact fp_X6_9_8i | exact fp_X6_9_9i) (fun _ => rfl) h3 hs (Or.inl (by rcases mem5 ht with rfl | rfl | rfl | rfl | rfl <;> rfl)) dX6_init_6 ?_
  refine WW.aload_n (pc := 9) (j := 0) rfl dX6_init_9 ?_
  refine WW.iload_n (pc := 10) (j := 2) rfl dX6_init_10 ?_
  refine WW.puti (pc := 11) (init := true) (ci := t) (k := 1) (by rcases mem5 ht with rfl | rfl | rfl | rfl | rfl <;> first | exact fp_X6_15_0i | exact fp_X6_15_4i | exact fp_X6_15_6i | exact fp_X6_15_8i | exact fp_X6_15_9i) (fun _ => rfl) h3 hs (Or.inl (by rcases mem5 ht with rfl | rfl | rfl | rfl | rfl <;> rfl)) dX6_init_11 ?_
  exact WW.ret rfl rfl (show RetI M_X6_init 14 from dX6_init_14) ⟨(Nat.le_of_ble_eq_true rfl), (Nat.le_of_ble_eq_true rfl)⟩ rfl
def hX9_init (h : HP) (o : Nat) (n : Nat) (t : Nat) (a1 : Int32) (a2 : Int32) : HP := (hX6_init h o n t a1 a2)
set_option maxHeartbeats 4000000 in
set_option maxRecDepth 100000 in
theorem okX9_init (g : Gx) (h : HP) (o : Nat) (n : Nat) (t : Nat) (a1 : Int32) (a2 : Int32) (h3 : 3 ≤ o) (hn : 3 ≤ n) (hl : h.2.2.2.length = n) (hon : o < n) (ht : t ∈ nT) (hs : h.2.2.2[o]? = some (t, 0)) : CallR g M_X9_init eH [.ref o, .int a1, .int a2] h (some (hX9_init h o n t a1 a2)) := by
  refine CallR.intro rfl rfl (Nat.le_of_ble_eq_true rfl) (fun a ha => rfl) ?_
  show WW g _ _ 0 [(0, .ref o), (1, .int a1), (2, .int a2)] [] h 0 0 _
  unfold hX9_init
  refine WW.aload_n (pc := 0) (j := 0) rfl dX9_init_0 ?_
  refine WW.iload_n (pc := 1) (j := 1) rfl dX9_init_1 ?_
  refine WW.iload_n (pc := 2) (j := 2) rfl dX9_init_2 ?_
  refine WW.callI1 (pc := 3) (As := [.int a1, .int a2]) (st := []) lki_X9_1 (okX6_init g h o n t a1 a2 h3 hn hl hon ht hs) h3 rfl (Nat.le_of_ble_eq_true rfl) ⟨Nat.le_of_ble_eq_true rfl, Nat.le_of_ble_eq_true rfl, Nat.le_of_ble_eq_true rfl, Nat.le_of_ble_eq_true rfl⟩ dX9_init_3 rfl ?_
  show WW _ _ _ 6 _ [] _ 0 0 _
  exact WW.ret rfl rfl (show RetI M_X9_init 6 from dX9_init_6) ⟨(Nat.le_of_ble_eq_true rfl), (Nat.le_of_ble_eq_true rfl)⟩ rfl
def hX8_init (h : HP) (o : Nat) (n : Nat) (t : Nat) (a1 : Int32) (a2 : Int32) : HP := (hX6_init h o n t a1 a2)
set_option maxHeartbeats 4000000 in
set_option maxRecDepth 100000 in
theorem okX8_init (g : Gx) (h : HP) (o : Nat) (n : Nat) (t : Nat) (a1 : Int32) (a2 : Int32) (h3 : 3 ≤ o) (hn : 3 ≤ n) (hl : h.2.2.2.length = n) (hon : o < n) (ht : t ∈ nT) (hs : h.2.2.2[o]? = some (t, 0)) : CallR g M_X8_init eH [.ref o, .int a1, .int a2] h (some (hX8_init h o n t a1 a2)) := by
  refine CallR.intro rfl rfl (Nat.le_of_ble_eq_true rfl) (fun a ha => rfl) ?_
  show WW g _ _ 0 [(0, .ref o), (1, .int a1), (2, .int a2)] [] h 0 0 _
  unfold hX8_init
  refine WW.aload_n (pc := 0) (j := 0) rfl dX8_init_0 ?_
  refine WW.iload_n (pc := 1) (j := 1) rfl dX8_init_1 ?_
  refine WW.iload_n (pc := 2) (j := 2) rfl dX8_init_2 ?_
  refine WW.callI1 (pc := 3) (As := [.int a1, .int a2]) (st := []) lki_X8_1 (okX6_init g h o n t a1 a2 h3 hn hl hon ht hs) h3 rfl (Nat.le_of_ble_eq_true rfl) ⟨Nat.le_of_ble_eq_true rfl, Nat.le_of_ble_eq_true rfl, Nat.le_of_ble_eq_true rfl, Nat.le_of_ble_eq_true rfl⟩ dX8_init_3 rfl ?_
  show WW _ _ _ 6 _ [] _ 0 0 _
  exact WW.ret rfl rfl (show RetI M_X8_init 6 from dX8_init_6) ⟨(Nat.le_of_ble_eq_true rfl), (Nat.le_of_ble_eq_true rfl)⟩ rfl
def hX0_init (h : HP) (o : Nat) (n : Nat) (t : Nat) (a1 : Int32) (a2 : Int32) : HP := (hX9_init h o n t a1 a2)
set_option maxHeartbeats 4000000 in
set_option maxRecDepth 100000 in
theorem okX0_init (g : Gx) (h : HP) (o : Nat) (n : Nat) (t : Nat) (a1 : Int32) (a2 : Int32) (h3 : 3 ≤ o) (hn : 3 ≤ n) (hl : h.2.2.2.length = n) (hon : o < n) (ht : t ∈ nT) (hs : h.2.2.2[o]? = some (t, 0)) : CallR g M_X0_init eH [.ref o, .int a1, .int a2] h (some (hX0_init h o n t a1 a2)) := by
  refine CallR.intro rfl rfl (Nat.le_of_ble_eq_true rfl) (fun a ha => rfl) ?_
  show WW g _ _ 0 [(0, .ref o), (1, .int a1), (2, .int a2)] [] h 0 0 _
  unfold hX0_init
  refine WW.aload_n (pc := 0) (j := 0) rfl dX0_init_0 ?_
  refine WW.iload_n (pc := 1) (j := 1) rfl dX0_init_1 ?_
  refine WW.iload_n (pc := 2) (j := 2) rfl dX0_init_2 ?_
  refine WW.callI1 (pc := 3) (As := [.int a1, .int a2]) (st := []) lki_X0_3 (okX9_init g h o n t a1 a2 h3 hn hl hon ht hs) h3 rfl (Nat.le_of_ble_eq_true rfl) ⟨Nat.le_of_ble_eq_true rfl, Nat.le_of_ble_eq_true rfl, Nat.le_of_ble_eq_true rfl, Nat.le_of_ble_eq_true rfl⟩ dX0_init_3 rfl ?_
  show WW _ _ _ 6 _ [] _ 0 0 _
  exact WW.ret rfl rfl (show RetI M_X0_init 6 from dX0_init_6) ⟨(Nat.le_of_ble_eq_true rfl), (Nat.le_of_ble_eq_true rfl)⟩ rfl
def hX4_init (h : HP) (o : Nat) (n : Nat) (t : Nat) (a1 : Int32) (a2 : Int32) : HP := (hX9_init h o n t a1 a2)
set_option maxHeartbeats 4000000 in
set_option maxRecDepth 100000 in
theorem okX4_init (g : Gx) (h : HP) (o : Nat) (n : Nat) (t : Nat) (a1 : Int32) (a2 : Int32) (h3 : 3 ≤ o) (hn : 3 ≤ n) (hl : h.2.2.2.length = n) (hon : o < n) (ht : t ∈ nT) (hs : h.2.2.2[o]? = some (t, 0)) : CallR g M_X4_init eH [.ref o, .int a1, .int a2] h (some (hX4_init h o n t a1 a2)) := by
  refine CallR.intro rfl rfl (Nat.le_of_ble_eq_true rfl) (fun a ha => rfl) ?_
  show WW g _ _ 0 [(0, .ref o), (1, .int a1), (2, .int a2)] [] h 0 0 _
  unfold hX4_init
  refine WW.aload_n (pc := 0) (j := 0) rfl dX4_init_0 ?_
  refine WW.iload_n (pc := 1) (j := 1) rfl dX4_init_1 ?_
  refine WW.iload_n (pc := 2) (j := 2) rfl dX4_init_2 ?_
  refine WW.callI1 (pc := 3) (As := [.int a1, .int a2]) (st := []) lki_X4_1 (okX9_init g h o n t a1 a2 h3 hn hl hon ht hs) h3 rfl (Nat.le_of_ble_eq_true rfl) ⟨Nat.le_of_ble_eq_true rfl, Nat.le_of_ble_eq_true rfl, Nat.le_of_ble_eq_true rfl, Nat.le_of_ble_eq_true rfl⟩ dX4_init_3 rfl ?_
  show WW _ _ _ 6 _ [] _ 0 0 _
  exact WW.ret rfl rfl (show RetI M_X4_init 6 from dX4_init_6) ⟨(Nat.le_of_ble_eq_true rfl), (Nat.le_of_ble_eq_true rfl)⟩ rfl
def hX12_init (h : HP) (o : Nat) (n : Nat) : HP := (hp_pi (hp_pr (hp_nw (hp_pr (hp_nw (hp_pr (hp_nw (hp_pr (hp_nw (hp_pr (hp_nw (hp_pr (hp_nw (hp_pr (hp_nw (hp_pr (hp_nw (hp_pr (hp_nw (hp_pr (hp_nw (hp_pr (hp_nw h (20, 60)) o 0 n) (20, 4)) o 5 (n + 1)) (20, 4)) o 6 (n + 2)) (20, 4)) o 13 (n + 3)) (20, 4)) o 14 (n + 4)) (20, 4)) o 16 (n + 5)) (20, 4)) o 17 (n + 6)) (20, 8)) o 19 (n + 7)) (20, 8)) o 20 (n + 8)) (21, 64)) o 25 (n + 9)) (20, 4)) o 29 (n + 10)) o 4 0)
set_option maxHeartbeats 4000000 in
set_option maxRecDepth 100000 in
theorem okX12_init (g : Gx) (h : HP) (o : Nat) (n : Nat) (h3 : 3 ≤ o) (hn : 3 ≤ n) (hl : h.2.2.2.length = n) (hon : o < n) (hs : h.2.2.2[o]? = some (12, 0)) : CallR g M_X12_init eH [.ref o] h (some (hX12_init h o n)) := by
  refine CallR.intro rfl rfl (Nat.le_of_ble_eq_true rfl) (fun a ha => rfl) ?_
  show WW g _ _ 0 [(0, .ref o)] [] h 0 0 _
  unfold hX12_init
  refine WW.aload_n (pc := 0) (j := 0) rfl dX12_init_0 ?_
  refine WW.obj (pc := 1) ob_X12_1 h3 (Nat.le_of_ble_eq_true rfl) (Nat.le_of_ble_eq_true rfl) dX12_init_1 ?_
  refine WW.aload_n (pc := 4) (j := 0) rfl dX12_init_4 ?_
  refine WW.bipush (pc := 5) 60 dX12_init_5 rfl ?_
  refine WW.newan (pc := 7) (N := 60) hl (Or.inl ⟨rfl, rfl⟩) wd_106 (by decide) (by decide) (by decide) ⟨(Nat.le_of_ble_eq_true rfl), (Nat.le_of_ble_eq_true rfl)⟩ dX12_init_7 ?_
  refine WW.putr (pc := 9) fp_X12_7_12i (fun _ => rfl) h3 (nwo hs) (Or.inr ⟨_, gt_12_0⟩) (by omega) dX12_init_9 ?_
  refine WW.aload_n (pc := 12) (j := 0) rfl dX12_init_12 ?_
  refine WW.iconst (pc := 13) 4 dX12_init_13 rfl ?_
  refine WW.newan (pc := 14) (N := 4) (nwl hl) (Or.inl ⟨rfl, rfl⟩) wd_106 (by decide) (by decide) (by decide) ⟨(Nat.le_of_ble_eq_true rfl), (Nat.le_of_ble_eq_true rfl)⟩ dX12_init_14 ?_
  refine WW.putr (pc := 16) fp_X12_13_12i (fun _ => rfl) h3 (nwo (nwo hs)) (Or.inr ⟨_, gt_12_5⟩) (by omega) dX12_init_16 ?_
  refine WW.aload_n (pc := 19) (j := 0) rfl dX12_init_19 ?_
  refine WW.iconst (pc := 20) 4 dX12_init_20 rfl ?_
  refine WW.newan (pc := 21) (N := 4) (nwl (nwl hl)) (Or.inl ⟨rfl, rfl⟩) wd_106 (by decide) (by decide) (by decide) ⟨(Nat.le_of_ble_eq_true rfl), (Nat.le_of_ble_eq_true rfl)⟩ dX12_init_21 ?_
  refine WW.putr (pc := 23) fp_X12_16_12i (fun _ => rfl) h3 (nwo (nwo (nwo hs))) (Or.inr ⟨_, gt_12_6⟩) (by omega) dX12_init_23 ?_
  refine WW.aload_n (pc := 26) (j := 0) rfl dX12_init_26 ?_
  refine WW.iconst (pc := 27) 4 dX12_init_27 rfl ?_
  refine WW.newan (pc := 28) (N := 4) (nwl (nwl (nwl hl))) (Or.inl ⟨rfl, rfl⟩) wd_106 (by decide) (by decide) (by decide) ⟨(Nat.le_of_ble_eq_true rfl), (Nat.le_of_ble_eq_true rfl)⟩ dX12_init_28 ?_
  refine WW.putr (pc := 30) fp_X12_19_12i (fun _ => rfl) h3 (nwo (nwo (nwo (nwo hs)))) (Or.inr ⟨_, gt_12_13⟩) (by omega) dX12_init_30 ?_
  refine WW.aload_n (pc := 33) (j := 0) rfl dX12_init_33 ?_
  refine WW.iconst (pc := 34) 4 dX12_init_34 rfl ?_
  refine WW.newan (pc := 35) (N := 4) (nwl (nwl (nwl (nwl hl)))) (Or.inl ⟨rfl, rfl⟩) wd_106 (by decide) (by decide) (by decide) ⟨(Nat.le_of_ble_eq_true rfl), (Nat.le_of_ble_eq_true rfl)⟩ dX12_init_35 ?_
  refine WW.putr (pc := 37) fp_X12_22_12i (fun _ => rfl) h3 (nwo (nwo (nwo (nwo (nwo hs))))) (Or.inr ⟨_, gt_12_14⟩) (by omega) dX12_init_37 ?_
  refine WW.aload_n (pc := 40) (j := 0) rfl dX12_init_40 ?_
  refine WW.iconst (pc := 41) 4 dX12_init_41 rfl ?_
  refine WW.newan (pc := 42) (N := 4) (nwl (nwl (nwl (nwl (nwl hl))))) (Or.inl ⟨rfl, rfl⟩) wd_106 (by decide) (by decide) (by decide) ⟨(Nat.le_of_ble_eq_true rfl), (Nat.le_of_ble_eq_true rfl)⟩ dX12_init_42 ?_
  refine WW.putr (pc := 44) fp_X12_25_12i (fun _ => rfl) h3 (nwo (nwo (nwo (nwo (nwo (nwo hs)))))) (Or.inr ⟨_, gt_12_16⟩) (by omega) dX12_init_44 ?_
  refine WW.aload_n (pc := 47) (j := 0) rfl dX12_init_47 ?_
  refine WW.iconst (pc := 48) 4 dX12_init_48 rfl ?_
  refine WW.newan (pc := 49) (N := 4) (nwl (nwl (nwl (nwl (nwl (nwl hl)))))) (Or.inl ⟨rfl, rfl⟩) wd_106 (by decide) (by decide) (by decide) ⟨(Nat.le_of_ble_eq_true rfl), (Nat.le_of_ble_eq_true rfl)⟩ dX12_init_49 ?_
  refine WW.putr (pc := 51) fp_X12_28_12i (fun _ => rfl) h3 (nwo (nwo (nwo (nwo (nwo (nwo (nwo hs))))))) (Or.inr ⟨_, gt_12_17⟩) (by omega) dX12_init_51 ?_
  refine WW.aload_n (pc := 54) (j := 0) rfl dX12_init_54 ?_
  refine WW.bipush (pc := 55) 8 dX12_init_55 rfl ?_
  refine WW.newan (pc := 57) (N := 8) (nwl (nwl (nwl (nwl (nwl (nwl (nwl hl))))))) (Or.inl ⟨rfl, rfl⟩) wd_106 (by decide) (by decide) (by decide) ⟨(Nat.le_of_ble_eq_true rfl), (Nat.le_of_ble_eq_true rfl)⟩ dX12_init_57 ?_
  refine WW.putr (pc := 59) fp_X12_31_12i (fun _ => rfl) h3 (nwo (nwo (nwo (nwo (nwo (nwo (nwo (nwo hs)))))))) (Or.inr ⟨_, gt_12_19⟩) (by omega) dX12_init_59 ?_
  refine WW.aload_n (pc := 62) (j := 0) rfl dX12_init_62 ?_
  refine WW.bipush (pc := 63) 8 dX12_init_63 rfl ?_
  refine WW.newan (pc := 65) (N := 8) (nwl (nwl (nwl (nwl (nwl (nwl (nwl (nwl hl)))))))) (Or.inl ⟨rfl, rfl⟩) wd_106 (by decide) (by decide) (by decide) ⟨(Nat.le_of_ble_eq_true rfl), (Nat.le_of_ble_eq_true rfl)⟩ dX12_init_65 ?_
  refine WW.putr (pc := 67) fp_X12_34_12i (fun _ => rfl) h3 (nwo (nwo (nwo (nwo (nwo (nwo (nwo (nwo (nwo hs))))))))) (Or.inr ⟨_, gt_12_20⟩) (by omega) dX12_init_67 ?_
  refine WW.aload_n (pc := 70) (j := 0) rfl dX12_init_70 ?_
  refine WW.bipush (pc := 71) 64 dX12_init_71 rfl ?_
  refine WW.newan (pc := 73) (N := 64) (nwl (nwl (nwl (nwl (nwl (nwl (nwl (nwl (nwl hl))))))))) (Or.inr (Or.inl ⟨rfl, rfl⟩)) wd_267 (by decide) (by decide) (by decide) ⟨(Nat.le_of_ble_eq_true rfl), (Nat.le_of_ble_eq_true rfl)⟩ dX12_init_73 ?_
  refine WW.putr (pc := 75) fp_X12_37_12i (fun _ => rfl) h3 (nwo (nwo (nwo (nwo (nwo (nwo (nwo (nwo (nwo (nwo hs)))))))))) (Or.inr ⟨_, gt_12_25⟩) (by omega) dX12_init_75 ?_
  refine WW.aload_n (pc := 78) (j := 0) rfl dX12_init_78 ?_
  refine WW.iconst (pc := 79) 4 dX12_init_79 rfl ?_
  refine WW.newan (pc := 80) (N := 4) (nwl (nwl (nwl (nwl (nwl (nwl (nwl (nwl (nwl (nwl hl)))))))))) (Or.inl ⟨rfl, rfl⟩) wd_106 (by decide) (by decide) (by decide) ⟨(Nat.le_of_ble_eq_true rfl), (Nat.le_of_ble_eq_true rfl)⟩ dX12_init_80 ?_
  refine WW.putr (pc := 82) fp_X12_41_12i (fun _ => rfl) h3 (nwo (nwo (nwo (nwo (nwo (nwo (nwo (nwo (nwo (nwo (nwo hs))))))))))) (Or.inr ⟨_, gt_12_29⟩) (by omega) dX12_init_82 ?_
  refine WW.aload_n (pc := 85) (j := 0) rfl dX12_init_85 ?_
  refine WW.iconst (pc := 86) 0 dX12_init_86 rfl ?_
  refine WW.puti (pc := 87) fp_X12_44_12 (fun h => by cases h) h3 (nwo (nwo (nwo (nwo (nwo (nwo (nwo (nwo (nwo (nwo (nwo hs))))))))))) (Or.inl gt_12_4) dX12_init_87 ?_
  exact WW.ret rfl rfl (show RetI M_X12_init 90 from dX12_init_90) ⟨(Nat.le_of_ble_eq_true rfl), (Nat.le_of_ble_eq_true rfl)⟩ rfl
def hX11_init (h : HP) (o : Nat) (n : Nat) : HP := (hp_pr (hp_nw (hp_pr (hp_nw (hp_pr (hp_nw (hp_pr (hX10_init (hp_nw (hp_pr (hp_pr (hX2_init (hp_nw (hp_pr (hX3_init (hp_nw (hp_pr (hp_nw (hp_pr (hX5_init (hp_nw (hp_pr (hX5_init (hp_nw (hp_pr (hX7_init (hp_nw h (7, 0)) n (n + 1)) o 0 n) (5, 0)) (n + 2) (n + 3)) o 1 (n + 2)) (5, 0)) (n + 5) (n + 6)) o 2 (n + 5)) (23, 8)) o 5 (n + 8)) (3, 0)) (n + 9) (n + 10)) o 8 (n + 9)) (2, 0)) (n + 10) (n + 11)) o 9 (n + 10)) o 4 (n + 11)) (10, 0)) (n + 15) (n + 16)) o 10 (n + 15)) (22, 128)) o 11 (n + 16)) (20, 512)) o 12 (n + 17)) (21, 512)) o 13 (n + 18))
set_option maxHeartbeats 4000000 in
set_option maxRecDepth 100000 in
theorem okX11_init (g : Gx) (h : HP) (o : Nat) (n : Nat) (h3 : 3 ≤ o) (hn : 3 ≤ n) (hl : h.2.2.2.length = n) (hon : o < n) (hs : h.2.2.2[o]? = some (11, 0)) : CallR g M_X11_init eH [.ref o] h (some (hX11_init h o n)) := by
  refine CallR.intro rfl rfl (Nat.le_of_ble_eq_true rfl) (fun a ha => rfl) ?_
  show WW g _ _ 0 [(0, .ref o)] [] h 0 0 _
  unfold hX11_init
  refine WW.aload_n (pc := 0) (j := 0) rfl dX11_init_0 ?_
  refine WW.obj (pc := 1) ob_X11_1 h3 (Nat.le_of_ble_eq_true rfl) (Nat.le_of_ble_eq_true rfl) dX11_init_1 ?_
  refine WW.aload_n (pc := 4) (j := 0) rfl dX11_init_4 ?_
  refine WW.newn (pc := 5) hl lkc_X11_7 ⟨(Nat.le_of_ble_eq_true rfl), (Nat.le_of_ble_eq_true rfl)⟩ dX11_init_5 ?_
  refine WW.dup (pc := 8) rfl dX11_init_8 ?_
  refine WW.callI1 (pc := 9) (As := []) (st := [.ref n, .ref o]) lki_X11_9 (okX7_init g (hp_nw h (7, 0)) n (n + 1) (by omega) (by omega) (nwl hl) (by omega) (nwa hl)) (by omega) rfl (Nat.le_of_ble_eq_true rfl) ⟨Nat.le_of_ble_eq_true rfl, Nat.le_of_ble_eq_true rfl, Nat.le_of_ble_eq_true rfl, Nat.le_of_ble_eq_true rfl⟩ dX11_init_9 rfl ?_
  show WW _ _ _ 12 _ [.ref n, .ref o] _ 2 63 _
  refine WW.putr (pc := 12) fp_X11_10_11i (fun _ => rfl) h3 (nwo (nwo hs)) (Or.inl ⟨_, gt_11_0⟩) (by omega) dX11_init_12 ?_
  refine WW.aload_n (pc := 15) (j := 0) rfl dX11_init_15 ?_
  refine WW.newn (pc := 16) (nwl (nwl hl)) lkc_X11_16 ⟨(Nat.le_of_ble_eq_true rfl), (Nat.le_of_ble_eq_true rfl)⟩ dX11_init_16 ?_
  refine WW.dup (pc := 19) rfl dX11_init_19 ?_
  refine WW.callI1 (pc := 20) (As := []) (st := [.ref (n + 2), .ref o]) lki_X11_18 (okX5_init g (hp_nw (hp_pr (hX7_init (hp_nw h (7, 0)) n (n + 1)) o 0 n) (5, 0)) (n + 2) (n + 3) (by omega) (by omega) (nwl (nwl (nwl hl))) (by omega) (nwa (nwl (nwl hl)))) (by omega) rfl (Nat.le_of_ble_eq_true rfl) ⟨Nat.le_of_ble_eq_true rfl, Nat.le_of_ble_eq_true rfl, Nat.le_of_ble_eq_true rfl, Nat.le_of_ble_eq_true rfl⟩ dX11_init_20 rfl ?_
  show WW _ _ _ 23 _ [.ref (n + 2), .ref o] _ 5 77 _
  refine WW.putr (pc := 23) fp_X11_19_11 (fun h => by cases h) h3 (nwo (nwo (nwo (nwo (nwo hs))))) (Or.inl ⟨_, gt_11_1⟩) (by omega) dX11_init_23 ?_
  refine WW.aload_n (pc := 26) (j := 0) rfl dX11_init_26 ?_
  refine WW.newn (pc := 27) (nwl (nwl (nwl (nwl (nwl hl))))) lkc_X11_16 ⟨(Nat.le_of_ble_eq_true rfl), (Nat.le_of_ble_eq_true rfl)⟩ dX11_init_27 ?_
  refine WW.dup (pc := 30) rfl dX11_init_30 ?_
  refine WW.callI1 (pc := 31) (As := []) (st := [.ref (n + 5), .ref o]) lki_X11_18 (okX5_init g (hp_nw (hp_pr (hX5_init (hp_nw (hp_pr (hX7_init (hp_nw h (7, 0)) n (n + 1)) o 0 n) (5, 0)) (n + 2) (n + 3)) o 1 (n + 2)) (5, 0)) (n + 5) (n + 6) (by omega) (by omega) (nwl (nwl (nwl (nwl (nwl (nwl hl)))))) (by omega) (nwa (nwl (nwl (nwl (nwl (nwl hl))))))) (by omega) rfl (Nat.le_of_ble_eq_true rfl) ⟨Nat.le_of_ble_eq_true rfl, Nat.le_of_ble_eq_true rfl, Nat.le_of_ble_eq_true rfl, Nat.le_of_ble_eq_true rfl⟩ dX11_init_31 rfl ?_
  show WW _ _ _ 34 _ [.ref (n + 5), .ref o] _ 8 91 _
  refine WW.putr (pc := 34) fp_X11_23_11 (fun h => by cases h) h3 (nwo (nwo (nwo (nwo (nwo (nwo (nwo (nwo hs)))))))) (Or.inl ⟨_, gt_11_2⟩) (by omega) dX11_init_34 ?_
  refine WW.aload_n (pc := 37) (j := 0) rfl dX11_init_37 ?_
  refine WW.bipush (pc := 38) 8 dX11_init_38 rfl ?_
  refine WW.anewn (pc := 40) (N := 8) (nwl (nwl (nwl (nwl (nwl (nwl (nwl (nwl hl)))))))) wd_142 (by decide) (by decide) (by decide) ⟨(Nat.le_of_ble_eq_true rfl), (Nat.le_of_ble_eq_true rfl)⟩ dX11_init_40 ?_
  refine WW.putr (pc := 43) fp_X11_28_11i (fun _ => rfl) h3 (nwo (nwo (nwo (nwo (nwo (nwo (nwo (nwo (nwo hs))))))))) (Or.inr ⟨_, gt_11_5⟩) (by omega) dX11_init_43 ?_
  refine WW.aload_n (pc := 46) (j := 0) rfl dX11_init_46 ?_
  refine WW.newn (pc := 47) (nwl (nwl (nwl (nwl (nwl (nwl (nwl (nwl (nwl hl))))))))) lkc_X11_32 ⟨(Nat.le_of_ble_eq_true rfl), (Nat.le_of_ble_eq_true rfl)⟩ dX11_init_47 ?_
  refine WW.dup (pc := 50) rfl dX11_init_50 ?_
  refine WW.callI1 (pc := 51) (As := []) (st := [.ref (n + 9), .ref o]) lki_X11_34 (okX3_init g (hp_nw (hp_pr (hp_nw (hp_pr (hX5_init (hp_nw (hp_pr (hX5_init (hp_nw (hp_pr (hX7_init (hp_nw h (7, 0)) n (n + 1)) o 0 n) (5, 0)) (n + 2) (n + 3)) o 1 (n + 2)) (5, 0)) (n + 5) (n + 6)) o 2 (n + 5)) (23, 8)) o 5 (n + 8)) (3, 0)) (n + 9) (n + 10) (by omega) (by omega) (nwl (nwl (nwl (nwl (nwl (nwl (nwl (nwl (nwl (nwl hl)))))))))) (by omega) (nwa (nwl (nwl (nwl (nwl (nwl (nwl (nwl (nwl (nwl hl))))))))))) (by omega) rfl (Nat.le_of_ble_eq_true rfl) ⟨Nat.le_of_ble_eq_true rfl, Nat.le_of_ble_eq_true rfl, Nat.le_of_ble_eq_true rfl, Nat.le_of_ble_eq_true rfl⟩ dX11_init_51 rfl ?_
  show WW _ _ _ 54 _ [.ref (n + 9), .ref o] _ 10 102 _
  refine WW.putr (pc := 54) fp_X11_35_11i (fun _ => rfl) h3 (nwo (nwo (nwo (nwo (nwo (nwo (nwo (nwo (nwo (nwo hs)))))))))) (Or.inl ⟨_, gt_11_8⟩) (by omega) dX11_init_54 ?_
  refine WW.aload_n (pc := 57) (j := 0) rfl dX11_init_57 ?_
  refine WW.newn (pc := 58) (nwl (nwl (nwl (nwl (nwl (nwl (nwl (nwl (nwl (nwl hl)))))))))) lkc_X11_39 ⟨(Nat.le_of_ble_eq_true rfl), (Nat.le_of_ble_eq_true rfl)⟩ dX11_init_58 ?_
  refine WW.dup (pc := 61) rfl dX11_init_61 ?_
  refine WW.callI1 (pc := 62) (As := []) (st := [.ref (n + 10), .ref o]) lki_X11_41 (okX2_init g (hp_nw (hp_pr (hX3_init (hp_nw (hp_pr (hp_nw (hp_pr (hX5_init (hp_nw (hp_pr (hX5_init (hp_nw (hp_pr (hX7_init (hp_nw h (7, 0)) n (n + 1)) o 0 n) (5, 0)) (n + 2) (n + 3)) o 1 (n + 2)) (5, 0)) (n + 5) (n + 6)) o 2 (n + 5)) (23, 8)) o 5 (n + 8)) (3, 0)) (n + 9) (n + 10)) o 8 (n + 9)) (2, 0)) (n + 10) (n + 11) (by omega) (by omega) (nwl (nwl (nwl (nwl (nwl (nwl (nwl (nwl (nwl (nwl (nwl hl))))))))))) (by omega) (nwa (nwl (nwl (nwl (nwl (nwl (nwl (nwl (nwl (nwl (nwl hl)))))))))))) (by omega) rfl (Nat.le_of_ble_eq_true rfl) ⟨Nat.le_of_ble_eq_true rfl, Nat.le_of_ble_eq_true rfl, Nat.le_of_ble_eq_true rfl, Nat.le_of_ble_eq_true rfl⟩ dX11_init_62 rfl ?_
  show WW _ _ _ 65 _ [.ref (n + 10), .ref o] _ 15 124 _
  refine WW.putr (pc := 65) fp_X11_42_11i (fun _ => rfl) h3 (nwo (nwo (nwo (nwo (nwo (nwo (nwo (nwo (nwo (nwo (nwo (nwo (nwo (nwo (nwo hs))))))))))))))) (Or.inl ⟨_, gt_11_9⟩) (by omega) dX11_init_65 ?_
  refine WW.aload_n (pc := 68) (j := 0) rfl dX11_init_68 ?_
  refine WW.aload_n (pc := 69) (j := 0) rfl dX11_init_69 ?_
  refine WW.getf (pc := 70) (.ref (n + 10)) fl_X11_42_11 h3 (nwo (nwo (nwo (nwo (nwo (nwo (nwo (nwo (nwo (nwo (nwo (nwo (nwo (nwo (nwo hs))))))))))))))) (gfr gt_11_9 prs) dX11_init_70 ?_
  refine WW.getf (pc := 73) (.ref (n + 11)) fl_X11_46_2 (by omega) (nwo (nwo (nwo (nwo (nwa (nwl (nwl (nwl (nwl (nwl (nwl (nwl (nwl (nwl (nwl hl))))))))))))))) (gfr gt_2_0 (pro (by omega) (x2_buy (nwl (nwl (nwl (nwl (nwl (nwl (nwl (nwl (nwl (nwl (nwl hl))))))))))) (by omega)))) dX11_init_73 ?_
  refine WW.putr (pc := 76) fp_X11_50_11i (fun _ => rfl) h3 (nwo (nwo (nwo (nwo (nwo (nwo (nwo (nwo (nwo (nwo (nwo (nwo (nwo (nwo (nwo hs))))))))))))))) (Or.inl ⟨_, gt_11_4⟩) (by omega) dX11_init_76 ?_
  refine WW.aload_n (pc := 79) (j := 0) rfl dX11_init_79 ?_
  refine WW.newn (pc := 80) (nwl (nwl (nwl (nwl (nwl (nwl (nwl (nwl (nwl (nwl (nwl (nwl (nwl (nwl (nwl hl))))))))))))))) lkc_X11_51 ⟨(Nat.le_of_ble_eq_true rfl), (Nat.le_of_ble_eq_true rfl)⟩ dX11_init_80 ?_
  refine WW.dup (pc := 83) rfl dX11_init_83 ?_
  refine WW.callI1 (pc := 84) (As := []) (st := [.ref (n + 15), .ref o]) lki_X11_53 (okX10_init g (hp_nw (hp_pr (hp_pr (hX2_init (hp_nw (hp_pr (hX3_init (hp_nw (hp_pr (hp_nw (hp_pr (hX5_init (hp_nw (hp_pr (hX5_init (hp_nw (hp_pr (hX7_init (hp_nw h (7, 0)) n (n + 1)) o 0 n) (5, 0)) (n + 2) (n + 3)) o 1 (n + 2)) (5, 0)) (n + 5) (n + 6)) o 2 (n + 5)) (23, 8)) o 5 (n + 8)) (3, 0)) (n + 9) (n + 10)) o 8 (n + 9)) (2, 0)) (n + 10) (n + 11)) o 9 (n + 10)) o 4 (n + 11)) (10, 0)) (n + 15) (n + 16) (by omega) (by omega) (nwl (nwl (nwl (nwl (nwl (nwl (nwl (nwl (nwl (nwl (nwl (nwl (nwl (nwl (nwl (nwl hl)))))))))))))))) (by omega) (nwa (nwl (nwl (nwl (nwl (nwl (nwl (nwl (nwl (nwl (nwl (nwl (nwl (nwl (nwl (nwl hl))))))))))))))))) (by omega) rfl (Nat.le_of_ble_eq_true rfl) ⟨Nat.le_of_ble_eq_true rfl, Nat.le_of_ble_eq_true rfl, Nat.le_of_ble_eq_true rfl, Nat.le_of_ble_eq_true rfl⟩ dX11_init_84 rfl ?_
  show WW _ _ _ 87 _ [.ref (n + 15), .ref o] _ 16 125 _
  refine WW.putr (pc := 87) fp_X11_54_11i (fun _ => rfl) h3 (nwo (nwo (nwo (nwo (nwo (nwo (nwo (nwo (nwo (nwo (nwo (nwo (nwo (nwo (nwo (nwo hs)))))))))))))))) (Or.inl ⟨_, gt_11_10⟩) (by omega) dX11_init_87 ?_
  refine WW.aload_n (pc := 90) (j := 0) rfl dX11_init_90 ?_
  refine WW.sipush (pc := 91) 128 dX11_init_91 rfl ?_
  refine WW.newan (pc := 94) (N := 128) (nwl (nwl (nwl (nwl (nwl (nwl (nwl (nwl (nwl (nwl (nwl (nwl (nwl (nwl (nwl (nwl hl)))))))))))))))) (Or.inr (Or.inr ⟨rfl, rfl⟩)) wd_266 (by decide) (by decide) (by decide) ⟨(Nat.le_of_ble_eq_true rfl), (Nat.le_of_ble_eq_true rfl)⟩ dX11_init_94 ?_
  refine WW.putr (pc := 96) fp_X11_58_11i (fun _ => rfl) h3 (nwo (nwo (nwo (nwo (nwo (nwo (nwo (nwo (nwo (nwo (nwo (nwo (nwo (nwo (nwo (nwo (nwo hs))))))))))))))))) (Or.inr ⟨_, gt_11_11⟩) (by omega) dX11_init_96 ?_
  refine WW.aload_n (pc := 99) (j := 0) rfl dX11_init_99 ?_
  refine WW.sipush (pc := 100) 512 dX11_init_100 rfl ?_
  refine WW.newan (pc := 103) (N := 512) (nwl (nwl (nwl (nwl (nwl (nwl (nwl (nwl (nwl (nwl (nwl (nwl (nwl (nwl (nwl (nwl (nwl hl))))))))))))))))) (Or.inl ⟨rfl, rfl⟩) wd_106 (by decide) (by decide) (by decide) ⟨(Nat.le_of_ble_eq_true rfl), (Nat.le_of_ble_eq_true rfl)⟩ dX11_init_103 ?_
  refine WW.putr (pc := 105) fp_X11_62_11i (fun _ => rfl) h3 (nwo (nwo (nwo (nwo (nwo (nwo (nwo (nwo (nwo (nwo (nwo (nwo (nwo (nwo (nwo (nwo (nwo (nwo hs)))))))))))))))))) (Or.inr ⟨_, gt_11_12⟩) (by omega) dX11_init_105 ?_
  refine WW.aload_n (pc := 108) (j := 0) rfl dX11_init_108 ?_
  refine WW.sipush (pc := 109) 512 dX11_init_109 rfl ?_
  refine WW.newan (pc := 112) (N := 512) (nwl (nwl (nwl (nwl (nwl (nwl (nwl (nwl (nwl (nwl (nwl (nwl (nwl (nwl (nwl (nwl (nwl (nwl hl)))))))))))))))))) (Or.inr (Or.inl ⟨rfl, rfl⟩)) wd_267 (by decide) (by decide) (by decide) ⟨(Nat.le_of_ble_eq_true rfl), (Nat.le_of_ble_eq_true rfl)⟩ dX11_init_112 ?_
  refine WW.putr (pc := 114) fp_X11_66_11i (fun _ => rfl) h3 (nwo (nwo (nwo (nwo (nwo (nwo (nwo (nwo (nwo (nwo (nwo (nwo (nwo (nwo (nwo (nwo (nwo (nwo (nwo hs))))))))))))))))))) (Or.inr ⟨_, gt_11_13⟩) (by omega) dX11_init_114 ?_
  exact WW.ret rfl rfl (show RetI M_X11_init 117 from dX11_init_117) ⟨(Nat.le_of_ble_eq_true rfl), (Nat.le_of_ble_eq_true rfl)⟩ rfl
