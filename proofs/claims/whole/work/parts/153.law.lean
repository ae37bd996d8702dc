/-! the law as a whole, for whatever holds between its turns -/
def Op0 (Inv : Dd → Rh → Prop) : Prop := ∀ (d : Dd) (ρ : Rh), Inv d ρ → ∀ (x : Int64), ∃ (r : Int32) (d1 : Dd) (d2 : Dd), (fX11_letters ρ d x = some (r, d1)) ∧ (fX12_letters ρ d1 x = some (r, d2)) ∧ Inv d2 ρ ∧ d1.1 2 = d.1 2
def Op1 (Inv : Dd → Rh → Prop) : Prop := ∀ (d : Dd) (ρ : Rh), Inv d ρ → ∃ (r : Int32) (d1 : Dd) (d2 : Dd), (fX11_blank ρ d = some (r, d1)) ∧ (fX12_blank ρ d1 = some (r, d2)) ∧ Inv d2 ρ ∧ d1.1 2 = d.1 2
def Op2 (Inv : Dd → Rh → Prop) : Prop := ∀ (d : Dd) (ρ : Rh), Inv d ρ → ∃ (r : Int32) (d1 : Dd) (d2 : Dd), (fX11_fault ρ d = some (r, d1)) ∧ (fX12_fault ρ d1 = some (r, d2)) ∧ Inv d2 ρ ∧ d1.1 2 = d.1 2
def Op3 (Inv : Dd → Rh → Prop) : Prop := ∀ (d : Dd) (ρ : Rh), Inv d ρ → ∃ (r : Int32) (d1 : Dd) (d2 : Dd) (ρ1 : Rh), (fX11_market ρ d = some (r, d1, ρ1)) ∧ (fX12_market ρ1 d1 = some (r, d2)) ∧ Inv d2 ρ1 ∧ d1.1 2 = d.1 2 ∧ ρ1.2.2 = ρ.2.2 ∧ Hr ρ1
def Op4 (Inv : Dd → Rh → Prop) : Prop := ∀ (d : Dd) (ρ : Rh), Inv d ρ → ∀ (x1 : Int32) (x2 : Int32), ∃ (r : Int32), (fX11_told ρ d x1 x2 = some r) ∧ (fX12_told ρ d x1 x2 = some r) ∧ Inv d ρ
def Op5 (Inv : Dd → Rh → Prop) : Prop := ∀ (d : Dd) (ρ : Rh), Inv d ρ → ∀ (x1 : Int32) (x2 : Int32), ∃ (r : Int32) (d1 : Dd) (d2 : Dd), (fX11_buyer ρ d x1 x2 = some (r, d1)) ∧ (fX12_buyer ρ d1 x1 x2 = some (r, d2)) ∧ Inv d2 ρ ∧ d1.1 2 = d.1 2
def Op6 (Inv : Dd → Rh → Prop) : Prop := ∀ (d : Dd) (ρ : Rh), Inv d ρ → ∀ (x1 : Int32) (x2 : Int32) (x3 : Int32), ∃ (r : Int32) (d1 : Dd) (d2 : Dd), (fX11_change ρ d x1 x2 x3 = some (r, d1)) ∧ (fX12_change ρ d1 x1 x2 x3 = some (r, d2)) ∧ Inv d2 ρ ∧ d1.1 2 = d.1 2
def Op7 (Inv : Dd → Rh → Prop) : Prop := ∀ (d : Dd) (ρ : Rh), Inv d ρ → ∀ (x1 : Int32) (x2 : Int32), ∃ (r : Int32) (d1 : Dd) (d2 : Dd) (ρ1 : Rh), (fX11_news ρ d x1 x2 = some (r, d1, ρ1)) ∧ (fX12_news ρ1 d1 x1 x2 = some (r, d2)) ∧ Inv d2 ρ1 ∧ d1.1 2 = d.1 2 ∧ ρ1.2.2 = ρ.2.2 ∧ Hr ρ1
def Op8 (Inv : Dd → Rh → Prop) : Prop := ∀ (d : Dd) (ρ : Rh), Inv d ρ → ∀ (x1 : Int32) (x2 : Int32), ∃ (r : Int32), (fX11_as ρ d x1 x2 = some r) ∧ (fX12_as ρ d x1 x2 = some r) ∧ Inv d ρ
def Op9 (Inv : Dd → Rh → Prop) : Prop := ∀ (d : Dd) (ρ : Rh), Inv d ρ → ∀ (x1 : Int32) (x2 : Int32) (x3 : Int32), ∃ (r : Int64) (d1 : Dd), (fX11_heard ρ d x1 x2 x3 = some (r, d1)) ∧ (fX12_heard ρ d1 x1 x2 x3 = some r) ∧ Inv d1 ρ ∧ d1.1 2 = d.1 2
def Op10 (Inv : Dd → Rh → Prop) : Prop := ∀ (d : Dd) (ρ : Rh), Inv d ρ → ∀ (x1 : Int32) (x2 : Int32) (x3 : Int32), ∃ (r : Int64) (d1 : Dd), (fX11_edge ρ d x1 x2 x3 = some (r, d1)) ∧ (fX12_edge ρ d1 x1 x2 x3 = some r) ∧ Inv d1 ρ ∧ d1.1 2 = d.1 2
def Op11 (Inv : Dd → Rh → Prop) : Prop := ∀ (d : Dd) (ρ : Rh), Inv d ρ → ∀ (x1 : Int32) (x2 : Int32) (x3 : Int32) (x4 : Int32), ∃ (r : Int32) (d1 : Dd) (d2 : Dd), (fX11_rests ρ d x1 x2 x3 x4 = some (r, d1)) ∧ (fX12_rests ρ d1 x1 x2 x3 x4 = some (r, d2)) ∧ Inv d2 ρ ∧ d1.1 2 = d.1 2
def Op12 (Inv : Dd → Rh → Prop) : Prop := ∀ (d : Dd) (ρ : Rh), Inv d ρ → ∀ (x1 : Int32) (x2 : Int32) (x3 : Int32) (x4 : Int32) (x5 : Int32), ∃ (r : Int64) (d1 : Dd) (d2 : Dd), (fX11_makes ρ d x1 x2 x3 x4 x5 = some (r, d1)) ∧ (fX12_makes ρ d1 x1 x2 x3 x4 x5 = some (r, d2)) ∧ Inv d2 ρ ∧ d1.1 2 = d.1 2
def Op13 (Inv : Dd → Rh → Prop) : Prop := ∀ (d : Dd) (ρ : Rh), Inv d ρ → ∀ (x1 : Int32) (x2 : Int32) (x3 : Int32) (x4 : Int32), ∃ (r : Int64) (d1 : Dd) (d2 : Dd), (fX11_worth ρ d x1 x2 x3 x4 = some (r, d1)) ∧ (fX12_worth ρ d1 x1 x2 x3 x4 = some (r, d2)) ∧ Inv d2 ρ ∧ d1.1 2 = d.1 2
def Op14 (Inv : Dd → Rh → Prop) : Prop := ∀ (d : Dd) (ρ : Rh), Inv d ρ → ∀ (x1 : Int32) (x2 : Int32), ∃ (r : Int32) (d1 : Dd) (d2 : Dd), (fX11_whom ρ d x1 x2 = some (r, d1)) ∧ (fX12_whom ρ d1 x1 x2 = some (r, d2)) ∧ Inv d2 ρ ∧ d1.1 2 = d.1 2
def Op15 (Inv : Dd → Rh → Prop) : Prop := ∀ (d : Dd) (ρ : Rh), Inv d ρ → ∀ (x1 : Int32), ∃ (r : Int32) (d1 : Dd) (d2 : Dd), (fX11_plainly ρ d x1 = some (r, d1)) ∧ (fX12_plainly ρ d1 x1 = some (r, d2)) ∧ Inv d2 ρ ∧ d1.1 2 = d.1 2
def Op16 (Inv : Dd → Rh → Prop) : Prop := ∀ (d : Dd) (ρ : Rh), Inv d ρ → ∀ (x1 : Int32) (x2 : Int32), ∃ (r : Int32) (d1 : Dd) (d2 : Dd), (fX11_more ρ d x1 x2 = some (r, d1)) ∧ (fX12_more ρ d1 x1 x2 = some (r, d2)) ∧ Inv d2 ρ ∧ d1.1 2 = d.1 2
def Op17 (Inv : Dd → Rh → Prop) : Prop := ∀ (d : Dd) (ρ : Rh), Inv d ρ → ∀ (x1 : Int32) (x2 : Int32) (x3 : Int32), ∃ (r : Int64) (d1 : Dd) (d2 : Dd), (fX11_pledge ρ d x1 x2 x3 = some (r, d1)) ∧ (fX12_pledge ρ d1 x1 x2 x3 = some (r, d2)) ∧ Inv d2 ρ ∧ d1.1 2 = d.1 2
def Op18 (Inv : Dd → Rh → Prop) : Prop := ∀ (d : Dd) (ρ : Rh), Inv d ρ → ∀ (x1 : Int32) (x2 : Int32) (x3 : Int32), ∃ (r : Int32) (d1 : Dd) (d2 : Dd), (fX11_on ρ d x1 x2 x3 = some (r, d1)) ∧ (fX12_on ρ d1 x1 x2 x3 = some (r, d2)) ∧ Inv d2 ρ ∧ d1.1 2 = d.1 2
def Op19 (Inv : Dd → Rh → Prop) : Prop := ∀ (d : Dd) (ρ : Rh), Inv d ρ → ∀ (x1 : Int32) (x2 : Int32) (x3 : Int32), ∃ (r : Int64) (d1 : Dd) (d2 : Dd), (fX11_shut ρ d x1 x2 x3 = some (r, d1)) ∧ (fX12_shut ρ d1 x1 x2 x3 = some (r, d2)) ∧ Inv d2 ρ ∧ d1.1 2 = d.1 2
def Op20 (Inv : Dd → Rh → Prop) : Prop := ∀ (d : Dd) (ρ : Rh), Inv d ρ → ∀ (x1 : Int32) (x2 : Int32) (x3 : Int32) (x4 : Int32) (x5 : Int32) (x6 : Int32), ∃ (r : Int64) (d1 : Dd) (d2 : Dd), (fX11_wrongly ρ d x1 x2 x3 x4 x5 x6 = some (r, d1)) ∧ (fX12_wrongly ρ d1 x1 x2 x3 x4 x5 x6 = some (r, d2)) ∧ Inv d2 ρ ∧ d1.1 2 = d.1 2
def Op21 (Inv : Dd → Rh → Prop) : Prop := ∀ (d : Dd) (ρ : Rh), Inv d ρ → ∀ (x1 : Int32) (x2 : Int32), ∃ (r : Int32) (d1 : Dd) (d2 : Dd), (fX11_shown ρ d x1 x2 = some (r, d1)) ∧ (fX12_shown ρ d1 x1 x2 = some (r, d2)) ∧ Inv d2 ρ ∧ d1.1 2 = d.1 2
def Op22 (Inv : Dd → Rh → Prop) : Prop := ∀ (d : Dd) (ρ : Rh), Inv d ρ → ∀ (x1 : Int32) (x2 : Int32) (x3 : Int32) (x4 : Int32), ∃ (r : Int64) (d1 : Dd) (d2 : Dd), (fX11_thought ρ d x1 x2 x3 x4 = some (r, d1)) ∧ (fX12_thought ρ d1 x1 x2 x3 x4 = some (r, d2)) ∧ Inv d2 ρ ∧ d1.1 2 = d.1 2
def Op23 (Inv : Dd → Rh → Prop) : Prop := ∀ (d : Dd) (ρ : Rh), Inv d ρ → ∀ (x1 : Int32), ∃ (r : Int64), (fX11_bound ρ d x1 = some r) ∧ (fX12_bound ρ d x1 = some r) ∧ Inv d ρ
def Op24 (Inv : Dd → Rh → Prop) : Prop := ∀ (d : Dd) (ρ : Rh), Inv d ρ → ∀ (x1 : Int32) (x2 : Int32) (x3 : Int32) (x4 : Int32) (x5 : Int32), ∃ (r : Int32) (d1 : Dd) (d2 : Dd), (fX11_run ρ d x1 x2 x3 x4 x5 = some (r, d1)) ∧ (fX12_run ρ d1 x1 x2 x3 x4 x5 = some (r, d2)) ∧ Inv d2 ρ ∧ d1.1 2 = d.1 2
def Op25 (Inv : Dd → Rh → Prop) : Prop := ∀ (d : Dd) (ρ : Rh), Inv d ρ → ∀ (x1 : Int32), ∃ (r : Int32), (fX11_count ρ d x1 = some r) ∧ (fX12_count ρ d x1 = some r) ∧ Inv d ρ
def Op26 (Inv : Dd → Rh → Prop) : Prop := ∀ (d : Dd) (ρ : Rh), Inv d ρ → ∃ (r : Int64) (d1 : Dd) (d2 : Dd), (fX11_digest ρ d = some (r, d1)) ∧ (fX12_digest ρ d1 = some (r, d2)) ∧ Inv d2 ρ ∧ d1.1 2 = d.1 2
def Ops (Inv : Dd → Rh → Prop) : Prop := Op0 Inv ∧ Op1 Inv ∧ Op2 Inv ∧ Op3 Inv ∧ Op4 Inv ∧ Op5 Inv ∧ Op6 Inv ∧ Op7 Inv ∧ Op8 Inv ∧ Op9 Inv ∧ Op10 Inv ∧ Op11 Inv ∧ Op12 Inv ∧ Op13 Inv ∧ Op14 Inv ∧ Op15 Inv ∧ Op16 Inv ∧ Op17 Inv ∧ Op18 Inv ∧ Op19 Inv ∧ Op20 Inv ∧ Op21 Inv ∧ Op22 Inv ∧ Op23 Inv ∧ Op24 Inv ∧ Op25 Inv ∧ Op26 Inv
set_option maxHeartbeats 4000000 in
set_option maxRecDepth 100000 in
theorem law_turn {Inv : Dd → Rh → Prop} (hO : Ops Inv) (hH : ∀ d ρ, Inv d ρ → Hr ρ) {d : Dd} {ρ : Rh} (hI : Inv d ρ) {i : Int32} (v : Int32) (hin : ∀ j : Int32, j ∈ [1, 2, 3, 4, 5, 6] → inB (i + j) ρ.2.2 = true) : ∃ (d2 : Dd) (ρ2 : Rh), Inv d2 ρ2 ∧ ρ2.2.2 = ρ.2.2 ∧ ∀ (g : Gx) (hf : HP) (kc ks : Nat), kc + 1 ≤ 600000 ∧ ks + 2 ≤ 7302250 → WW g M_L_law (eF hf) 1189 (LH i) [] (full d2 ρ2) (kc + 1) (ks + 2) (some ()) → WW g M_L_law (eF hf) 33 (LH i) [.int v] (full d ρ) kc ks (some ()) := by
  have hρ := hH d ρ hI
  obtain ⟨o0, o1, o2, o3, o4, o5, o6, o7, o8, o9, o10, o11, o12, o13, o14, o15, o16, o17, o18, o19, o20, o21, o22, o23, o24, o25, o26⟩ := hO
  by_cases c0 : v = 0
  · obtain ⟨r, d1, d2, e1, e2, hI2, hrow⟩ := o0 d ρ hI ((jlshl (Int32.toInt64 (d_i d 2 (ix (i + 1)))) 32) ||| ((Int32.toInt64 (d_i d 2 (ix (i + 2)))) &&& 4294967295))
    refine ⟨d2, ρ, hI2, rfl, fun g hf kc ks hk kk => ?_⟩
    refine WW.tabIn (pc := 33) 0 156 c0 dL_law_33 (by decide) (by decide) rfl (by decide) ?_
    have hs : ∀ k, d_i d1 2 k = d_i d 2 k := fun k => congrFun hrow k
    exact law_0 hρ hk hin e1 (by simp only [hs]; exact e2) kk
  by_cases c1 : v = 1
  · obtain ⟨r, d1, d2, e1, e2, hI2, hrow⟩ := o1 d ρ hI 
    refine ⟨d2, ρ, hI2, rfl, fun g hf kc ks hk kk => ?_⟩
    refine WW.tabIn (pc := 33) 1 209 c1 dL_law_33 (by decide) (by decide) rfl (by decide) ?_
    exact law_1 hρ hk hin e1 e2 kk
  by_cases c2 : v = 2
  · obtain ⟨r, d1, d2, e1, e2, hI2, hrow⟩ := o2 d ρ hI 
    refine ⟨d2, ρ, hI2, rfl, fun g hf kc ks hk kk => ?_⟩
    refine WW.tabIn (pc := 33) 2 222 c2 dL_law_33 (by decide) (by decide) rfl (by decide) ?_
    exact law_2 hρ hk hin e1 e2 kk
  by_cases c3 : v = 3
  · obtain ⟨r, d1, d2, ρ1, e1, e2, hI2, hrow, hL1, hρ1⟩ := o3 d ρ hI 
    refine ⟨d2, ρ1, hI2, hL1, fun g hf kc ks hk kk => ?_⟩
    refine WW.tabIn (pc := 33) 3 235 c3 dL_law_33 (by decide) (by decide) rfl (by decide) ?_
    exact law_3 hρ hρ1 hk hin hL1 e1 e2 kk
  by_cases c4 : v = 4
  · obtain ⟨r, e1, e2, hI2⟩ := o4 d ρ hI (d_i d 2 (ix (i + 1))) (d_i d 2 (ix (i + 2)))
    refine ⟨d, ρ, hI2, rfl, fun g hf kc ks hk kk => ?_⟩
    refine WW.tabIn (pc := 33) 4 248 c4 dL_law_33 (by decide) (by decide) rfl (by decide) ?_
    exact law_4 hρ hk hin e1 e2 kk
  by_cases c5 : v = 5
  · obtain ⟨r, d1, d2, e1, e2, hI2, hrow⟩ := o5 d ρ hI (d_i d 2 (ix (i + 1))) (d_i d 2 (ix (i + 2)))
    refine ⟨d2, ρ, hI2, rfl, fun g hf kc ks hk kk => ?_⟩
    refine WW.tabIn (pc := 33) 5 281 c5 dL_law_33 (by decide) (by decide) rfl (by decide) ?_
    have hs : ∀ k, d_i d1 2 k = d_i d 2 k := fun k => congrFun hrow k
    exact law_5 hρ hk hin e1 (by simp only [hs]; exact e2) kk
  by_cases c6 : v = 6
  · obtain ⟨r, d1, d2, e1, e2, hI2, hrow⟩ := o6 d ρ hI (d_i d 2 (ix (i + 1))) (d_i d 2 (ix (i + 2))) (d_i d 2 (ix (i + 3)))
    refine ⟨d2, ρ, hI2, rfl, fun g hf kc ks hk kk => ?_⟩
    refine WW.tabIn (pc := 33) 6 314 c6 dL_law_33 (by decide) (by decide) rfl (by decide) ?_
    have hs : ∀ k, d_i d1 2 k = d_i d 2 k := fun k => congrFun hrow k
    exact law_6 hρ hk hin e1 (by simp only [hs]; exact e2) kk
  by_cases c7 : v = 7
  · obtain ⟨r, d1, d2, ρ1, e1, e2, hI2, hrow, hL1, hρ1⟩ := o7 d ρ hI (d_i d 2 (ix (i + 1))) (d_i d 2 (ix (i + 2)))
    refine ⟨d2, ρ1, hI2, hL1, fun g hf kc ks hk kk => ?_⟩
    refine WW.tabIn (pc := 33) 7 357 c7 dL_law_33 (by decide) (by decide) rfl (by decide) ?_
    have hs : ∀ k, d_i d1 2 k = d_i d 2 k := fun k => congrFun hrow k
    exact law_7 hρ hρ1 hk hin hL1 e1 (by simp only [hs]; exact e2) kk
  by_cases c8 : v = 8
  · obtain ⟨r, e1, e2, hI2⟩ := o8 d ρ hI (d_i d 2 (ix (i + 1))) (d_i d 2 (ix (i + 2)))
    refine ⟨d, ρ, hI2, rfl, fun g hf kc ks hk kk => ?_⟩
    refine WW.tabIn (pc := 33) 8 390 c8 dL_law_33 (by decide) (by decide) rfl (by decide) ?_
    exact law_8 hρ hk hin e1 e2 kk
  by_cases c9 : v = 9
  · obtain ⟨r, d1, e1, e2, hI2, hrow⟩ := o9 d ρ hI (d_i d 2 (ix (i + 1))) (d_i d 2 (ix (i + 2))) (d_i d 2 (ix (i + 3)))
    refine ⟨d1, ρ, hI2, rfl, fun g hf kc ks hk kk => ?_⟩
    refine WW.tabIn (pc := 33) 9 423 c9 dL_law_33 (by decide) (by decide) rfl (by decide) ?_
    have hs : ∀ k, d_i d1 2 k = d_i d 2 k := fun k => congrFun hrow k
    exact law_9 hρ hk hin e1 (by simp only [hs]; exact e2) kk
  by_cases c10 : v = 10
  · obtain ⟨r, d1, e1, e2, hI2, hrow⟩ := o10 d ρ hI (d_i d 2 (ix (i + 1))) (d_i d 2 (ix (i + 2))) (d_i d 2 (ix (i + 3)))
    refine ⟨d1, ρ, hI2, rfl, fun g hf kc ks hk kk => ?_⟩
    refine WW.tabIn (pc := 33) 10 467 c10 dL_law_33 (by decide) (by decide) rfl (by decide) ?_
    have hs : ∀ k, d_i d1 2 k = d_i d 2 k := fun k => congrFun hrow k
    exact law_10 hρ hk hin e1 (by simp only [hs]; exact e2) kk
  by_cases c11 : v = 11
  · obtain ⟨r, d1, d2, e1, e2, hI2, hrow⟩ := o11 d ρ hI (d_i d 2 (ix (i + 1))) (d_i d 2 (ix (i + 2))) (d_i d 2 (ix (i + 3))) (d_i d 2 (ix (i + 4)))
    refine ⟨d2, ρ, hI2, rfl, fun g hf kc ks hk kk => ?_⟩
    refine WW.tabIn (pc := 33) 11 511 c11 dL_law_33 (by decide) (by decide) rfl (by decide) ?_
    have hs : ∀ k, d_i d1 2 k = d_i d 2 k := fun k => congrFun hrow k
    exact law_11 hρ hk hin e1 (by simp only [hs]; exact e2) kk
  by_cases c12 : v = 12
  · obtain ⟨r, d1, d2, e1, e2, hI2, hrow⟩ := o12 d ρ hI (d_i d 2 (ix (i + 1))) (d_i d 2 (ix (i + 2))) (d_i d 2 (ix (i + 3))) (d_i d 2 (ix (i + 4))) (d_i d 2 (ix (i + 5)))
    refine ⟨d2, ρ, hI2, rfl, fun g hf kc ks hk kk => ?_⟩
    refine WW.tabIn (pc := 33) 12 564 c12 dL_law_33 (by decide) (by decide) rfl (by decide) ?_
    have hs : ∀ k, d_i d1 2 k = d_i d 2 k := fun k => congrFun hrow k
    exact law_12 hρ hk hin e1 (by simp only [hs]; exact e2) kk
  by_cases c13 : v = 13
  · obtain ⟨r, d1, d2, e1, e2, hI2, hrow⟩ := o13 d ρ hI (d_i d 2 (ix (i + 1))) (d_i d 2 (ix (i + 2))) (d_i d 2 (ix (i + 3))) (d_i d 2 (ix (i + 4)))
    refine ⟨d2, ρ, hI2, rfl, fun g hf kc ks hk kk => ?_⟩
    refine WW.tabIn (pc := 33) 13 628 c13 dL_law_33 (by decide) (by decide) rfl (by decide) ?_
    have hs : ∀ k, d_i d1 2 k = d_i d 2 k := fun k => congrFun hrow k
    exact law_13 hρ hk hin e1 (by simp only [hs]; exact e2) kk
  by_cases c14 : v = 14
  · obtain ⟨r, d1, d2, e1, e2, hI2, hrow⟩ := o14 d ρ hI (d_i d 2 (ix (i + 1))) (d_i d 2 (ix (i + 2)))
    refine ⟨d2, ρ, hI2, rfl, fun g hf kc ks hk kk => ?_⟩
    refine WW.tabIn (pc := 33) 14 682 c14 dL_law_33 (by decide) (by decide) rfl (by decide) ?_
    have hs : ∀ k, d_i d1 2 k = d_i d 2 k := fun k => congrFun hrow k
    exact law_14 hρ hk hin e1 (by simp only [hs]; exact e2) kk
  by_cases c15 : v = 15
  · obtain ⟨r, d1, d2, e1, e2, hI2, hrow⟩ := o15 d ρ hI (d_i d 2 (ix (i + 1)))
    refine ⟨d2, ρ, hI2, rfl, fun g hf kc ks hk kk => ?_⟩
    refine WW.tabIn (pc := 33) 15 715 c15 dL_law_33 (by decide) (by decide) rfl (by decide) ?_
    have hs : ∀ k, d_i d1 2 k = d_i d 2 k := fun k => congrFun hrow k
    exact law_15 hρ hk hin e1 (by simp only [hs]; exact e2) kk
  by_cases c16 : v = 16
  · obtain ⟨r, d1, d2, e1, e2, hI2, hrow⟩ := o16 d ρ hI (d_i d 2 (ix (i + 1))) (d_i d 2 (ix (i + 2)))
    refine ⟨d2, ρ, hI2, rfl, fun g hf kc ks hk kk => ?_⟩
    refine WW.tabIn (pc := 33) 16 738 c16 dL_law_33 (by decide) (by decide) rfl (by decide) ?_
    have hs : ∀ k, d_i d1 2 k = d_i d 2 k := fun k => congrFun hrow k
    exact law_16 hρ hk hin e1 (by simp only [hs]; exact e2) kk
  by_cases c17 : v = 17
  · obtain ⟨r, d1, d2, e1, e2, hI2, hrow⟩ := o17 d ρ hI (d_i d 2 (ix (i + 1))) (d_i d 2 (ix (i + 2))) (d_i d 2 (ix (i + 3)))
    refine ⟨d2, ρ, hI2, rfl, fun g hf kc ks hk kk => ?_⟩
    refine WW.tabIn (pc := 33) 17 771 c17 dL_law_33 (by decide) (by decide) rfl (by decide) ?_
    have hs : ∀ k, d_i d1 2 k = d_i d 2 k := fun k => congrFun hrow k
    exact law_17 hρ hk hin e1 (by simp only [hs]; exact e2) kk
  by_cases c18 : v = 18
  · obtain ⟨r, d1, d2, e1, e2, hI2, hrow⟩ := o18 d ρ hI (d_i d 2 (ix (i + 1))) (d_i d 2 (ix (i + 2))) (d_i d 2 (ix (i + 3)))
    refine ⟨d2, ρ, hI2, rfl, fun g hf kc ks hk kk => ?_⟩
    refine WW.tabIn (pc := 33) 18 815 c18 dL_law_33 (by decide) (by decide) rfl (by decide) ?_
    have hs : ∀ k, d_i d1 2 k = d_i d 2 k := fun k => congrFun hrow k
    exact law_18 hρ hk hin e1 (by simp only [hs]; exact e2) kk
  by_cases c19 : v = 19
  · obtain ⟨r, d1, d2, e1, e2, hI2, hrow⟩ := o19 d ρ hI (d_i d 2 (ix (i + 1))) (d_i d 2 (ix (i + 2))) (d_i d 2 (ix (i + 3)))
    refine ⟨d2, ρ, hI2, rfl, fun g hf kc ks hk kk => ?_⟩
    refine WW.tabIn (pc := 33) 19 858 c19 dL_law_33 (by decide) (by decide) rfl (by decide) ?_
    have hs : ∀ k, d_i d1 2 k = d_i d 2 k := fun k => congrFun hrow k
    exact law_19 hρ hk hin e1 (by simp only [hs]; exact e2) kk
  by_cases c20 : v = 20
  · obtain ⟨r, d1, d2, e1, e2, hI2, hrow⟩ := o20 d ρ hI (d_i d 2 (ix (i + 1))) (d_i d 2 (ix (i + 2))) (d_i d 2 (ix (i + 3))) (d_i d 2 (ix (i + 4))) (d_i d 2 (ix (i + 5))) (d_i d 2 (ix (i + 6)))
    refine ⟨d2, ρ, hI2, rfl, fun g hf kc ks hk kk => ?_⟩
    refine WW.tabIn (pc := 33) 20 902 c20 dL_law_33 (by decide) (by decide) rfl (by decide) ?_
    have hs : ∀ k, d_i d1 2 k = d_i d 2 k := fun k => congrFun hrow k
    exact law_20 hρ hk hin e1 (by simp only [hs]; exact e2) kk
  by_cases c21 : v = 21
  · obtain ⟨r, d1, d2, e1, e2, hI2, hrow⟩ := o21 d ρ hI (d_i d 2 (ix (i + 1))) (d_i d 2 (ix (i + 2)))
    refine ⟨d2, ρ, hI2, rfl, fun g hf kc ks hk kk => ?_⟩
    refine WW.tabIn (pc := 33) 21 978 c21 dL_law_33 (by decide) (by decide) rfl (by decide) ?_
    have hs : ∀ k, d_i d1 2 k = d_i d 2 k := fun k => congrFun hrow k
    exact law_21 hρ hk hin e1 (by simp only [hs]; exact e2) kk
  by_cases c22 : v = 22
  · obtain ⟨r, d1, d2, e1, e2, hI2, hrow⟩ := o22 d ρ hI (d_i d 2 (ix (i + 1))) (d_i d 2 (ix (i + 2))) (d_i d 2 (ix (i + 3))) (d_i d 2 (ix (i + 4)))
    refine ⟨d2, ρ, hI2, rfl, fun g hf kc ks hk kk => ?_⟩
    refine WW.tabIn (pc := 33) 22 1011 c22 dL_law_33 (by decide) (by decide) rfl (by decide) ?_
    have hs : ∀ k, d_i d1 2 k = d_i d 2 k := fun k => congrFun hrow k
    exact law_22 hρ hk hin e1 (by simp only [hs]; exact e2) kk
  by_cases c23 : v = 23
  · obtain ⟨r, e1, e2, hI2⟩ := o23 d ρ hI (d_i d 2 (ix (i + 1)))
    refine ⟨d, ρ, hI2, rfl, fun g hf kc ks hk kk => ?_⟩
    refine WW.tabIn (pc := 33) 23 1065 c23 dL_law_33 (by decide) (by decide) rfl (by decide) ?_
    exact law_23 hρ hk hin e1 e2 kk
  by_cases c24 : v = 24
  · obtain ⟨r, d1, d2, e1, e2, hI2, hrow⟩ := o24 d ρ hI (d_i d 2 (ix (i + 1))) (d_i d 2 (ix (i + 2))) (d_i d 2 (ix (i + 3))) (d_i d 2 (ix (i + 4))) (d_i d 2 (ix (i + 5)))
    refine ⟨d2, ρ, hI2, rfl, fun g hf kc ks hk kk => ?_⟩
    refine WW.tabIn (pc := 33) 24 1089 c24 dL_law_33 (by decide) (by decide) rfl (by decide) ?_
    have hs : ∀ k, d_i d1 2 k = d_i d 2 k := fun k => congrFun hrow k
    exact law_24 hρ hk hin e1 (by simp only [hs]; exact e2) kk
  by_cases c25 : v = 25
  · obtain ⟨r, e1, e2, hI2⟩ := o25 d ρ hI (d_i d 2 (ix (i + 1)))
    refine ⟨d, ρ, hI2, rfl, fun g hf kc ks hk kk => ?_⟩
    refine WW.tabIn (pc := 33) 25 1152 c25 dL_law_33 (by decide) (by decide) rfl (by decide) ?_
    exact law_25 hρ hk hin e1 e2 kk
  by_cases c26 : v = 26
  · obtain ⟨r, d1, d2, e1, e2, hI2, hrow⟩ := o26 d ρ hI 
    refine ⟨d2, ρ, hI2, rfl, fun g hf kc ks hk kk => ?_⟩
    refine WW.tabIn (pc := 33) 26 1175 c26 dL_law_33 (by decide) (by decide) rfl (by decide) ?_
    exact law_26 hρ hk hin e1 e2 kk
  refine ⟨d, ρ, hI, rfl, fun g hf kc ks hk kk => ?_⟩
  refine WW.tabOut (pc := 33) 1189 dL_law_33 ?_ (by decide) ?_
  · have q0 : ¬ v.toInt = 0 := fun z => c0 (Int32.toInt_inj.mp z)
    have q1 : ¬ v.toInt = 1 := fun z => c1 (Int32.toInt_inj.mp z)
    have q2 : ¬ v.toInt = 2 := fun z => c2 (Int32.toInt_inj.mp z)
    have q3 : ¬ v.toInt = 3 := fun z => c3 (Int32.toInt_inj.mp z)
    have q4 : ¬ v.toInt = 4 := fun z => c4 (Int32.toInt_inj.mp z)
    have q5 : ¬ v.toInt = 5 := fun z => c5 (Int32.toInt_inj.mp z)
    have q6 : ¬ v.toInt = 6 := fun z => c6 (Int32.toInt_inj.mp z)
    have q7 : ¬ v.toInt = 7 := fun z => c7 (Int32.toInt_inj.mp z)
    have q8 : ¬ v.toInt = 8 := fun z => c8 (Int32.toInt_inj.mp z)
    have q9 : ¬ v.toInt = 9 := fun z => c9 (Int32.toInt_inj.mp z)
    have q10 : ¬ v.toInt = 10 := fun z => c10 (Int32.toInt_inj.mp z)
    have q11 : ¬ v.toInt = 11 := fun z => c11 (Int32.toInt_inj.mp z)
    have q12 : ¬ v.toInt = 12 := fun z => c12 (Int32.toInt_inj.mp z)
    have q13 : ¬ v.toInt = 13 := fun z => c13 (Int32.toInt_inj.mp z)
    have q14 : ¬ v.toInt = 14 := fun z => c14 (Int32.toInt_inj.mp z)
    have q15 : ¬ v.toInt = 15 := fun z => c15 (Int32.toInt_inj.mp z)
    have q16 : ¬ v.toInt = 16 := fun z => c16 (Int32.toInt_inj.mp z)
    have q17 : ¬ v.toInt = 17 := fun z => c17 (Int32.toInt_inj.mp z)
    have q18 : ¬ v.toInt = 18 := fun z => c18 (Int32.toInt_inj.mp z)
    have q19 : ¬ v.toInt = 19 := fun z => c19 (Int32.toInt_inj.mp z)
    have q20 : ¬ v.toInt = 20 := fun z => c20 (Int32.toInt_inj.mp z)
    have q21 : ¬ v.toInt = 21 := fun z => c21 (Int32.toInt_inj.mp z)
    have q22 : ¬ v.toInt = 22 := fun z => c22 (Int32.toInt_inj.mp z)
    have q23 : ¬ v.toInt = 23 := fun z => c23 (Int32.toInt_inj.mp z)
    have q24 : ¬ v.toInt = 24 := fun z => c24 (Int32.toInt_inj.mp z)
    have q25 : ¬ v.toInt = 25 := fun z => c25 (Int32.toInt_inj.mp z)
    have q26 : ¬ v.toInt = 26 := fun z => c26 (Int32.toInt_inj.mp z)
    omega
  · exact WW.wide (Nat.le_succ _) (by omega) kk
section WWl
variable {α : Type} {g : Gx} {M : Mx} {emb : α → Option Value × HP} {pc : Nat} {L : List (Nat × Value)} {st : List Value} {h : HP} {kc ks : Nat} {res : Option α}
theorem WW.gtT {x y : Int32} {off : Int} (hc : y < x) (tgt : Nat) (hd : decode (m_cc M) pc = .ok (.if_icmp .gt off, 3)) (ht : (pc : Int) + off = (tgt : Int)) (k1 : WW g M emb tgt L st h kc ks res) : WW g M emb pc L (.int y :: .int x :: st) h kc ks res := by
  have q := WW.icmp_gt (x := x) (y := y) (r2 := Option.none) tgt hd ht (fun _ => k1) (fun _ => WW.none)
  rw [if_pos hc] at q
  exact q
theorem WW.gtF {x y : Int32} {off : Int} (hc : ¬ y < x) (tgt : Nat) (hd : decode (m_cc M) pc = .ok (.if_icmp .gt off, 3)) (ht : (pc : Int) + off = (tgt : Int)) (k1 : WW g M emb (pc + 3) L st h kc ks res) : WW g M emb pc L (.int y :: .int x :: st) h kc ks res := by
  have q := WW.icmp_gt (x := x) (y := y) (r1 := Option.none) tgt hd ht (fun _ => WW.none) (fun _ => k1)
  rw [if_neg hc] at q
  exact q
end WWl
set_option maxHeartbeats 4000000 in
set_option maxRecDepth 100000 in
theorem law_loop {Inv : Dd → Rh → Prop} (hO : Ops Inv) (hH : ∀ d ρ, Inv d ρ → Hr ρ) : ∀ (n : Nat) (d : Dd) (ρ : Rh) (a : Int), Inv d ρ → 0 ≤ a → a ≤ ρ.2.2 + 7 → ρ.2.2 ≤ 3584 → ρ.2.2 + 8 - a ≤ n → ∃ hf : HP, ∀ g : Gx, WW g M_L_law (eF hf) 18 (LH (J a)) [] (full d ρ) (32 + a.toNat) (1491 + 2 * a.toNat) (some ()) := by
  intro n
  induction n with
  | zero => intro d ρ a _ h0 h1 _ h2; exact absurd h2 (by omega)
  | succ n ih =>
    intro d ρ a hI h0 h1 hL h2
    have hLJ : Int32.ofNat ρ.2.2 = J (ρ.2.2 : Int) := J_nat _
    have hc7 : (Int32.ofNat ρ.2.2 - 7 < J a) ↔ (ρ.2.2 : Int) - 7 < a := by
      rw [hLJ, show (7 : Int32) = J 7 from rfl, J_sub, J_lt (by omega) (by omega)]
    by_cases hc : (ρ.2.2 : Int) - 7 < a
    · refine ⟨full d ρ, fun g => ?_⟩
      refine WW.iload_n (pc := 18) (j := 3) rfl dL_law_18 ?_
      refine WW.aload_n (pc := 19) (j := 0) rfl dL_law_19 ?_
      refine WW.alen (pc := 20) (Int32.ofNat ρ.2.2) (by decide) (Or.inl rfl) (sh_2 ρ) rfl dL_law_20 ?_
      refine WW.bipush (pc := 21) 7 dL_law_21 rfl ?_
      refine WW.isub (pc := 23) dL_law_23 ?_
      refine WW.gtT (pc := 24) (hc7.mpr hc) 1195 dL_law_24 (by decide) ?_
      refine WW.iconst (pc := 1195) 1 dL_law_1195 rfl ?_
      exact WW.ret rfl rfl (show RetI M_L_law 1196 from dL_law_1196) ⟨by show _ ≤ 600000; omega, by show _ ≤ 7302250; omega⟩ rfl
    · have hin : ∀ j : Int32, j ∈ [1, 2, 3, 4, 5, 6] → inB (J a + j) ρ.2.2 = true := by
        intro j hj
        have hb : ∃ b : Int, 0 ≤ b ∧ b ≤ 6 ∧ j = J b := by
          simp only [List.mem_cons, List.not_mem_nil, or_false] at hj
          rcases hj with rfl | rfl | rfl | rfl | rfl | rfl
          · exact ⟨1, by decide, by decide, rfl⟩
          · exact ⟨2, by decide, by decide, rfl⟩
          · exact ⟨3, by decide, by decide, rfl⟩
          · exact ⟨4, by decide, by decide, rfl⟩
          · exact ⟨5, by decide, by decide, rfl⟩
          · exact ⟨6, by decide, by decide, rfl⟩
        obtain ⟨b, b0, b1, rfl⟩ := hb
        rw [J_add, inB_J (by omega)]
        omega
      have hin0 : inB (J a) ρ.2.2 = true := by
        rw [inB_J (by omega)]; omega
      obtain ⟨d2, ρ2, hI2, hL2, hT⟩ := law_turn hO hH hI (i := J a) (d_i d 2 (ix (J a)) &&& 31) hin
      obtain ⟨hf, hW⟩ := ih d2 ρ2 (a + 7) hI2 (by omega) (by rw [hL2]; omega) (by rw [hL2]; exact hL) (by rw [hL2]; omega)
      refine ⟨hf, fun g => ?_⟩
      refine WW.iload_n (pc := 18) (j := 3) rfl dL_law_18 ?_
      refine WW.aload_n (pc := 19) (j := 0) rfl dL_law_19 ?_
      refine WW.alen (pc := 20) (Int32.ofNat ρ.2.2) (by decide) (Or.inl rfl) (sh_2 ρ) rfl dL_law_20 ?_
      refine WW.bipush (pc := 21) 7 dL_law_21 rfl ?_
      refine WW.isub (pc := 23) dL_law_23 ?_
      refine WW.gtF (pc := 24) (fun q => hc (hc7.mp q)) 1195 dL_law_24 (by decide) ?_
      refine WW.aload_n (pc := 27) (j := 0) rfl dL_law_27 ?_
      refine WW.iload_n (pc := 28) (j := 3) rfl dL_law_28 ?_
      refine WW.ialdH (pc := 29) hin0 (by decide) (sh_2 ρ) dL_law_29 ?_
      refine WW.bipush (pc := 30) 31 dL_law_30 rfl ?_
      refine WW.iand (pc := 32) dL_law_32 ?_
      refine hT g hf _ _ ⟨by omega, by omega⟩ ?_
      refine WW.iinc (pc := 1189) (j := 3) (J (a + 7)) [(3, .int (J (a + 7))), (0, .ref 2), (1, .ref 3), (2, .ref 23)] rfl (J_add a 7) rfl (by decide) dL_law_1189 ?_
      refine WW.goto (pc := 1192) 18 dL_law_1192 (by decide) ?_
      refine WW.sub [1, 2, 3, 0] rfl ?_
      exact WW.wide (by omega) (by omega) (hW g)
