def fX5_mostFor (ρ : Rh) (d : Dd) (o : Nat) (a1 : Int32) : Option Int64 :=
  lp (fun self2 (x1 : Int64 × Int32) =>
    if (d_i d o 2) ≤ x1.2 then
      (some x1.1)
    else
      (bnd ((-a1) : Int32) fun v3 =>
      lp (fun self5 (x4 : Int64 × Int32) =>
        if a1 < x4.2 then
          ((fX5_weightOf ρ d o x1.2).bind fun r6 =>
          bnd ((x1.1 + ((Int32.toInt64 r6) * x4.1)) : Int64) fun v7 =>
          self2 (v7, (x1.2 + 1)))
        else
          ((fX5_valueOf ρ d o x1.2).bind fun r8 =>
          bnd ((jmaxL x4.1 ((Int32.toInt64 x4.2) * (Int32.toInt64 ((r8 - (d_i d o 0)) - ((d_i d o 1) * x4.2))))) : Int64) fun v9 =>
          self5 (v9, (x4.2 + 1)))
        ) 6000 (0, v3))
    ) 6000 (0, 0)
set_option maxHeartbeats 4000000 in
set_option maxRecDepth 100000 in
theorem okX5_mostFor (g : Gx) (ρ : Rh) (hρ : Hr ρ) (d : Dd) (o : Nat) (a1 : Int32) (ho : o = 6 ∨ o = 9) : CallR g M_X5_mostFor (eLp ρ d) [.ref o, .int a1] (full d ρ) (fX5_mostFor ρ d o a1) := by
  refine CallR.intro rfl rfl (Nat.le_of_ble_eq_true rfl) (fun a ha => ⟨_, rfl⟩) ?_
  show WW g _ _ 0 [(0, .ref o), (1, .int a1)] [] (full d ρ) 0 0 _
  unfold fX5_mostFor
  refine WW.lconst (pc := 0) 0 dX5_mostFor_0 rfl ?_
  refine WW.lstore_n (pc := 1) [(2, .long 0), (0, .ref o), (1, .int a1)] rfl (by decide) dX5_mostFor_1 ?_
  refine WW.iconst (pc := 2) 0 dX5_mostFor_2 rfl ?_
  refine WW.istore (pc := 3) [(4, .int 0), (2, .long 0), (0, .ref o), (1, .int a1)] rfl (by decide) dX5_mostFor_3 ?_
  refine WW.sub [2, 3, 1, 0] rfl ?_
  refine WW.loop (pc := 5) (Lj := fun (x1 : Int64 × Int32) => [(0, .ref o), (1, .int a1), (2, .long x1.1), (4, .int x1.2)]) (hj := fun (x1 : Int64 × Int32) => full d ρ) (fun self2 hself2 x1 => ?_) 6000 (0, 0)
  refine WW.iload (pc := 5) (j := 3) rfl dX5_mostFor_5 ?_
  refine WW.aload_n (pc := 7) (j := 0) rfl dX5_mostFor_7 ?_
  refine WW.sgi (pc := 8) fl_X5_18_5 (mk3 ho) (mkS ho) (Or.inl gt_5_2) dX5_mostFor_8 ?_
  refine WW.icmp_ge (pc := 11) 83 dX5_mostFor_11 (by decide) (fun _ => ?_) (fun _ => ?_)
  · refine WW.lload_n (pc := 83) (j := 2) rfl dX5_mostFor_83 ?_
    exact WW.ret rfl rfl (show RetI M_X5_mostFor 84 from dX5_mostFor_84) ⟨Nat.le_refl _, Nat.le_refl _⟩ rfl
  · refine WW.lconst (pc := 14) 0 dX5_mostFor_14 rfl ?_
    refine WW.lstore (pc := 15) [(5, .long 0), (0, .ref o), (1, .int a1), (2, .long x1.1), (4, .int x1.2)] rfl (by decide) dX5_mostFor_15 ?_
    refine WW.iload_n (pc := 17) (j := 2) rfl dX5_mostFor_17 ?_
    refine WW.ineg (pc := 18) dX5_mostFor_18 ?_
    refine WW.nmi (fun v3 => ?_)
    refine WW.istore (pc := 19) [(7, .int v3), (5, .long 0), (0, .ref o), (1, .int a1), (2, .long x1.1), (4, .int x1.2)] rfl (by decide) dX5_mostFor_19 ?_
    refine WW.sub [2, 3, 4, 5, 1, 0] rfl ?_
    refine WW.loop (pc := 21) (Lj := fun (x4 : Int64 × Int32) => [(0, .ref o), (1, .int a1), (2, .long x1.1), (4, .int x1.2), (5, .long x4.1), (7, .int x4.2)]) (hj := fun (x4 : Int64 × Int32) => full d ρ) (fun self5 hself5 x4 => ?_) 6000 (0, v3)
    refine WW.iload (pc := 21) (j := 5) rfl dX5_mostFor_21 ?_
    refine WW.iload_n (pc := 23) (j := 1) rfl dX5_mostFor_23 ?_
    refine WW.icmp_gt (pc := 24) 64 dX5_mostFor_24 (by decide) (fun _ => ?_) (fun _ => ?_)
    · refine WW.lload_n (pc := 64) (j := 2) rfl dX5_mostFor_64 ?_
      refine WW.aload_n (pc := 65) (j := 0) rfl dX5_mostFor_65 ?_
      refine WW.iload (pc := 66) (j := 3) rfl dX5_mostFor_66 ?_
      refine WW.callV (pc := 68) (As := [.int x1.2]) (st := [.long x1.1]) lk_X5_31 (okX5_weightOf g ρ hρ d o x1.2 ho) (mk3 ho) (mkS ho) ⟨_, _, clk5⟩ rfl (Nat.le_of_ble_eq_true rfl) ⟨Nat.le_of_ble_eq_true rfl, Nat.le_of_ble_eq_true rfl, Nat.le_of_ble_eq_true rfl, Nat.le_of_ble_eq_true rfl⟩ dX5_mostFor_68 rfl (fun r6 hr6 => ?_)
      show WW _ _ _ 71 _ [.int r6, .long x1.1] (full d ρ) 0 0 _
      refine WW.i2l (pc := 71) dX5_mostFor_71 ?_
      refine WW.lload (pc := 72) (j := 4) rfl dX5_mostFor_72 ?_
      refine WW.lmul (pc := 74) dX5_mostFor_74 ?_
      refine WW.ladd (pc := 75) dX5_mostFor_75 ?_
      refine WW.nml (fun v7 => ?_)
      refine WW.lstore_n (pc := 76) [(2, .long v7), (0, .ref o), (1, .int a1), (4, .int x1.2), (5, .long x4.1), (7, .int x4.2)] rfl (by decide) dX5_mostFor_76 ?_
      refine WW.iinc (pc := 77) (j := 3) (x1.2 + 1) [(4, .int (x1.2 + 1)), (2, .long v7), (0, .ref o), (1, .int a1), (5, .long x4.1), (7, .int x4.2)] rfl rfl rfl (by decide) dX5_mostFor_77 ?_
      refine WW.goto (pc := 80) 5 dX5_mostFor_80 (by decide) ?_
      refine WW.sub [2, 3, 1, 0] rfl ?_
      exact hself2 (v7, (x1.2 + 1))
    · refine WW.lload (pc := 27) (j := 4) rfl dX5_mostFor_27 ?_
      refine WW.iload (pc := 29) (j := 5) rfl dX5_mostFor_29 ?_
      refine WW.i2l (pc := 31) dX5_mostFor_31 ?_
      refine WW.aload_n (pc := 32) (j := 0) rfl dX5_mostFor_32 ?_
      refine WW.iload (pc := 33) (j := 3) rfl dX5_mostFor_33 ?_
      refine WW.callV (pc := 35) (As := [.int x1.2]) (st := [.long (Int32.toInt64 x4.2), .long x4.1]) lk_X5_34 (okX5_valueOf g ρ hρ d o x1.2 ho) (mk3 ho) (mkS ho) ⟨_, _, clk5⟩ rfl (Nat.le_of_ble_eq_true rfl) ⟨Nat.le_of_ble_eq_true rfl, Nat.le_of_ble_eq_true rfl, Nat.le_of_ble_eq_true rfl, Nat.le_of_ble_eq_true rfl⟩ dX5_mostFor_35 rfl (fun r8 hr8 => ?_)
      show WW _ _ _ 38 _ [.int r8, .long (Int32.toInt64 x4.2), .long x4.1] (full d ρ) 0 0 _
      refine WW.aload_n (pc := 38) (j := 0) rfl dX5_mostFor_38 ?_
      refine WW.sgi (pc := 39) fl_X5_37_5 (mk3 ho) (mkS ho) (Or.inl gt_5_0) dX5_mostFor_39 ?_
      refine WW.isub (pc := 42) dX5_mostFor_42 ?_
      refine WW.aload_n (pc := 43) (j := 0) rfl dX5_mostFor_43 ?_
      refine WW.sgi (pc := 44) fl_X5_40_5 (mk3 ho) (mkS ho) (Or.inl gt_5_1) dX5_mostFor_44 ?_
      refine WW.iload (pc := 47) (j := 5) rfl dX5_mostFor_47 ?_
      refine WW.imul (pc := 49) dX5_mostFor_49 ?_
      refine WW.isub (pc := 50) dX5_mostFor_50 ?_
      refine WW.i2l (pc := 51) dX5_mostFor_51 ?_
      refine WW.lmul (pc := 52) dX5_mostFor_52 ?_
      refine WW.maxl (pc := 53) lk_X5_43 (Nat.le_of_ble_eq_true rfl) (Nat.le_of_ble_eq_true rfl) ⟨(Nat.le_of_ble_eq_true rfl), (Nat.le_of_ble_eq_true rfl)⟩ dX5_mostFor_53 ?_
      refine WW.nml (fun v9 => ?_)
      refine WW.lstore (pc := 56) [(5, .long v9), (0, .ref o), (1, .int a1), (2, .long x1.1), (4, .int x1.2), (7, .int x4.2)] rfl (by decide) dX5_mostFor_56 ?_
      refine WW.iinc (pc := 58) (j := 5) (x4.2 + 1) [(7, .int (x4.2 + 1)), (5, .long v9), (0, .ref o), (1, .int a1), (2, .long x1.1), (4, .int x1.2)] rfl rfl rfl (by decide) dX5_mostFor_58 ?_
      refine WW.goto (pc := 61) 21 dX5_mostFor_61 (by decide) ?_
      refine WW.sub [2, 3, 4, 5, 1, 0] rfl ?_
      exact hself5 (v9, (x4.2 + 1))
def fX11_bound (ρ : Rh) (d : Dd) (a1 : Int32) : Option Int64 :=
  if (d_i d 3 3) = 0 then
    (some (-1000000000000000003))
  else
    ((fX11_isPart a1).bind fun r1 =>
    if r1 = true then
      ((fX1_allLimits ρ d).bind fun r2 =>
      (fX5_mostFor ρ d ρ.1 r2).bind fun r3 =>
      (fX11_partOf r3 (Int32.toInt64 (d_i d ρ.1 3)) a1).bind fun r4 =>
      some r4)
    else
      (some (-1000000000000000002)))
set_option maxHeartbeats 4000000 in
set_option maxRecDepth 100000 in
theorem okX11_bound (g : Gx) (ρ : Rh) (hρ : Hr ρ) (d : Dd) (a1 : Int32) : CallR g M_X11_bound (eLp ρ d) [.ref 3, .int a1] (full d ρ) (fX11_bound ρ d a1) := by
  refine CallR.intro rfl rfl (Nat.le_of_ble_eq_true rfl) (fun a ha => ⟨_, rfl⟩) ?_
  show WW g _ _ 0 [(0, .ref 3), (1, .int a1)] [] (full d ρ) 0 0 _
  unfold fX11_bound
  refine WW.aload_n (pc := 0) (j := 0) rfl dX11_bound_0 ?_
  refine WW.sgi (pc := 1) fl_X11_89_11 h3_3 (sh_3 ρ) (Or.inr gt_11_3) dX11_bound_1 ?_
  refine WW.if_ne (pc := 4) 11 dX11_bound_4 (by decide) (fun _ => ?_) (fun _ => ?_)
  · refine WW.ldc2 (pc := 7) wd_475 dX11_bound_7 ?_
    exact WW.ret rfl rfl (show RetI M_X11_bound 10 from dX11_bound_10) ⟨Nat.le_refl _, Nat.le_refl _⟩ rfl
  · refine WW.iload_n (pc := 11) (j := 1) rfl dX11_bound_11 ?_
    refine WW.callS (pc := 12) (As := [.int a1]) (st := []) lk_X11_156 (okX11_isPart g ρ hρ d a1) rfl (Nat.le_of_ble_eq_true rfl) ⟨Nat.le_of_ble_eq_true rfl, Nat.le_of_ble_eq_true rfl, Nat.le_of_ble_eq_true rfl, Nat.le_of_ble_eq_true rfl⟩ dX11_bound_12 rfl (fun r1 hr1 => ?_)
    show WW _ _ _ 15 _ [.int (b2i r1)] (full d ρ) 0 0 _
    refine WW.if_neB (pc := 15) 22 dX11_bound_15 (by decide) (fun _ => ?_) (fun _ => ?_)
    · refine WW.aload_n (pc := 22) (j := 0) rfl dX11_bound_22 ?_
      refine WW.sgr (pc := 23) fl_X11_19_11 h3_3 (sh_3 ρ) (Or.inl ⟨_, gt_11_1⟩) (hr_mk ρ) dX11_bound_23 ?_
      refine WW.aload_n (pc := 26) (j := 0) rfl dX11_bound_26 ?_
      refine WW.sgr (pc := 27) fl_X11_50_11 h3_3 (sh_3 ρ) (Or.inl ⟨_, gt_11_4⟩) (hr_3_4 ρ) dX11_bound_27 ?_
      refine WW.callV (pc := 30) (As := []) (st := [.ref ρ.1]) lk_X11_275 (okX1_allLimits g ρ hρ d ) h3_15 (sh_15 ρ) ⟨_, _, clk1⟩ rfl (Nat.le_of_ble_eq_true rfl) ⟨Nat.le_of_ble_eq_true rfl, Nat.le_of_ble_eq_true rfl, Nat.le_of_ble_eq_true rfl, Nat.le_of_ble_eq_true rfl⟩ dX11_bound_30 rfl (fun r2 hr2 => ?_)
      show WW _ _ _ 33 _ [.int r2, .ref ρ.1] (full d ρ) 0 0 _
      refine WW.callV (pc := 33) (As := [.int r2]) (st := []) lk_X11_278 (okX5_mostFor g ρ hρ d ρ.1 r2 hρ.1) (mk3 hρ.1) (mkS hρ.1) ⟨_, _, clk5⟩ rfl (Nat.le_of_ble_eq_true rfl) ⟨Nat.le_of_ble_eq_true rfl, Nat.le_of_ble_eq_true rfl, Nat.le_of_ble_eq_true rfl, Nat.le_of_ble_eq_true rfl⟩ dX11_bound_33 rfl (fun r3 hr3 => ?_)
      show WW _ _ _ 36 _ [.long r3] (full d ρ) 0 0 _
      refine WW.aload_n (pc := 36) (j := 0) rfl dX11_bound_36 ?_
      refine WW.sgr (pc := 37) fl_X11_19_11 h3_3 (sh_3 ρ) (Or.inl ⟨_, gt_11_1⟩) (hr_mk ρ) dX11_bound_37 ?_
      refine WW.sgi (pc := 40) fl_X11_281_5 (mk3 hρ.1) (mkS hρ.1) (Or.inl gt_5_3) dX11_bound_40 ?_
      refine WW.i2l (pc := 43) dX11_bound_43 ?_
      refine WW.iload_n (pc := 44) (j := 1) rfl dX11_bound_44 ?_
      refine WW.callS (pc := 45) (As := [.long r3, .long (Int32.toInt64 (d_i d ρ.1 3)), .int a1]) (st := []) lk_X11_179 (okX11_partOf g ρ hρ d r3 (Int32.toInt64 (d_i d ρ.1 3)) a1) rfl (Nat.le_of_ble_eq_true rfl) ⟨Nat.le_of_ble_eq_true rfl, Nat.le_of_ble_eq_true rfl, Nat.le_of_ble_eq_true rfl, Nat.le_of_ble_eq_true rfl⟩ dX11_bound_45 rfl (fun r4 hr4 => ?_)
      show WW _ _ _ 48 _ [.long r4] (full d ρ) 0 0 _
      exact WW.ret rfl rfl (show RetI M_X11_bound 48 from dX11_bound_48) ⟨Nat.le_refl _, Nat.le_refl _⟩ rfl
    · refine WW.ldc2 (pc := 18) wd_476 dX11_bound_18 ?_
      exact WW.ret rfl rfl (show RetI M_X11_bound 21 from dX11_bound_21) ⟨Nat.le_refl _, Nat.le_refl _⟩ rfl
def fX10_draw (ρ : Rh) (d : Dd) (a1 : Int32) : Option (Int32 × Dd) :=
  bnd (dL d 19 0 (jlrem ((1103515245 * (d_l d 19 0)) + 12345) 2147483648)) fun d1 =>
  if 1 ≤ a1 then
    (if (Int32.toInt64 a1) = 0 then none else
    some ((Int64.toInt32 (jlrem ((d_l d1 19 0) / 65536) (Int32.toInt64 a1))), d1))
  else
    (some (0, d1))
set_option maxHeartbeats 4000000 in
set_option maxRecDepth 100000 in
theorem okX10_draw (g : Gx) (ρ : Rh) (hρ : Hr ρ) (d : Dd) (a1 : Int32) : CallR g M_X10_draw (eI ρ) [.ref 19, .int a1] (full d ρ) (fX10_draw ρ d a1) := by
  refine CallR.intro rfl rfl (Nat.le_of_ble_eq_true rfl) (fun a ha => ⟨_, rfl⟩) ?_
  show WW g _ _ 0 [(0, .ref 19), (1, .int a1)] [] (full d ρ) 0 0 _
  unfold fX10_draw
  refine WW.aload_n (pc := 0) (j := 0) rfl dX10_draw_0 ?_
  refine WW.ldc2 (pc := 1) wd_758 dX10_draw_1 ?_
  refine WW.aload_n (pc := 4) (j := 0) rfl dX10_draw_4 ?_
  refine WW.sgl (pc := 5) fl_X10_9_10 h3_19 (sh_19 ρ) gt_10_0 dX10_draw_5 ?_
  refine WW.lmul (pc := 8) dX10_draw_8 ?_
  refine WW.ldc2 (pc := 9) wd_759 dX10_draw_9 ?_
  refine WW.ladd (pc := 12) dX10_draw_12 ?_
  refine WW.ldc2 (pc := 13) wd_760 dX10_draw_13 ?_
  refine WW.lrem (pc := 16) (by decide) dX10_draw_16 ?_
  refine WW.spl (pc := 17) fp_X10_9_10 h3_19 (sh_19 ρ) gt_10_0 dX10_draw_17 (fun d1 => ?_)
  refine WW.iload_n (pc := 20) (j := 1) rfl dX10_draw_20 ?_
  refine WW.iconst (pc := 21) 1 dX10_draw_21 rfl ?_
  refine WW.icmp_ge (pc := 22) 29 dX10_draw_22 (by decide) (fun _ => ?_) (fun _ => ?_)
  · refine WW.aload_n (pc := 29) (j := 0) rfl dX10_draw_29 ?_
    refine WW.sgl (pc := 30) fl_X10_9_10 h3_19 (sh_19 ρ) gt_10_0 dX10_draw_30 ?_
    refine WW.ldc2 (pc := 33) wd_761 dX10_draw_33 ?_
    refine WW.ldiv (pc := 36) (by decide) dX10_draw_36 ?_
    refine WW.iload_n (pc := 37) (j := 1) rfl dX10_draw_37 ?_
    refine WW.i2l (pc := 38) dX10_draw_38 ?_
    refine WW.ite (fun _ => WW.none) (fun hz2 => ?_)
    refine WW.lrem (pc := 39) hz2 dX10_draw_39 ?_
    refine WW.l2i (pc := 40) dX10_draw_40 ?_
    exact WW.ret rfl rfl (show RetI M_X10_draw 41 from dX10_draw_41) ⟨Nat.le_refl _, Nat.le_refl _⟩ rfl
  · refine WW.iconst (pc := 25) 0 dX10_draw_25 rfl ?_
    refine WW.goto (pc := 26) 41 dX10_draw_26 (by decide) ?_
    exact WW.ret rfl rfl (show RetI M_X10_draw 41 from dX10_draw_41) ⟨Nat.le_refl _, Nat.le_refl _⟩ rfl
def fX5_caseAt (ρ : Rh) (d : Dd) (o : Nat) (a1 : Int32) : Option Int32 :=
  lp (fun self2 (x1 : Int32 × Int32) =>
    if (d_i d o 2) ≤ x1.2 then
      (some 0)
    else
      ((fX5_weightOf ρ d o x1.2).bind fun r3 =>
      bnd ((x1.1 + r3) : Int32) fun v4 =>
      if v4 ≤ a1 then
        (self2 (v4, (x1.2 + 1)))
      else
        (some x1.2))
    ) 6000 (0, 0)
set_option maxHeartbeats 4000000 in
set_option maxRecDepth 100000 in
theorem okX5_caseAt (g : Gx) (ρ : Rh) (hρ : Hr ρ) (d : Dd) (o : Nat) (a1 : Int32) (ho : o = 6 ∨ o = 9) : CallR g M_X5_caseAt (eIp ρ d) [.ref o, .int a1] (full d ρ) (fX5_caseAt ρ d o a1) := by
  refine CallR.intro rfl rfl (Nat.le_of_ble_eq_true rfl) (fun a ha => ⟨_, rfl⟩) ?_
  show WW g _ _ 0 [(0, .ref o), (1, .int a1)] [] (full d ρ) 0 0 _
  unfold fX5_caseAt
  refine WW.iconst (pc := 0) 0 dX5_caseAt_0 rfl ?_
  refine WW.istore_n (pc := 1) [(2, .int 0), (0, .ref o), (1, .int a1)] rfl (by decide) dX5_caseAt_1 ?_
  refine WW.iconst (pc := 2) 0 dX5_caseAt_2 rfl ?_
  refine WW.istore_n (pc := 3) [(3, .int 0), (2, .int 0), (0, .ref o), (1, .int a1)] rfl (by decide) dX5_caseAt_3 ?_
  refine WW.sub [2, 3, 1, 0] rfl ?_
  refine WW.loop (pc := 4) (Lj := fun (x1 : Int32 × Int32) => [(0, .ref o), (1, .int a1), (2, .int x1.1), (3, .int x1.2)]) (hj := fun (x1 : Int32 × Int32) => full d ρ) (fun self2 hself2 x1 => ?_) 6000 (0, 0)
  refine WW.iload_n (pc := 4) (j := 3) rfl dX5_caseAt_4 ?_
  refine WW.aload_n (pc := 5) (j := 0) rfl dX5_caseAt_5 ?_
  refine WW.sgi (pc := 6) fl_X5_18_5 (mk3 ho) (mkS ho) (Or.inl gt_5_2) dX5_caseAt_6 ?_
  refine WW.icmp_ge (pc := 9) 33 dX5_caseAt_9 (by decide) (fun _ => ?_) (fun _ => ?_)
  · refine WW.iconst (pc := 33) 0 dX5_caseAt_33 rfl ?_
    exact WW.ret rfl rfl (show RetI M_X5_caseAt 34 from dX5_caseAt_34) ⟨Nat.le_refl _, Nat.le_refl _⟩ rfl
  · refine WW.iload_n (pc := 12) (j := 2) rfl dX5_caseAt_12 ?_
    refine WW.aload_n (pc := 13) (j := 0) rfl dX5_caseAt_13 ?_
    refine WW.iload_n (pc := 14) (j := 3) rfl dX5_caseAt_14 ?_
    refine WW.callV (pc := 15) (As := [.int x1.2]) (st := [.int x1.1]) lk_X5_31 (okX5_weightOf g ρ hρ d o x1.2 ho) (mk3 ho) (mkS ho) ⟨_, _, clk5⟩ rfl (Nat.le_of_ble_eq_true rfl) ⟨Nat.le_of_ble_eq_true rfl, Nat.le_of_ble_eq_true rfl, Nat.le_of_ble_eq_true rfl, Nat.le_of_ble_eq_true rfl⟩ dX5_caseAt_15 rfl (fun r3 hr3 => ?_)
    show WW _ _ _ 18 _ [.int r3, .int x1.1] (full d ρ) 0 0 _
    refine WW.iadd (pc := 18) dX5_caseAt_18 ?_
    refine WW.nmi (fun v4 => ?_)
    refine WW.istore_n (pc := 19) [(2, .int v4), (0, .ref o), (1, .int a1), (3, .int x1.2)] rfl (by decide) dX5_caseAt_19 ?_
    refine WW.iload_n (pc := 20) (j := 2) rfl dX5_caseAt_20 ?_
    refine WW.iload_n (pc := 21) (j := 0) rfl dX5_caseAt_21 ?_
    refine WW.icmp_ge (pc := 22) 27 dX5_caseAt_22 (by decide) (fun _ => ?_) (fun _ => ?_)
    · refine WW.iinc (pc := 27) (j := 3) (x1.2 + 1) [(3, .int (x1.2 + 1)), (2, .int v4), (0, .ref o), (1, .int a1)] rfl rfl rfl (by decide) dX5_caseAt_27 ?_
      refine WW.goto (pc := 30) 4 dX5_caseAt_30 (by decide) ?_
      refine WW.sub [2, 3, 1, 0] rfl ?_
      exact hself2 (v4, (x1.2 + 1))
    · refine WW.iload_n (pc := 25) (j := 3) rfl dX5_caseAt_25 ?_
      exact WW.ret rfl rfl (show RetI M_X5_caseAt 26 from dX5_caseAt_26) ⟨Nat.le_refl _, Nat.le_refl _⟩ rfl
def fX0_hears (ρ : Rh) (d : Dd) (o : Nat) (a1 : Int32) (a2 : Int32) : Option (Int32 × Dd) :=
  if a2 < 2 then
    (some (a1, d))
  else
    ((fX10_draw ρ d 100).bind fun r1 =>
    if r1.1 < (d_i r1.2 o 1) then
      ((fX10_draw ρ r1.2 (a2 - 1)).bind fun r2 =>
      if a1 ≤ r2.1 then
        (some ((r2.1 + 1), r2.2))
      else
        (some (r2.1, r2.2)))
    else
      (some (a1, r1.2)))
set_option maxHeartbeats 4000000 in
set_option maxRecDepth 100000 in
theorem okX0_hears (g : Gx) (ρ : Rh) (hρ : Hr ρ) (d : Dd) (o : Nat) (a1 : Int32) (a2 : Int32) (hn : NewsO ρ o) (htg : tg ρ o = 0) : CallR g M_X0_hears (eI ρ) [.ref o, .int a1, .int a2, .ref 19] (full d ρ) (fX0_hears ρ d o a1 a2) := by
  refine CallR.intro rfl rfl (Nat.le_of_ble_eq_true rfl) (fun a ha => ⟨_, rfl⟩) ?_
  show WW g _ _ 0 [(0, .ref o), (1, .int a1), (2, .int a2), (3, .ref 19)] [] (full d ρ) 0 0 _
  unfold fX0_hears
  refine WW.iload_n (pc := 0) (j := 2) rfl dX0_hears_0 ?_
  refine WW.iconst (pc := 1) 2 dX0_hears_1 rfl ?_
  refine WW.icmp_lt (pc := 2) 18 dX0_hears_2 (by decide) (fun _ => ?_) (fun _ => ?_)
  · refine WW.iload_n (pc := 18) (j := 1) rfl dX0_hears_18 ?_
    exact WW.ret rfl rfl (show RetI M_X0_hears 19 from dX0_hears_19) ⟨Nat.le_refl _, Nat.le_refl _⟩ rfl
  · refine WW.aload_n (pc := 5) (j := 3) rfl dX0_hears_5 ?_
    refine WW.bipush (pc := 6) 100 dX0_hears_6 rfl ?_
    refine WW.callV (pc := 8) (As := [.int 100]) (st := []) lk_X0_19 (okX10_draw g ρ hρ d 100) h3_19 (sh_19 ρ) ⟨_, _, clk10⟩ rfl (Nat.le_of_ble_eq_true rfl) ⟨Nat.le_of_ble_eq_true rfl, Nat.le_of_ble_eq_true rfl, Nat.le_of_ble_eq_true rfl, Nat.le_of_ble_eq_true rfl⟩ dX0_hears_8 rfl (fun r1 hr1 => ?_)
    show WW _ _ _ 11 _ [.int r1.1] (full r1.2 ρ) 0 0 _
    refine WW.aload_n (pc := 11) (j := 0) rfl dX0_hears_11 ?_
    refine WW.sgi (pc := 12) fl_X0_15_0 (h3N hn) (shN hn htg) (Or.inl gt_0_1) dX0_hears_12 ?_
    refine WW.icmp_lt (pc := 15) 20 dX0_hears_15 (by decide) (fun _ => ?_) (fun _ => ?_)
    · refine WW.aload_n (pc := 20) (j := 3) rfl dX0_hears_20 ?_
      refine WW.iload_n (pc := 21) (j := 2) rfl dX0_hears_21 ?_
      refine WW.iconst (pc := 22) 1 dX0_hears_22 rfl ?_
      refine WW.isub (pc := 23) dX0_hears_23 ?_
      refine WW.callV (pc := 24) (As := [.int (a2 - 1)]) (st := []) lk_X0_19 (okX10_draw g ρ hρ r1.2 (a2 - 1)) h3_19 (sh_19 ρ) ⟨_, _, clk10⟩ rfl (Nat.le_of_ble_eq_true rfl) ⟨Nat.le_of_ble_eq_true rfl, Nat.le_of_ble_eq_true rfl, Nat.le_of_ble_eq_true rfl, Nat.le_of_ble_eq_true rfl⟩ dX0_hears_24 rfl (fun r2 hr2 => ?_)
      show WW _ _ _ 27 _ [.int r2.1] (full r2.2 ρ) 0 0 _
      refine WW.istore (pc := 27) [(4, .int r2.1), (0, .ref o), (1, .int a1), (2, .int a2), (3, .ref 19)] rfl (by decide) dX0_hears_27 ?_
      refine WW.iload (pc := 29) (j := 0) rfl dX0_hears_29 ?_
      refine WW.iload_n (pc := 31) (j := 2) rfl dX0_hears_31 ?_
      refine WW.icmp_ge (pc := 32) 40 dX0_hears_32 (by decide) (fun _ => ?_) (fun _ => ?_)
      · refine WW.iload (pc := 40) (j := 0) rfl dX0_hears_40 ?_
        refine WW.iconst (pc := 42) 1 dX0_hears_42 rfl ?_
        refine WW.iadd (pc := 43) dX0_hears_43 ?_
        exact WW.ret rfl rfl (show RetI M_X0_hears 44 from dX0_hears_44) ⟨Nat.le_refl _, Nat.le_refl _⟩ rfl
      · refine WW.iload (pc := 35) (j := 0) rfl dX0_hears_35 ?_
        refine WW.goto (pc := 37) 44 dX0_hears_37 (by decide) ?_
        exact WW.ret rfl rfl (show RetI M_X0_hears 44 from dX0_hears_44) ⟨Nat.le_refl _, Nat.le_refl _⟩ rfl
    · refine WW.iload_n (pc := 18) (j := 1) rfl dX0_hears_18 ?_
      exact WW.ret rfl rfl (show RetI M_X0_hears 19 from dX0_hears_19) ⟨Nat.le_refl _, Nat.le_refl _⟩ rfl
def fX6_hears (ρ : Rh) (d : Dd) (o : Nat) (a1 : Int32) (a2 : Int32) : Option Int32 :=
  (fv_signOf ρ d o a1).bind fun r1 =>
  some r1
set_option maxHeartbeats 4000000 in
set_option maxRecDepth 100000 in
theorem okX6_hears (g : Gx) (ρ : Rh) (hρ : Hr ρ) (d : Dd) (o : Nat) (a1 : Int32) (a2 : Int32) (hn : NewsO ρ o) : CallR g M_X6_hears (eIp ρ d) [.ref o, .int a1, .int a2, .ref 19] (full d ρ) (fX6_hears ρ d o a1 a2) := by
  refine CallR.intro rfl rfl (Nat.le_of_ble_eq_true rfl) (fun a ha => ⟨_, rfl⟩) ?_
  show WW g _ _ 0 [(0, .ref o), (1, .int a1), (2, .int a2), (3, .ref 19)] [] (full d ρ) 0 0 _
  unfold fX6_hears
  refine WW.aload_n (pc := 0) (j := 0) rfl dX6_hears_0 ?_
  refine WW.iload_n (pc := 1) (j := 1) rfl dX6_hears_1 ?_
  refine WWv_signOf (pc := 2) (st := []) hρ hn lk_X6_39_0 lk_X6_39_4 lk_X6_39_6 lk_X6_39_8 lk_X6_39_9 (Nat.le_of_ble_eq_true rfl) (by first | exact ⟨Nat.le_of_ble_eq_true rfl, Nat.le_of_ble_eq_true rfl, Nat.le_of_ble_eq_true rfl, Nat.le_of_ble_eq_true rfl⟩) (by first | exact ⟨Nat.le_of_ble_eq_true rfl, Nat.le_of_ble_eq_true rfl, Nat.le_of_ble_eq_true rfl, Nat.le_of_ble_eq_true rfl⟩) (by first | exact ⟨Nat.le_of_ble_eq_true rfl, Nat.le_of_ble_eq_true rfl, Nat.le_of_ble_eq_true rfl, Nat.le_of_ble_eq_true rfl⟩) dX6_hears_2 rfl (fun r1 hr1 => ?_)
  show WW _ _ _ 5 _ [.int r1] (full d ρ) 0 0 _
  exact WW.ret rfl rfl (show RetI M_X6_hears 5 from dX6_hears_5) ⟨Nat.le_refl _, Nat.le_refl _⟩ rfl
def fv_hears (ρ : Rh) (d : Dd) (o : Nat) (a1 : Int32) (a2 : Int32) : Option (Int32 × Dd) :=
  if tg ρ o = 0 then fX0_hears ρ d o a1 a2 else (fX6_hears ρ d o a1 a2).map (fun r => (r, d))
theorem WWv_hears {α : Type} {g : Gx} {M : Mx} {emb : α → Option Value × HP} {pc : Nat} {L : List (Nat × Value)} {st stk : List Value} {ρ : Rh} {d : Dd} {kc ks : Nat} {κ : (Int32 × Dd) → Option α} {ixx o : Nat} {a1 : Int32} {a2 : Int32} (hρ : Hr ρ) (hn : NewsO ρ o) (l0 : LkU (m_own M) ixx RX0 ⟨"SoldNews$News", "hears", "(IILSoldNews$Seed;)I"⟩ M_X0_hears 3) (l4 : LkU (m_own M) ixx RX4 ⟨"SoldNews$News", "hears", "(IILSoldNews$Seed;)I"⟩ M_X6_hears 3) (l6 : LkU (m_own M) ixx RX6 ⟨"SoldNews$News", "hears", "(IILSoldNews$Seed;)I"⟩ M_X6_hears 3) (l8 : LkU (m_own M) ixx RX8 ⟨"SoldNews$News", "hears", "(IILSoldNews$Seed;)I"⟩ M_X6_hears 3) (l9 : LkU (m_own M) ixx RX9 ⟨"SoldNews$News", "hears", "(IILSoldNews$Seed;)I"⟩ M_X6_hears 3) (hst : (st.map fun v => v.category).sum ≤ 8) (ftX0_hears : Fit M M_X0_hears kc ks) (ftX6_hears : Fit M M_X6_hears kc ks) (hd : decode (m_cc M) pc = .ok (.invokevirtual ixx, 3)) (hstk : stk = [.int a1, .int a2, .ref 19].reverse ++ .ref o :: st)
    (hk : ∀ b, fv_hears ρ d o a1 a2 = some b → WW g M emb (pc + 3) L (((eI ρ) b).1.toList ++ st) ((eI ρ) b).2 (kc + 0) (ks + 0) (κ b)) : WW g M emb pc L stk (full d ρ) kc ks ((fv_hears ρ d o a1 a2).bind κ) := by
  rcases mem5 (tgT hρ hn) with e | e | e | e | e
  · have hf : fv_hears ρ d o a1 a2 = fX0_hears ρ d o a1 a2 := by simp [fv_hears, e]
    rw [hf] at hk ⊢
    exact WW.callU l0 (okX0_hears g ρ hρ d o a1 a2 hn e) (h3N hn) (shN hn e) ⟨_, _, clk0⟩ rfl hst ftX0_hears hd hstk hk
  · have hf : fv_hears ρ d o a1 a2 = (fX6_hears ρ d o a1 a2).map (fun r => (r, d)) := by simp [fv_hears, e]
    rw [hf] at hk ⊢
    have hb : ∀ r : Option Int32, (r.map (fun x => (x, d))).bind κ = r.bind (fun x => κ (x, d)) := fun r => by cases r <;> rfl
    rw [hb]
    refine WW.callU l4 (okX6_hears g ρ hρ d o a1 a2 hn) (h3N hn) (shN hn e) ⟨_, _, clk4⟩ rfl hst ftX6_hears hd hstk (fun b hb2 => ?_)
    exact hk (b, d) (by rw [hb2]; rfl)
  · have hf : fv_hears ρ d o a1 a2 = (fX6_hears ρ d o a1 a2).map (fun r => (r, d)) := by simp [fv_hears, e]
    rw [hf] at hk ⊢
    have hb : ∀ r : Option Int32, (r.map (fun x => (x, d))).bind κ = r.bind (fun x => κ (x, d)) := fun r => by cases r <;> rfl
    rw [hb]
    refine WW.callU l6 (okX6_hears g ρ hρ d o a1 a2 hn) (h3N hn) (shN hn e) ⟨_, _, clk6⟩ rfl hst ftX6_hears hd hstk (fun b hb2 => ?_)
    exact hk (b, d) (by rw [hb2]; rfl)
  · have hf : fv_hears ρ d o a1 a2 = (fX6_hears ρ d o a1 a2).map (fun r => (r, d)) := by simp [fv_hears, e]
    rw [hf] at hk ⊢
    have hb : ∀ r : Option Int32, (r.map (fun x => (x, d))).bind κ = r.bind (fun x => κ (x, d)) := fun r => by cases r <;> rfl
    rw [hb]
    refine WW.callU l8 (okX6_hears g ρ hρ d o a1 a2 hn) (h3N hn) (shN hn e) ⟨_, _, clk8⟩ rfl hst ftX6_hears hd hstk (fun b hb2 => ?_)
    exact hk (b, d) (by rw [hb2]; rfl)
  · have hf : fv_hears ρ d o a1 a2 = (fX6_hears ρ d o a1 a2).map (fun r => (r, d)) := by simp [fv_hears, e]
    rw [hf] at hk ⊢
    have hb : ∀ r : Option Int32, (r.map (fun x => (x, d))).bind κ = r.bind (fun x => κ (x, d)) := fun r => by cases r <;> rfl
    rw [hb]
    refine WW.callU l9 (okX6_hears g ρ hρ d o a1 a2 hn) (h3N hn) (shN hn e) ⟨_, _, clk9⟩ rfl hst ftX6_hears hd hstk (fun b hb2 => ?_)
    exact hk (b, d) (by rw [hb2]; rfl)
def fX1_sizesOf (ρ : Rh) (d : Dd) (a1 : Int32) : Option Int32 :=
  lp (fun self2 (x1 : Int32 × Int32) =>
    if (d_i d 15 2) ≤ x1.2 then
      (some x1.1)
    else
      ((fX1_stepOf ρ d a1 x1.2).bind fun r3 =>
      bnd ((x1.1 + (jabsI r3)) : Int32) fun v4 =>
      self2 (v4, (x1.2 + 1)))
    ) 6000 (0, 0)
set_option maxHeartbeats 4000000 in
set_option maxRecDepth 100000 in
theorem okX1_sizesOf (g : Gx) (ρ : Rh) (hρ : Hr ρ) (d : Dd) (a1 : Int32) : CallR g M_X1_sizesOf (eIp ρ d) [.ref 15, .int a1] (full d ρ) (fX1_sizesOf ρ d a1) := by
  refine CallR.intro rfl rfl (Nat.le_of_ble_eq_true rfl) (fun a ha => ⟨_, rfl⟩) ?_
  show WW g _ _ 0 [(0, .ref 15), (1, .int a1)] [] (full d ρ) 0 0 _
  unfold fX1_sizesOf
  refine WW.iconst (pc := 0) 0 dX1_sizesOf_0 rfl ?_
  refine WW.istore_n (pc := 1) [(2, .int 0), (0, .ref 15), (1, .int a1)] rfl (by decide) dX1_sizesOf_1 ?_
  refine WW.iconst (pc := 2) 0 dX1_sizesOf_2 rfl ?_
  refine WW.istore_n (pc := 3) [(3, .int 0), (2, .int 0), (0, .ref 15), (1, .int a1)] rfl (by decide) dX1_sizesOf_3 ?_
  refine WW.sub [2, 3, 1, 0] rfl ?_
  refine WW.loop (pc := 4) (Lj := fun (x1 : Int32 × Int32) => [(0, .ref 15), (1, .int a1), (2, .int x1.1), (3, .int x1.2)]) (hj := fun (x1 : Int32 × Int32) => full d ρ) (fun self2 hself2 x1 => ?_) 6000 (0, 0)
  refine WW.iload_n (pc := 4) (j := 3) rfl dX1_sizesOf_4 ?_
  refine WW.aload_n (pc := 5) (j := 0) rfl dX1_sizesOf_5 ?_
  refine WW.sgi (pc := 6) fl_X1_21_1 h3_15 (sh_15 ρ) (Or.inl gt_1_2) dX1_sizesOf_6 ?_
  refine WW.icmp_ge (pc := 9) 29 dX1_sizesOf_9 (by decide) (fun _ => ?_) (fun _ => ?_)
  · refine WW.iload_n (pc := 29) (j := 2) rfl dX1_sizesOf_29 ?_
    exact WW.ret rfl rfl (show RetI M_X1_sizesOf 30 from dX1_sizesOf_30) ⟨Nat.le_refl _, Nat.le_refl _⟩ rfl
  · refine WW.iload_n (pc := 12) (j := 2) rfl dX1_sizesOf_12 ?_
    refine WW.iload_n (pc := 13) (j := 1) rfl dX1_sizesOf_13 ?_
    refine WW.iload_n (pc := 14) (j := 3) rfl dX1_sizesOf_14 ?_
    refine WW.callS (pc := 15) (As := [.int a1, .int x1.2]) (st := [.int x1.1]) lk_X1_37 (okX1_stepOf g ρ hρ d a1 x1.2) rfl (Nat.le_of_ble_eq_true rfl) ⟨Nat.le_of_ble_eq_true rfl, Nat.le_of_ble_eq_true rfl, Nat.le_of_ble_eq_true rfl, Nat.le_of_ble_eq_true rfl⟩ dX1_sizesOf_15 rfl (fun r3 hr3 => ?_)
    show WW _ _ _ 18 _ [.int r3, .int x1.1] (full d ρ) 0 0 _
    refine WW.abs (pc := 18) lk_X1_32 (Nat.le_of_ble_eq_true rfl) (Nat.le_of_ble_eq_true rfl) ⟨(Nat.le_of_ble_eq_true rfl), (Nat.le_of_ble_eq_true rfl)⟩ dX1_sizesOf_18 ?_
    refine WW.iadd (pc := 21) dX1_sizesOf_21 ?_
    refine WW.nmi (fun v4 => ?_)
    refine WW.istore_n (pc := 22) [(2, .int v4), (0, .ref 15), (1, .int a1), (3, .int x1.2)] rfl (by decide) dX1_sizesOf_22 ?_
    refine WW.iinc (pc := 23) (j := 3) (x1.2 + 1) [(3, .int (x1.2 + 1)), (2, .int v4), (0, .ref 15), (1, .int a1)] rfl rfl rfl (by decide) dX1_sizesOf_23 ?_
    refine WW.goto (pc := 26) 4 dX1_sizesOf_26 (by decide) ?_
    refine WW.sub [2, 3, 1, 0] rfl ?_
    exact hself2 (v4, (x1.2 + 1))
def fX11_run (ρ : Rh) (d : Dd) (a1 : Int32) (a2 : Int32) (a3 : Int32) (a4 : Int32) (a5 : Int32) : Option (Int32 × Dd) :=
  (fX11_isSet ρ d a2).bind fun r1 =>
  jn (fun (x2 : Bool) =>
    (fX11_refusal ρ d a1 true x2).bind fun r4 =>
    if r4 = 0 then
      ((fX11_newsAt ρ d a1).bind fun r5 =>
      if r5 = 0 then
        (some ((-101), d))
      else
        ((fX11_settle ρ d a1 a2).bind fun r7 =>
        bnd (dL r7 19 0 (Int32.toInt64 a3)) fun d8 =>
        lp (fun self10 (x9 : Int32 × Int32 × Int32 × Dd) =>
          if a4 ≤ x9.2.2.1 then
            (if a5 = 0 then
              (some ((Int64.toInt32 (d_l x9.2.2.2 19 0)), x9.2.2.2))
            else
              (if a5 = 1 then
                (some (x9.1, x9.2.2.2))
              else
                (some (x9.2.1, x9.2.2.2))))
          else
            ((fX10_draw ρ x9.2.2.2 (d_i x9.2.2.2 ρ.1 3)).bind fun r11 =>
            (fX5_caseAt ρ r11.2 ρ.1 r11.1).bind fun r12 =>
            (fv_hears ρ r11.2 r5 r12 (d_i r11.2 ρ.1 2)).bind fun r13 =>
            (fX11_dealtFor ρ r13.2 a1 a2 r13.1).bind fun r14 =>
            (fX1_sizesOf ρ r13.2 r14).bind fun r15 =>
            bnd ((x9.1 + r15) : Int32) fun v16 =>
            jn (fun (x17 : Bool) =>
              bnd ((x9.2.1 + (b2i x17)) : Int32) fun v19 =>
              self10 (v16, v19, (x9.2.2.1 + 1), r13.2)
              ) fun k18 =>
            if r15 = 0 then
              (k18 true)
            else
              (k18 false))
          ) 6000 (0, 0, 0, d8)))
    else
      (some (r4, d))
    ) fun k3 =>
  jn (fun (x20 : Unit) =>
    k3 false
    ) fun k21 =>
  if r1 = true then
    (if a3 < 0 then
      (k21 ())
    else
      (if a4 < 1 then
        (k21 ())
      else
        (if 100 < a4 then
          (k21 ())
        else
          (if a5 < 0 then
            (k21 ())
          else
            (if 2 < a5 then
              (k21 ())
            else
              (k3 true))))))
  else
    (k21 ())
set_option maxHeartbeats 4000000 in
set_option maxRecDepth 100000 in
theorem okX11_run (g : Gx) (ρ : Rh) (hρ : Hr ρ) (d : Dd) (a1 : Int32) (a2 : Int32) (a3 : Int32) (a4 : Int32) (a5 : Int32) : CallR g M_X11_run (eI ρ) [.ref 3, .int a1, .int a2, .int a3, .int a4, .int a5] (full d ρ) (fX11_run ρ d a1 a2 a3 a4 a5) := by
  refine CallR.intro rfl rfl (Nat.le_of_ble_eq_true rfl) (fun a ha => ⟨_, rfl⟩) ?_
  show WW g _ _ 0 [(0, .ref 3), (1, .int a1), (2, .int a2), (3, .int a3), (4, .int a4), (5, .int a5)] [] (full d ρ) 0 0 _
  unfold fX11_run
  refine WW.aload_n (pc := 0) (j := 0) rfl dX11_run_0 ?_
  refine WW.iload_n (pc := 1) (j := 2) rfl dX11_run_1 ?_
  refine WW.callV (pc := 2) (As := [.int a2]) (st := []) lk_X11_192 (okX11_isSet g ρ hρ d a2) h3_3 (sh_3 ρ) ⟨_, _, clk11⟩ rfl (Nat.le_of_ble_eq_true rfl) ⟨Nat.le_of_ble_eq_true rfl, Nat.le_of_ble_eq_true rfl, Nat.le_of_ble_eq_true rfl, Nat.le_of_ble_eq_true rfl⟩ dX11_run_2 rfl (fun r1 hr1 => ?_)
  show WW _ _ _ 5 _ [.int (b2i r1)] (full d ρ) 0 0 _
  refine WW.join (pj := 41) (Lj := fun (x2 : Bool) => [(0, .ref 3), (1, .int a1), (2, .int a2), (3, .int a3), (4, .int a4), (5, .int a5)]) (sj := fun (x2 : Bool) => [.int (b2i x2)]) (hj := fun (x2 : Bool) => full d ρ) (fun x2 => ?_) (fun k3 hk3 => ?_)
  · refine WW.istore (pc := 41) [(6, .int (b2i x2)), (0, .ref 3), (1, .int a1), (2, .int a2), (3, .int a3), (4, .int a4), (5, .int a5)] rfl (by decide) dX11_run_41 ?_
    refine WW.aload_n (pc := 43) (j := 1) rfl dX11_run_43 ?_
    refine WW.iload_n (pc := 44) (j := 2) rfl dX11_run_44 ?_
    refine WW.iconst (pc := 45) 1 dX11_run_45 rfl ?_
    refine WW.iload (pc := 46) (j := 0) rfl dX11_run_46 ?_
    refine WW.callV (pc := 48) (As := [.int a1, .int (b2i true), .int (b2i x2)]) (st := []) lk_X11_159 (okX11_refusal g ρ hρ d a1 true x2) h3_3 (sh_3 ρ) ⟨_, _, clk11⟩ rfl (Nat.le_of_ble_eq_true rfl) ⟨Nat.le_of_ble_eq_true rfl, Nat.le_of_ble_eq_true rfl, Nat.le_of_ble_eq_true rfl, Nat.le_of_ble_eq_true rfl⟩ dX11_run_48 rfl (fun r4 hr4 => ?_)
    show WW _ _ _ 51 _ [.int r4] (full d ρ) 0 0 _
    refine WW.istore (pc := 51) [(7, .int r4), (6, .int (b2i x2)), (0, .ref 3), (1, .int a1), (2, .int a2), (3, .int a3), (4, .int a4), (5, .int a5)] rfl (by decide) dX11_run_51 ?_
    refine WW.iload (pc := 53) (j := 0) rfl dX11_run_53 ?_
    refine WW.if_eq (pc := 55) 61 dX11_run_55 (by decide) (fun _ => ?_) (fun _ => ?_)
    · refine WW.aload_n (pc := 61) (j := 2) rfl dX11_run_61 ?_
      refine WW.iload_n (pc := 62) (j := 3) rfl dX11_run_62 ?_
      refine WW.callV (pc := 63) (As := [.int a1]) (st := []) lk_X11_146 (okX11_newsAt g ρ hρ d a1) h3_3 (sh_3 ρ) ⟨_, _, clk11⟩ rfl (Nat.le_of_ble_eq_true rfl) ⟨Nat.le_of_ble_eq_true rfl, Nat.le_of_ble_eq_true rfl, Nat.le_of_ble_eq_true rfl, Nat.le_of_ble_eq_true rfl⟩ dX11_run_63 rfl (fun r5 hr5 => ?_)
      show WW _ _ _ 66 _ [.ref r5] (full d ρ) 0 0 _
      refine WW.astore (pc := 66) [(8, .ref r5), (7, .int r4), (6, .int (b2i x2)), (0, .ref 3), (1, .int a1), (2, .int a2), (3, .int a3), (4, .int a4), (5, .int a5)] rfl (by decide) dX11_run_66 ?_
      refine WW.aload (pc := 68) (j := 0) rfl dX11_run_68 ?_
      refine WW.ifnonnull (pc := 70) 76 dX11_run_70 (by decide) (fun _ => ?_) (fun hq6 => ?_)
      · refine WW.bipush (pc := 73) (-101) dX11_run_73 rfl ?_
        exact WW.ret rfl rfl (show RetI M_X11_run 75 from dX11_run_75) ⟨Nat.le_refl _, Nat.le_refl _⟩ rfl
      · refine WW.aload_n (pc := 76) (j := 3) rfl dX11_run_76 ?_
        refine WW.iload_n (pc := 77) (j := 4) rfl dX11_run_77 ?_
        refine WW.iload_n (pc := 78) (j := 5) rfl dX11_run_78 ?_
        refine WW.callV (pc := 79) (As := [.int a1, .int a2]) (st := []) lk_X11_195 (okX11_settle g ρ hρ d a1 a2) h3_3 (sh_3 ρ) ⟨_, _, clk11⟩ rfl (Nat.le_of_ble_eq_true rfl) ⟨Nat.le_of_ble_eq_true rfl, Nat.le_of_ble_eq_true rfl, Nat.le_of_ble_eq_true rfl, Nat.le_of_ble_eq_true rfl⟩ dX11_run_79 rfl (fun r7 hr7 => ?_)
        show WW _ _ _ 82 _ [] (full r7 ρ) 0 0 _
        refine WW.aload_n (pc := 82) (j := 3) rfl dX11_run_82 ?_
        refine WW.sgr (pc := 83) fl_X11_54_11 h3_3 (sh_3 ρ) (Or.inl ⟨_, gt_11_10⟩) (hr_3_10 ρ) dX11_run_83 ?_
        refine WW.iload_n (pc := 86) (j := 6) rfl dX11_run_86 ?_
        refine WW.i2l (pc := 87) dX11_run_87 ?_
        refine WW.spl (pc := 88) fp_X11_284_10 h3_19 (sh_19 ρ) gt_10_0 dX11_run_88 (fun d8 => ?_)
        refine WW.iconst (pc := 91) 0 dX11_run_91 rfl ?_
        refine WW.istore (pc := 92) [(9, .int 0), (8, .ref r5), (7, .int r4), (6, .int (b2i x2)), (0, .ref 3), (1, .int a1), (2, .int a2), (3, .int a3), (4, .int a4), (5, .int a5)] rfl (by decide) dX11_run_92 ?_
        refine WW.iconst (pc := 94) 0 dX11_run_94 rfl ?_
        refine WW.istore (pc := 95) [(10, .int 0), (9, .int 0), (8, .ref r5), (7, .int r4), (6, .int (b2i x2)), (0, .ref 3), (1, .int a1), (2, .int a2), (3, .int a3), (4, .int a4), (5, .int a5)] rfl (by decide) dX11_run_95 ?_
        refine WW.iconst (pc := 97) 0 dX11_run_97 rfl ?_
        refine WW.istore (pc := 98) [(11, .int 0), (10, .int 0), (9, .int 0), (8, .ref r5), (7, .int r4), (6, .int (b2i x2)), (0, .ref 3), (1, .int a1), (2, .int a2), (3, .int a3), (4, .int a4), (5, .int a5)] rfl (by decide) dX11_run_98 ?_
        refine WW.sub [6, 7, 8, 10, 11, 3, 2, 1, 0] rfl ?_
        refine WW.loop (pc := 100) (Lj := fun (x9 : Int32 × Int32 × Int32 × Dd) => [(0, .ref 3), (1, .int a1), (2, .int a2), (4, .int a4), (5, .int a5), (8, .ref r5), (9, .int x9.1), (10, .int x9.2.1), (11, .int x9.2.2.1)]) (hj := fun (x9 : Int32 × Int32 × Int32 × Dd) => full x9.2.2.2 ρ) (fun self10 hself10 x9 => ?_) 6000 (0, 0, 0, d8)
        refine WW.iload (pc := 100) (j := 8) rfl dX11_run_100 ?_
        refine WW.iload (pc := 102) (j := 3) rfl dX11_run_102 ?_
        refine WW.icmp_ge (pc := 104) 195 dX11_run_104 (by decide) (fun _ => ?_) (fun _ => ?_)
        · refine WW.iload (pc := 195) (j := 4) rfl dX11_run_195 ?_
          refine WW.if_ne (pc := 197) 211 dX11_run_197 (by decide) (fun _ => ?_) (fun _ => ?_)
          · refine WW.aload_n (pc := 200) (j := 0) rfl dX11_run_200 ?_
            refine WW.sgr (pc := 201) fl_X11_54_11 h3_3 (sh_3 ρ) (Or.inl ⟨_, gt_11_10⟩) (hr_3_10 ρ) dX11_run_201 ?_
            refine WW.sgl (pc := 204) fl_X11_284_10 h3_19 (sh_19 ρ) gt_10_0 dX11_run_204 ?_
            refine WW.l2i (pc := 207) dX11_run_207 ?_
            refine WW.goto (pc := 208) 224 dX11_run_208 (by decide) ?_
            exact WW.ret rfl rfl (show RetI M_X11_run 224 from dX11_run_224) ⟨Nat.le_refl _, Nat.le_refl _⟩ rfl
          · refine WW.iload (pc := 211) (j := 4) rfl dX11_run_211 ?_
            refine WW.iconst (pc := 213) 1 dX11_run_213 rfl ?_
            refine WW.icmp_ne (pc := 214) 222 dX11_run_214 (by decide) (fun _ => ?_) (fun _ => ?_)
            · refine WW.iload (pc := 217) (j := 6) rfl dX11_run_217 ?_
              refine WW.goto (pc := 219) 224 dX11_run_219 (by decide) ?_
              exact WW.ret rfl rfl (show RetI M_X11_run 224 from dX11_run_224) ⟨Nat.le_refl _, Nat.le_refl _⟩ rfl
            · refine WW.iload (pc := 222) (j := 7) rfl dX11_run_222 ?_
              exact WW.ret rfl rfl (show RetI M_X11_run 224 from dX11_run_224) ⟨Nat.le_refl _, Nat.le_refl _⟩ rfl
        · refine WW.aload_n (pc := 107) (j := 0) rfl dX11_run_107 ?_
          refine WW.sgr (pc := 108) fl_X11_19_11 h3_3 (sh_3 ρ) (Or.inl ⟨_, gt_11_1⟩) (hr_mk ρ) dX11_run_108 ?_
          refine WW.aload_n (pc := 111) (j := 0) rfl dX11_run_111 ?_
          refine WW.sgr (pc := 112) fl_X11_54_11 h3_3 (sh_3 ρ) (Or.inl ⟨_, gt_11_10⟩) (hr_3_10 ρ) dX11_run_112 ?_
          refine WW.aload_n (pc := 115) (j := 0) rfl dX11_run_115 ?_
          refine WW.sgr (pc := 116) fl_X11_19_11 h3_3 (sh_3 ρ) (Or.inl ⟨_, gt_11_1⟩) (hr_mk ρ) dX11_run_116 ?_
          refine WW.sgi (pc := 119) fl_X11_281_5 (mk3 hρ.1) (mkS hρ.1) (Or.inl gt_5_3) dX11_run_119 ?_
          refine WW.callV (pc := 122) (As := [.int (d_i x9.2.2.2 ρ.1 3)]) (st := [.ref ρ.1]) lk_X11_287 (okX10_draw g ρ hρ x9.2.2.2 (d_i x9.2.2.2 ρ.1 3)) h3_19 (sh_19 ρ) ⟨_, _, clk10⟩ rfl (Nat.le_of_ble_eq_true rfl) ⟨Nat.le_of_ble_eq_true rfl, Nat.le_of_ble_eq_true rfl, Nat.le_of_ble_eq_true rfl, Nat.le_of_ble_eq_true rfl⟩ dX11_run_122 rfl (fun r11 hr11 => ?_)
          show WW _ _ _ 125 _ [.int r11.1, .ref ρ.1] (full r11.2 ρ) 0 0 _
          refine WW.callV (pc := 125) (As := [.int r11.1]) (st := []) lk_X11_290 (okX5_caseAt g ρ hρ r11.2 ρ.1 r11.1 hρ.1) (mk3 hρ.1) (mkS hρ.1) ⟨_, _, clk5⟩ rfl (Nat.le_of_ble_eq_true rfl) ⟨Nat.le_of_ble_eq_true rfl, Nat.le_of_ble_eq_true rfl, Nat.le_of_ble_eq_true rfl, Nat.le_of_ble_eq_true rfl⟩ dX11_run_125 rfl (fun r12 hr12 => ?_)
          show WW _ _ _ 128 _ [.int r12] (full r11.2 ρ) 0 0 _
          refine WW.istore (pc := 128) [(12, .int r12), (0, .ref 3), (1, .int a1), (2, .int a2), (4, .int a4), (5, .int a5), (8, .ref r5), (9, .int x9.1), (10, .int x9.2.1), (11, .int x9.2.2.1)] rfl (by decide) dX11_run_128 ?_
          refine WW.aload (pc := 130) (j := 6) rfl dX11_run_130 ?_
          refine WW.iload (pc := 132) (j := 0) rfl dX11_run_132 ?_
          refine WW.aload_n (pc := 134) (j := 1) rfl dX11_run_134 ?_
          refine WW.sgr (pc := 135) fl_X11_19_11 h3_3 (sh_3 ρ) (Or.inl ⟨_, gt_11_1⟩) (hr_mk ρ) dX11_run_135 ?_
          refine WW.sgi (pc := 138) fl_X11_96_5 (mk3 hρ.1) (mkS hρ.1) (Or.inl gt_5_2) dX11_run_138 ?_
          refine WW.aload_n (pc := 141) (j := 1) rfl dX11_run_141 ?_
          refine WW.sgr (pc := 142) fl_X11_54_11 h3_3 (sh_3 ρ) (Or.inl ⟨_, gt_11_10⟩) (hr_3_10 ρ) dX11_run_142 ?_
          refine WWv_hears (pc := 145) (st := []) hρ ((nwAt hρ hr5).resolve_left hq6) lk_X11_293_0 lk_X11_293_4 lk_X11_293_6 lk_X11_293_8 lk_X11_293_9 (Nat.le_of_ble_eq_true rfl) (by first | exact ⟨Nat.le_of_ble_eq_true rfl, Nat.le_of_ble_eq_true rfl, Nat.le_of_ble_eq_true rfl, Nat.le_of_ble_eq_true rfl⟩) (by first | exact ⟨Nat.le_of_ble_eq_true rfl, Nat.le_of_ble_eq_true rfl, Nat.le_of_ble_eq_true rfl, Nat.le_of_ble_eq_true rfl⟩) dX11_run_145 rfl (fun r13 hr13 => ?_)
          show WW _ _ _ 148 _ [.int r13.1] (full r13.2 ρ) 0 0 _
          refine WW.istore (pc := 148) [(13, .int r13.1), (12, .int r12), (0, .ref 3), (1, .int a1), (2, .int a2), (4, .int a4), (5, .int a5), (8, .ref r5), (9, .int x9.1), (10, .int x9.2.1), (11, .int x9.2.2.1)] rfl (by decide) dX11_run_148 ?_
          refine WW.aload_n (pc := 150) (j := 2) rfl dX11_run_150 ?_
          refine WW.sgr (pc := 151) fl_X11_50_11 h3_3 (sh_3 ρ) (Or.inl ⟨_, gt_11_4⟩) (hr_3_4 ρ) dX11_run_151 ?_
          refine WW.aload_n (pc := 154) (j := 2) rfl dX11_run_154 ?_
          refine WW.iload_n (pc := 155) (j := 3) rfl dX11_run_155 ?_
          refine WW.iload_n (pc := 156) (j := 4) rfl dX11_run_156 ?_
          refine WW.iload (pc := 157) (j := 0) rfl dX11_run_157 ?_
          refine WW.callV (pc := 159) (As := [.int a1, .int a2, .int r13.1]) (st := [.ref 15]) lk_X11_199 (okX11_dealtFor g ρ hρ r13.2 a1 a2 r13.1) h3_3 (sh_3 ρ) ⟨_, _, clk11⟩ rfl (Nat.le_of_ble_eq_true rfl) ⟨Nat.le_of_ble_eq_true rfl, Nat.le_of_ble_eq_true rfl, Nat.le_of_ble_eq_true rfl, Nat.le_of_ble_eq_true rfl⟩ dX11_run_159 rfl (fun r14 hr14 => ?_)
          show WW _ _ _ 162 _ [.int r14, .ref 15] (full r13.2 ρ) 0 0 _
          refine WW.callV (pc := 162) (As := [.int r14]) (st := []) lk_X11_297 (okX1_sizesOf g ρ hρ r13.2 r14) h3_15 (sh_15 ρ) ⟨_, _, clk1⟩ rfl (Nat.le_of_ble_eq_true rfl) ⟨Nat.le_of_ble_eq_true rfl, Nat.le_of_ble_eq_true rfl, Nat.le_of_ble_eq_true rfl, Nat.le_of_ble_eq_true rfl⟩ dX11_run_162 rfl (fun r15 hr15 => ?_)
          show WW _ _ _ 165 _ [.int r15] (full r13.2 ρ) 0 0 _
          refine WW.istore (pc := 165) [(14, .int r15), (13, .int r13.1), (12, .int r12), (0, .ref 3), (1, .int a1), (2, .int a2), (4, .int a4), (5, .int a5), (8, .ref r5), (9, .int x9.1), (10, .int x9.2.1), (11, .int x9.2.2.1)] rfl (by decide) dX11_run_165 ?_
          refine WW.iload (pc := 167) (j := 9) rfl dX11_run_167 ?_
          refine WW.iload (pc := 169) (j := 0) rfl dX11_run_169 ?_
          refine WW.iadd (pc := 171) dX11_run_171 ?_
          refine WW.nmi (fun v16 => ?_)
          refine WW.istore (pc := 172) [(9, .int v16), (14, .int r15), (13, .int r13.1), (12, .int r12), (0, .ref 3), (1, .int a1), (2, .int a2), (4, .int a4), (5, .int a5), (8, .ref r5), (10, .int x9.2.1), (11, .int x9.2.2.1)] rfl (by decide) dX11_run_172 ?_
          refine WW.iload (pc := 174) (j := 10) rfl dX11_run_174 ?_
          refine WW.iload (pc := 176) (j := 1) rfl dX11_run_176 ?_
          refine WW.join (pj := 186) (Lj := fun (x17 : Bool) => [(0, .ref 3), (1, .int a1), (2, .int a2), (4, .int a4), (5, .int a5), (8, .ref r5), (9, .int v16), (11, .int x9.2.2.1)]) (sj := fun (x17 : Bool) => [.int (b2i x17), .int x9.2.1]) (hj := fun (x17 : Bool) => full r13.2 ρ) (fun x17 => ?_) (fun k18 hk18 => ?_)
          · refine WW.iadd (pc := 186) dX11_run_186 ?_
            refine WW.nmi (fun v19 => ?_)
            refine WW.istore (pc := 187) [(10, .int v19), (0, .ref 3), (1, .int a1), (2, .int a2), (4, .int a4), (5, .int a5), (8, .ref r5), (9, .int v16), (11, .int x9.2.2.1)] rfl (by decide) dX11_run_187 ?_
            refine WW.iinc (pc := 189) (j := 8) (x9.2.2.1 + 1) [(11, .int (x9.2.2.1 + 1)), (10, .int v19), (0, .ref 3), (1, .int a1), (2, .int a2), (4, .int a4), (5, .int a5), (8, .ref r5), (9, .int v16)] rfl rfl rfl (by decide) dX11_run_189 ?_
            refine WW.goto (pc := 192) 100 dX11_run_192 (by decide) ?_
            refine WW.sub [2, 3, 4, 5, 6, 7, 8, 1, 0] rfl ?_
            exact hself10 (v16, v19, (x9.2.2.1 + 1), r13.2)
          · refine WW.if_ne (pc := 178) 185 dX11_run_178 (by decide) (fun _ => ?_) (fun _ => ?_)
            · refine WW.iconst (pc := 181) 1 dX11_run_181 rfl ?_
              refine WW.goto (pc := 182) 186 dX11_run_182 (by decide) ?_
              refine WW.sub [4, 5, 6, 7, 8, 9, 0, 11] rfl ?_
              exact hk18 true
            · refine WW.iconst (pc := 185) 0 dX11_run_185 rfl ?_
              refine WW.sub [4, 5, 6, 7, 8, 9, 0, 11] rfl ?_
              exact hk18 false
    · refine WW.iload (pc := 58) (j := 0) rfl dX11_run_58 ?_
      exact WW.ret rfl rfl (show RetI M_X11_run 60 from dX11_run_60) ⟨Nat.le_refl _, Nat.le_refl _⟩ rfl
  · refine WW.join (pj := 40) (Lj := fun (x20 : Unit) => [(0, .ref 3), (1, .int a1), (2, .int a2), (3, .int a3), (4, .int a4), (5, .int a5)]) (sj := fun (x20 : Unit) => []) (hj := fun (x20 : Unit) => full d ρ) (fun x20 => ?_) (fun k21 hk21 => ?_)
    · refine WW.iconst (pc := 40) 0 dX11_run_40 rfl ?_
      exact hk3 false
    · refine WW.if_eqB (pc := 5) 40 dX11_run_5 (by decide) (fun _ => ?_) (fun _ => ?_)
      · refine WW.iload_n (pc := 8) (j := 3) rfl dX11_run_8 ?_
        refine WW.if_lt (pc := 9) 40 dX11_run_9 (by decide) (fun _ => ?_) (fun _ => ?_)
        · exact hk21 ()
        · refine WW.iload (pc := 12) (j := 4) rfl dX11_run_12 ?_
          refine WW.iconst (pc := 14) 1 dX11_run_14 rfl ?_
          refine WW.icmp_lt (pc := 15) 40 dX11_run_15 (by decide) (fun _ => ?_) (fun _ => ?_)
          · exact hk21 ()
          · refine WW.iload (pc := 18) (j := 4) rfl dX11_run_18 ?_
            refine WW.bipush (pc := 20) 100 dX11_run_20 rfl ?_
            refine WW.icmp_gt (pc := 22) 40 dX11_run_22 (by decide) (fun _ => ?_) (fun _ => ?_)
            · exact hk21 ()
            · refine WW.iload (pc := 25) (j := 5) rfl dX11_run_25 ?_
              refine WW.if_lt (pc := 27) 40 dX11_run_27 (by decide) (fun _ => ?_) (fun _ => ?_)
              · exact hk21 ()
              · refine WW.iload (pc := 30) (j := 5) rfl dX11_run_30 ?_
                refine WW.iconst (pc := 32) 2 dX11_run_32 rfl ?_
                refine WW.icmp_gt (pc := 33) 40 dX11_run_33 (by decide) (fun _ => ?_) (fun _ => ?_)
                · exact hk21 ()
                · refine WW.iconst (pc := 36) 1 dX11_run_36 rfl ?_
                  refine WW.goto (pc := 37) 41 dX11_run_37 (by decide) ?_
                  exact hk3 true
      · exact hk21 ()
def fX11_count (ρ : Rh) (d : Dd) (a1 : Int32) : Option Int32 :=
  if a1 = 0 then
    (if (d_i d 3 3) = 0 then
      (some 0)
    else
      (some (d_i d ρ.1 2)))
  else
  if a1 = 1 then
    (some (d_i d 15 2))
  else
  if a1 = 2 then
    (some (d_i d 3 6))
  else
  if a1 = 3 then
    (some (d_i d 4 1))
  else
  if a1 = 4 then
    (some (d_i d 3 7))
  else
  (some (-102))
set_option maxHeartbeats 4000000 in
set_option maxRecDepth 100000 in
theorem okX11_count (g : Gx) (ρ : Rh) (hρ : Hr ρ) (d : Dd) (a1 : Int32) : CallR g M_X11_count (eIp ρ d) [.ref 3, .int a1] (full d ρ) (fX11_count ρ d a1) := by
  refine CallR.intro rfl rfl (Nat.le_of_ble_eq_true rfl) (fun a ha => ⟨_, rfl⟩) ?_
  show WW g _ _ 0 [(0, .ref 3), (1, .int a1)] [] (full d ρ) 0 0 _
  unfold fX11_count
  refine WW.iload_n (pc := 0) (j := 1) rfl dX11_count_0 ?_
  refine WW.ite (fun hs1 => ?_) (fun hs1 => ?_)
  · refine WW.tabIn (pc := 1) 0 36 hs1 dX11_count_1 (by decide) (by decide) rfl (by decide) ?_
    refine WW.aload_n (pc := 36) (j := 0) rfl dX11_count_36 ?_
    refine WW.sgi (pc := 37) fl_X11_89_11 h3_3 (sh_3 ρ) (Or.inr gt_11_3) dX11_count_37 ?_
    refine WW.if_eq (pc := 40) 53 dX11_count_40 (by decide) (fun _ => ?_) (fun _ => ?_)
    · refine WW.iconst (pc := 53) 0 dX11_count_53 rfl ?_
      exact WW.ret rfl rfl (show RetI M_X11_count 54 from dX11_count_54) ⟨Nat.le_refl _, Nat.le_refl _⟩ rfl
    · refine WW.aload_n (pc := 43) (j := 0) rfl dX11_count_43 ?_
      refine WW.sgr (pc := 44) fl_X11_19_11 h3_3 (sh_3 ρ) (Or.inl ⟨_, gt_11_1⟩) (hr_mk ρ) dX11_count_44 ?_
      refine WW.sgi (pc := 47) fl_X11_96_5 (mk3 hρ.1) (mkS hρ.1) (Or.inl gt_5_2) dX11_count_47 ?_
      refine WW.goto (pc := 50) 54 dX11_count_50 (by decide) ?_
      exact WW.ret rfl rfl (show RetI M_X11_count 54 from dX11_count_54) ⟨Nat.le_refl _, Nat.le_refl _⟩ rfl
  refine WW.ite (fun hs2 => ?_) (fun hs2 => ?_)
  · refine WW.tabIn (pc := 1) 1 55 hs2 dX11_count_1 (by decide) (by decide) rfl (by decide) ?_
    refine WW.aload_n (pc := 55) (j := 0) rfl dX11_count_55 ?_
    refine WW.sgr (pc := 56) fl_X11_50_11 h3_3 (sh_3 ρ) (Or.inl ⟨_, gt_11_4⟩) (hr_3_4 ρ) dX11_count_56 ?_
    refine WW.sgi (pc := 59) fl_X11_243_1 h3_15 (sh_15 ρ) (Or.inl gt_1_2) dX11_count_59 ?_
    exact WW.ret rfl rfl (show RetI M_X11_count 62 from dX11_count_62) ⟨Nat.le_refl _, Nat.le_refl _⟩ rfl
  refine WW.ite (fun hs3 => ?_) (fun hs3 => ?_)
  · refine WW.tabIn (pc := 1) 2 63 hs3 dX11_count_1 (by decide) (by decide) rfl (by decide) ?_
    refine WW.aload_n (pc := 63) (j := 0) rfl dX11_count_63 ?_
    refine WW.sgi (pc := 64) fl_X11_139_11 h3_3 (sh_3 ρ) (Or.inl gt_11_6) dX11_count_64 ?_
    exact WW.ret rfl rfl (show RetI M_X11_count 67 from dX11_count_67) ⟨Nat.le_refl _, Nat.le_refl _⟩ rfl
  refine WW.ite (fun hs4 => ?_) (fun hs4 => ?_)
  · refine WW.tabIn (pc := 1) 3 68 hs4 dX11_count_1 (by decide) (by decide) rfl (by decide) ?_
    refine WW.aload_n (pc := 68) (j := 0) rfl dX11_count_68 ?_
    refine WW.sgr (pc := 69) fl_X11_10_11 h3_3 (sh_3 ρ) (Or.inl ⟨_, gt_11_0⟩) (hr_3_0 ρ) dX11_count_69 ?_
    refine WW.sgi (pc := 72) fl_X11_78_7 h3_4 (sh_4 ρ) (Or.inl gt_7_1) dX11_count_72 ?_
    exact WW.ret rfl rfl (show RetI M_X11_count 75 from dX11_count_75) ⟨Nat.le_refl _, Nat.le_refl _⟩ rfl
  refine WW.ite (fun hs5 => ?_) (fun hs5 => ?_)
  · refine WW.tabIn (pc := 1) 4 76 hs5 dX11_count_1 (by decide) (by decide) rfl (by decide) ?_
    refine WW.aload_n (pc := 76) (j := 0) rfl dX11_count_76 ?_
    refine WW.sgi (pc := 77) fl_X11_224_11 h3_3 (sh_3 ρ) (Or.inl gt_11_7) dX11_count_77 ?_
    exact WW.ret rfl rfl (show RetI M_X11_count 80 from dX11_count_80) ⟨Nat.le_refl _, Nat.le_refl _⟩ rfl
  refine WW.tabOut (pc := 1) 81 dX11_count_1 ?_ (by decide) ?_
  · have q0 : ¬ (a1).toInt = 0 := fun z => hs1 (Int32.toInt_inj.mp z)
    have q1 : ¬ (a1).toInt = 1 := fun z => hs2 (Int32.toInt_inj.mp z)
    have q2 : ¬ (a1).toInt = 2 := fun z => hs3 (Int32.toInt_inj.mp z)
    have q3 : ¬ (a1).toInt = 3 := fun z => hs4 (Int32.toInt_inj.mp z)
    have q4 : ¬ (a1).toInt = 4 := fun z => hs5 (Int32.toInt_inj.mp z)
    omega
  · refine WW.bipush (pc := 81) (-102) dX11_count_81 rfl ?_
    exact WW.ret rfl rfl (show RetI M_X11_count 83 from dX11_count_83) ⟨Nat.le_refl _, Nat.le_refl _⟩ rfl
def fX11_mixed (a0 : Int64) (a2 : Int64) : Option Int64 :=
  some ((31 * a0) + a2)
set_option maxHeartbeats 4000000 in
set_option maxRecDepth 100000 in
theorem okX11_mixed (g : Gx) (ρ : Rh) (hρ : Hr ρ) (d : Dd) (a0 : Int64) (a2 : Int64) : CallR g M_X11_mixed (eLp ρ d) [.long a0, .long a2] (full d ρ) (fX11_mixed a0 a2) := by
  refine CallR.intro rfl rfl (Nat.le_of_ble_eq_true rfl) (fun a ha => ⟨_, rfl⟩) ?_
  show WW g _ _ 0 [(0, .long a0), (2, .long a2)] [] (full d ρ) 0 0 _
  unfold fX11_mixed
  refine WW.ldc2 (pc := 0) wd_798 dX11_mixed_0 ?_
  refine WW.lload_n (pc := 3) (j := 0) rfl dX11_mixed_3 ?_
  refine WW.lmul (pc := 4) dX11_mixed_4 ?_
  refine WW.lload_n (pc := 5) (j := 1) rfl dX11_mixed_5 ?_
  refine WW.ladd (pc := 6) dX11_mixed_6 ?_
  exact WW.ret rfl rfl (show RetI M_X11_mixed 7 from dX11_mixed_7) ⟨Nat.le_refl _, Nat.le_refl _⟩ rfl
def fX5_mixedInto (ρ : Rh) (d : Dd) (o : Nat) (a1 : Int64) : Option Int64 :=
  (fX11_mixed a1 (Int32.toInt64 (d_i d o 0))).bind fun r1 =>
  (fX11_mixed r1 (Int32.toInt64 (d_i d o 1))).bind fun r2 =>
  lp (fun self4 (x3 : Int64 × Int32) =>
    if (d_i d o 2) ≤ x3.2 then
      (some x3.1)
    else
      ((fX5_weightOf ρ d o x3.2).bind fun r5 =>
      (fX11_mixed x3.1 (Int32.toInt64 r5)).bind fun r6 =>
      (fX5_valueOf ρ d o x3.2).bind fun r7 =>
      (fX11_mixed r6 (Int32.toInt64 r7)).bind fun r8 =>
      self4 (r8, (x3.2 + 1)))
    ) 6000 (r2, 0)
set_option maxHeartbeats 4000000 in
set_option maxRecDepth 100000 in
theorem okX5_mixedInto (g : Gx) (ρ : Rh) (hρ : Hr ρ) (d : Dd) (o : Nat) (a1 : Int64) (ho : o = 6 ∨ o = 9) : CallR g M_X5_mixedInto (eLp ρ d) [.ref o, .long a1] (full d ρ) (fX5_mixedInto ρ d o a1) := by
  refine CallR.intro rfl rfl (Nat.le_of_ble_eq_true rfl) (fun a ha => ⟨_, rfl⟩) ?_
  show WW g _ _ 0 [(0, .ref o), (1, .long a1)] [] (full d ρ) 0 0 _
  unfold fX5_mixedInto
  refine WW.lload_n (pc := 0) (j := 1) rfl dX5_mixedInto_0 ?_
  refine WW.aload_n (pc := 1) (j := 0) rfl dX5_mixedInto_1 ?_
  refine WW.sgi (pc := 2) fl_X5_37_5 (mk3 ho) (mkS ho) (Or.inl gt_5_0) dX5_mixedInto_2 ?_
  refine WW.i2l (pc := 5) dX5_mixedInto_5 ?_
  refine WW.callN (pc := 6) (As := [.long a1, .long (Int32.toInt64 (d_i d o 0))]) (st := []) lk_X5_49 (okX11_mixed g ρ hρ d a1 (Int32.toInt64 (d_i d o 0))) rfl (Nat.le_of_ble_eq_true rfl) ⟨Nat.le_of_ble_eq_true rfl, Nat.le_of_ble_eq_true rfl, Nat.le_of_ble_eq_true rfl, Nat.le_of_ble_eq_true rfl⟩ dX5_mixedInto_6 rfl (fun r1 hr1 => ?_)
  show WW _ _ _ 9 _ [.long r1] (full d ρ) 0 0 _
  refine WW.aload_n (pc := 9) (j := 0) rfl dX5_mixedInto_9 ?_
  refine WW.sgi (pc := 10) fl_X5_40_5 (mk3 ho) (mkS ho) (Or.inl gt_5_1) dX5_mixedInto_10 ?_
  refine WW.i2l (pc := 13) dX5_mixedInto_13 ?_
  refine WW.callN (pc := 14) (As := [.long r1, .long (Int32.toInt64 (d_i d o 1))]) (st := []) lk_X5_49 (okX11_mixed g ρ hρ d r1 (Int32.toInt64 (d_i d o 1))) rfl (Nat.le_of_ble_eq_true rfl) ⟨Nat.le_of_ble_eq_true rfl, Nat.le_of_ble_eq_true rfl, Nat.le_of_ble_eq_true rfl, Nat.le_of_ble_eq_true rfl⟩ dX5_mixedInto_14 rfl (fun r2 hr2 => ?_)
  show WW _ _ _ 17 _ [.long r2] (full d ρ) 0 0 _
  refine WW.lstore_n (pc := 17) [(3, .long r2), (0, .ref o), (1, .long a1)] rfl (by decide) dX5_mixedInto_17 ?_
  refine WW.iconst (pc := 18) 0 dX5_mixedInto_18 rfl ?_
  refine WW.istore (pc := 19) [(5, .int 0), (3, .long r2), (0, .ref o), (1, .long a1)] rfl (by decide) dX5_mixedInto_19 ?_
  refine WW.sub [2, 1, 0] rfl ?_
  refine WW.loop (pc := 21) (Lj := fun (x3 : Int64 × Int32) => [(0, .ref o), (3, .long x3.1), (5, .int x3.2)]) (hj := fun (x3 : Int64 × Int32) => full d ρ) (fun self4 hself4 x3 => ?_) 6000 (r2, 0)
  refine WW.iload (pc := 21) (j := 2) rfl dX5_mixedInto_21 ?_
  refine WW.aload_n (pc := 23) (j := 0) rfl dX5_mixedInto_23 ?_
  refine WW.sgi (pc := 24) fl_X5_18_5 (mk3 ho) (mkS ho) (Or.inl gt_5_2) dX5_mixedInto_24 ?_
  refine WW.icmp_ge (pc := 27) 58 dX5_mixedInto_27 (by decide) (fun _ => ?_) (fun _ => ?_)
  · refine WW.lload_n (pc := 58) (j := 1) rfl dX5_mixedInto_58 ?_
    exact WW.ret rfl rfl (show RetI M_X5_mixedInto 59 from dX5_mixedInto_59) ⟨Nat.le_refl _, Nat.le_refl _⟩ rfl
  · refine WW.lload_n (pc := 30) (j := 1) rfl dX5_mixedInto_30 ?_
    refine WW.aload_n (pc := 31) (j := 0) rfl dX5_mixedInto_31 ?_
    refine WW.iload (pc := 32) (j := 2) rfl dX5_mixedInto_32 ?_
    refine WW.callV (pc := 34) (As := [.int x3.2]) (st := [.long x3.1]) lk_X5_31 (okX5_weightOf g ρ hρ d o x3.2 ho) (mk3 ho) (mkS ho) ⟨_, _, clk5⟩ rfl (Nat.le_of_ble_eq_true rfl) ⟨Nat.le_of_ble_eq_true rfl, Nat.le_of_ble_eq_true rfl, Nat.le_of_ble_eq_true rfl, Nat.le_of_ble_eq_true rfl⟩ dX5_mixedInto_34 rfl (fun r5 hr5 => ?_)
    show WW _ _ _ 37 _ [.int r5, .long x3.1] (full d ρ) 0 0 _
    refine WW.i2l (pc := 37) dX5_mixedInto_37 ?_
    refine WW.callN (pc := 38) (As := [.long x3.1, .long (Int32.toInt64 r5)]) (st := []) lk_X5_49 (okX11_mixed g ρ hρ d x3.1 (Int32.toInt64 r5)) rfl (Nat.le_of_ble_eq_true rfl) ⟨Nat.le_of_ble_eq_true rfl, Nat.le_of_ble_eq_true rfl, Nat.le_of_ble_eq_true rfl, Nat.le_of_ble_eq_true rfl⟩ dX5_mixedInto_38 rfl (fun r6 hr6 => ?_)
    show WW _ _ _ 41 _ [.long r6] (full d ρ) 0 0 _
    refine WW.aload_n (pc := 41) (j := 0) rfl dX5_mixedInto_41 ?_
    refine WW.iload (pc := 42) (j := 2) rfl dX5_mixedInto_42 ?_
    refine WW.callV (pc := 44) (As := [.int x3.2]) (st := [.long r6]) lk_X5_34 (okX5_valueOf g ρ hρ d o x3.2 ho) (mk3 ho) (mkS ho) ⟨_, _, clk5⟩ rfl (Nat.le_of_ble_eq_true rfl) ⟨Nat.le_of_ble_eq_true rfl, Nat.le_of_ble_eq_true rfl, Nat.le_of_ble_eq_true rfl, Nat.le_of_ble_eq_true rfl⟩ dX5_mixedInto_44 rfl (fun r7 hr7 => ?_)
    show WW _ _ _ 47 _ [.int r7, .long r6] (full d ρ) 0 0 _
    refine WW.i2l (pc := 47) dX5_mixedInto_47 ?_
    refine WW.callN (pc := 48) (As := [.long r6, .long (Int32.toInt64 r7)]) (st := []) lk_X5_49 (okX11_mixed g ρ hρ d r6 (Int32.toInt64 r7)) rfl (Nat.le_of_ble_eq_true rfl) ⟨Nat.le_of_ble_eq_true rfl, Nat.le_of_ble_eq_true rfl, Nat.le_of_ble_eq_true rfl, Nat.le_of_ble_eq_true rfl⟩ dX5_mixedInto_48 rfl (fun r8 hr8 => ?_)
    show WW _ _ _ 51 _ [.long r8] (full d ρ) 0 0 _
    refine WW.lstore_n (pc := 51) [(3, .long r8), (0, .ref o), (5, .int x3.2)] rfl (by decide) dX5_mixedInto_51 ?_
    refine WW.iinc (pc := 52) (j := 2) (x3.2 + 1) [(5, .int (x3.2 + 1)), (3, .long r8), (0, .ref o)] rfl rfl rfl (by decide) dX5_mixedInto_52 ?_
    refine WW.goto (pc := 55) 21 dX5_mixedInto_55 (by decide) ?_
    refine WW.sub [2, 1, 0] rfl ?_
    exact hself4 (r8, (x3.2 + 1))
def fX1_mixedInto (ρ : Rh) (d : Dd) (a1 : Int64) : Option Int64 :=
  lp (fun self2 (x1 : Int64 × Int32) =>
    if (d_i d 15 2) ≤ x1.2 then
      (some x1.1)
    else
      ((fX1_limitOf ρ d x1.2).bind fun r3 =>
      (fX11_mixed x1.1 (Int32.toInt64 r3)).bind fun r4 =>
      (fX1_feeOf ρ d x1.2).bind fun r5 =>
      (fX11_mixed r4 (Int32.toInt64 r5)).bind fun r6 =>
      self2 (r6, (x1.2 + 1)))
    ) 6000 (a1, 0)
set_option maxHeartbeats 4000000 in
set_option maxRecDepth 100000 in
theorem okX1_mixedInto (g : Gx) (ρ : Rh) (hρ : Hr ρ) (d : Dd) (a1 : Int64) : CallR g M_X1_mixedInto (eLp ρ d) [.ref 15, .long a1] (full d ρ) (fX1_mixedInto ρ d a1) := by
  refine CallR.intro rfl rfl (Nat.le_of_ble_eq_true rfl) (fun a ha => ⟨_, rfl⟩) ?_
  show WW g _ _ 0 [(0, .ref 15), (1, .long a1)] [] (full d ρ) 0 0 _
  unfold fX1_mixedInto
  refine WW.lload_n (pc := 0) (j := 1) rfl dX1_mixedInto_0 ?_
  refine WW.lstore_n (pc := 1) [(3, .long a1), (0, .ref 15), (1, .long a1)] rfl (by decide) dX1_mixedInto_1 ?_
  refine WW.iconst (pc := 2) 0 dX1_mixedInto_2 rfl ?_
  refine WW.istore (pc := 3) [(5, .int 0), (3, .long a1), (0, .ref 15), (1, .long a1)] rfl (by decide) dX1_mixedInto_3 ?_
  refine WW.sub [2, 1, 0] rfl ?_
  refine WW.loop (pc := 5) (Lj := fun (x1 : Int64 × Int32) => [(0, .ref 15), (3, .long x1.1), (5, .int x1.2)]) (hj := fun (x1 : Int64 × Int32) => full d ρ) (fun self2 hself2 x1 => ?_) 6000 (a1, 0)
  refine WW.iload (pc := 5) (j := 2) rfl dX1_mixedInto_5 ?_
  refine WW.aload_n (pc := 7) (j := 0) rfl dX1_mixedInto_7 ?_
  refine WW.sgi (pc := 8) fl_X1_21_1 h3_15 (sh_15 ρ) (Or.inl gt_1_2) dX1_mixedInto_8 ?_
  refine WW.icmp_ge (pc := 11) 42 dX1_mixedInto_11 (by decide) (fun _ => ?_) (fun _ => ?_)
  · refine WW.lload_n (pc := 42) (j := 1) rfl dX1_mixedInto_42 ?_
    exact WW.ret rfl rfl (show RetI M_X1_mixedInto 43 from dX1_mixedInto_43) ⟨Nat.le_refl _, Nat.le_refl _⟩ rfl
  · refine WW.lload_n (pc := 14) (j := 1) rfl dX1_mixedInto_14 ?_
    refine WW.aload_n (pc := 15) (j := 0) rfl dX1_mixedInto_15 ?_
    refine WW.iload (pc := 16) (j := 2) rfl dX1_mixedInto_16 ?_
    refine WW.callV (pc := 18) (As := [.int x1.2]) (st := [.long x1.1]) lk_X1_25 (okX1_limitOf g ρ hρ d x1.2) h3_15 (sh_15 ρ) ⟨_, _, clk1⟩ rfl (Nat.le_of_ble_eq_true rfl) ⟨Nat.le_of_ble_eq_true rfl, Nat.le_of_ble_eq_true rfl, Nat.le_of_ble_eq_true rfl, Nat.le_of_ble_eq_true rfl⟩ dX1_mixedInto_18 rfl (fun r3 hr3 => ?_)
    show WW _ _ _ 21 _ [.int r3, .long x1.1] (full d ρ) 0 0 _
    refine WW.i2l (pc := 21) dX1_mixedInto_21 ?_
    refine WW.callN (pc := 22) (As := [.long x1.1, .long (Int32.toInt64 r3)]) (st := []) lk_X1_41 (okX11_mixed g ρ hρ d x1.1 (Int32.toInt64 r3)) rfl (Nat.le_of_ble_eq_true rfl) ⟨Nat.le_of_ble_eq_true rfl, Nat.le_of_ble_eq_true rfl, Nat.le_of_ble_eq_true rfl, Nat.le_of_ble_eq_true rfl⟩ dX1_mixedInto_22 rfl (fun r4 hr4 => ?_)
    show WW _ _ _ 25 _ [.long r4] (full d ρ) 0 0 _
    refine WW.aload_n (pc := 25) (j := 0) rfl dX1_mixedInto_25 ?_
    refine WW.iload (pc := 26) (j := 2) rfl dX1_mixedInto_26 ?_
    refine WW.callV (pc := 28) (As := [.int x1.2]) (st := [.long r4]) lk_X1_29 (okX1_feeOf g ρ hρ d x1.2) h3_15 (sh_15 ρ) ⟨_, _, clk1⟩ rfl (Nat.le_of_ble_eq_true rfl) ⟨Nat.le_of_ble_eq_true rfl, Nat.le_of_ble_eq_true rfl, Nat.le_of_ble_eq_true rfl, Nat.le_of_ble_eq_true rfl⟩ dX1_mixedInto_28 rfl (fun r5 hr5 => ?_)
    show WW _ _ _ 31 _ [.int r5, .long r4] (full d ρ) 0 0 _
    refine WW.i2l (pc := 31) dX1_mixedInto_31 ?_
    refine WW.callN (pc := 32) (As := [.long r4, .long (Int32.toInt64 r5)]) (st := []) lk_X1_41 (okX11_mixed g ρ hρ d r4 (Int32.toInt64 r5)) rfl (Nat.le_of_ble_eq_true rfl) ⟨Nat.le_of_ble_eq_true rfl, Nat.le_of_ble_eq_true rfl, Nat.le_of_ble_eq_true rfl, Nat.le_of_ble_eq_true rfl⟩ dX1_mixedInto_32 rfl (fun r6 hr6 => ?_)
    show WW _ _ _ 35 _ [.long r6] (full d ρ) 0 0 _
    refine WW.lstore_n (pc := 35) [(3, .long r6), (0, .ref 15), (5, .int x1.2)] rfl (by decide) dX1_mixedInto_35 ?_
    refine WW.iinc (pc := 36) (j := 2) (x1.2 + 1) [(5, .int (x1.2 + 1)), (3, .long r6), (0, .ref 15)] rfl rfl rfl (by decide) dX1_mixedInto_36 ?_
    refine WW.goto (pc := 39) 5 dX1_mixedInto_39 (by decide) ?_
    refine WW.sub [2, 1, 0] rfl ?_
    exact hself2 (r6, (x1.2 + 1))
def fX11_newsMixedInto (ρ : Rh) (d : Dd) (a1 : Int64) (a3 : Int32) : Option (Int64 × Dd) :=
  (fX11_newsAt ρ d a3).bind fun r1 =>
  if r1 = 0 then
    (some (a1, d))
  else
    ((fX11_mixed a1 (Int32.toInt64 (d_i d r1 0))).bind fun r3 =>
    (fX11_mixed r3 (Int32.toInt64 (d_i d r1 1))).bind fun r4 =>
    if (d_i d 3 3) = 0 then
      (some (r4, d))
    else
      ((fX1_everybody ρ d).bind fun r5 =>
      (fX11_settle ρ d a3 r5).bind fun r6 =>
      lp (fun self8 (x7 : Int64 × Int32) =>
        if 4 ≤ x7.2 then
          (some (x7.1, r6))
        else
          ((fX1_everybody ρ r6).bind fun r9 =>
          (fX11_dealtFor ρ r6 a3 r9 x7.2).bind fun r10 =>
          (fX11_mixed x7.1 (Int32.toInt64 r10)).bind fun r11 =>
          self8 (r11, (x7.2 + 1)))
        ) 6000 (r4, 0)))
set_option maxHeartbeats 4000000 in
set_option maxRecDepth 100000 in
theorem okX11_newsMixedInto (g : Gx) (ρ : Rh) (hρ : Hr ρ) (d : Dd) (a1 : Int64) (a3 : Int32) : CallR g M_X11_newsMixedInto (eL ρ) [.ref 3, .long a1, .int a3] (full d ρ) (fX11_newsMixedInto ρ d a1 a3) := by
  refine CallR.intro rfl rfl (Nat.le_of_ble_eq_true rfl) (fun a ha => ⟨_, rfl⟩) ?_
  show WW g _ _ 0 [(0, .ref 3), (1, .long a1), (3, .int a3)] [] (full d ρ) 0 0 _
  unfold fX11_newsMixedInto
  refine WW.aload_n (pc := 0) (j := 0) rfl dX11_newsMixedInto_0 ?_
  refine WW.iload_n (pc := 1) (j := 2) rfl dX11_newsMixedInto_1 ?_
  refine WW.callV (pc := 2) (As := [.int a3]) (st := []) lk_X11_146 (okX11_newsAt g ρ hρ d a3) h3_3 (sh_3 ρ) ⟨_, _, clk11⟩ rfl (Nat.le_of_ble_eq_true rfl) ⟨Nat.le_of_ble_eq_true rfl, Nat.le_of_ble_eq_true rfl, Nat.le_of_ble_eq_true rfl, Nat.le_of_ble_eq_true rfl⟩ dX11_newsMixedInto_2 rfl (fun r1 hr1 => ?_)
  show WW _ _ _ 5 _ [.ref r1] (full d ρ) 0 0 _
  refine WW.astore (pc := 5) [(4, .ref r1), (0, .ref 3), (1, .long a1), (3, .int a3)] rfl (by decide) dX11_newsMixedInto_5 ?_
  refine WW.aload (pc := 7) (j := 0) rfl dX11_newsMixedInto_7 ?_
  refine WW.ifnonnull (pc := 9) 14 dX11_newsMixedInto_9 (by decide) (fun _ => ?_) (fun hq2 => ?_)
  · refine WW.lload_n (pc := 12) (j := 2) rfl dX11_newsMixedInto_12 ?_
    exact WW.ret rfl rfl (show RetI M_X11_newsMixedInto 13 from dX11_newsMixedInto_13) ⟨Nat.le_refl _, Nat.le_refl _⟩ rfl
  · refine WW.lload_n (pc := 14) (j := 2) rfl dX11_newsMixedInto_14 ?_
    refine WW.aload (pc := 15) (j := 0) rfl dX11_newsMixedInto_15 ?_
    refine WW.sgiN (pc := 17) hρ ((nwAt hρ hr1).resolve_left hq2) (by intro t ht; rcases mem5 ht with rfl | rfl | rfl | rfl | rfl <;> first | exact fl_X11_321_0 | exact fl_X11_321_4 | exact fl_X11_321_6 | exact fl_X11_321_8 | exact fl_X11_321_9) rfl dX11_newsMixedInto_17 ?_
    refine WW.i2l (pc := 20) dX11_newsMixedInto_20 ?_
    refine WW.callS (pc := 21) (As := [.long a1, .long (Int32.toInt64 (d_i d r1 0))]) (st := []) lk_X11_314 (okX11_mixed g ρ hρ d a1 (Int32.toInt64 (d_i d r1 0))) rfl (Nat.le_of_ble_eq_true rfl) ⟨Nat.le_of_ble_eq_true rfl, Nat.le_of_ble_eq_true rfl, Nat.le_of_ble_eq_true rfl, Nat.le_of_ble_eq_true rfl⟩ dX11_newsMixedInto_21 rfl (fun r3 hr3 => ?_)
    show WW _ _ _ 24 _ [.long r3] (full d ρ) 0 0 _
    refine WW.aload (pc := 24) (j := 0) rfl dX11_newsMixedInto_24 ?_
    refine WW.sgiN (pc := 26) hρ ((nwAt hρ hr1).resolve_left hq2) (by intro t ht; rcases mem5 ht with rfl | rfl | rfl | rfl | rfl <;> first | exact fl_X11_324_0 | exact fl_X11_324_4 | exact fl_X11_324_6 | exact fl_X11_324_8 | exact fl_X11_324_9) rfl dX11_newsMixedInto_26 ?_
    refine WW.i2l (pc := 29) dX11_newsMixedInto_29 ?_
    refine WW.callS (pc := 30) (As := [.long r3, .long (Int32.toInt64 (d_i d r1 1))]) (st := []) lk_X11_314 (okX11_mixed g ρ hρ d r3 (Int32.toInt64 (d_i d r1 1))) rfl (Nat.le_of_ble_eq_true rfl) ⟨Nat.le_of_ble_eq_true rfl, Nat.le_of_ble_eq_true rfl, Nat.le_of_ble_eq_true rfl, Nat.le_of_ble_eq_true rfl⟩ dX11_newsMixedInto_30 rfl (fun r4 hr4 => ?_)
    show WW _ _ _ 33 _ [.long r4] (full d ρ) 0 0 _
    refine WW.lstore (pc := 33) [(5, .long r4), (4, .ref r1), (0, .ref 3), (1, .long a1), (3, .int a3)] rfl (by decide) dX11_newsMixedInto_33 ?_
    refine WW.aload_n (pc := 35) (j := 2) rfl dX11_newsMixedInto_35 ?_
    refine WW.sgi (pc := 36) fl_X11_89_11 h3_3 (sh_3 ρ) (Or.inr gt_11_3) dX11_newsMixedInto_36 ?_
    refine WW.if_ne (pc := 39) 45 dX11_newsMixedInto_39 (by decide) (fun _ => ?_) (fun _ => ?_)
    · refine WW.lload (pc := 42) (j := 0) rfl dX11_newsMixedInto_42 ?_
      exact WW.ret rfl rfl (show RetI M_X11_newsMixedInto 44 from dX11_newsMixedInto_44) ⟨Nat.le_refl _, Nat.le_refl _⟩ rfl
    · refine WW.aload_n (pc := 45) (j := 2) rfl dX11_newsMixedInto_45 ?_
      refine WW.iload_n (pc := 46) (j := 4) rfl dX11_newsMixedInto_46 ?_
      refine WW.aload_n (pc := 47) (j := 2) rfl dX11_newsMixedInto_47 ?_
      refine WW.sgr (pc := 48) fl_X11_50_11 h3_3 (sh_3 ρ) (Or.inl ⟨_, gt_11_4⟩) (hr_3_4 ρ) dX11_newsMixedInto_48 ?_
      refine WW.callV (pc := 51) (As := []) (st := [.int a3, .ref 3]) lk_X11_253 (okX1_everybody g ρ hρ d ) h3_15 (sh_15 ρ) ⟨_, _, clk1⟩ rfl (Nat.le_of_ble_eq_true rfl) ⟨Nat.le_of_ble_eq_true rfl, Nat.le_of_ble_eq_true rfl, Nat.le_of_ble_eq_true rfl, Nat.le_of_ble_eq_true rfl⟩ dX11_newsMixedInto_51 rfl (fun r5 hr5 => ?_)
      show WW _ _ _ 54 _ [.int r5, .int a3, .ref 3] (full d ρ) 0 0 _
      refine WW.callV (pc := 54) (As := [.int a3, .int r5]) (st := []) lk_X11_195 (okX11_settle g ρ hρ d a3 r5) h3_3 (sh_3 ρ) ⟨_, _, clk11⟩ rfl (Nat.le_of_ble_eq_true rfl) ⟨Nat.le_of_ble_eq_true rfl, Nat.le_of_ble_eq_true rfl, Nat.le_of_ble_eq_true rfl, Nat.le_of_ble_eq_true rfl⟩ dX11_newsMixedInto_54 rfl (fun r6 hr6 => ?_)
      show WW _ _ _ 57 _ [] (full r6 ρ) 0 0 _
      refine WW.iconst (pc := 57) 0 dX11_newsMixedInto_57 rfl ?_
      refine WW.istore (pc := 58) [(7, .int 0), (5, .long r4), (4, .ref r1), (0, .ref 3), (1, .long a1), (3, .int a3)] rfl (by decide) dX11_newsMixedInto_58 ?_
      refine WW.sub [3, 5, 1, 0] rfl ?_
      refine WW.loop (pc := 60) (Lj := fun (x7 : Int64 × Int32) => [(0, .ref 3), (3, .int a3), (5, .long x7.1), (7, .int x7.2)]) (hj := fun (x7 : Int64 × Int32) => full r6 ρ) (fun self8 hself8 x7 => ?_) 6000 (r4, 0)
      refine WW.iload (pc := 60) (j := 3) rfl dX11_newsMixedInto_60 ?_
      refine WW.iconst (pc := 62) 4 dX11_newsMixedInto_62 rfl ?_
      refine WW.icmp_ge (pc := 63) 94 dX11_newsMixedInto_63 (by decide) (fun _ => ?_) (fun _ => ?_)
      · refine WW.lload (pc := 94) (j := 2) rfl dX11_newsMixedInto_94 ?_
        exact WW.ret rfl rfl (show RetI M_X11_newsMixedInto 96 from dX11_newsMixedInto_96) ⟨Nat.le_refl _, Nat.le_refl _⟩ rfl
      · refine WW.lload (pc := 66) (j := 2) rfl dX11_newsMixedInto_66 ?_
        refine WW.aload_n (pc := 68) (j := 0) rfl dX11_newsMixedInto_68 ?_
        refine WW.iload_n (pc := 69) (j := 1) rfl dX11_newsMixedInto_69 ?_
        refine WW.aload_n (pc := 70) (j := 0) rfl dX11_newsMixedInto_70 ?_
        refine WW.sgr (pc := 71) fl_X11_50_11 h3_3 (sh_3 ρ) (Or.inl ⟨_, gt_11_4⟩) (hr_3_4 ρ) dX11_newsMixedInto_71 ?_
        refine WW.callV (pc := 74) (As := []) (st := [.int a3, .ref 3, .long x7.1]) lk_X11_253 (okX1_everybody g ρ hρ r6 ) h3_15 (sh_15 ρ) ⟨_, _, clk1⟩ rfl (Nat.le_of_ble_eq_true rfl) ⟨Nat.le_of_ble_eq_true rfl, Nat.le_of_ble_eq_true rfl, Nat.le_of_ble_eq_true rfl, Nat.le_of_ble_eq_true rfl⟩ dX11_newsMixedInto_74 rfl (fun r9 hr9 => ?_)
        show WW _ _ _ 77 _ [.int r9, .int a3, .ref 3, .long x7.1] (full r6 ρ) 0 0 _
        refine WW.iload (pc := 77) (j := 3) rfl dX11_newsMixedInto_77 ?_
        refine WW.callV (pc := 79) (As := [.int a3, .int r9, .int x7.2]) (st := [.long x7.1]) lk_X11_199 (okX11_dealtFor g ρ hρ r6 a3 r9 x7.2) h3_3 (sh_3 ρ) ⟨_, _, clk11⟩ rfl (Nat.le_of_ble_eq_true rfl) ⟨Nat.le_of_ble_eq_true rfl, Nat.le_of_ble_eq_true rfl, Nat.le_of_ble_eq_true rfl, Nat.le_of_ble_eq_true rfl⟩ dX11_newsMixedInto_79 rfl (fun r10 hr10 => ?_)
        show WW _ _ _ 82 _ [.int r10, .long x7.1] (full r6 ρ) 0 0 _
        refine WW.i2l (pc := 82) dX11_newsMixedInto_82 ?_
        refine WW.callS (pc := 83) (As := [.long x7.1, .long (Int32.toInt64 r10)]) (st := []) lk_X11_314 (okX11_mixed g ρ hρ r6 x7.1 (Int32.toInt64 r10)) rfl (Nat.le_of_ble_eq_true rfl) ⟨Nat.le_of_ble_eq_true rfl, Nat.le_of_ble_eq_true rfl, Nat.le_of_ble_eq_true rfl, Nat.le_of_ble_eq_true rfl⟩ dX11_newsMixedInto_83 rfl (fun r11 hr11 => ?_)
        show WW _ _ _ 86 _ [.long r11] (full r6 ρ) 0 0 _
        refine WW.lstore (pc := 86) [(5, .long r11), (0, .ref 3), (3, .int a3), (7, .int x7.2)] rfl (by decide) dX11_newsMixedInto_86 ?_
        refine WW.iinc (pc := 88) (j := 3) (x7.2 + 1) [(7, .int (x7.2 + 1)), (5, .long r11), (0, .ref 3), (3, .int a3)] rfl rfl rfl (by decide) dX11_newsMixedInto_88 ?_
        refine WW.goto (pc := 91) 60 dX11_newsMixedInto_91 (by decide) ?_
        refine WW.sub [2, 3, 1, 0] rfl ?_
        exact hself8 (r11, (x7.2 + 1))
def fX7_mixedInto (ρ : Rh) (d : Dd) (a1 : Int64) : Option Int64 :=
  lp (fun self2 (x1 : Int64 × Int32) =>
    if (d_i d 4 1) ≤ x1.2 then
      (some x1.1)
    else
      (if 60 ≤ x1.2 then
        (some x1.1)
      else
        (if inB x1.2 60 = true then
          ((fX11_mixed x1.1 (Int32.toInt64 (d_i d 5 (ix x1.2)))).bind fun r3 =>
          self2 (r3, (x1.2 + 1)))
        else none))
    ) 6000 (a1, 0)
set_option maxHeartbeats 4000000 in
set_option maxRecDepth 100000 in
theorem okX7_mixedInto (g : Gx) (ρ : Rh) (hρ : Hr ρ) (d : Dd) (a1 : Int64) : CallR g M_X7_mixedInto (eLp ρ d) [.ref 4, .long a1] (full d ρ) (fX7_mixedInto ρ d a1) := by
  refine CallR.intro rfl rfl (Nat.le_of_ble_eq_true rfl) (fun a ha => ⟨_, rfl⟩) ?_
  show WW g _ _ 0 [(0, .ref 4), (1, .long a1)] [] (full d ρ) 0 0 _
  unfold fX7_mixedInto
  refine WW.lload_n (pc := 0) (j := 1) rfl dX7_mixedInto_0 ?_
  refine WW.lstore_n (pc := 1) [(3, .long a1), (0, .ref 4), (1, .long a1)] rfl (by decide) dX7_mixedInto_1 ?_
  refine WW.iconst (pc := 2) 0 dX7_mixedInto_2 rfl ?_
  refine WW.istore (pc := 3) [(5, .int 0), (3, .long a1), (0, .ref 4), (1, .long a1)] rfl (by decide) dX7_mixedInto_3 ?_
  refine WW.sub [2, 1, 0] rfl ?_
  refine WW.loop (pc := 5) (Lj := fun (x1 : Int64 × Int32) => [(0, .ref 4), (3, .long x1.1), (5, .int x1.2)]) (hj := fun (x1 : Int64 × Int32) => full d ρ) (fun self2 hself2 x1 => ?_) 6000 (a1, 0)
  refine WW.iload (pc := 5) (j := 2) rfl dX7_mixedInto_5 ?_
  refine WW.aload_n (pc := 7) (j := 0) rfl dX7_mixedInto_7 ?_
  refine WW.sgi (pc := 8) fl_X7_21_7 h3_4 (sh_4 ρ) (Or.inl gt_7_1) dX7_mixedInto_8 ?_
  refine WW.icmp_ge (pc := 11) 43 dX7_mixedInto_11 (by decide) (fun _ => ?_) (fun _ => ?_)
  · refine WW.lload_n (pc := 43) (j := 1) rfl dX7_mixedInto_43 ?_
    exact WW.ret rfl rfl (show RetI M_X7_mixedInto 44 from dX7_mixedInto_44) ⟨Nat.le_refl _, Nat.le_refl _⟩ rfl
  · refine WW.iload (pc := 14) (j := 2) rfl dX7_mixedInto_14 ?_
    refine WW.aload_n (pc := 16) (j := 0) rfl dX7_mixedInto_16 ?_
    refine WW.sgr (pc := 17) fl_X7_9_7 h3_4 (sh_4 ρ) (Or.inr ⟨_, gt_7_0⟩) (hr_4_0 ρ) dX7_mixedInto_17 ?_
    refine WW.alen (pc := 20) 60 (one_le h3_5) (Or.inl rfl) (sh_5 ρ) rfl dX7_mixedInto_20 ?_
    refine WW.icmp_ge (pc := 21) 43 dX7_mixedInto_21 (by decide) (fun _ => ?_) (fun _ => ?_)
    · refine WW.lload_n (pc := 43) (j := 1) rfl dX7_mixedInto_43 ?_
      exact WW.ret rfl rfl (show RetI M_X7_mixedInto 44 from dX7_mixedInto_44) ⟨Nat.le_refl _, Nat.le_refl _⟩ rfl
    · refine WW.lload_n (pc := 24) (j := 1) rfl dX7_mixedInto_24 ?_
      refine WW.aload_n (pc := 25) (j := 0) rfl dX7_mixedInto_25 ?_
      refine WW.sgr (pc := 26) fl_X7_9_7 h3_4 (sh_4 ρ) (Or.inr ⟨_, gt_7_0⟩) (hr_4_0 ρ) dX7_mixedInto_26 ?_
      refine WW.iload (pc := 29) (j := 2) rfl dX7_mixedInto_29 ?_
      refine WW.siald (pc := 31) (one_le h3_5) (sh_5 ρ) dX7_mixedInto_31 ?_
      refine WW.i2l (pc := 32) dX7_mixedInto_32 ?_
      refine WW.callN (pc := 33) (As := [.long x1.1, .long (Int32.toInt64 (d_i d 5 (ix x1.2)))]) (st := []) lk_X7_58 (okX11_mixed g ρ hρ d x1.1 (Int32.toInt64 (d_i d 5 (ix x1.2)))) rfl (Nat.le_of_ble_eq_true rfl) ⟨Nat.le_of_ble_eq_true rfl, Nat.le_of_ble_eq_true rfl, Nat.le_of_ble_eq_true rfl, Nat.le_of_ble_eq_true rfl⟩ dX7_mixedInto_33 rfl (fun r3 hr3 => ?_)
      show WW _ _ _ 36 _ [.long r3] (full d ρ) 0 0 _
      refine WW.lstore_n (pc := 36) [(3, .long r3), (0, .ref 4), (5, .int x1.2)] rfl (by decide) dX7_mixedInto_36 ?_
      refine WW.iinc (pc := 37) (j := 2) (x1.2 + 1) [(5, .int (x1.2 + 1)), (3, .long r3), (0, .ref 4)] rfl rfl rfl (by decide) dX7_mixedInto_37 ?_
      refine WW.goto (pc := 40) 5 dX7_mixedInto_40 (by decide) ?_
      refine WW.sub [2, 1, 0] rfl ?_
      exact hself2 (r3, (x1.2 + 1))
def fX11_digest (ρ : Rh) (d : Dd) : Option (Int64 × Dd) :=
  jn (fun (x1 : Int64) =>
    (fX1_mixedInto ρ d x1).bind fun r3 =>
    lp (fun self5 (x4 : Int64 × Int32 × Dd) =>
      if (d_i x4.2.2 3 6) ≤ x4.2.1 then
        (jn (fun (x6 : Int64) =>
          (fX7_mixedInto ρ x4.2.2 x6).bind fun r8 =>
          lp (fun self10 (x9 : Int64 × Int32) =>
            if 5 ≤ x9.2 then
              (some (x9.1, x4.2.2))
            else
              ((fX11_count ρ x4.2.2 x9.2).bind fun r11 =>
              (fX11_mixed x9.1 (Int32.toInt64 r11)).bind fun r12 =>
              self10 (r12, (x9.2 + 1)))
            ) 6000 (r8, 0)
          ) fun k7 =>
        if (d_i x4.2.2 3 3) = 0 then
          (k7 x4.1)
        else
          ((fX11_bound ρ x4.2.2 0).bind fun r13 =>
          (fX11_mixed x4.1 r13).bind fun r14 =>
          (fX11_bound ρ x4.2.2 1).bind fun r15 =>
          (fX11_mixed r14 r15).bind fun r16 =>
          k7 r16))
      else
        ((fX11_newsMixedInto ρ x4.2.2 x4.1 x4.2.1).bind fun r17 =>
        self5 (r17.1, (x4.2.1 + 1), r17.2))
      ) 6000 (r3, 0, d)
    ) fun k2 =>
  if (d_i d 3 3) = 0 then
    (k2 359)
  else
    ((fX5_mixedInto ρ d ρ.1 359).bind fun r18 =>
    k2 r18)
set_option maxHeartbeats 4000000 in
set_option maxRecDepth 100000 in
theorem okX11_digest (g : Gx) (ρ : Rh) (hρ : Hr ρ) (d : Dd)  : CallR g M_X11_digest (eL ρ) [.ref 3] (full d ρ) (fX11_digest ρ d) := by
  refine CallR.intro rfl rfl (Nat.le_of_ble_eq_true rfl) (fun a ha => ⟨_, rfl⟩) ?_
  show WW g _ _ 0 [(0, .ref 3)] [] (full d ρ) 0 0 _
  unfold fX11_digest
  refine WW.ldc2 (pc := 0) wd_790 dX11_digest_0 ?_
  refine WW.lstore_n (pc := 3) [(1, .long 359), (0, .ref 3)] rfl (by decide) dX11_digest_3 ?_
  refine WW.aload_n (pc := 4) (j := 1) rfl dX11_digest_4 ?_
  refine WW.sgi (pc := 5) fl_X11_89_11 h3_3 (sh_3 ρ) (Or.inr gt_11_3) dX11_digest_5 ?_
  refine WW.join (pj := 20) (Lj := fun (x1 : Int64) => [(0, .ref 3), (1, .long x1)]) (sj := fun (x1 : Int64) => []) (hj := fun (x1 : Int64) => full d ρ) (fun x1 => ?_) (fun k2 hk2 => ?_)
  · refine WW.aload_n (pc := 20) (j := 0) rfl dX11_digest_20 ?_
    refine WW.sgr (pc := 21) fl_X11_50_11 h3_3 (sh_3 ρ) (Or.inl ⟨_, gt_11_4⟩) (hr_3_4 ρ) dX11_digest_21 ?_
    refine WW.lload_n (pc := 24) (j := 1) rfl dX11_digest_24 ?_
    refine WW.callV (pc := 25) (As := [.long x1]) (st := []) lk_X11_306 (okX1_mixedInto g ρ hρ d x1) h3_15 (sh_15 ρ) ⟨_, _, clk1⟩ rfl (Nat.le_of_ble_eq_true rfl) ⟨Nat.le_of_ble_eq_true rfl, Nat.le_of_ble_eq_true rfl, Nat.le_of_ble_eq_true rfl, Nat.le_of_ble_eq_true rfl⟩ dX11_digest_25 rfl (fun r3 hr3 => ?_)
    show WW _ _ _ 28 _ [.long r3] (full d ρ) 0 0 _
    refine WW.lstore_n (pc := 28) [(1, .long r3), (0, .ref 3)] rfl (by decide) dX11_digest_28 ?_
    refine WW.iconst (pc := 29) 0 dX11_digest_29 rfl ?_
    refine WW.istore_n (pc := 30) [(3, .int 0), (1, .long r3), (0, .ref 3)] rfl (by decide) dX11_digest_30 ?_
    refine WW.sub [2, 1, 0] rfl ?_
    refine WW.loop (pc := 31) (Lj := fun (x4 : Int64 × Int32 × Dd) => [(0, .ref 3), (1, .long x4.1), (3, .int x4.2.1)]) (hj := fun (x4 : Int64 × Int32 × Dd) => full x4.2.2 ρ) (fun self5 hself5 x4 => ?_) 6000 (r3, 0, d)
    refine WW.iload_n (pc := 31) (j := 2) rfl dX11_digest_31 ?_
    refine WW.aload_n (pc := 32) (j := 0) rfl dX11_digest_32 ?_
    refine WW.sgi (pc := 33) fl_X11_139_11 h3_3 (sh_3 ρ) (Or.inl gt_11_6) dX11_digest_33 ?_
    refine WW.icmp_ge (pc := 36) 52 dX11_digest_36 (by decide) (fun _ => ?_) (fun _ => ?_)
    · refine WW.aload_n (pc := 52) (j := 0) rfl dX11_digest_52 ?_
      refine WW.sgi (pc := 53) fl_X11_89_11 h3_3 (sh_3 ρ) (Or.inr gt_11_3) dX11_digest_53 ?_
      refine WW.join (pj := 77) (Lj := fun (x6 : Int64) => [(0, .ref 3), (1, .long x6)]) (sj := fun (x6 : Int64) => []) (hj := fun (x6 : Int64) => full x4.2.2 ρ) (fun x6 => ?_) (fun k7 hk7 => ?_)
      · refine WW.aload_n (pc := 77) (j := 0) rfl dX11_digest_77 ?_
        refine WW.sgr (pc := 78) fl_X11_10_11 h3_3 (sh_3 ρ) (Or.inl ⟨_, gt_11_0⟩) (hr_3_0 ρ) dX11_digest_78 ?_
        refine WW.lload_n (pc := 81) (j := 1) rfl dX11_digest_81 ?_
        refine WW.callV (pc := 82) (As := [.long x6]) (st := []) lk_X11_318 (okX7_mixedInto g ρ hρ x4.2.2 x6) h3_4 (sh_4 ρ) ⟨_, _, clk7⟩ rfl (Nat.le_of_ble_eq_true rfl) ⟨Nat.le_of_ble_eq_true rfl, Nat.le_of_ble_eq_true rfl, Nat.le_of_ble_eq_true rfl, Nat.le_of_ble_eq_true rfl⟩ dX11_digest_82 rfl (fun r8 hr8 => ?_)
        show WW _ _ _ 85 _ [.long r8] (full x4.2.2 ρ) 0 0 _
        refine WW.lstore_n (pc := 85) [(1, .long r8), (0, .ref 3)] rfl (by decide) dX11_digest_85 ?_
        refine WW.iconst (pc := 86) 0 dX11_digest_86 rfl ?_
        refine WW.istore_n (pc := 87) [(3, .int 0), (1, .long r8), (0, .ref 3)] rfl (by decide) dX11_digest_87 ?_
        refine WW.sub [2, 1, 0] rfl ?_
        refine WW.loop (pc := 88) (Lj := fun (x9 : Int64 × Int32) => [(0, .ref 3), (1, .long x9.1), (3, .int x9.2)]) (hj := fun (x9 : Int64 × Int32) => full x4.2.2 ρ) (fun self10 hself10 x9 => ?_) 6000 (r8, 0)
        refine WW.iload_n (pc := 88) (j := 2) rfl dX11_digest_88 ?_
        refine WW.iconst (pc := 89) 5 dX11_digest_89 rfl ?_
        refine WW.icmp_ge (pc := 90) 110 dX11_digest_90 (by decide) (fun _ => ?_) (fun _ => ?_)
        · refine WW.lload_n (pc := 110) (j := 1) rfl dX11_digest_110 ?_
          exact WW.ret rfl rfl (show RetI M_X11_digest 111 from dX11_digest_111) ⟨Nat.le_refl _, Nat.le_refl _⟩ rfl
        · refine WW.lload_n (pc := 93) (j := 1) rfl dX11_digest_93 ?_
          refine WW.aload_n (pc := 94) (j := 0) rfl dX11_digest_94 ?_
          refine WW.iload_n (pc := 95) (j := 2) rfl dX11_digest_95 ?_
          refine WW.callV (pc := 96) (As := [.int x9.2]) (st := [.long x9.1]) lk_X11_319 (okX11_count g ρ hρ x4.2.2 x9.2) h3_3 (sh_3 ρ) ⟨_, _, clk11⟩ rfl (Nat.le_of_ble_eq_true rfl) ⟨Nat.le_of_ble_eq_true rfl, Nat.le_of_ble_eq_true rfl, Nat.le_of_ble_eq_true rfl, Nat.le_of_ble_eq_true rfl⟩ dX11_digest_96 rfl (fun r11 hr11 => ?_)
          show WW _ _ _ 99 _ [.int r11, .long x9.1] (full x4.2.2 ρ) 0 0 _
          refine WW.i2l (pc := 99) dX11_digest_99 ?_
          refine WW.callS (pc := 100) (As := [.long x9.1, .long (Int32.toInt64 r11)]) (st := []) lk_X11_314 (okX11_mixed g ρ hρ x4.2.2 x9.1 (Int32.toInt64 r11)) rfl (Nat.le_of_ble_eq_true rfl) ⟨Nat.le_of_ble_eq_true rfl, Nat.le_of_ble_eq_true rfl, Nat.le_of_ble_eq_true rfl, Nat.le_of_ble_eq_true rfl⟩ dX11_digest_100 rfl (fun r12 hr12 => ?_)
          show WW _ _ _ 103 _ [.long r12] (full x4.2.2 ρ) 0 0 _
          refine WW.lstore_n (pc := 103) [(1, .long r12), (0, .ref 3), (3, .int x9.2)] rfl (by decide) dX11_digest_103 ?_
          refine WW.iinc (pc := 104) (j := 2) (x9.2 + 1) [(3, .int (x9.2 + 1)), (1, .long r12), (0, .ref 3)] rfl rfl rfl (by decide) dX11_digest_104 ?_
          refine WW.goto (pc := 107) 88 dX11_digest_107 (by decide) ?_
          refine WW.sub [2, 1, 0] rfl ?_
          exact hself10 (r12, (x9.2 + 1))
      · refine WW.if_eq (pc := 56) 77 dX11_digest_56 (by decide) (fun _ => ?_) (fun _ => ?_)
        · refine WW.sub [0, 1] rfl ?_
          exact hk7 x4.1
        · refine WW.lload_n (pc := 59) (j := 1) rfl dX11_digest_59 ?_
          refine WW.aload_n (pc := 60) (j := 0) rfl dX11_digest_60 ?_
          refine WW.iconst (pc := 61) 0 dX11_digest_61 rfl ?_
          refine WW.callV (pc := 62) (As := [.int 0]) (st := [.long x4.1]) lk_X11_311 (okX11_bound g ρ hρ x4.2.2 0) h3_3 (sh_3 ρ) ⟨_, _, clk11⟩ rfl (Nat.le_of_ble_eq_true rfl) ⟨Nat.le_of_ble_eq_true rfl, Nat.le_of_ble_eq_true rfl, Nat.le_of_ble_eq_true rfl, Nat.le_of_ble_eq_true rfl⟩ dX11_digest_62 rfl (fun r13 hr13 => ?_)
          show WW _ _ _ 65 _ [.long r13, .long x4.1] (full x4.2.2 ρ) 0 0 _
          refine WW.callS (pc := 65) (As := [.long x4.1, .long r13]) (st := []) lk_X11_314 (okX11_mixed g ρ hρ x4.2.2 x4.1 r13) rfl (Nat.le_of_ble_eq_true rfl) ⟨Nat.le_of_ble_eq_true rfl, Nat.le_of_ble_eq_true rfl, Nat.le_of_ble_eq_true rfl, Nat.le_of_ble_eq_true rfl⟩ dX11_digest_65 rfl (fun r14 hr14 => ?_)
          show WW _ _ _ 68 _ [.long r14] (full x4.2.2 ρ) 0 0 _
          refine WW.aload_n (pc := 68) (j := 0) rfl dX11_digest_68 ?_
          refine WW.iconst (pc := 69) 1 dX11_digest_69 rfl ?_
          refine WW.callV (pc := 70) (As := [.int 1]) (st := [.long r14]) lk_X11_311 (okX11_bound g ρ hρ x4.2.2 1) h3_3 (sh_3 ρ) ⟨_, _, clk11⟩ rfl (Nat.le_of_ble_eq_true rfl) ⟨Nat.le_of_ble_eq_true rfl, Nat.le_of_ble_eq_true rfl, Nat.le_of_ble_eq_true rfl, Nat.le_of_ble_eq_true rfl⟩ dX11_digest_70 rfl (fun r15 hr15 => ?_)
          show WW _ _ _ 73 _ [.long r15, .long r14] (full x4.2.2 ρ) 0 0 _
          refine WW.callS (pc := 73) (As := [.long r14, .long r15]) (st := []) lk_X11_314 (okX11_mixed g ρ hρ x4.2.2 r14 r15) rfl (Nat.le_of_ble_eq_true rfl) ⟨Nat.le_of_ble_eq_true rfl, Nat.le_of_ble_eq_true rfl, Nat.le_of_ble_eq_true rfl, Nat.le_of_ble_eq_true rfl⟩ dX11_digest_73 rfl (fun r16 hr16 => ?_)
          show WW _ _ _ 76 _ [.long r16] (full x4.2.2 ρ) 0 0 _
          refine WW.lstore_n (pc := 76) [(1, .long r16), (0, .ref 3), (3, .int x4.2.1)] rfl (by decide) dX11_digest_76 ?_
          refine WW.sub [1, 0] rfl ?_
          exact hk7 r16
    · refine WW.aload_n (pc := 39) (j := 0) rfl dX11_digest_39 ?_
      refine WW.lload_n (pc := 40) (j := 1) rfl dX11_digest_40 ?_
      refine WW.iload_n (pc := 41) (j := 2) rfl dX11_digest_41 ?_
      refine WW.callV (pc := 42) (As := [.long x4.1, .int x4.2.1]) (st := []) lk_X11_307 (okX11_newsMixedInto g ρ hρ x4.2.2 x4.1 x4.2.1) h3_3 (sh_3 ρ) ⟨_, _, clk11⟩ rfl (Nat.le_of_ble_eq_true rfl) ⟨Nat.le_of_ble_eq_true rfl, Nat.le_of_ble_eq_true rfl, Nat.le_of_ble_eq_true rfl, Nat.le_of_ble_eq_true rfl⟩ dX11_digest_42 rfl (fun r17 hr17 => ?_)
      show WW _ _ _ 45 _ [.long r17.1] (full r17.2 ρ) 0 0 _
      refine WW.lstore_n (pc := 45) [(1, .long r17.1), (0, .ref 3), (3, .int x4.2.1)] rfl (by decide) dX11_digest_45 ?_
      refine WW.iinc (pc := 46) (j := 2) (x4.2.1 + 1) [(3, .int (x4.2.1 + 1)), (1, .long r17.1), (0, .ref 3)] rfl rfl rfl (by decide) dX11_digest_46 ?_
      refine WW.goto (pc := 49) 31 dX11_digest_49 (by decide) ?_
      refine WW.sub [2, 1, 0] rfl ?_
      exact hself5 (r17.1, (x4.2.1 + 1), r17.2)
  · refine WW.if_eq (pc := 8) 20 dX11_digest_8 (by decide) (fun _ => ?_) (fun _ => ?_)
    · refine WW.sub [1, 0] rfl ?_
      exact hk2 359
    · refine WW.aload_n (pc := 11) (j := 1) rfl dX11_digest_11 ?_
      refine WW.sgr (pc := 12) fl_X11_19_11 h3_3 (sh_3 ρ) (Or.inl ⟨_, gt_11_1⟩) (hr_mk ρ) dX11_digest_12 ?_
      refine WW.lload_n (pc := 15) (j := 0) rfl dX11_digest_15 ?_
      refine WW.callV (pc := 16) (As := [.long 359]) (st := []) lk_X11_302 (okX5_mixedInto g ρ hρ d ρ.1 359 hρ.1) (mk3 hρ.1) (mkS hρ.1) ⟨_, _, clk5⟩ rfl (Nat.le_of_ble_eq_true rfl) ⟨Nat.le_of_ble_eq_true rfl, Nat.le_of_ble_eq_true rfl, Nat.le_of_ble_eq_true rfl, Nat.le_of_ble_eq_true rfl⟩ dX11_digest_16 rfl (fun r18 hr18 => ?_)
      show WW _ _ _ 19 _ [.long r18] (full d ρ) 0 0 _
      refine WW.lstore_n (pc := 19) [(1, .long r18), (0, .ref 3)] rfl (by decide) dX11_digest_19 ?_
      refine WW.sub [1, 0] rfl ?_
      exact hk2 r18
