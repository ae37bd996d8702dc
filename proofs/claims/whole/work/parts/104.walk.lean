def fX1_canDeal (ρ : Rh) (d : Dd) (a1 : Int32) : Option Bool :=
  if 0 ≤ a1 then
    (lp (fun self2 (x1 : Int32 × Int32) =>
      if (d_i d 15 2) ≤ x1.2 then
        (if x1.1 = 0 then
          (some true)
        else
          (some false))
      else
        ((fX1_limitOf ρ d x1.2).bind fun r3 =>
        if (jabsI ((jrem x1.1 7) - 3)) ≤ r3 then
          (bnd ((x1.1 / 7) : Int32) fun v4 =>
          self2 (v4, (x1.2 + 1)))
        else
          (some false))
      ) 6000 (a1, 0))
  else
    (some false)
set_option maxHeartbeats 4000000 in
set_option maxRecDepth 100000 in
theorem okX1_canDeal (g : Gx) (ρ : Rh) (hρ : Hr ρ) (d : Dd) (a1 : Int32) : CallR g M_X1_canDeal (eZp ρ d) [.ref 15, .int a1] (full d ρ) (fX1_canDeal ρ d a1) := by
  refine CallR.intro rfl rfl (Nat.le_of_ble_eq_true rfl) (fun a ha => ⟨_, rfl⟩) ?_
  show WW g _ _ 0 [(0, .ref 15), (1, .int a1)] [] (full d ρ) 0 0 _
  unfold fX1_canDeal
  refine WW.iload_n (pc := 0) (j := 1) rfl dX1_canDeal_0 ?_
  refine WW.if_ge (pc := 1) 6 dX1_canDeal_1 (by decide) (fun _ => ?_) (fun _ => ?_)
  · refine WW.iload_n (pc := 6) (j := 1) rfl dX1_canDeal_6 ?_
    refine WW.istore_n (pc := 7) [(2, .int a1), (0, .ref 15), (1, .int a1)] rfl (by decide) dX1_canDeal_7 ?_
    refine WW.iconst (pc := 8) 0 dX1_canDeal_8 rfl ?_
    refine WW.istore_n (pc := 9) [(3, .int 0), (2, .int a1), (0, .ref 15), (1, .int a1)] rfl (by decide) dX1_canDeal_9 ?_
    refine WW.sub [2, 1, 0] rfl ?_
    refine WW.loop (pc := 10) (Lj := fun (x1 : Int32 × Int32) => [(0, .ref 15), (2, .int x1.1), (3, .int x1.2)]) (hj := fun (x1 : Int32 × Int32) => full d ρ) (fun self2 hself2 x1 => ?_) 6000 (a1, 0)
    refine WW.iload_n (pc := 10) (j := 2) rfl dX1_canDeal_10 ?_
    refine WW.aload_n (pc := 11) (j := 0) rfl dX1_canDeal_11 ?_
    refine WW.sgi (pc := 12) fl_X1_21_1 h3_15 (sh_15 ρ) (Or.inl gt_1_2) dX1_canDeal_12 ?_
    refine WW.icmp_ge (pc := 15) 48 dX1_canDeal_15 (by decide) (fun _ => ?_) (fun _ => ?_)
    · refine WW.iload_n (pc := 48) (j := 1) rfl dX1_canDeal_48 ?_
      refine WW.if_ne (pc := 49) 56 dX1_canDeal_49 (by decide) (fun _ => ?_) (fun _ => ?_)
      · refine WW.iconst (pc := 52) 1 dX1_canDeal_52 rfl ?_
        refine WW.goto (pc := 53) 57 dX1_canDeal_53 (by decide) ?_
        exact WW.ret rfl rfl (show RetI M_X1_canDeal 57 from dX1_canDeal_57) ⟨Nat.le_refl _, Nat.le_refl _⟩ rfl
      · refine WW.iconst (pc := 56) 0 dX1_canDeal_56 rfl ?_
        exact WW.ret rfl rfl (show RetI M_X1_canDeal 57 from dX1_canDeal_57) ⟨Nat.le_refl _, Nat.le_refl _⟩ rfl
    · refine WW.iload_n (pc := 18) (j := 1) rfl dX1_canDeal_18 ?_
      refine WW.bipush (pc := 19) 7 dX1_canDeal_19 rfl ?_
      refine WW.irem (pc := 21) (by decide) dX1_canDeal_21 ?_
      refine WW.iconst (pc := 22) 3 dX1_canDeal_22 rfl ?_
      refine WW.isub (pc := 23) dX1_canDeal_23 ?_
      refine WW.abs (pc := 24) lk_X1_32 (Nat.le_of_ble_eq_true rfl) (Nat.le_of_ble_eq_true rfl) ⟨(Nat.le_of_ble_eq_true rfl), (Nat.le_of_ble_eq_true rfl)⟩ dX1_canDeal_24 ?_
      refine WW.aload_n (pc := 27) (j := 0) rfl dX1_canDeal_27 ?_
      refine WW.iload_n (pc := 28) (j := 2) rfl dX1_canDeal_28 ?_
      refine WW.callV (pc := 29) (As := [.int x1.2]) (st := [.int (jabsI ((jrem x1.1 7) - 3))]) lk_X1_25 (okX1_limitOf g ρ hρ d x1.2) h3_15 (sh_15 ρ) ⟨_, _, clk1⟩ rfl (Nat.le_of_ble_eq_true rfl) ⟨Nat.le_of_ble_eq_true rfl, Nat.le_of_ble_eq_true rfl, Nat.le_of_ble_eq_true rfl, Nat.le_of_ble_eq_true rfl⟩ dX1_canDeal_29 rfl (fun r3 hr3 => ?_)
      show WW _ _ _ 32 _ [.int r3, .int (jabsI ((jrem x1.1 7) - 3))] (full d ρ) 0 0 _
      refine WW.icmp_le (pc := 32) 37 dX1_canDeal_32 (by decide) (fun _ => ?_) (fun _ => ?_)
      · refine WW.iload_n (pc := 37) (j := 1) rfl dX1_canDeal_37 ?_
        refine WW.bipush (pc := 38) 7 dX1_canDeal_38 rfl ?_
        refine WW.idiv (pc := 40) (by decide) dX1_canDeal_40 ?_
        refine WW.nmi (fun v4 => ?_)
        refine WW.istore_n (pc := 41) [(2, .int v4), (0, .ref 15), (3, .int x1.2)] rfl (by decide) dX1_canDeal_41 ?_
        refine WW.iinc (pc := 42) (j := 2) (x1.2 + 1) [(3, .int (x1.2 + 1)), (2, .int v4), (0, .ref 15)] rfl rfl rfl (by decide) dX1_canDeal_42 ?_
        refine WW.goto (pc := 45) 10 dX1_canDeal_45 (by decide) ?_
        refine WW.sub [2, 1, 0] rfl ?_
        exact hself2 (v4, (x1.2 + 1))
      · refine WW.iconst (pc := 35) 0 dX1_canDeal_35 rfl ?_
        exact WW.ret rfl rfl (show RetI M_X1_canDeal 36 from dX1_canDeal_36) ⟨Nat.le_refl _, Nat.le_refl _⟩ rfl
  · refine WW.iconst (pc := 4) 0 dX1_canDeal_4 rfl ?_
    exact WW.ret rfl rfl (show RetI M_X1_canDeal 5 from dX1_canDeal_5) ⟨Nat.le_refl _, Nat.le_refl _⟩ rfl
def fX2_madeBy (ρ : Rh) (d : Dd) (a1 : Int32) (a2 : Int32) : Option (Int64 × Dd) :=
  (fX2_deal ρ d a1).bind fun r1 =>
  (fX2_gain ρ r1 a2 0).bind fun r2 =>
  some (r2, r1)
set_option maxHeartbeats 4000000 in
set_option maxRecDepth 100000 in
theorem okX2_madeBy (g : Gx) (ρ : Rh) (hρ : Hr ρ) (d : Dd) (a1 : Int32) (a2 : Int32) : CallR g M_X2_madeBy (eL ρ) [.ref 14, .int a1, .int a2] (full d ρ) (fX2_madeBy ρ d a1 a2) := by
  refine CallR.intro rfl rfl (Nat.le_of_ble_eq_true rfl) (fun a ha => ⟨_, rfl⟩) ?_
  show WW g _ _ 0 [(0, .ref 14), (1, .int a1), (2, .int a2)] [] (full d ρ) 0 0 _
  unfold fX2_madeBy
  refine WW.aload_n (pc := 0) (j := 0) rfl dX2_madeBy_0 ?_
  refine WW.iload_n (pc := 1) (j := 1) rfl dX2_madeBy_1 ?_
  refine WW.callV (pc := 2) (As := [.int a1]) (st := []) lk_X2_68 (okX2_deal g ρ hρ d a1) h3_14 (sh_14 ρ) ⟨_, _, clk2⟩ rfl (Nat.le_of_ble_eq_true rfl) ⟨Nat.le_of_ble_eq_true rfl, Nat.le_of_ble_eq_true rfl, Nat.le_of_ble_eq_true rfl, Nat.le_of_ble_eq_true rfl⟩ dX2_madeBy_2 rfl (fun r1 hr1 => ?_)
  show WW _ _ _ 5 _ [] (full r1 ρ) 0 0 _
  refine WW.aload_n (pc := 5) (j := 0) rfl dX2_madeBy_5 ?_
  refine WW.iload_n (pc := 6) (j := 2) rfl dX2_madeBy_6 ?_
  refine WW.iconst (pc := 7) 0 dX2_madeBy_7 rfl ?_
  refine WW.callV (pc := 8) (As := [.int a2, .int 0]) (st := []) lk_X2_72 (okX2_gain g ρ hρ r1 a2 0) h3_14 (sh_14 ρ) ⟨_, _, clk2⟩ rfl (Nat.le_of_ble_eq_true rfl) ⟨Nat.le_of_ble_eq_true rfl, Nat.le_of_ble_eq_true rfl, Nat.le_of_ble_eq_true rfl, Nat.le_of_ble_eq_true rfl⟩ dX2_madeBy_8 rfl (fun r2 hr2 => ?_)
  show WW _ _ _ 11 _ [.long r2] (full r1 ρ) 0 0 _
  exact WW.ret rfl rfl (show RetI M_X2_madeBy 11 from dX2_madeBy_11) ⟨Nat.le_refl _, Nat.le_refl _⟩ rfl
def fX11_makes (ρ : Rh) (d : Dd) (a1 : Int32) (a2 : Int32) (a3 : Int32) (a4 : Int32) (a5 : Int32) : Option (Int64 × Dd) :=
  (fX11_isSign a2).bind fun r1 =>
  jn (fun (x2 : Bool) =>
    (fX1_has ρ d a4).bind fun r4 =>
    (fX11_refusal ρ d a1 r4 x2).bind fun r5 =>
    if r5 = 0 then
      ((fX11_newsAt ρ d a1).bind fun r6 =>
      (fX3_take ρ d ρ.1 r6 a2).bind fun r7 =>
      (fX3_isNever ρ r7).bind fun r8 =>
      if r8 = true then
        (some ((-1000000000000000004), r7))
      else
        ((fX2_begin ρ r7 (d_i r7 ρ.1 1) 0).bind fun r9 =>
        (fX2_madeBy ρ r9 a3 a4).bind fun r10 =>
        (fX11_partOf r10.1 (d_l r10.2 13 0) a5).bind fun r11 =>
        some (r11, r10.2)))
    else
      ((fX11_refusedPart r5).bind fun r12 =>
      some (r12, d))
    ) fun k3 =>
  jn (fun (x13 : Unit) =>
    k3 false
    ) fun k14 =>
  if r1 = true then
    ((fX1_canDeal ρ d a3).bind fun r15 =>
    if r15 = true then
      ((fX11_isPart a5).bind fun r16 =>
      if r16 = true then
        (k3 true)
      else
        (k14 ()))
    else
      (k14 ()))
  else
    (k14 ())
set_option maxHeartbeats 4000000 in
set_option maxRecDepth 100000 in
theorem okX11_makes (g : Gx) (ρ : Rh) (hρ : Hr ρ) (d : Dd) (a1 : Int32) (a2 : Int32) (a3 : Int32) (a4 : Int32) (a5 : Int32) : CallR g M_X11_makes (eL ρ) [.ref 3, .int a1, .int a2, .int a3, .int a4, .int a5] (full d ρ) (fX11_makes ρ d a1 a2 a3 a4 a5) := by
  refine CallR.intro rfl rfl (Nat.le_of_ble_eq_true rfl) (fun a ha => ⟨_, rfl⟩) ?_
  show WW g _ _ 0 [(0, .ref 3), (1, .int a1), (2, .int a2), (3, .int a3), (4, .int a4), (5, .int a5)] [] (full d ρ) 0 0 _
  unfold fX11_makes
  refine WW.iload_n (pc := 0) (j := 2) rfl dX11_makes_0 ?_
  refine WW.callS (pc := 1) (As := [.int a2]) (st := []) lk_X11_153 (okX11_isSign g ρ hρ d a2) rfl (Nat.le_of_ble_eq_true rfl) ⟨Nat.le_of_ble_eq_true rfl, Nat.le_of_ble_eq_true rfl, Nat.le_of_ble_eq_true rfl, Nat.le_of_ble_eq_true rfl⟩ dX11_makes_1 rfl (fun r1 hr1 => ?_)
  show WW _ _ _ 4 _ [.int (b2i r1)] (full d ρ) 0 0 _
  refine WW.join (pj := 31) (Lj := fun (x2 : Bool) => [(0, .ref 3), (1, .int a1), (2, .int a2), (3, .int a3), (4, .int a4), (5, .int a5)]) (sj := fun (x2 : Bool) => [.int (b2i x2)]) (hj := fun (x2 : Bool) => full d ρ) (fun x2 => ?_) (fun k3 hk3 => ?_)
  · refine WW.istore (pc := 31) [(6, .int (b2i x2)), (0, .ref 3), (1, .int a1), (2, .int a2), (3, .int a3), (4, .int a4), (5, .int a5)] rfl (by decide) dX11_makes_31 ?_
    refine WW.aload_n (pc := 33) (j := 1) rfl dX11_makes_33 ?_
    refine WW.iload_n (pc := 34) (j := 2) rfl dX11_makes_34 ?_
    refine WW.aload_n (pc := 35) (j := 1) rfl dX11_makes_35 ?_
    refine WW.sgr (pc := 36) fl_X11_50_11 h3_3 (sh_3 ρ) (Or.inl ⟨_, gt_11_4⟩) (hr_3_4 ρ) dX11_makes_36 ?_
    refine WW.iload (pc := 39) (j := 5) rfl dX11_makes_39 ?_
    refine WW.callV (pc := 41) (As := [.int a4]) (st := [.int a1, .ref 3]) lk_X11_127 (okX1_has g ρ hρ d a4) h3_15 (sh_15 ρ) ⟨_, _, clk1⟩ rfl (Nat.le_of_ble_eq_true rfl) ⟨Nat.le_of_ble_eq_true rfl, Nat.le_of_ble_eq_true rfl, Nat.le_of_ble_eq_true rfl, Nat.le_of_ble_eq_true rfl⟩ dX11_makes_41 rfl (fun r4 hr4 => ?_)
    show WW _ _ _ 44 _ [.int (b2i r4), .int a1, .ref 3] (full d ρ) 0 0 _
    refine WW.iload (pc := 44) (j := 0) rfl dX11_makes_44 ?_
    refine WW.callV (pc := 46) (As := [.int a1, .int (b2i r4), .int (b2i x2)]) (st := []) lk_X11_159 (okX11_refusal g ρ hρ d a1 r4 x2) h3_3 (sh_3 ρ) ⟨_, _, clk11⟩ rfl (Nat.le_of_ble_eq_true rfl) ⟨Nat.le_of_ble_eq_true rfl, Nat.le_of_ble_eq_true rfl, Nat.le_of_ble_eq_true rfl, Nat.le_of_ble_eq_true rfl⟩ dX11_makes_46 rfl (fun r5 hr5 => ?_)
    show WW _ _ _ 49 _ [.int r5] (full d ρ) 0 0 _
    refine WW.istore (pc := 49) [(7, .int r5), (6, .int (b2i x2)), (0, .ref 3), (1, .int a1), (2, .int a2), (3, .int a3), (4, .int a4), (5, .int a5)] rfl (by decide) dX11_makes_49 ?_
    refine WW.iload (pc := 51) (j := 0) rfl dX11_makes_51 ?_
    refine WW.if_eq (pc := 53) 62 dX11_makes_53 (by decide) (fun _ => ?_) (fun _ => ?_)
    · refine WW.aload_n (pc := 62) (j := 2) rfl dX11_makes_62 ?_
      refine WW.sgr (pc := 63) fl_X11_35_11 h3_3 (sh_3 ρ) (Or.inl ⟨_, gt_11_8⟩) (hr_3_8 ρ) dX11_makes_63 ?_
      refine WW.aload_n (pc := 66) (j := 2) rfl dX11_makes_66 ?_
      refine WW.sgr (pc := 67) fl_X11_19_11 h3_3 (sh_3 ρ) (Or.inl ⟨_, gt_11_1⟩) (hr_mk ρ) dX11_makes_67 ?_
      refine WW.aload_n (pc := 70) (j := 2) rfl dX11_makes_70 ?_
      refine WW.iload_n (pc := 71) (j := 3) rfl dX11_makes_71 ?_
      refine WW.callV (pc := 72) (As := [.int a1]) (st := [.ref ρ.1, .ref 13]) lk_X11_146 (okX11_newsAt g ρ hρ d a1) h3_3 (sh_3 ρ) ⟨_, _, clk11⟩ rfl (Nat.le_of_ble_eq_true rfl) ⟨Nat.le_of_ble_eq_true rfl, Nat.le_of_ble_eq_true rfl, Nat.le_of_ble_eq_true rfl, Nat.le_of_ble_eq_true rfl⟩ dX11_makes_72 rfl (fun r6 hr6 => ?_)
      show WW _ _ _ 75 _ [.ref r6, .ref ρ.1, .ref 13] (full d ρ) 0 0 _
      refine WW.iload_n (pc := 75) (j := 4) rfl dX11_makes_75 ?_
      refine WW.callV (pc := 76) (As := [.ref ρ.1, .ref r6, .int a2]) (st := []) lk_X11_167 (okX3_take g ρ hρ d ρ.1 r6 a2 hρ.1 (nwAt hρ hr6)) h3_13 (sh_13 ρ) ⟨_, _, clk3⟩ rfl (Nat.le_of_ble_eq_true rfl) ⟨Nat.le_of_ble_eq_true rfl, Nat.le_of_ble_eq_true rfl, Nat.le_of_ble_eq_true rfl, Nat.le_of_ble_eq_true rfl⟩ dX11_makes_76 rfl (fun r7 hr7 => ?_)
      show WW _ _ _ 79 _ [] (full r7 ρ) 0 0 _
      refine WW.aload_n (pc := 79) (j := 2) rfl dX11_makes_79 ?_
      refine WW.sgr (pc := 80) fl_X11_35_11 h3_3 (sh_3 ρ) (Or.inl ⟨_, gt_11_8⟩) (hr_3_8 ρ) dX11_makes_80 ?_
      refine WW.callV (pc := 83) (As := []) (st := []) lk_X11_183 (okX3_isNever g ρ hρ r7 ) h3_13 (sh_13 ρ) ⟨_, _, clk3⟩ rfl (Nat.le_of_ble_eq_true rfl) ⟨Nat.le_of_ble_eq_true rfl, Nat.le_of_ble_eq_true rfl, Nat.le_of_ble_eq_true rfl, Nat.le_of_ble_eq_true rfl⟩ dX11_makes_83 rfl (fun r8 hr8 => ?_)
      show WW _ _ _ 86 _ [.int (b2i r8)] (full r7 ρ) 0 0 _
      refine WW.if_eqB (pc := 86) 93 dX11_makes_86 (by decide) (fun _ => ?_) (fun _ => ?_)
      · refine WW.ldc2 (pc := 89) wd_545 dX11_makes_89 ?_
        exact WW.ret rfl rfl (show RetI M_X11_makes 92 from dX11_makes_92) ⟨Nat.le_refl _, Nat.le_refl _⟩ rfl
      · refine WW.aload_n (pc := 93) (j := 2) rfl dX11_makes_93 ?_
        refine WW.sgr (pc := 94) fl_X11_42_11 h3_3 (sh_3 ρ) (Or.inl ⟨_, gt_11_9⟩) (hr_3_9 ρ) dX11_makes_94 ?_
        refine WW.aload_n (pc := 97) (j := 2) rfl dX11_makes_97 ?_
        refine WW.sgr (pc := 98) fl_X11_35_11 h3_3 (sh_3 ρ) (Or.inl ⟨_, gt_11_8⟩) (hr_3_8 ρ) dX11_makes_98 ?_
        refine WW.aload_n (pc := 101) (j := 2) rfl dX11_makes_101 ?_
        refine WW.sgr (pc := 102) fl_X11_19_11 h3_3 (sh_3 ρ) (Or.inl ⟨_, gt_11_1⟩) (hr_mk ρ) dX11_makes_102 ?_
        refine WW.sgi (pc := 105) fl_X11_106_5 (mk3 hρ.1) (mkS hρ.1) (Or.inl gt_5_1) dX11_makes_105 ?_
        refine WW.iconst (pc := 108) 0 dX11_makes_108 rfl ?_
        refine WW.callV (pc := 109) (As := [.ref 13, .int (d_i r7 ρ.1 1), .int 0]) (st := []) lk_X11_203 (okX2_begin g ρ hρ r7 (d_i r7 ρ.1 1) 0) h3_14 (sh_14 ρ) ⟨_, _, clk2⟩ rfl (Nat.le_of_ble_eq_true rfl) ⟨Nat.le_of_ble_eq_true rfl, Nat.le_of_ble_eq_true rfl, Nat.le_of_ble_eq_true rfl, Nat.le_of_ble_eq_true rfl⟩ dX11_makes_109 rfl (fun r9 hr9 => ?_)
        show WW _ _ _ 112 _ [] (full r9 ρ) 0 0 _
        refine WW.aload_n (pc := 112) (j := 2) rfl dX11_makes_112 ?_
        refine WW.sgr (pc := 113) fl_X11_42_11 h3_3 (sh_3 ρ) (Or.inl ⟨_, gt_11_9⟩) (hr_3_9 ρ) dX11_makes_113 ?_
        refine WW.iload_n (pc := 116) (j := 5) rfl dX11_makes_116 ?_
        refine WW.iload (pc := 117) (j := 6) rfl dX11_makes_117 ?_
        refine WW.callV (pc := 119) (As := [.int a3, .int a4]) (st := []) lk_X11_213 (okX2_madeBy g ρ hρ r9 a3 a4) h3_14 (sh_14 ρ) ⟨_, _, clk2⟩ rfl (Nat.le_of_ble_eq_true rfl) ⟨Nat.le_of_ble_eq_true rfl, Nat.le_of_ble_eq_true rfl, Nat.le_of_ble_eq_true rfl, Nat.le_of_ble_eq_true rfl⟩ dX11_makes_119 rfl (fun r10 hr10 => ?_)
        show WW _ _ _ 122 _ [.long r10.1] (full r10.2 ρ) 0 0 _
        refine WW.aload_n (pc := 122) (j := 2) rfl dX11_makes_122 ?_
        refine WW.sgr (pc := 123) fl_X11_35_11 h3_3 (sh_3 ρ) (Or.inl ⟨_, gt_11_8⟩) (hr_3_8 ρ) dX11_makes_123 ?_
        refine WW.sgl (pc := 126) fl_X11_171_3 h3_13 (sh_13 ρ) gt_3_0 dX11_makes_126 ?_
        refine WW.iload (pc := 129) (j := 7) rfl dX11_makes_129 ?_
        refine WW.callS (pc := 131) (As := [.long r10.1, .long (d_l r10.2 13 0), .int a5]) (st := []) lk_X11_179 (okX11_partOf g ρ hρ r10.2 r10.1 (d_l r10.2 13 0) a5) rfl (Nat.le_of_ble_eq_true rfl) ⟨Nat.le_of_ble_eq_true rfl, Nat.le_of_ble_eq_true rfl, Nat.le_of_ble_eq_true rfl, Nat.le_of_ble_eq_true rfl⟩ dX11_makes_131 rfl (fun r11 hr11 => ?_)
        show WW _ _ _ 134 _ [.long r11] (full r10.2 ρ) 0 0 _
        exact WW.ret rfl rfl (show RetI M_X11_makes 134 from dX11_makes_134) ⟨Nat.le_refl _, Nat.le_refl _⟩ rfl
    · refine WW.iload (pc := 56) (j := 0) rfl dX11_makes_56 ?_
      refine WW.callS (pc := 58) (As := [.int r5]) (st := []) lk_X11_163 (okX11_refusedPart g ρ hρ d r5) rfl (Nat.le_of_ble_eq_true rfl) ⟨Nat.le_of_ble_eq_true rfl, Nat.le_of_ble_eq_true rfl, Nat.le_of_ble_eq_true rfl, Nat.le_of_ble_eq_true rfl⟩ dX11_makes_58 rfl (fun r12 hr12 => ?_)
      show WW _ _ _ 61 _ [.long r12] (full d ρ) 0 0 _
      exact WW.ret rfl rfl (show RetI M_X11_makes 61 from dX11_makes_61) ⟨Nat.le_refl _, Nat.le_refl _⟩ rfl
  · refine WW.join (pj := 30) (Lj := fun (x13 : Unit) => [(0, .ref 3), (1, .int a1), (2, .int a2), (3, .int a3), (4, .int a4), (5, .int a5)]) (sj := fun (x13 : Unit) => []) (hj := fun (x13 : Unit) => full d ρ) (fun x13 => ?_) (fun k14 hk14 => ?_)
    · refine WW.iconst (pc := 30) 0 dX11_makes_30 rfl ?_
      exact hk3 false
    · refine WW.if_eqB (pc := 4) 30 dX11_makes_4 (by decide) (fun _ => ?_) (fun _ => ?_)
      · refine WW.aload_n (pc := 7) (j := 0) rfl dX11_makes_7 ?_
        refine WW.sgr (pc := 8) fl_X11_50_11 h3_3 (sh_3 ρ) (Or.inl ⟨_, gt_11_4⟩) (hr_3_4 ρ) dX11_makes_8 ?_
        refine WW.iload_n (pc := 11) (j := 3) rfl dX11_makes_11 ?_
        refine WW.callV (pc := 12) (As := [.int a3]) (st := []) lk_X11_210 (okX1_canDeal g ρ hρ d a3) h3_15 (sh_15 ρ) ⟨_, _, clk1⟩ rfl (Nat.le_of_ble_eq_true rfl) ⟨Nat.le_of_ble_eq_true rfl, Nat.le_of_ble_eq_true rfl, Nat.le_of_ble_eq_true rfl, Nat.le_of_ble_eq_true rfl⟩ dX11_makes_12 rfl (fun r15 hr15 => ?_)
        show WW _ _ _ 15 _ [.int (b2i r15)] (full d ρ) 0 0 _
        refine WW.if_eqB (pc := 15) 30 dX11_makes_15 (by decide) (fun _ => ?_) (fun _ => ?_)
        · refine WW.iload (pc := 18) (j := 5) rfl dX11_makes_18 ?_
          refine WW.callS (pc := 20) (As := [.int a5]) (st := []) lk_X11_156 (okX11_isPart g ρ hρ d a5) rfl (Nat.le_of_ble_eq_true rfl) ⟨Nat.le_of_ble_eq_true rfl, Nat.le_of_ble_eq_true rfl, Nat.le_of_ble_eq_true rfl, Nat.le_of_ble_eq_true rfl⟩ dX11_makes_20 rfl (fun r16 hr16 => ?_)
          show WW _ _ _ 23 _ [.int (b2i r16)] (full d ρ) 0 0 _
          refine WW.if_eqB (pc := 23) 30 dX11_makes_23 (by decide) (fun _ => ?_) (fun _ => ?_)
          · refine WW.iconst (pc := 26) 1 dX11_makes_26 rfl ?_
            refine WW.goto (pc := 27) 31 dX11_makes_27 (by decide) ?_
            exact hk3 true
          · exact hk14 ()
        · exact hk14 ()
      · exact hk14 ()
def fX11_worthOf (ρ : Rh) (d : Dd) (a1 : Int32) (a2 : Int32) (a3 : Int32) : Option Int64 :=
  bnd (((((a1 * 16) + a2) * 4) + a3) : Int32) fun v1 =>
  if v1 < 0 then
    (some 0)
  else
    (if 512 ≤ v1 then
      (some 0)
    else
      (if inB v1 512 = true then
        (some (d_l d 22 (ix v1)))
      else none))
set_option maxHeartbeats 4000000 in
set_option maxRecDepth 100000 in
theorem okX11_worthOf (g : Gx) (ρ : Rh) (hρ : Hr ρ) (d : Dd) (a1 : Int32) (a2 : Int32) (a3 : Int32) : CallR g M_X11_worthOf (eLp ρ d) [.ref 3, .int a1, .int a2, .int a3] (full d ρ) (fX11_worthOf ρ d a1 a2 a3) := by
  refine CallR.intro rfl rfl (Nat.le_of_ble_eq_true rfl) (fun a ha => ⟨_, rfl⟩) ?_
  show WW g _ _ 0 [(0, .ref 3), (1, .int a1), (2, .int a2), (3, .int a3)] [] (full d ρ) 0 0 _
  unfold fX11_worthOf
  refine WW.iload_n (pc := 0) (j := 1) rfl dX11_worthOf_0 ?_
  refine WW.bipush (pc := 1) 16 dX11_worthOf_1 rfl ?_
  refine WW.imul (pc := 3) dX11_worthOf_3 ?_
  refine WW.iload_n (pc := 4) (j := 2) rfl dX11_worthOf_4 ?_
  refine WW.iadd (pc := 5) dX11_worthOf_5 ?_
  refine WW.iconst (pc := 6) 4 dX11_worthOf_6 rfl ?_
  refine WW.imul (pc := 7) dX11_worthOf_7 ?_
  refine WW.iload_n (pc := 8) (j := 3) rfl dX11_worthOf_8 ?_
  refine WW.iadd (pc := 9) dX11_worthOf_9 ?_
  refine WW.nmi (fun v1 => ?_)
  refine WW.istore (pc := 10) [(4, .int v1), (0, .ref 3), (1, .int a1), (2, .int a2), (3, .int a3)] rfl (by decide) dX11_worthOf_10 ?_
  refine WW.iload (pc := 12) (j := 0) rfl dX11_worthOf_12 ?_
  refine WW.if_lt (pc := 14) 37 dX11_worthOf_14 (by decide) (fun _ => ?_) (fun _ => ?_)
  · refine WW.lconst (pc := 37) 0 dX11_worthOf_37 rfl ?_
    exact WW.ret rfl rfl (show RetI M_X11_worthOf 38 from dX11_worthOf_38) ⟨Nat.le_refl _, Nat.le_refl _⟩ rfl
  · refine WW.iload (pc := 17) (j := 0) rfl dX11_worthOf_17 ?_
    refine WW.aload_n (pc := 19) (j := 1) rfl dX11_worthOf_19 ?_
    refine WW.sgr (pc := 20) fl_X11_66_11 h3_3 (sh_3 ρ) (Or.inr ⟨_, gt_11_13⟩) (hr_3_13 ρ) dX11_worthOf_20 ?_
    refine WW.alen (pc := 23) 512 (one_le h3_22) (Or.inr (Or.inl rfl)) (sh_22 ρ) rfl dX11_worthOf_23 ?_
    refine WW.icmp_ge (pc := 24) 37 dX11_worthOf_24 (by decide) (fun _ => ?_) (fun _ => ?_)
    · refine WW.lconst (pc := 37) 0 dX11_worthOf_37 rfl ?_
      exact WW.ret rfl rfl (show RetI M_X11_worthOf 38 from dX11_worthOf_38) ⟨Nat.le_refl _, Nat.le_refl _⟩ rfl
    · refine WW.aload_n (pc := 27) (j := 1) rfl dX11_worthOf_27 ?_
      refine WW.sgr (pc := 28) fl_X11_66_11 h3_3 (sh_3 ρ) (Or.inr ⟨_, gt_11_13⟩) (hr_3_13 ρ) dX11_worthOf_28 ?_
      refine WW.iload (pc := 31) (j := 0) rfl dX11_worthOf_31 ?_
      refine WW.slald (pc := 33) h3_22 (sh_22 ρ) dX11_worthOf_33 ?_
      refine WW.goto (pc := 34) 38 dX11_worthOf_34 (by decide) ?_
      exact WW.ret rfl rfl (show RetI M_X11_worthOf 38 from dX11_worthOf_38) ⟨Nat.le_refl _, Nat.le_refl _⟩ rfl
def fX11_worth (ρ : Rh) (d : Dd) (a1 : Int32) (a2 : Int32) (a3 : Int32) (a4 : Int32) : Option (Int64 × Dd) :=
  (fX1_has ρ d a3).bind fun r1 =>
  (fX11_isSet ρ d a2).bind fun r2 =>
  jn (fun (x3 : Bool) =>
    (fX11_refusal ρ d a1 r1 x3).bind fun r5 =>
    if r5 = 0 then
      ((fX11_settle ρ d a1 a2).bind fun r6 =>
      (fX11_worthOf ρ r6 a1 a2 a3).bind fun r7 =>
      (fX5_wholeWeight ρ r6 ρ.1).bind fun r8 =>
      (fX11_partOf r7 r8 a4).bind fun r9 =>
      some (r9, r6))
    else
      ((fX11_refusedPart r5).bind fun r10 =>
      some (r10, d))
    ) fun k4 =>
  jn (fun (x11 : Unit) =>
    k4 false
    ) fun k12 =>
  if r2 = true then
    ((fX11_isPart a4).bind fun r13 =>
    if r13 = true then
      (k4 true)
    else
      (k12 ()))
  else
    (k12 ())
set_option maxHeartbeats 4000000 in
set_option maxRecDepth 100000 in
theorem okX11_worth (g : Gx) (ρ : Rh) (hρ : Hr ρ) (d : Dd) (a1 : Int32) (a2 : Int32) (a3 : Int32) (a4 : Int32) : CallR g M_X11_worth (eL ρ) [.ref 3, .int a1, .int a2, .int a3, .int a4] (full d ρ) (fX11_worth ρ d a1 a2 a3 a4) := by
  refine CallR.intro rfl rfl (Nat.le_of_ble_eq_true rfl) (fun a ha => ⟨_, rfl⟩) ?_
  show WW g _ _ 0 [(0, .ref 3), (1, .int a1), (2, .int a2), (3, .int a3), (4, .int a4)] [] (full d ρ) 0 0 _
  unfold fX11_worth
  refine WW.aload_n (pc := 0) (j := 0) rfl dX11_worth_0 ?_
  refine WW.iload_n (pc := 1) (j := 1) rfl dX11_worth_1 ?_
  refine WW.aload_n (pc := 2) (j := 0) rfl dX11_worth_2 ?_
  refine WW.sgr (pc := 3) fl_X11_50_11 h3_3 (sh_3 ρ) (Or.inl ⟨_, gt_11_4⟩) (hr_3_4 ρ) dX11_worth_3 ?_
  refine WW.iload_n (pc := 6) (j := 3) rfl dX11_worth_6 ?_
  refine WW.callV (pc := 7) (As := [.int a3]) (st := [.int a1, .ref 3]) lk_X11_127 (okX1_has g ρ hρ d a3) h3_15 (sh_15 ρ) ⟨_, _, clk1⟩ rfl (Nat.le_of_ble_eq_true rfl) ⟨Nat.le_of_ble_eq_true rfl, Nat.le_of_ble_eq_true rfl, Nat.le_of_ble_eq_true rfl, Nat.le_of_ble_eq_true rfl⟩ dX11_worth_7 rfl (fun r1 hr1 => ?_)
  show WW _ _ _ 10 _ [.int (b2i r1), .int a1, .ref 3] (full d ρ) 0 0 _
  refine WW.aload_n (pc := 10) (j := 0) rfl dX11_worth_10 ?_
  refine WW.iload_n (pc := 11) (j := 2) rfl dX11_worth_11 ?_
  refine WW.callV (pc := 12) (As := [.int a2]) (st := [.int (b2i r1), .int a1, .ref 3]) lk_X11_192 (okX11_isSet g ρ hρ d a2) h3_3 (sh_3 ρ) ⟨_, _, clk11⟩ rfl (Nat.le_of_ble_eq_true rfl) ⟨Nat.le_of_ble_eq_true rfl, Nat.le_of_ble_eq_true rfl, Nat.le_of_ble_eq_true rfl, Nat.le_of_ble_eq_true rfl⟩ dX11_worth_12 rfl (fun r2 hr2 => ?_)
  show WW _ _ _ 15 _ [.int (b2i r2), .int (b2i r1), .int a1, .ref 3] (full d ρ) 0 0 _
  refine WW.join (pj := 31) (Lj := fun (x3 : Bool) => [(0, .ref 3), (1, .int a1), (2, .int a2), (3, .int a3), (4, .int a4)]) (sj := fun (x3 : Bool) => [.int (b2i x3), .int (b2i r1), .int a1, .ref 3]) (hj := fun (x3 : Bool) => full d ρ) (fun x3 => ?_) (fun k4 hk4 => ?_)
  · refine WW.callV (pc := 31) (As := [.int a1, .int (b2i r1), .int (b2i x3)]) (st := []) lk_X11_159 (okX11_refusal g ρ hρ d a1 r1 x3) h3_3 (sh_3 ρ) ⟨_, _, clk11⟩ rfl (Nat.le_of_ble_eq_true rfl) ⟨Nat.le_of_ble_eq_true rfl, Nat.le_of_ble_eq_true rfl, Nat.le_of_ble_eq_true rfl, Nat.le_of_ble_eq_true rfl⟩ dX11_worth_31 rfl (fun r5 hr5 => ?_)
    show WW _ _ _ 34 _ [.int r5] (full d ρ) 0 0 _
    refine WW.istore (pc := 34) [(5, .int r5), (0, .ref 3), (1, .int a1), (2, .int a2), (3, .int a3), (4, .int a4)] rfl (by decide) dX11_worth_34 ?_
    refine WW.iload (pc := 36) (j := 0) rfl dX11_worth_36 ?_
    refine WW.if_eq (pc := 38) 47 dX11_worth_38 (by decide) (fun _ => ?_) (fun _ => ?_)
    · refine WW.aload_n (pc := 47) (j := 1) rfl dX11_worth_47 ?_
      refine WW.iload_n (pc := 48) (j := 2) rfl dX11_worth_48 ?_
      refine WW.iload_n (pc := 49) (j := 3) rfl dX11_worth_49 ?_
      refine WW.callV (pc := 50) (As := [.int a1, .int a2]) (st := []) lk_X11_195 (okX11_settle g ρ hρ d a1 a2) h3_3 (sh_3 ρ) ⟨_, _, clk11⟩ rfl (Nat.le_of_ble_eq_true rfl) ⟨Nat.le_of_ble_eq_true rfl, Nat.le_of_ble_eq_true rfl, Nat.le_of_ble_eq_true rfl, Nat.le_of_ble_eq_true rfl⟩ dX11_worth_50 rfl (fun r6 hr6 => ?_)
      show WW _ _ _ 53 _ [] (full r6 ρ) 0 0 _
      refine WW.aload_n (pc := 53) (j := 1) rfl dX11_worth_53 ?_
      refine WW.iload_n (pc := 54) (j := 2) rfl dX11_worth_54 ?_
      refine WW.iload_n (pc := 55) (j := 3) rfl dX11_worth_55 ?_
      refine WW.iload_n (pc := 56) (j := 4) rfl dX11_worth_56 ?_
      refine WW.callV (pc := 57) (As := [.int a1, .int a2, .int a3]) (st := []) lk_X11_217 (okX11_worthOf g ρ hρ r6 a1 a2 a3) h3_3 (sh_3 ρ) ⟨_, _, clk11⟩ rfl (Nat.le_of_ble_eq_true rfl) ⟨Nat.le_of_ble_eq_true rfl, Nat.le_of_ble_eq_true rfl, Nat.le_of_ble_eq_true rfl, Nat.le_of_ble_eq_true rfl⟩ dX11_worth_57 rfl (fun r7 hr7 => ?_)
      show WW _ _ _ 60 _ [.long r7] (full r6 ρ) 0 0 _
      refine WW.aload_n (pc := 60) (j := 1) rfl dX11_worth_60 ?_
      refine WW.sgr (pc := 61) fl_X11_19_11 h3_3 (sh_3 ρ) (Or.inl ⟨_, gt_11_1⟩) (hr_mk ρ) dX11_worth_61 ?_
      refine WW.callV (pc := 64) (As := []) (st := [.long r7]) lk_X11_175 (okX5_wholeWeight g ρ hρ r6 ρ.1 hρ.1) (mk3 hρ.1) (mkS hρ.1) ⟨_, _, clk5⟩ rfl (Nat.le_of_ble_eq_true rfl) ⟨Nat.le_of_ble_eq_true rfl, Nat.le_of_ble_eq_true rfl, Nat.le_of_ble_eq_true rfl, Nat.le_of_ble_eq_true rfl⟩ dX11_worth_64 rfl (fun r8 hr8 => ?_)
      show WW _ _ _ 67 _ [.long r8, .long r7] (full r6 ρ) 0 0 _
      refine WW.iload (pc := 67) (j := 5) rfl dX11_worth_67 ?_
      refine WW.callS (pc := 69) (As := [.long r7, .long r8, .int a4]) (st := []) lk_X11_179 (okX11_partOf g ρ hρ r6 r7 r8 a4) rfl (Nat.le_of_ble_eq_true rfl) ⟨Nat.le_of_ble_eq_true rfl, Nat.le_of_ble_eq_true rfl, Nat.le_of_ble_eq_true rfl, Nat.le_of_ble_eq_true rfl⟩ dX11_worth_69 rfl (fun r9 hr9 => ?_)
      show WW _ _ _ 72 _ [.long r9] (full r6 ρ) 0 0 _
      exact WW.ret rfl rfl (show RetI M_X11_worth 72 from dX11_worth_72) ⟨Nat.le_refl _, Nat.le_refl _⟩ rfl
    · refine WW.iload (pc := 41) (j := 0) rfl dX11_worth_41 ?_
      refine WW.callS (pc := 43) (As := [.int r5]) (st := []) lk_X11_163 (okX11_refusedPart g ρ hρ d r5) rfl (Nat.le_of_ble_eq_true rfl) ⟨Nat.le_of_ble_eq_true rfl, Nat.le_of_ble_eq_true rfl, Nat.le_of_ble_eq_true rfl, Nat.le_of_ble_eq_true rfl⟩ dX11_worth_43 rfl (fun r10 hr10 => ?_)
      show WW _ _ _ 46 _ [.long r10] (full d ρ) 0 0 _
      exact WW.ret rfl rfl (show RetI M_X11_worth 46 from dX11_worth_46) ⟨Nat.le_refl _, Nat.le_refl _⟩ rfl
  · refine WW.join (pj := 30) (Lj := fun (x11 : Unit) => [(0, .ref 3), (1, .int a1), (2, .int a2), (3, .int a3), (4, .int a4)]) (sj := fun (x11 : Unit) => [.int (b2i r1), .int a1, .ref 3]) (hj := fun (x11 : Unit) => full d ρ) (fun x11 => ?_) (fun k12 hk12 => ?_)
    · refine WW.iconst (pc := 30) 0 dX11_worth_30 rfl ?_
      exact hk4 false
    · refine WW.if_eqB (pc := 15) 30 dX11_worth_15 (by decide) (fun _ => ?_) (fun _ => ?_)
      · refine WW.iload (pc := 18) (j := 4) rfl dX11_worth_18 ?_
        refine WW.callS (pc := 20) (As := [.int a4]) (st := [.int (b2i r1), .int a1, .ref 3]) lk_X11_156 (okX11_isPart g ρ hρ d a4) rfl (Nat.le_of_ble_eq_true rfl) ⟨Nat.le_of_ble_eq_true rfl, Nat.le_of_ble_eq_true rfl, Nat.le_of_ble_eq_true rfl, Nat.le_of_ble_eq_true rfl⟩ dX11_worth_20 rfl (fun r13 hr13 => ?_)
        show WW _ _ _ 23 _ [.int (b2i r13), .int (b2i r1), .int a1, .ref 3] (full d ρ) 0 0 _
        refine WW.if_eqB (pc := 23) 30 dX11_worth_23 (by decide) (fun _ => ?_) (fun _ => ?_)
        · refine WW.iconst (pc := 26) 1 dX11_worth_26 rfl ?_
          refine WW.goto (pc := 27) 31 dX11_worth_27 (by decide) ?_
          exact hk4 true
        · exact hk12 ()
      · exact hk12 ()
def fX11_isHow (a0 : Int32) : Option Bool :=
  jn (fun (x1 : Unit) =>
    some true
    ) fun k2 =>
  if a0 = 0 then
    (k2 ())
  else
    (if a0 = 1 then
      (k2 ())
    else
      (some false))
set_option maxHeartbeats 4000000 in
set_option maxRecDepth 100000 in
theorem okX11_isHow (g : Gx) (ρ : Rh) (hρ : Hr ρ) (d : Dd) (a0 : Int32) : CallR g M_X11_isHow (eZp ρ d) [.int a0] (full d ρ) (fX11_isHow a0) := by
  refine CallR.intro rfl rfl (Nat.le_of_ble_eq_true rfl) (fun a ha => ⟨_, rfl⟩) ?_
  show WW g _ _ 0 [(0, .int a0)] [] (full d ρ) 0 0 _
  unfold fX11_isHow
  refine WW.iload_n (pc := 0) (j := 0) rfl dX11_isHow_0 ?_
  refine WW.join (pj := 9) (Lj := fun (x1 : Unit) => []) (sj := fun (x1 : Unit) => []) (hj := fun (x1 : Unit) => full d ρ) (fun x1 => ?_) (fun k2 hk2 => ?_)
  · refine WW.iconst (pc := 9) 1 dX11_isHow_9 rfl ?_
    refine WW.goto (pc := 10) 14 dX11_isHow_10 (by decide) ?_
    exact WW.ret rfl rfl (show RetI M_X11_isHow 14 from dX11_isHow_14) ⟨Nat.le_refl _, Nat.le_refl _⟩ rfl
  · refine WW.if_eq (pc := 1) 9 dX11_isHow_1 (by decide) (fun _ => ?_) (fun _ => ?_)
    · refine WW.sub [] rfl ?_
      exact hk2 ()
    · refine WW.iload_n (pc := 4) (j := 0) rfl dX11_isHow_4 ?_
      refine WW.iconst (pc := 5) 1 dX11_isHow_5 rfl ?_
      refine WW.icmp_ne (pc := 6) 13 dX11_isHow_6 (by decide) (fun _ => ?_) (fun _ => ?_)
      · refine WW.sub [] rfl ?_
        exact hk2 ()
      · refine WW.iconst (pc := 13) 0 dX11_isHow_13 rfl ?_
        exact WW.ret rfl rfl (show RetI M_X11_isHow 14 from dX11_isHow_14) ⟨Nat.le_refl _, Nat.le_refl _⟩ rfl
def fX11_settleAll (ρ : Rh) (d : Dd) (a1 : Int32) : Option Dd :=
  lp (fun self2 (x1 : Int32 × Dd) =>
    (fX1_everybody ρ x1.2).bind fun r3 =>
    if r3 < x1.1 then
      (some x1.2)
    else
      (if 16 ≤ x1.1 then
        (some x1.2)
      else
        ((fX11_settle ρ x1.2 a1 x1.1).bind fun r4 =>
        self2 ((x1.1 + 1), r4)))
    ) 6000 (0, d)
set_option maxHeartbeats 4000000 in
set_option maxRecDepth 100000 in
theorem okX11_settleAll (g : Gx) (ρ : Rh) (hρ : Hr ρ) (d : Dd) (a1 : Int32) : CallR g M_X11_settleAll (eV ρ) [.ref 3, .int a1] (full d ρ) (fX11_settleAll ρ d a1) := by
  refine CallR.intro rfl rfl (Nat.le_of_ble_eq_true rfl) (fun a ha => rfl) ?_
  show WW g _ _ 0 [(0, .ref 3), (1, .int a1)] [] (full d ρ) 0 0 _
  unfold fX11_settleAll
  refine WW.iconst (pc := 0) 0 dX11_settleAll_0 rfl ?_
  refine WW.istore_n (pc := 1) [(2, .int 0), (0, .ref 3), (1, .int a1)] rfl (by decide) dX11_settleAll_1 ?_
  refine WW.sub [1, 2, 0] rfl ?_
  refine WW.loop (pc := 2) (Lj := fun (x1 : Int32 × Dd) => [(0, .ref 3), (1, .int a1), (2, .int x1.1)]) (hj := fun (x1 : Int32 × Dd) => full x1.2 ρ) (fun self2 hself2 x1 => ?_) 6000 (0, d)
  refine WW.iload_n (pc := 2) (j := 2) rfl dX11_settleAll_2 ?_
  refine WW.aload_n (pc := 3) (j := 0) rfl dX11_settleAll_3 ?_
  refine WW.sgr (pc := 4) fl_X11_50_11 h3_3 (sh_3 ρ) (Or.inl ⟨_, gt_11_4⟩) (hr_3_4 ρ) dX11_settleAll_4 ?_
  refine WW.callV (pc := 7) (As := []) (st := [.int x1.1]) lk_X11_253 (okX1_everybody g ρ hρ x1.2 ) h3_15 (sh_15 ρ) ⟨_, _, clk1⟩ rfl (Nat.le_of_ble_eq_true rfl) ⟨Nat.le_of_ble_eq_true rfl, Nat.le_of_ble_eq_true rfl, Nat.le_of_ble_eq_true rfl, Nat.le_of_ble_eq_true rfl⟩ dX11_settleAll_7 rfl (fun r3 hr3 => ?_)
  show WW _ _ _ 10 _ [.int r3, .int x1.1] (full x1.2 ρ) 0 0 _
  refine WW.icmp_gt (pc := 10) 31 dX11_settleAll_10 (by decide) (fun _ => ?_) (fun _ => ?_)
  · exact WW.ret rfl rfl (show RetI M_X11_settleAll 31 from dX11_settleAll_31) ⟨Nat.le_refl _, Nat.le_refl _⟩ rfl
  · refine WW.iload_n (pc := 13) (j := 2) rfl dX11_settleAll_13 ?_
    refine WW.bipush (pc := 14) 16 dX11_settleAll_14 rfl ?_
    refine WW.icmp_ge (pc := 16) 31 dX11_settleAll_16 (by decide) (fun _ => ?_) (fun _ => ?_)
    · exact WW.ret rfl rfl (show RetI M_X11_settleAll 31 from dX11_settleAll_31) ⟨Nat.le_refl _, Nat.le_refl _⟩ rfl
    · refine WW.aload_n (pc := 19) (j := 0) rfl dX11_settleAll_19 ?_
      refine WW.iload_n (pc := 20) (j := 1) rfl dX11_settleAll_20 ?_
      refine WW.iload_n (pc := 21) (j := 2) rfl dX11_settleAll_21 ?_
      refine WW.callV (pc := 22) (As := [.int a1, .int x1.1]) (st := []) lk_X11_195 (okX11_settle g ρ hρ x1.2 a1 x1.1) h3_3 (sh_3 ρ) ⟨_, _, clk11⟩ rfl (Nat.le_of_ble_eq_true rfl) ⟨Nat.le_of_ble_eq_true rfl, Nat.le_of_ble_eq_true rfl, Nat.le_of_ble_eq_true rfl, Nat.le_of_ble_eq_true rfl⟩ dX11_settleAll_22 rfl (fun r4 hr4 => ?_)
      show WW _ _ _ 25 _ [] (full r4 ρ) 0 0 _
      refine WW.iinc (pc := 25) (j := 2) (x1.1 + 1) [(2, .int (x1.1 + 1)), (0, .ref 3), (1, .int a1)] rfl rfl rfl (by decide) dX11_settleAll_25 ?_
      refine WW.goto (pc := 28) 2 dX11_settleAll_28 (by decide) ?_
      refine WW.sub [1, 2, 0] rfl ?_
      exact hself2 ((x1.1 + 1), r4)
def fX11_takings (ρ : Rh) (d : Dd) (a1 : Int32) (a2 : Int32) (a3 : Int32) : Option Int64 :=
  lp (fun self2 (x1 : Int64 × Int64 × Int32 × Int32) =>
    if (d_i d 15 2) ≤ x1.2.2.2 then
      (if a3 = 0 then
        (some x1.1)
      else
        (some (x1.2.1 * (Int32.toInt64 x1.2.2.1))))
    else
      ((fX11_isIn a2 x1.2.2.2).bind fun r3 =>
      jn (fun (x4 : Int64 × Int64 × Int32) =>
        self2 (x4.1, x4.2.1, x4.2.2, (x1.2.2.2 + 1))
        ) fun k5 =>
      if r3 = true then
        ((fX11_worthOf ρ d a1 a2 x1.2.2.2).bind fun r6 =>
        jn (fun (x7 : Int64) =>
          bnd ((x1.1 + r6) : Int64) fun v9 =>
          k5 (v9, x7, (x1.2.2.1 + 1))
          ) fun k8 =>
        if x1.2.2.1 = 0 then
          (k8 r6)
        else
          (k8 (jminL x1.2.1 r6)))
      else
        (k5 (x1.1, x1.2.1, x1.2.2.1)))
    ) 6000 (0, 0, 0, 0)
set_option maxHeartbeats 4000000 in
set_option maxRecDepth 100000 in
theorem okX11_takings (g : Gx) (ρ : Rh) (hρ : Hr ρ) (d : Dd) (a1 : Int32) (a2 : Int32) (a3 : Int32) : CallR g M_X11_takings (eLp ρ d) [.ref 3, .int a1, .int a2, .int a3] (full d ρ) (fX11_takings ρ d a1 a2 a3) := by
  refine CallR.intro rfl rfl (Nat.le_of_ble_eq_true rfl) (fun a ha => ⟨_, rfl⟩) ?_
  show WW g _ _ 0 [(0, .ref 3), (1, .int a1), (2, .int a2), (3, .int a3)] [] (full d ρ) 0 0 _
  unfold fX11_takings
  refine WW.lconst (pc := 0) 0 dX11_takings_0 rfl ?_
  refine WW.lstore (pc := 1) [(4, .long 0), (0, .ref 3), (1, .int a1), (2, .int a2), (3, .int a3)] rfl (by decide) dX11_takings_1 ?_
  refine WW.lconst (pc := 3) 0 dX11_takings_3 rfl ?_
  refine WW.lstore (pc := 4) [(6, .long 0), (4, .long 0), (0, .ref 3), (1, .int a1), (2, .int a2), (3, .int a3)] rfl (by decide) dX11_takings_4 ?_
  refine WW.iconst (pc := 6) 0 dX11_takings_6 rfl ?_
  refine WW.istore (pc := 7) [(8, .int 0), (6, .long 0), (4, .long 0), (0, .ref 3), (1, .int a1), (2, .int a2), (3, .int a3)] rfl (by decide) dX11_takings_7 ?_
  refine WW.iconst (pc := 9) 0 dX11_takings_9 rfl ?_
  refine WW.istore (pc := 10) [(9, .int 0), (8, .int 0), (6, .long 0), (4, .long 0), (0, .ref 3), (1, .int a1), (2, .int a2), (3, .int a3)] rfl (by decide) dX11_takings_10 ?_
  refine WW.sub [4, 5, 6, 7, 3, 2, 1, 0] rfl ?_
  refine WW.loop (pc := 12) (Lj := fun (x1 : Int64 × Int64 × Int32 × Int32) => [(0, .ref 3), (1, .int a1), (2, .int a2), (3, .int a3), (4, .long x1.1), (6, .long x1.2.1), (8, .int x1.2.2.1), (9, .int x1.2.2.2)]) (hj := fun (x1 : Int64 × Int64 × Int32 × Int32) => full d ρ) (fun self2 hself2 x1 => ?_) 6000 (0, 0, 0, 0)
  refine WW.iload (pc := 12) (j := 7) rfl dX11_takings_12 ?_
  refine WW.aload_n (pc := 14) (j := 0) rfl dX11_takings_14 ?_
  refine WW.sgr (pc := 15) fl_X11_50_11 h3_3 (sh_3 ρ) (Or.inl ⟨_, gt_11_4⟩) (hr_3_4 ρ) dX11_takings_15 ?_
  refine WW.sgi (pc := 18) fl_X11_243_1 h3_15 (sh_15 ρ) (Or.inl gt_1_2) dX11_takings_18 ?_
  refine WW.icmp_ge (pc := 21) 78 dX11_takings_21 (by decide) (fun _ => ?_) (fun _ => ?_)
  · refine WW.iload_n (pc := 78) (j := 3) rfl dX11_takings_78 ?_
    refine WW.if_ne (pc := 79) 87 dX11_takings_79 (by decide) (fun _ => ?_) (fun _ => ?_)
    · refine WW.lload (pc := 82) (j := 4) rfl dX11_takings_82 ?_
      refine WW.goto (pc := 84) 93 dX11_takings_84 (by decide) ?_
      exact WW.ret rfl rfl (show RetI M_X11_takings 93 from dX11_takings_93) ⟨Nat.le_refl _, Nat.le_refl _⟩ rfl
    · refine WW.lload (pc := 87) (j := 5) rfl dX11_takings_87 ?_
      refine WW.iload (pc := 89) (j := 6) rfl dX11_takings_89 ?_
      refine WW.i2l (pc := 91) dX11_takings_91 ?_
      refine WW.lmul (pc := 92) dX11_takings_92 ?_
      exact WW.ret rfl rfl (show RetI M_X11_takings 93 from dX11_takings_93) ⟨Nat.le_refl _, Nat.le_refl _⟩ rfl
  · refine WW.iload_n (pc := 24) (j := 2) rfl dX11_takings_24 ?_
    refine WW.iload (pc := 25) (j := 7) rfl dX11_takings_25 ?_
    refine WW.callS (pc := 27) (As := [.int a2, .int x1.2.2.2]) (st := []) lk_X11_246 (okX11_isIn g ρ hρ d a2 x1.2.2.2) rfl (Nat.le_of_ble_eq_true rfl) ⟨Nat.le_of_ble_eq_true rfl, Nat.le_of_ble_eq_true rfl, Nat.le_of_ble_eq_true rfl, Nat.le_of_ble_eq_true rfl⟩ dX11_takings_27 rfl (fun r3 hr3 => ?_)
    show WW _ _ _ 30 _ [.int (b2i r3)] (full d ρ) 0 0 _
    refine WW.join (pj := 72) (Lj := fun (x4 : Int64 × Int64 × Int32) => [(0, .ref 3), (1, .int a1), (2, .int a2), (3, .int a3), (4, .long x4.1), (6, .long x4.2.1), (8, .int x4.2.2), (9, .int x1.2.2.2)]) (sj := fun (x4 : Int64 × Int64 × Int32) => []) (hj := fun (x4 : Int64 × Int64 × Int32) => full d ρ) (fun x4 => ?_) (fun k5 hk5 => ?_)
    · refine WW.iinc (pc := 72) (j := 7) (x1.2.2.2 + 1) [(9, .int (x1.2.2.2 + 1)), (0, .ref 3), (1, .int a1), (2, .int a2), (3, .int a3), (4, .long x4.1), (6, .long x4.2.1), (8, .int x4.2.2)] rfl rfl rfl (by decide) dX11_takings_72 ?_
      refine WW.goto (pc := 75) 12 dX11_takings_75 (by decide) ?_
      refine WW.sub [1, 2, 3, 4, 5, 6, 7, 0] rfl ?_
      exact hself2 (x4.1, x4.2.1, x4.2.2, (x1.2.2.2 + 1))
    · refine WW.if_eqB (pc := 30) 72 dX11_takings_30 (by decide) (fun _ => ?_) (fun _ => ?_)
      · refine WW.aload_n (pc := 33) (j := 0) rfl dX11_takings_33 ?_
        refine WW.iload_n (pc := 34) (j := 1) rfl dX11_takings_34 ?_
        refine WW.iload_n (pc := 35) (j := 2) rfl dX11_takings_35 ?_
        refine WW.iload (pc := 36) (j := 7) rfl dX11_takings_36 ?_
        refine WW.callV (pc := 38) (As := [.int a1, .int a2, .int x1.2.2.2]) (st := []) lk_X11_217 (okX11_worthOf g ρ hρ d a1 a2 x1.2.2.2) h3_3 (sh_3 ρ) ⟨_, _, clk11⟩ rfl (Nat.le_of_ble_eq_true rfl) ⟨Nat.le_of_ble_eq_true rfl, Nat.le_of_ble_eq_true rfl, Nat.le_of_ble_eq_true rfl, Nat.le_of_ble_eq_true rfl⟩ dX11_takings_38 rfl (fun r6 hr6 => ?_)
        show WW _ _ _ 41 _ [.long r6] (full d ρ) 0 0 _
        refine WW.lstore (pc := 41) [(10, .long r6), (0, .ref 3), (1, .int a1), (2, .int a2), (3, .int a3), (4, .long x1.1), (6, .long x1.2.1), (8, .int x1.2.2.1), (9, .int x1.2.2.2)] rfl (by decide) dX11_takings_41 ?_
        refine WW.iload (pc := 43) (j := 7) rfl dX11_takings_43 ?_
        refine WW.join (pj := 60) (Lj := fun (x7 : Int64) => [(0, .ref 3), (1, .int a1), (2, .int a2), (3, .int a3), (4, .long x1.1), (8, .int x1.2.2.1), (9, .int x1.2.2.2), (10, .long r6)]) (sj := fun (x7 : Int64) => [.long x7]) (hj := fun (x7 : Int64) => full d ρ) (fun x7 => ?_) (fun k8 hk8 => ?_)
        · refine WW.lstore (pc := 60) [(6, .long x7), (0, .ref 3), (1, .int a1), (2, .int a2), (3, .int a3), (4, .long x1.1), (8, .int x1.2.2.1), (9, .int x1.2.2.2), (10, .long r6)] rfl (by decide) dX11_takings_60 ?_
          refine WW.lload (pc := 62) (j := 5) rfl dX11_takings_62 ?_
          refine WW.lload (pc := 64) (j := 8) rfl dX11_takings_64 ?_
          refine WW.ladd (pc := 66) dX11_takings_66 ?_
          refine WW.nml (fun v9 => ?_)
          refine WW.lstore (pc := 67) [(4, .long v9), (6, .long x7), (0, .ref 3), (1, .int a1), (2, .int a2), (3, .int a3), (8, .int x1.2.2.1), (9, .int x1.2.2.2), (10, .long r6)] rfl (by decide) dX11_takings_67 ?_
          refine WW.iinc (pc := 69) (j := 6) (x1.2.2.1 + 1) [(8, .int (x1.2.2.1 + 1)), (4, .long v9), (6, .long x7), (0, .ref 3), (1, .int a1), (2, .int a2), (3, .int a3), (9, .int x1.2.2.2), (10, .long r6)] rfl rfl rfl (by decide) dX11_takings_69 ?_
          refine WW.sub [3, 4, 5, 6, 1, 2, 0, 7] rfl ?_
          exact hk5 (v9, x7, (x1.2.2.1 + 1))
        · refine WW.if_ne (pc := 45) 53 dX11_takings_45 (by decide) (fun _ => ?_) (fun _ => ?_)
          · refine WW.lload (pc := 48) (j := 0) rfl dX11_takings_48 ?_
            refine WW.goto (pc := 50) 60 dX11_takings_50 (by decide) ?_
            refine WW.sub [1, 2, 3, 4, 5, 7, 8, 0] rfl ?_
            exact hk8 r6
          · refine WW.lload (pc := 53) (j := 6) rfl dX11_takings_53 ?_
            refine WW.lload (pc := 55) (j := 0) rfl dX11_takings_55 ?_
            refine WW.minl (pc := 57) lk_X11_349 (Nat.le_of_ble_eq_true rfl) (Nat.le_of_ble_eq_true rfl) ⟨(Nat.le_of_ble_eq_true rfl), (Nat.le_of_ble_eq_true rfl)⟩ dX11_takings_57 ?_
            refine WW.sub [1, 2, 3, 4, 5, 7, 8, 0] rfl ?_
            exact hk8 (jminL x1.2.1 r6)
      · exact hk5 (x1.1, x1.2.1, x1.2.2.1)
def fX11_bestSet (ρ : Rh) (d : Dd) (a1 : Int32) (a2 : Int32) : Option Int32 :=
  lp (fun self2 (x1 : Int32 × Int64 × Int32) =>
    (fX1_everybody ρ d).bind fun r3 =>
    if r3 < x1.2.2 then
      (some x1.1)
    else
      (if 16 ≤ x1.2.2 then
        (some x1.1)
      else
        ((fX11_takings ρ d a1 x1.2.2 a2).bind fun r4 =>
        jn (fun (x5 : Int32 × Int64) =>
          self2 (x5.1, x5.2, (x1.2.2 + 1))
          ) fun k6 =>
        if r4 ≤ x1.2.1 then
          (k6 (x1.1, x1.2.1))
        else
          (k6 (x1.2.2, r4))))
    ) 6000 (0, 0, 1)
set_option maxHeartbeats 4000000 in
set_option maxRecDepth 100000 in
theorem okX11_bestSet (g : Gx) (ρ : Rh) (hρ : Hr ρ) (d : Dd) (a1 : Int32) (a2 : Int32) : CallR g M_X11_bestSet (eIp ρ d) [.ref 3, .int a1, .int a2] (full d ρ) (fX11_bestSet ρ d a1 a2) := by
  refine CallR.intro rfl rfl (Nat.le_of_ble_eq_true rfl) (fun a ha => ⟨_, rfl⟩) ?_
  show WW g _ _ 0 [(0, .ref 3), (1, .int a1), (2, .int a2)] [] (full d ρ) 0 0 _
  unfold fX11_bestSet
  refine WW.iconst (pc := 0) 0 dX11_bestSet_0 rfl ?_
  refine WW.istore_n (pc := 1) [(3, .int 0), (0, .ref 3), (1, .int a1), (2, .int a2)] rfl (by decide) dX11_bestSet_1 ?_
  refine WW.lconst (pc := 2) 0 dX11_bestSet_2 rfl ?_
  refine WW.lstore (pc := 3) [(4, .long 0), (3, .int 0), (0, .ref 3), (1, .int a1), (2, .int a2)] rfl (by decide) dX11_bestSet_3 ?_
  refine WW.iconst (pc := 5) 1 dX11_bestSet_5 rfl ?_
  refine WW.istore (pc := 6) [(6, .int 1), (4, .long 0), (3, .int 0), (0, .ref 3), (1, .int a1), (2, .int a2)] rfl (by decide) dX11_bestSet_6 ?_
  refine WW.sub [3, 4, 5, 2, 1, 0] rfl ?_
  refine WW.loop (pc := 8) (Lj := fun (x1 : Int32 × Int64 × Int32) => [(0, .ref 3), (1, .int a1), (2, .int a2), (3, .int x1.1), (4, .long x1.2.1), (6, .int x1.2.2)]) (hj := fun (x1 : Int32 × Int64 × Int32) => full d ρ) (fun self2 hself2 x1 => ?_) 6000 (0, 0, 1)
  refine WW.iload (pc := 8) (j := 5) rfl dX11_bestSet_8 ?_
  refine WW.aload_n (pc := 10) (j := 0) rfl dX11_bestSet_10 ?_
  refine WW.sgr (pc := 11) fl_X11_50_11 h3_3 (sh_3 ρ) (Or.inl ⟨_, gt_11_4⟩) (hr_3_4 ρ) dX11_bestSet_11 ?_
  refine WW.callV (pc := 14) (As := []) (st := [.int x1.2.2]) lk_X11_253 (okX1_everybody g ρ hρ d ) h3_15 (sh_15 ρ) ⟨_, _, clk1⟩ rfl (Nat.le_of_ble_eq_true rfl) ⟨Nat.le_of_ble_eq_true rfl, Nat.le_of_ble_eq_true rfl, Nat.le_of_ble_eq_true rfl, Nat.le_of_ble_eq_true rfl⟩ dX11_bestSet_14 rfl (fun r3 hr3 => ?_)
  show WW _ _ _ 17 _ [.int r3, .int x1.2.2] (full d ρ) 0 0 _
  refine WW.icmp_gt (pc := 17) 58 dX11_bestSet_17 (by decide) (fun _ => ?_) (fun _ => ?_)
  · refine WW.iload_n (pc := 58) (j := 3) rfl dX11_bestSet_58 ?_
    exact WW.ret rfl rfl (show RetI M_X11_bestSet 59 from dX11_bestSet_59) ⟨Nat.le_refl _, Nat.le_refl _⟩ rfl
  · refine WW.iload (pc := 20) (j := 5) rfl dX11_bestSet_20 ?_
    refine WW.bipush (pc := 22) 16 dX11_bestSet_22 rfl ?_
    refine WW.icmp_ge (pc := 24) 58 dX11_bestSet_24 (by decide) (fun _ => ?_) (fun _ => ?_)
    · refine WW.iload_n (pc := 58) (j := 3) rfl dX11_bestSet_58 ?_
      exact WW.ret rfl rfl (show RetI M_X11_bestSet 59 from dX11_bestSet_59) ⟨Nat.le_refl _, Nat.le_refl _⟩ rfl
    · refine WW.aload_n (pc := 27) (j := 0) rfl dX11_bestSet_27 ?_
      refine WW.iload_n (pc := 28) (j := 1) rfl dX11_bestSet_28 ?_
      refine WW.iload (pc := 29) (j := 5) rfl dX11_bestSet_29 ?_
      refine WW.iload_n (pc := 31) (j := 2) rfl dX11_bestSet_31 ?_
      refine WW.callV (pc := 32) (As := [.int a1, .int x1.2.2, .int a2]) (st := []) lk_X11_234 (okX11_takings g ρ hρ d a1 x1.2.2 a2) h3_3 (sh_3 ρ) ⟨_, _, clk11⟩ rfl (Nat.le_of_ble_eq_true rfl) ⟨Nat.le_of_ble_eq_true rfl, Nat.le_of_ble_eq_true rfl, Nat.le_of_ble_eq_true rfl, Nat.le_of_ble_eq_true rfl⟩ dX11_bestSet_32 rfl (fun r4 hr4 => ?_)
      show WW _ _ _ 35 _ [.long r4] (full d ρ) 0 0 _
      refine WW.lstore (pc := 35) [(7, .long r4), (0, .ref 3), (1, .int a1), (2, .int a2), (3, .int x1.1), (4, .long x1.2.1), (6, .int x1.2.2)] rfl (by decide) dX11_bestSet_35 ?_
      refine WW.lload (pc := 37) (j := 0) rfl dX11_bestSet_37 ?_
      refine WW.lload (pc := 39) (j := 5) rfl dX11_bestSet_39 ?_
      refine WW.join (pj := 52) (Lj := fun (x5 : Int32 × Int64) => [(0, .ref 3), (1, .int a1), (2, .int a2), (3, .int x5.1), (4, .long x5.2), (6, .int x1.2.2)]) (sj := fun (x5 : Int32 × Int64) => []) (hj := fun (x5 : Int32 × Int64) => full d ρ) (fun x5 => ?_) (fun k6 hk6 => ?_)
      · refine WW.iinc (pc := 52) (j := 5) (x1.2.2 + 1) [(6, .int (x1.2.2 + 1)), (0, .ref 3), (1, .int a1), (2, .int a2), (3, .int x5.1), (4, .long x5.2)] rfl rfl rfl (by decide) dX11_bestSet_52 ?_
        refine WW.goto (pc := 55) 8 dX11_bestSet_55 (by decide) ?_
        refine WW.sub [1, 2, 3, 4, 5, 0] rfl ?_
        exact hself2 (x5.1, x5.2, (x1.2.2 + 1))
      · refine WW.lcmp_le (pc := 41) 52 dX11_bestSet_41 dX11_bestSet_42 (by decide) (fun _ => ?_) (fun _ => ?_)
        · refine WW.sub [1, 2, 3, 4, 5, 6] rfl ?_
          exact hk6 (x1.1, x1.2.1)
        · refine WW.iload (pc := 45) (j := 6) rfl dX11_bestSet_45 ?_
          refine WW.istore_n (pc := 47) [(3, .int x1.2.2), (7, .long r4), (0, .ref 3), (1, .int a1), (2, .int a2), (4, .long x1.2.1), (6, .int x1.2.2)] rfl (by decide) dX11_bestSet_47 ?_
          refine WW.lload (pc := 48) (j := 1) rfl dX11_bestSet_48 ?_
          refine WW.lstore (pc := 50) [(4, .long r4), (3, .int x1.2.2), (7, .long r4), (0, .ref 3), (1, .int a1), (2, .int a2), (6, .int x1.2.2)] rfl (by decide) dX11_bestSet_50 ?_
          refine WW.sub [3, 4, 5, 1, 0, 6] rfl ?_
          exact hk6 (x1.2.2, r4)
def fX11_whom (ρ : Rh) (d : Dd) (a1 : Int32) (a2 : Int32) : Option (Int32 × Dd) :=
  (fX11_isHow a2).bind fun r1 =>
  (fX11_refusal ρ d a1 true r1).bind fun r2 =>
  if r2 = 0 then
    (if (d_i d 3 7) < 40 then
      (bnd (dI d 3 7 ((d_i d 3 7) + 1)) fun d3 =>
      (fX11_settleAll ρ d3 a1).bind fun r4 =>
      (fX11_bestSet ρ r4 a1 a2).bind fun r5 =>
      some (r5, r4))
    else
      (some ((-103), d)))
  else
    (some (r2, d))
set_option maxHeartbeats 4000000 in
set_option maxRecDepth 100000 in
theorem okX11_whom (g : Gx) (ρ : Rh) (hρ : Hr ρ) (d : Dd) (a1 : Int32) (a2 : Int32) : CallR g M_X11_whom (eI ρ) [.ref 3, .int a1, .int a2] (full d ρ) (fX11_whom ρ d a1 a2) := by
  refine CallR.intro rfl rfl (Nat.le_of_ble_eq_true rfl) (fun a ha => ⟨_, rfl⟩) ?_
  show WW g _ _ 0 [(0, .ref 3), (1, .int a1), (2, .int a2)] [] (full d ρ) 0 0 _
  unfold fX11_whom
  refine WW.aload_n (pc := 0) (j := 0) rfl dX11_whom_0 ?_
  refine WW.iload_n (pc := 1) (j := 1) rfl dX11_whom_1 ?_
  refine WW.iconst (pc := 2) 1 dX11_whom_2 rfl ?_
  refine WW.iload_n (pc := 3) (j := 2) rfl dX11_whom_3 ?_
  refine WW.callS (pc := 4) (As := [.int a2]) (st := [.int 1, .int a1, .ref 3]) lk_X11_221 (okX11_isHow g ρ hρ d a2) rfl (Nat.le_of_ble_eq_true rfl) ⟨Nat.le_of_ble_eq_true rfl, Nat.le_of_ble_eq_true rfl, Nat.le_of_ble_eq_true rfl, Nat.le_of_ble_eq_true rfl⟩ dX11_whom_4 rfl (fun r1 hr1 => ?_)
  show WW _ _ _ 7 _ [.int (b2i r1), .int 1, .int a1, .ref 3] (full d ρ) 0 0 _
  refine WW.callV (pc := 7) (As := [.int a1, .int (b2i true), .int (b2i r1)]) (st := []) lk_X11_159 (okX11_refusal g ρ hρ d a1 true r1) h3_3 (sh_3 ρ) ⟨_, _, clk11⟩ rfl (Nat.le_of_ble_eq_true rfl) ⟨Nat.le_of_ble_eq_true rfl, Nat.le_of_ble_eq_true rfl, Nat.le_of_ble_eq_true rfl, Nat.le_of_ble_eq_true rfl⟩ dX11_whom_7 rfl (fun r2 hr2 => ?_)
  show WW _ _ _ 10 _ [.int r2] (full d ρ) 0 0 _
  refine WW.istore_n (pc := 10) [(3, .int r2), (0, .ref 3), (1, .int a1), (2, .int a2)] rfl (by decide) dX11_whom_10 ?_
  refine WW.iload_n (pc := 11) (j := 0) rfl dX11_whom_11 ?_
  refine WW.if_eq (pc := 12) 17 dX11_whom_12 (by decide) (fun _ => ?_) (fun _ => ?_)
  · refine WW.aload_n (pc := 17) (j := 1) rfl dX11_whom_17 ?_
    refine WW.sgi (pc := 18) fl_X11_224_11 h3_3 (sh_3 ρ) (Or.inl gt_11_7) dX11_whom_18 ?_
    refine WW.bipush (pc := 21) 40 dX11_whom_21 rfl ?_
    refine WW.icmp_lt (pc := 23) 29 dX11_whom_23 (by decide) (fun _ => ?_) (fun _ => ?_)
    · refine WW.aload_n (pc := 29) (j := 1) rfl dX11_whom_29 ?_
      refine WW.dup (pc := 30) rfl dX11_whom_30 ?_
      refine WW.sgi (pc := 31) fl_X11_224_11 h3_3 (sh_3 ρ) (Or.inl gt_11_7) dX11_whom_31 ?_
      refine WW.iconst (pc := 34) 1 dX11_whom_34 rfl ?_
      refine WW.iadd (pc := 35) dX11_whom_35 ?_
      refine WW.spi (pc := 36) fp_X11_224_11 h3_3 (sh_3 ρ) gt_11_7 dX11_whom_36 (fun d3 => ?_)
      refine WW.aload_n (pc := 39) (j := 1) rfl dX11_whom_39 ?_
      refine WW.iload_n (pc := 40) (j := 2) rfl dX11_whom_40 ?_
      refine WW.callV (pc := 41) (As := [.int a1]) (st := []) lk_X11_227 (okX11_settleAll g ρ hρ d3 a1) h3_3 (sh_3 ρ) ⟨_, _, clk11⟩ rfl (Nat.le_of_ble_eq_true rfl) ⟨Nat.le_of_ble_eq_true rfl, Nat.le_of_ble_eq_true rfl, Nat.le_of_ble_eq_true rfl, Nat.le_of_ble_eq_true rfl⟩ dX11_whom_41 rfl (fun r4 hr4 => ?_)
      show WW _ _ _ 44 _ [] (full r4 ρ) 0 0 _
      refine WW.aload_n (pc := 44) (j := 1) rfl dX11_whom_44 ?_
      refine WW.iload_n (pc := 45) (j := 2) rfl dX11_whom_45 ?_
      refine WW.iload_n (pc := 46) (j := 3) rfl dX11_whom_46 ?_
      refine WW.callV (pc := 47) (As := [.int a1, .int a2]) (st := []) lk_X11_231 (okX11_bestSet g ρ hρ r4 a1 a2) h3_3 (sh_3 ρ) ⟨_, _, clk11⟩ rfl (Nat.le_of_ble_eq_true rfl) ⟨Nat.le_of_ble_eq_true rfl, Nat.le_of_ble_eq_true rfl, Nat.le_of_ble_eq_true rfl, Nat.le_of_ble_eq_true rfl⟩ dX11_whom_47 rfl (fun r5 hr5 => ?_)
      show WW _ _ _ 50 _ [.int r5] (full r4 ρ) 0 0 _
      exact WW.ret rfl rfl (show RetI M_X11_whom 50 from dX11_whom_50) ⟨Nat.le_refl _, Nat.le_refl _⟩ rfl
    · refine WW.bipush (pc := 26) (-103) dX11_whom_26 rfl ?_
      exact WW.ret rfl rfl (show RetI M_X11_whom 28 from dX11_whom_28) ⟨Nat.le_refl _, Nat.le_refl _⟩ rfl
  · refine WW.iload_n (pc := 15) (j := 0) rfl dX11_whom_15 ?_
    exact WW.ret rfl rfl (show RetI M_X11_whom 16 from dX11_whom_16) ⟨Nat.le_refl _, Nat.le_refl _⟩ rfl
def fX11_plainly (ρ : Rh) (d : Dd) (a1 : Int32) : Option (Int32 × Dd) :=
  if (d_i d 3 3) = 0 then
    (some ((-103), d))
  else
    ((fX11_isHow a1).bind fun r1 =>
    if r1 = true then
      (if (d_i d 3 7) < 40 then
        (bnd (dI d 3 7 ((d_i d 3 7) + 1)) fun d2 =>
        lp (fun self4 (x3 : Int32 × Int64 × Int32 × Dd) =>
          if (d_i x3.2.2.2 3 6) ≤ x3.2.2.1 then
            (some (x3.1, x3.2.2.2))
          else
            ((fX11_settleAll ρ x3.2.2.2 x3.2.2.1).bind fun r5 =>
            (fX11_bestSet ρ r5 x3.2.2.1 a1).bind fun r6 =>
            (fX11_takings ρ r5 x3.2.2.1 r6 a1).bind fun r7 =>
            jn (fun (x8 : Int32 × Int64) =>
              self4 (x8.1, x8.2, (x3.2.2.1 + 1), r5)
              ) fun k9 =>
            jn (fun (x10 : Unit) =>
              k9 (x3.2.2.1, r7)
              ) fun k11 =>
            if x3.1 = (-1) then
              (k11 ())
            else
              (if r7 ≤ x3.2.1 then
                (k9 (x3.1, x3.2.1))
              else
                (k11 ())))
          ) 6000 ((-1), 0, 0, d2))
      else
        (some ((-103), d)))
    else
      (some ((-102), d)))
set_option maxHeartbeats 4000000 in
set_option maxRecDepth 100000 in
theorem okX11_plainly (g : Gx) (ρ : Rh) (hρ : Hr ρ) (d : Dd) (a1 : Int32) : CallR g M_X11_plainly (eI ρ) [.ref 3, .int a1] (full d ρ) (fX11_plainly ρ d a1) := by
  refine CallR.intro rfl rfl (Nat.le_of_ble_eq_true rfl) (fun a ha => ⟨_, rfl⟩) ?_
  show WW g _ _ 0 [(0, .ref 3), (1, .int a1)] [] (full d ρ) 0 0 _
  unfold fX11_plainly
  refine WW.aload_n (pc := 0) (j := 0) rfl dX11_plainly_0 ?_
  refine WW.sgi (pc := 1) fl_X11_89_11 h3_3 (sh_3 ρ) (Or.inr gt_11_3) dX11_plainly_1 ?_
  refine WW.if_ne (pc := 4) 10 dX11_plainly_4 (by decide) (fun _ => ?_) (fun _ => ?_)
  · refine WW.bipush (pc := 7) (-103) dX11_plainly_7 rfl ?_
    exact WW.ret rfl rfl (show RetI M_X11_plainly 9 from dX11_plainly_9) ⟨Nat.le_refl _, Nat.le_refl _⟩ rfl
  · refine WW.iload_n (pc := 10) (j := 1) rfl dX11_plainly_10 ?_
    refine WW.callS (pc := 11) (As := [.int a1]) (st := []) lk_X11_221 (okX11_isHow g ρ hρ d a1) rfl (Nat.le_of_ble_eq_true rfl) ⟨Nat.le_of_ble_eq_true rfl, Nat.le_of_ble_eq_true rfl, Nat.le_of_ble_eq_true rfl, Nat.le_of_ble_eq_true rfl⟩ dX11_plainly_11 rfl (fun r1 hr1 => ?_)
    show WW _ _ _ 14 _ [.int (b2i r1)] (full d ρ) 0 0 _
    refine WW.if_neB (pc := 14) 20 dX11_plainly_14 (by decide) (fun _ => ?_) (fun _ => ?_)
    · refine WW.aload_n (pc := 20) (j := 0) rfl dX11_plainly_20 ?_
      refine WW.sgi (pc := 21) fl_X11_224_11 h3_3 (sh_3 ρ) (Or.inl gt_11_7) dX11_plainly_21 ?_
      refine WW.bipush (pc := 24) 40 dX11_plainly_24 rfl ?_
      refine WW.icmp_lt (pc := 26) 32 dX11_plainly_26 (by decide) (fun _ => ?_) (fun _ => ?_)
      · refine WW.aload_n (pc := 32) (j := 0) rfl dX11_plainly_32 ?_
        refine WW.dup (pc := 33) rfl dX11_plainly_33 ?_
        refine WW.sgi (pc := 34) fl_X11_224_11 h3_3 (sh_3 ρ) (Or.inl gt_11_7) dX11_plainly_34 ?_
        refine WW.iconst (pc := 37) 1 dX11_plainly_37 rfl ?_
        refine WW.iadd (pc := 38) dX11_plainly_38 ?_
        refine WW.spi (pc := 39) fp_X11_224_11 h3_3 (sh_3 ρ) gt_11_7 dX11_plainly_39 (fun d2 => ?_)
        refine WW.iconst (pc := 42) (-1) dX11_plainly_42 rfl ?_
        refine WW.istore_n (pc := 43) [(2, .int (-1)), (0, .ref 3), (1, .int a1)] rfl (by decide) dX11_plainly_43 ?_
        refine WW.lconst (pc := 44) 0 dX11_plainly_44 rfl ?_
        refine WW.lstore_n (pc := 45) [(3, .long 0), (2, .int (-1)), (0, .ref 3), (1, .int a1)] rfl (by decide) dX11_plainly_45 ?_
        refine WW.iconst (pc := 46) 0 dX11_plainly_46 rfl ?_
        refine WW.istore (pc := 47) [(5, .int 0), (3, .long 0), (2, .int (-1)), (0, .ref 3), (1, .int a1)] rfl (by decide) dX11_plainly_47 ?_
        refine WW.sub [3, 4, 2, 1, 0] rfl ?_
        refine WW.loop (pc := 49) (Lj := fun (x3 : Int32 × Int64 × Int32 × Dd) => [(0, .ref 3), (1, .int a1), (2, .int x3.1), (3, .long x3.2.1), (5, .int x3.2.2.1)]) (hj := fun (x3 : Int32 × Int64 × Int32 × Dd) => full x3.2.2.2 ρ) (fun self4 hself4 x3 => ?_) 6000 ((-1), 0, 0, d2)
        refine WW.iload (pc := 49) (j := 4) rfl dX11_plainly_49 ?_
        refine WW.aload_n (pc := 51) (j := 0) rfl dX11_plainly_51 ?_
        refine WW.sgi (pc := 52) fl_X11_139_11 h3_3 (sh_3 ρ) (Or.inl gt_11_6) dX11_plainly_52 ?_
        refine WW.icmp_ge (pc := 55) 104 dX11_plainly_55 (by decide) (fun _ => ?_) (fun _ => ?_)
        · refine WW.iload_n (pc := 104) (j := 2) rfl dX11_plainly_104 ?_
          exact WW.ret rfl rfl (show RetI M_X11_plainly 105 from dX11_plainly_105) ⟨Nat.le_refl _, Nat.le_refl _⟩ rfl
        · refine WW.aload_n (pc := 58) (j := 0) rfl dX11_plainly_58 ?_
          refine WW.iload (pc := 59) (j := 4) rfl dX11_plainly_59 ?_
          refine WW.callV (pc := 61) (As := [.int x3.2.2.1]) (st := []) lk_X11_227 (okX11_settleAll g ρ hρ x3.2.2.2 x3.2.2.1) h3_3 (sh_3 ρ) ⟨_, _, clk11⟩ rfl (Nat.le_of_ble_eq_true rfl) ⟨Nat.le_of_ble_eq_true rfl, Nat.le_of_ble_eq_true rfl, Nat.le_of_ble_eq_true rfl, Nat.le_of_ble_eq_true rfl⟩ dX11_plainly_61 rfl (fun r5 hr5 => ?_)
          show WW _ _ _ 64 _ [] (full r5 ρ) 0 0 _
          refine WW.aload_n (pc := 64) (j := 0) rfl dX11_plainly_64 ?_
          refine WW.iload (pc := 65) (j := 4) rfl dX11_plainly_65 ?_
          refine WW.aload_n (pc := 67) (j := 0) rfl dX11_plainly_67 ?_
          refine WW.iload (pc := 68) (j := 4) rfl dX11_plainly_68 ?_
          refine WW.iload_n (pc := 70) (j := 1) rfl dX11_plainly_70 ?_
          refine WW.callV (pc := 71) (As := [.int x3.2.2.1, .int a1]) (st := [.int x3.2.2.1, .ref 3]) lk_X11_231 (okX11_bestSet g ρ hρ r5 x3.2.2.1 a1) h3_3 (sh_3 ρ) ⟨_, _, clk11⟩ rfl (Nat.le_of_ble_eq_true rfl) ⟨Nat.le_of_ble_eq_true rfl, Nat.le_of_ble_eq_true rfl, Nat.le_of_ble_eq_true rfl, Nat.le_of_ble_eq_true rfl⟩ dX11_plainly_71 rfl (fun r6 hr6 => ?_)
          show WW _ _ _ 74 _ [.int r6, .int x3.2.2.1, .ref 3] (full r5 ρ) 0 0 _
          refine WW.iload_n (pc := 74) (j := 1) rfl dX11_plainly_74 ?_
          refine WW.callV (pc := 75) (As := [.int x3.2.2.1, .int r6, .int a1]) (st := []) lk_X11_234 (okX11_takings g ρ hρ r5 x3.2.2.1 r6 a1) h3_3 (sh_3 ρ) ⟨_, _, clk11⟩ rfl (Nat.le_of_ble_eq_true rfl) ⟨Nat.le_of_ble_eq_true rfl, Nat.le_of_ble_eq_true rfl, Nat.le_of_ble_eq_true rfl, Nat.le_of_ble_eq_true rfl⟩ dX11_plainly_75 rfl (fun r7 hr7 => ?_)
          show WW _ _ _ 78 _ [.long r7] (full r5 ρ) 0 0 _
          refine WW.lstore (pc := 78) [(6, .long r7), (0, .ref 3), (1, .int a1), (2, .int x3.1), (3, .long x3.2.1), (5, .int x3.2.2.1)] rfl (by decide) dX11_plainly_78 ?_
          refine WW.iload_n (pc := 80) (j := 3) rfl dX11_plainly_80 ?_
          refine WW.iconst (pc := 81) (-1) dX11_plainly_81 rfl ?_
          refine WW.join (pj := 98) (Lj := fun (x8 : Int32 × Int64) => [(0, .ref 3), (1, .int a1), (2, .int x8.1), (3, .long x8.2), (5, .int x3.2.2.1)]) (sj := fun (x8 : Int32 × Int64) => []) (hj := fun (x8 : Int32 × Int64) => full r5 ρ) (fun x8 => ?_) (fun k9 hk9 => ?_)
          · refine WW.iinc (pc := 98) (j := 4) (x3.2.2.1 + 1) [(5, .int (x3.2.2.1 + 1)), (0, .ref 3), (1, .int a1), (2, .int x8.1), (3, .long x8.2)] rfl rfl rfl (by decide) dX11_plainly_98 ?_
            refine WW.goto (pc := 101) 49 dX11_plainly_101 (by decide) ?_
            refine WW.sub [1, 2, 3, 4, 0] rfl ?_
            exact hself4 (x8.1, x8.2, (x3.2.2.1 + 1), r5)
          · refine WW.join (pj := 92) (Lj := fun (x10 : Unit) => [(0, .ref 3), (1, .int a1), (5, .int x3.2.2.1), (6, .long r7)]) (sj := fun (x10 : Unit) => []) (hj := fun (x10 : Unit) => full r5 ρ) (fun x10 => ?_) (fun k11 hk11 => ?_)
            · refine WW.iload (pc := 92) (j := 2) rfl dX11_plainly_92 ?_
              refine WW.istore_n (pc := 94) [(2, .int x3.2.2.1), (0, .ref 3), (1, .int a1), (5, .int x3.2.2.1), (6, .long r7)] rfl (by decide) dX11_plainly_94 ?_
              refine WW.lload (pc := 95) (j := 4) rfl dX11_plainly_95 ?_
              refine WW.lstore_n (pc := 97) [(3, .long r7), (2, .int x3.2.2.1), (0, .ref 3), (1, .int a1), (5, .int x3.2.2.1), (6, .long r7)] rfl (by decide) dX11_plainly_97 ?_
              refine WW.sub [2, 3, 1, 0, 4] rfl ?_
              exact hk9 (x3.2.2.1, r7)
            · refine WW.icmp_eq (pc := 82) 92 dX11_plainly_82 (by decide) (fun _ => ?_) (fun _ => ?_)
              · refine WW.sub [1, 2, 5, 0] rfl ?_
                exact hk11 ()
              · refine WW.lload (pc := 85) (j := 0) rfl dX11_plainly_85 ?_
                refine WW.lload_n (pc := 87) (j := 4) rfl dX11_plainly_87 ?_
                refine WW.lcmp_le (pc := 88) 98 dX11_plainly_88 dX11_plainly_89 (by decide) (fun _ => ?_) (fun _ => ?_)
                · refine WW.sub [1, 2, 3, 4, 5] rfl ?_
                  exact hk9 (x3.1, x3.2.1)
                · refine WW.sub [1, 2, 5, 0] rfl ?_
                  exact hk11 ()
      · refine WW.bipush (pc := 29) (-103) dX11_plainly_29 rfl ?_
        exact WW.ret rfl rfl (show RetI M_X11_plainly 31 from dX11_plainly_31) ⟨Nat.le_refl _, Nat.le_refl _⟩ rfl
    · refine WW.bipush (pc := 17) (-102) dX11_plainly_17 rfl ?_
      exact WW.ret rfl rfl (show RetI M_X11_plainly 19 from dX11_plainly_19) ⟨Nat.le_refl _, Nat.le_refl _⟩ rfl
def fX11_bit (a0 : Int32) : Option Int32 :=
  some (jshl 1 a0)
set_option maxHeartbeats 4000000 in
set_option maxRecDepth 100000 in
theorem okX11_bit (g : Gx) (ρ : Rh) (hρ : Hr ρ) (d : Dd) (a0 : Int32) : CallR g M_X11_bit (eIp ρ d) [.int a0] (full d ρ) (fX11_bit a0) := by
  refine CallR.intro rfl rfl (Nat.le_of_ble_eq_true rfl) (fun a ha => ⟨_, rfl⟩) ?_
  show WW g _ _ 0 [(0, .int a0)] [] (full d ρ) 0 0 _
  unfold fX11_bit
  refine WW.iconst (pc := 0) 1 dX11_bit_0 rfl ?_
  refine WW.iload_n (pc := 1) (j := 0) rfl dX11_bit_1 ?_
  refine WW.ishl (pc := 2) dX11_bit_2 ?_
  exact WW.ret rfl rfl (show RetI M_X11_bit 3 from dX11_bit_3) ⟨Nat.le_refl _, Nat.le_refl _⟩ rfl
def fX11_oneMore (ρ : Rh) (d : Dd) (a1 : Int32) (a2 : Int32) : Option Int32 :=
  lp (fun self2 (x1 : Int32 × Int64 × Int32) =>
    if (d_i d 15 2) ≤ x1.2.2 then
      (some x1.1)
    else
      ((fX11_isIn a2 x1.2.2).bind fun r3 =>
      jn (fun (x4 : Int64) =>
        jn (fun (x6 : Int32 × Int64) =>
          self2 (x6.1, x6.2, (x1.2.2 + 1))
          ) fun k7 =>
        if x4 ≤ x1.2.1 then
          (k7 (x1.1, x1.2.1))
        else
          (k7 (x1.2.2, x4))
        ) fun k5 =>
      if r3 = true then
        (k5 0)
      else
        ((fX11_bit x1.2.2).bind fun r8 =>
        (fX11_worthOf ρ d a1 (a2 ||| r8) x1.2.2).bind fun r9 =>
        k5 r9))
    ) 6000 ((-1), 0, 0)
set_option maxHeartbeats 4000000 in
set_option maxRecDepth 100000 in
theorem okX11_oneMore (g : Gx) (ρ : Rh) (hρ : Hr ρ) (d : Dd) (a1 : Int32) (a2 : Int32) : CallR g M_X11_oneMore (eIp ρ d) [.ref 3, .int a1, .int a2] (full d ρ) (fX11_oneMore ρ d a1 a2) := by
  refine CallR.intro rfl rfl (Nat.le_of_ble_eq_true rfl) (fun a ha => ⟨_, rfl⟩) ?_
  show WW g _ _ 0 [(0, .ref 3), (1, .int a1), (2, .int a2)] [] (full d ρ) 0 0 _
  unfold fX11_oneMore
  refine WW.iconst (pc := 0) (-1) dX11_oneMore_0 rfl ?_
  refine WW.istore_n (pc := 1) [(3, .int (-1)), (0, .ref 3), (1, .int a1), (2, .int a2)] rfl (by decide) dX11_oneMore_1 ?_
  refine WW.lconst (pc := 2) 0 dX11_oneMore_2 rfl ?_
  refine WW.lstore (pc := 3) [(4, .long 0), (3, .int (-1)), (0, .ref 3), (1, .int a1), (2, .int a2)] rfl (by decide) dX11_oneMore_3 ?_
  refine WW.iconst (pc := 5) 0 dX11_oneMore_5 rfl ?_
  refine WW.istore (pc := 6) [(6, .int 0), (4, .long 0), (3, .int (-1)), (0, .ref 3), (1, .int a1), (2, .int a2)] rfl (by decide) dX11_oneMore_6 ?_
  refine WW.sub [3, 4, 5, 2, 1, 0] rfl ?_
  refine WW.loop (pc := 8) (Lj := fun (x1 : Int32 × Int64 × Int32) => [(0, .ref 3), (1, .int a1), (2, .int a2), (3, .int x1.1), (4, .long x1.2.1), (6, .int x1.2.2)]) (hj := fun (x1 : Int32 × Int64 × Int32) => full d ρ) (fun self2 hself2 x1 => ?_) 6000 ((-1), 0, 0)
  refine WW.iload (pc := 8) (j := 5) rfl dX11_oneMore_8 ?_
  refine WW.aload_n (pc := 10) (j := 0) rfl dX11_oneMore_10 ?_
  refine WW.sgr (pc := 11) fl_X11_50_11 h3_3 (sh_3 ρ) (Or.inl ⟨_, gt_11_4⟩) (hr_3_4 ρ) dX11_oneMore_11 ?_
  refine WW.sgi (pc := 14) fl_X11_243_1 h3_15 (sh_15 ρ) (Or.inl gt_1_2) dX11_oneMore_14 ?_
  refine WW.icmp_ge (pc := 17) 70 dX11_oneMore_17 (by decide) (fun _ => ?_) (fun _ => ?_)
  · refine WW.iload_n (pc := 70) (j := 3) rfl dX11_oneMore_70 ?_
    exact WW.ret rfl rfl (show RetI M_X11_oneMore 71 from dX11_oneMore_71) ⟨Nat.le_refl _, Nat.le_refl _⟩ rfl
  · refine WW.iload_n (pc := 20) (j := 2) rfl dX11_oneMore_20 ?_
    refine WW.iload (pc := 21) (j := 5) rfl dX11_oneMore_21 ?_
    refine WW.callS (pc := 23) (As := [.int a2, .int x1.2.2]) (st := []) lk_X11_246 (okX11_isIn g ρ hρ d a2 x1.2.2) rfl (Nat.le_of_ble_eq_true rfl) ⟨Nat.le_of_ble_eq_true rfl, Nat.le_of_ble_eq_true rfl, Nat.le_of_ble_eq_true rfl, Nat.le_of_ble_eq_true rfl⟩ dX11_oneMore_23 rfl (fun r3 hr3 => ?_)
    show WW _ _ _ 26 _ [.int (b2i r3)] (full d ρ) 0 0 _
    refine WW.join (pj := 47) (Lj := fun (x4 : Int64) => [(0, .ref 3), (1, .int a1), (2, .int a2), (3, .int x1.1), (4, .long x1.2.1), (6, .int x1.2.2)]) (sj := fun (x4 : Int64) => [.long x4]) (hj := fun (x4 : Int64) => full d ρ) (fun x4 => ?_) (fun k5 hk5 => ?_)
    · refine WW.lstore (pc := 47) [(7, .long x4), (0, .ref 3), (1, .int a1), (2, .int a2), (3, .int x1.1), (4, .long x1.2.1), (6, .int x1.2.2)] rfl (by decide) dX11_oneMore_47 ?_
      refine WW.lload (pc := 49) (j := 0) rfl dX11_oneMore_49 ?_
      refine WW.lload (pc := 51) (j := 5) rfl dX11_oneMore_51 ?_
      refine WW.join (pj := 64) (Lj := fun (x6 : Int32 × Int64) => [(0, .ref 3), (1, .int a1), (2, .int a2), (3, .int x6.1), (4, .long x6.2), (6, .int x1.2.2)]) (sj := fun (x6 : Int32 × Int64) => []) (hj := fun (x6 : Int32 × Int64) => full d ρ) (fun x6 => ?_) (fun k7 hk7 => ?_)
      · refine WW.iinc (pc := 64) (j := 5) (x1.2.2 + 1) [(6, .int (x1.2.2 + 1)), (0, .ref 3), (1, .int a1), (2, .int a2), (3, .int x6.1), (4, .long x6.2)] rfl rfl rfl (by decide) dX11_oneMore_64 ?_
        refine WW.goto (pc := 67) 8 dX11_oneMore_67 (by decide) ?_
        refine WW.sub [1, 2, 3, 4, 5, 0] rfl ?_
        exact hself2 (x6.1, x6.2, (x1.2.2 + 1))
      · refine WW.lcmp_le (pc := 53) 64 dX11_oneMore_53 dX11_oneMore_54 (by decide) (fun _ => ?_) (fun _ => ?_)
        · refine WW.sub [1, 2, 3, 4, 5, 6] rfl ?_
          exact hk7 (x1.1, x1.2.1)
        · refine WW.iload (pc := 57) (j := 6) rfl dX11_oneMore_57 ?_
          refine WW.istore_n (pc := 59) [(3, .int x1.2.2), (7, .long x4), (0, .ref 3), (1, .int a1), (2, .int a2), (4, .long x1.2.1), (6, .int x1.2.2)] rfl (by decide) dX11_oneMore_59 ?_
          refine WW.lload (pc := 60) (j := 1) rfl dX11_oneMore_60 ?_
          refine WW.lstore (pc := 62) [(4, .long x4), (3, .int x1.2.2), (7, .long x4), (0, .ref 3), (1, .int a1), (2, .int a2), (6, .int x1.2.2)] rfl (by decide) dX11_oneMore_62 ?_
          refine WW.sub [3, 4, 5, 1, 0, 6] rfl ?_
          exact hk7 (x1.2.2, x4)
    · refine WW.if_eqB (pc := 26) 33 dX11_oneMore_26 (by decide) (fun _ => ?_) (fun _ => ?_)
      · refine WW.lconst (pc := 29) 0 dX11_oneMore_29 rfl ?_
        refine WW.goto (pc := 30) 47 dX11_oneMore_30 (by decide) ?_
        exact hk5 0
      · refine WW.aload_n (pc := 33) (j := 0) rfl dX11_oneMore_33 ?_
        refine WW.iload_n (pc := 34) (j := 1) rfl dX11_oneMore_34 ?_
        refine WW.iload_n (pc := 35) (j := 2) rfl dX11_oneMore_35 ?_
        refine WW.iload (pc := 36) (j := 5) rfl dX11_oneMore_36 ?_
        refine WW.callS (pc := 38) (As := [.int x1.2.2]) (st := [.int a2, .int a1, .ref 3]) lk_X11_240 (okX11_bit g ρ hρ d x1.2.2) rfl (Nat.le_of_ble_eq_true rfl) ⟨Nat.le_of_ble_eq_true rfl, Nat.le_of_ble_eq_true rfl, Nat.le_of_ble_eq_true rfl, Nat.le_of_ble_eq_true rfl⟩ dX11_oneMore_38 rfl (fun r8 hr8 => ?_)
        show WW _ _ _ 41 _ [.int r8, .int a2, .int a1, .ref 3] (full d ρ) 0 0 _
        refine WW.ior (pc := 41) dX11_oneMore_41 ?_
        refine WW.iload (pc := 42) (j := 5) rfl dX11_oneMore_42 ?_
        refine WW.callV (pc := 44) (As := [.int a1, .int (a2 ||| r8), .int x1.2.2]) (st := []) lk_X11_217 (okX11_worthOf g ρ hρ d a1 (a2 ||| r8) x1.2.2) h3_3 (sh_3 ρ) ⟨_, _, clk11⟩ rfl (Nat.le_of_ble_eq_true rfl) ⟨Nat.le_of_ble_eq_true rfl, Nat.le_of_ble_eq_true rfl, Nat.le_of_ble_eq_true rfl, Nat.le_of_ble_eq_true rfl⟩ dX11_oneMore_44 rfl (fun r9 hr9 => ?_)
        show WW _ _ _ 47 _ [.long r9] (full d ρ) 0 0 _
        exact hk5 r9
def fX11_more (ρ : Rh) (d : Dd) (a1 : Int32) (a2 : Int32) : Option (Int32 × Dd) :=
  (fX11_isSet ρ d a2).bind fun r1 =>
  (fX11_refusal ρ d a1 true r1).bind fun r2 =>
  if r2 = 0 then
    ((fX11_settleAll ρ d a1).bind fun r3 =>
    (fX11_oneMore ρ r3 a1 a2).bind fun r4 =>
    some (r4, r3))
  else
    (some (r2, d))
set_option maxHeartbeats 4000000 in
set_option maxRecDepth 100000 in
theorem okX11_more (g : Gx) (ρ : Rh) (hρ : Hr ρ) (d : Dd) (a1 : Int32) (a2 : Int32) : CallR g M_X11_more (eI ρ) [.ref 3, .int a1, .int a2] (full d ρ) (fX11_more ρ d a1 a2) := by
  refine CallR.intro rfl rfl (Nat.le_of_ble_eq_true rfl) (fun a ha => ⟨_, rfl⟩) ?_
  show WW g _ _ 0 [(0, .ref 3), (1, .int a1), (2, .int a2)] [] (full d ρ) 0 0 _
  unfold fX11_more
  refine WW.aload_n (pc := 0) (j := 0) rfl dX11_more_0 ?_
  refine WW.iload_n (pc := 1) (j := 1) rfl dX11_more_1 ?_
  refine WW.iconst (pc := 2) 1 dX11_more_2 rfl ?_
  refine WW.aload_n (pc := 3) (j := 0) rfl dX11_more_3 ?_
  refine WW.iload_n (pc := 4) (j := 2) rfl dX11_more_4 ?_
  refine WW.callV (pc := 5) (As := [.int a2]) (st := [.int 1, .int a1, .ref 3]) lk_X11_192 (okX11_isSet g ρ hρ d a2) h3_3 (sh_3 ρ) ⟨_, _, clk11⟩ rfl (Nat.le_of_ble_eq_true rfl) ⟨Nat.le_of_ble_eq_true rfl, Nat.le_of_ble_eq_true rfl, Nat.le_of_ble_eq_true rfl, Nat.le_of_ble_eq_true rfl⟩ dX11_more_5 rfl (fun r1 hr1 => ?_)
  show WW _ _ _ 8 _ [.int (b2i r1), .int 1, .int a1, .ref 3] (full d ρ) 0 0 _
  refine WW.callV (pc := 8) (As := [.int a1, .int (b2i true), .int (b2i r1)]) (st := []) lk_X11_159 (okX11_refusal g ρ hρ d a1 true r1) h3_3 (sh_3 ρ) ⟨_, _, clk11⟩ rfl (Nat.le_of_ble_eq_true rfl) ⟨Nat.le_of_ble_eq_true rfl, Nat.le_of_ble_eq_true rfl, Nat.le_of_ble_eq_true rfl, Nat.le_of_ble_eq_true rfl⟩ dX11_more_8 rfl (fun r2 hr2 => ?_)
  show WW _ _ _ 11 _ [.int r2] (full d ρ) 0 0 _
  refine WW.istore_n (pc := 11) [(3, .int r2), (0, .ref 3), (1, .int a1), (2, .int a2)] rfl (by decide) dX11_more_11 ?_
  refine WW.iload_n (pc := 12) (j := 0) rfl dX11_more_12 ?_
  refine WW.if_eq (pc := 13) 18 dX11_more_13 (by decide) (fun _ => ?_) (fun _ => ?_)
  · refine WW.aload_n (pc := 18) (j := 1) rfl dX11_more_18 ?_
    refine WW.iload_n (pc := 19) (j := 2) rfl dX11_more_19 ?_
    refine WW.callV (pc := 20) (As := [.int a1]) (st := []) lk_X11_227 (okX11_settleAll g ρ hρ d a1) h3_3 (sh_3 ρ) ⟨_, _, clk11⟩ rfl (Nat.le_of_ble_eq_true rfl) ⟨Nat.le_of_ble_eq_true rfl, Nat.le_of_ble_eq_true rfl, Nat.le_of_ble_eq_true rfl, Nat.le_of_ble_eq_true rfl⟩ dX11_more_20 rfl (fun r3 hr3 => ?_)
    show WW _ _ _ 23 _ [] (full r3 ρ) 0 0 _
    refine WW.aload_n (pc := 23) (j := 1) rfl dX11_more_23 ?_
    refine WW.iload_n (pc := 24) (j := 2) rfl dX11_more_24 ?_
    refine WW.iload_n (pc := 25) (j := 3) rfl dX11_more_25 ?_
    refine WW.callV (pc := 26) (As := [.int a1, .int a2]) (st := []) lk_X11_237 (okX11_oneMore g ρ hρ r3 a1 a2) h3_3 (sh_3 ρ) ⟨_, _, clk11⟩ rfl (Nat.le_of_ble_eq_true rfl) ⟨Nat.le_of_ble_eq_true rfl, Nat.le_of_ble_eq_true rfl, Nat.le_of_ble_eq_true rfl, Nat.le_of_ble_eq_true rfl⟩ dX11_more_26 rfl (fun r4 hr4 => ?_)
    show WW _ _ _ 29 _ [.int r4] (full r3 ρ) 0 0 _
    exact WW.ret rfl rfl (show RetI M_X11_more 29 from dX11_more_29) ⟨Nat.le_refl _, Nat.le_refl _⟩ rfl
  · refine WW.iload_n (pc := 16) (j := 0) rfl dX11_more_16 ?_
    exact WW.ret rfl rfl (show RetI M_X11_more 17 from dX11_more_17) ⟨Nat.le_refl _, Nat.le_refl _⟩ rfl
def fX11_pledge (ρ : Rh) (d : Dd) (a1 : Int32) (a2 : Int32) (a3 : Int32) : Option (Int64 × Dd) :=
  (fX11_isSet ρ d a2).bind fun r1 =>
  jn (fun (x2 : Bool) =>
    (fX11_refusal ρ d a1 true x2).bind fun r4 =>
    if r4 = 0 then
      ((fX11_settleAll ρ d a1).bind fun r5 =>
      (fX11_oneMore ρ r5 a1 a2).bind fun r6 =>
      jn (fun (x7 : Int64) =>
        (fX5_wholeWeight ρ r5 ρ.1).bind fun r9 =>
        (fX11_partOf x7 r9 a3).bind fun r10 =>
        some (r10, r5)
        ) fun k8 =>
      if r6 = (-1) then
        (k8 0)
      else
        ((fX11_bit r6).bind fun r11 =>
        (fX11_worthOf ρ r5 a1 (a2 ||| r11) r6).bind fun r12 =>
        k8 r12))
    else
      ((fX11_refusedPart r4).bind fun r13 =>
      some (r13, d))
    ) fun k3 =>
  jn (fun (x14 : Unit) =>
    k3 false
    ) fun k15 =>
  if r1 = true then
    ((fX11_isPart a3).bind fun r16 =>
    if r16 = true then
      (k3 true)
    else
      (k15 ()))
  else
    (k15 ())
set_option maxHeartbeats 4000000 in
set_option maxRecDepth 100000 in
theorem okX11_pledge (g : Gx) (ρ : Rh) (hρ : Hr ρ) (d : Dd) (a1 : Int32) (a2 : Int32) (a3 : Int32) : CallR g M_X11_pledge (eL ρ) [.ref 3, .int a1, .int a2, .int a3] (full d ρ) (fX11_pledge ρ d a1 a2 a3) := by
  refine CallR.intro rfl rfl (Nat.le_of_ble_eq_true rfl) (fun a ha => ⟨_, rfl⟩) ?_
  show WW g _ _ 0 [(0, .ref 3), (1, .int a1), (2, .int a2), (3, .int a3)] [] (full d ρ) 0 0 _
  unfold fX11_pledge
  refine WW.aload_n (pc := 0) (j := 0) rfl dX11_pledge_0 ?_
  refine WW.iload_n (pc := 1) (j := 1) rfl dX11_pledge_1 ?_
  refine WW.iconst (pc := 2) 1 dX11_pledge_2 rfl ?_
  refine WW.aload_n (pc := 3) (j := 0) rfl dX11_pledge_3 ?_
  refine WW.iload_n (pc := 4) (j := 2) rfl dX11_pledge_4 ?_
  refine WW.callV (pc := 5) (As := [.int a2]) (st := [.int 1, .int a1, .ref 3]) lk_X11_192 (okX11_isSet g ρ hρ d a2) h3_3 (sh_3 ρ) ⟨_, _, clk11⟩ rfl (Nat.le_of_ble_eq_true rfl) ⟨Nat.le_of_ble_eq_true rfl, Nat.le_of_ble_eq_true rfl, Nat.le_of_ble_eq_true rfl, Nat.le_of_ble_eq_true rfl⟩ dX11_pledge_5 rfl (fun r1 hr1 => ?_)
  show WW _ _ _ 8 _ [.int (b2i r1), .int 1, .int a1, .ref 3] (full d ρ) 0 0 _
  refine WW.join (pj := 23) (Lj := fun (x2 : Bool) => [(0, .ref 3), (1, .int a1), (2, .int a2), (3, .int a3)]) (sj := fun (x2 : Bool) => [.int (b2i x2), .int 1, .int a1, .ref 3]) (hj := fun (x2 : Bool) => full d ρ) (fun x2 => ?_) (fun k3 hk3 => ?_)
  · refine WW.callV (pc := 23) (As := [.int a1, .int (b2i true), .int (b2i x2)]) (st := []) lk_X11_159 (okX11_refusal g ρ hρ d a1 true x2) h3_3 (sh_3 ρ) ⟨_, _, clk11⟩ rfl (Nat.le_of_ble_eq_true rfl) ⟨Nat.le_of_ble_eq_true rfl, Nat.le_of_ble_eq_true rfl, Nat.le_of_ble_eq_true rfl, Nat.le_of_ble_eq_true rfl⟩ dX11_pledge_23 rfl (fun r4 hr4 => ?_)
    show WW _ _ _ 26 _ [.int r4] (full d ρ) 0 0 _
    refine WW.istore (pc := 26) [(4, .int r4), (0, .ref 3), (1, .int a1), (2, .int a2), (3, .int a3)] rfl (by decide) dX11_pledge_26 ?_
    refine WW.iload (pc := 28) (j := 0) rfl dX11_pledge_28 ?_
    refine WW.if_eq (pc := 30) 39 dX11_pledge_30 (by decide) (fun _ => ?_) (fun _ => ?_)
    · refine WW.aload_n (pc := 39) (j := 1) rfl dX11_pledge_39 ?_
      refine WW.iload_n (pc := 40) (j := 2) rfl dX11_pledge_40 ?_
      refine WW.callV (pc := 41) (As := [.int a1]) (st := []) lk_X11_227 (okX11_settleAll g ρ hρ d a1) h3_3 (sh_3 ρ) ⟨_, _, clk11⟩ rfl (Nat.le_of_ble_eq_true rfl) ⟨Nat.le_of_ble_eq_true rfl, Nat.le_of_ble_eq_true rfl, Nat.le_of_ble_eq_true rfl, Nat.le_of_ble_eq_true rfl⟩ dX11_pledge_41 rfl (fun r5 hr5 => ?_)
      show WW _ _ _ 44 _ [] (full r5 ρ) 0 0 _
      refine WW.aload_n (pc := 44) (j := 1) rfl dX11_pledge_44 ?_
      refine WW.iload_n (pc := 45) (j := 2) rfl dX11_pledge_45 ?_
      refine WW.iload_n (pc := 46) (j := 3) rfl dX11_pledge_46 ?_
      refine WW.callV (pc := 47) (As := [.int a1, .int a2]) (st := []) lk_X11_237 (okX11_oneMore g ρ hρ r5 a1 a2) h3_3 (sh_3 ρ) ⟨_, _, clk11⟩ rfl (Nat.le_of_ble_eq_true rfl) ⟨Nat.le_of_ble_eq_true rfl, Nat.le_of_ble_eq_true rfl, Nat.le_of_ble_eq_true rfl, Nat.le_of_ble_eq_true rfl⟩ dX11_pledge_47 rfl (fun r6 hr6 => ?_)
      show WW _ _ _ 50 _ [.int r6] (full r5 ρ) 0 0 _
      refine WW.istore (pc := 50) [(5, .int r6), (4, .int r4), (0, .ref 3), (1, .int a1), (2, .int a2), (3, .int a3)] rfl (by decide) dX11_pledge_50 ?_
      refine WW.iload (pc := 52) (j := 0) rfl dX11_pledge_52 ?_
      refine WW.iconst (pc := 54) (-1) dX11_pledge_54 rfl ?_
      refine WW.join (pj := 76) (Lj := fun (x7 : Int64) => [(0, .ref 3), (3, .int a3)]) (sj := fun (x7 : Int64) => [.long x7]) (hj := fun (x7 : Int64) => full r5 ρ) (fun x7 => ?_) (fun k8 hk8 => ?_)
      · refine WW.lstore (pc := 76) [(6, .long x7), (0, .ref 3), (3, .int a3)] rfl (by decide) dX11_pledge_76 ?_
        refine WW.lload (pc := 78) (j := 0) rfl dX11_pledge_78 ?_
        refine WW.aload_n (pc := 80) (j := 1) rfl dX11_pledge_80 ?_
        refine WW.sgr (pc := 81) fl_X11_19_11 h3_3 (sh_3 ρ) (Or.inl ⟨_, gt_11_1⟩) (hr_mk ρ) dX11_pledge_81 ?_
        refine WW.callV (pc := 84) (As := []) (st := [.long x7]) lk_X11_175 (okX5_wholeWeight g ρ hρ r5 ρ.1 hρ.1) (mk3 hρ.1) (mkS hρ.1) ⟨_, _, clk5⟩ rfl (Nat.le_of_ble_eq_true rfl) ⟨Nat.le_of_ble_eq_true rfl, Nat.le_of_ble_eq_true rfl, Nat.le_of_ble_eq_true rfl, Nat.le_of_ble_eq_true rfl⟩ dX11_pledge_84 rfl (fun r9 hr9 => ?_)
        show WW _ _ _ 87 _ [.long r9, .long x7] (full r5 ρ) 0 0 _
        refine WW.iload_n (pc := 87) (j := 2) rfl dX11_pledge_87 ?_
        refine WW.callS (pc := 88) (As := [.long x7, .long r9, .int a3]) (st := []) lk_X11_179 (okX11_partOf g ρ hρ r5 x7 r9 a3) rfl (Nat.le_of_ble_eq_true rfl) ⟨Nat.le_of_ble_eq_true rfl, Nat.le_of_ble_eq_true rfl, Nat.le_of_ble_eq_true rfl, Nat.le_of_ble_eq_true rfl⟩ dX11_pledge_88 rfl (fun r10 hr10 => ?_)
        show WW _ _ _ 91 _ [.long r10] (full r5 ρ) 0 0 _
        exact WW.ret rfl rfl (show RetI M_X11_pledge 91 from dX11_pledge_91) ⟨Nat.le_refl _, Nat.le_refl _⟩ rfl
      · refine WW.icmp_ne (pc := 55) 62 dX11_pledge_55 (by decide) (fun _ => ?_) (fun _ => ?_)
        · refine WW.lconst (pc := 58) 0 dX11_pledge_58 rfl ?_
          refine WW.goto (pc := 59) 76 dX11_pledge_59 (by decide) ?_
          refine WW.sub [2, 5] rfl ?_
          exact hk8 0
        · refine WW.aload_n (pc := 62) (j := 2) rfl dX11_pledge_62 ?_
          refine WW.iload_n (pc := 63) (j := 3) rfl dX11_pledge_63 ?_
          refine WW.iload_n (pc := 64) (j := 4) rfl dX11_pledge_64 ?_
          refine WW.iload (pc := 65) (j := 0) rfl dX11_pledge_65 ?_
          refine WW.callS (pc := 67) (As := [.int r6]) (st := [.int a2, .int a1, .ref 3]) lk_X11_240 (okX11_bit g ρ hρ r5 r6) rfl (Nat.le_of_ble_eq_true rfl) ⟨Nat.le_of_ble_eq_true rfl, Nat.le_of_ble_eq_true rfl, Nat.le_of_ble_eq_true rfl, Nat.le_of_ble_eq_true rfl⟩ dX11_pledge_67 rfl (fun r11 hr11 => ?_)
          show WW _ _ _ 70 _ [.int r11, .int a2, .int a1, .ref 3] (full r5 ρ) 0 0 _
          refine WW.ior (pc := 70) dX11_pledge_70 ?_
          refine WW.iload (pc := 71) (j := 0) rfl dX11_pledge_71 ?_
          refine WW.callV (pc := 73) (As := [.int a1, .int (a2 ||| r11), .int r6]) (st := []) lk_X11_217 (okX11_worthOf g ρ hρ r5 a1 (a2 ||| r11) r6) h3_3 (sh_3 ρ) ⟨_, _, clk11⟩ rfl (Nat.le_of_ble_eq_true rfl) ⟨Nat.le_of_ble_eq_true rfl, Nat.le_of_ble_eq_true rfl, Nat.le_of_ble_eq_true rfl, Nat.le_of_ble_eq_true rfl⟩ dX11_pledge_73 rfl (fun r12 hr12 => ?_)
          show WW _ _ _ 76 _ [.long r12] (full r5 ρ) 0 0 _
          refine WW.sub [2, 5] rfl ?_
          exact hk8 r12
    · refine WW.iload (pc := 33) (j := 0) rfl dX11_pledge_33 ?_
      refine WW.callS (pc := 35) (As := [.int r4]) (st := []) lk_X11_163 (okX11_refusedPart g ρ hρ d r4) rfl (Nat.le_of_ble_eq_true rfl) ⟨Nat.le_of_ble_eq_true rfl, Nat.le_of_ble_eq_true rfl, Nat.le_of_ble_eq_true rfl, Nat.le_of_ble_eq_true rfl⟩ dX11_pledge_35 rfl (fun r13 hr13 => ?_)
      show WW _ _ _ 38 _ [.long r13] (full d ρ) 0 0 _
      exact WW.ret rfl rfl (show RetI M_X11_pledge 38 from dX11_pledge_38) ⟨Nat.le_refl _, Nat.le_refl _⟩ rfl
  · refine WW.join (pj := 22) (Lj := fun (x14 : Unit) => [(0, .ref 3), (1, .int a1), (2, .int a2), (3, .int a3)]) (sj := fun (x14 : Unit) => [.int 1, .int a1, .ref 3]) (hj := fun (x14 : Unit) => full d ρ) (fun x14 => ?_) (fun k15 hk15 => ?_)
    · refine WW.iconst (pc := 22) 0 dX11_pledge_22 rfl ?_
      exact hk3 false
    · refine WW.if_eqB (pc := 8) 22 dX11_pledge_8 (by decide) (fun _ => ?_) (fun _ => ?_)
      · refine WW.iload_n (pc := 11) (j := 3) rfl dX11_pledge_11 ?_
        refine WW.callS (pc := 12) (As := [.int a3]) (st := [.int 1, .int a1, .ref 3]) lk_X11_156 (okX11_isPart g ρ hρ d a3) rfl (Nat.le_of_ble_eq_true rfl) ⟨Nat.le_of_ble_eq_true rfl, Nat.le_of_ble_eq_true rfl, Nat.le_of_ble_eq_true rfl, Nat.le_of_ble_eq_true rfl⟩ dX11_pledge_12 rfl (fun r16 hr16 => ?_)
        show WW _ _ _ 15 _ [.int (b2i r16), .int 1, .int a1, .ref 3] (full d ρ) 0 0 _
        refine WW.if_eqB (pc := 15) 22 dX11_pledge_15 (by decide) (fun _ => ?_) (fun _ => ?_)
        · refine WW.iconst (pc := 18) 1 dX11_pledge_18 rfl ?_
          refine WW.goto (pc := 19) 23 dX11_pledge_19 (by decide) ?_
          exact hk3 true
        · exact hk15 ()
      · exact hk15 ()
