def fX1_isLimit (a0 : Int32) : Option Bool :=
  if a0 < 1 then
    (some false)
  else
    (if 3 < a0 then
      (some false)
    else
      (some true))
set_option maxHeartbeats 4000000 in
set_option maxRecDepth 100000 in
theorem okX1_isLimit (g : Gx) (ρ : Rh) (hρ : Hr ρ) (d : Dd) (a0 : Int32) : CallR g M_X1_isLimit (eZp ρ d) [.int a0] (full d ρ) (fX1_isLimit a0) := by
  refine CallR.intro rfl rfl (Nat.le_of_ble_eq_true rfl) (fun a ha => ⟨_, rfl⟩) ?_
  show WW g _ _ 0 [(0, .int a0)] [] (full d ρ) 0 0 _
  unfold fX1_isLimit
  refine WW.iload_n (pc := 0) (j := 0) rfl dX1_isLimit_0 ?_
  refine WW.iconst (pc := 1) 1 dX1_isLimit_1 rfl ?_
  refine WW.icmp_lt (pc := 2) 14 dX1_isLimit_2 (by decide) (fun _ => ?_) (fun _ => ?_)
  · refine WW.iconst (pc := 14) 0 dX1_isLimit_14 rfl ?_
    exact WW.ret rfl rfl (show RetI M_X1_isLimit 15 from dX1_isLimit_15) ⟨Nat.le_refl _, Nat.le_refl _⟩ rfl
  · refine WW.iload_n (pc := 5) (j := 0) rfl dX1_isLimit_5 ?_
    refine WW.iconst (pc := 6) 3 dX1_isLimit_6 rfl ?_
    refine WW.icmp_gt (pc := 7) 14 dX1_isLimit_7 (by decide) (fun _ => ?_) (fun _ => ?_)
    · refine WW.iconst (pc := 14) 0 dX1_isLimit_14 rfl ?_
      exact WW.ret rfl rfl (show RetI M_X1_isLimit 15 from dX1_isLimit_15) ⟨Nat.le_refl _, Nat.le_refl _⟩ rfl
    · refine WW.iconst (pc := 10) 1 dX1_isLimit_10 rfl ?_
      refine WW.goto (pc := 11) 15 dX1_isLimit_11 (by decide) ?_
      exact WW.ret rfl rfl (show RetI M_X1_isLimit 15 from dX1_isLimit_15) ⟨Nat.le_refl _, Nat.le_refl _⟩ rfl
def fX1_isFee (a0 : Int32) : Option Bool :=
  if a0 < 0 then
    (some false)
  else
    (if 99 < a0 then
      (some false)
    else
      (some true))
set_option maxHeartbeats 4000000 in
set_option maxRecDepth 100000 in
theorem okX1_isFee (g : Gx) (ρ : Rh) (hρ : Hr ρ) (d : Dd) (a0 : Int32) : CallR g M_X1_isFee (eZp ρ d) [.int a0] (full d ρ) (fX1_isFee a0) := by
  refine CallR.intro rfl rfl (Nat.le_of_ble_eq_true rfl) (fun a ha => ⟨_, rfl⟩) ?_
  show WW g _ _ 0 [(0, .int a0)] [] (full d ρ) 0 0 _
  unfold fX1_isFee
  refine WW.iload_n (pc := 0) (j := 0) rfl dX1_isFee_0 ?_
  refine WW.if_lt (pc := 1) 14 dX1_isFee_1 (by decide) (fun _ => ?_) (fun _ => ?_)
  · refine WW.iconst (pc := 14) 0 dX1_isFee_14 rfl ?_
    exact WW.ret rfl rfl (show RetI M_X1_isFee 15 from dX1_isFee_15) ⟨Nat.le_refl _, Nat.le_refl _⟩ rfl
  · refine WW.iload_n (pc := 4) (j := 0) rfl dX1_isFee_4 ?_
    refine WW.bipush (pc := 5) 99 dX1_isFee_5 rfl ?_
    refine WW.icmp_gt (pc := 7) 14 dX1_isFee_7 (by decide) (fun _ => ?_) (fun _ => ?_)
    · refine WW.iconst (pc := 14) 0 dX1_isFee_14 rfl ?_
      exact WW.ret rfl rfl (show RetI M_X1_isFee 15 from dX1_isFee_15) ⟨Nat.le_refl _, Nat.le_refl _⟩ rfl
    · refine WW.iconst (pc := 10) 1 dX1_isFee_10 rfl ?_
      refine WW.goto (pc := 11) 15 dX1_isFee_11 (by decide) ?_
      exact WW.ret rfl rfl (show RetI M_X1_isFee 15 from dX1_isFee_15) ⟨Nat.le_refl _, Nat.le_refl _⟩ rfl
def fX1_append (ρ : Rh) (d : Dd) (a1 : Int32) (a2 : Int32) : Option (Int32 × Dd) :=
  if (d_i d 15 2) < 0 then
    (some ((-1), d))
  else
    (if 4 ≤ (d_i d 15 2) then
      (some ((-1), d))
    else
      (if (d_i d 15 2) < 4 then
        (if inB (d_i d 15 2) 4 = true then
          (bnd (dI d 16 (ix (d_i d 15 2)) a1) fun d1 =>
          if inB (d_i d1 15 2) 4 = true then
            (bnd (dI d1 17 (ix (d_i d1 15 2)) a2) fun d2 =>
            bnd (dI d2 15 2 ((d_i d2 15 2) + 1)) fun d3 =>
            some ((d_i d2 15 2), d3))
          else none)
        else none)
      else
        (some ((-1), d))))
set_option maxHeartbeats 4000000 in
set_option maxRecDepth 100000 in
theorem okX1_append (g : Gx) (ρ : Rh) (hρ : Hr ρ) (d : Dd) (a1 : Int32) (a2 : Int32) : CallR g M_X1_append (eI ρ) [.ref 15, .int a1, .int a2] (full d ρ) (fX1_append ρ d a1 a2) := by
  refine CallR.intro rfl rfl (Nat.le_of_ble_eq_true rfl) (fun a ha => ⟨_, rfl⟩) ?_
  show WW g _ _ 0 [(0, .ref 15), (1, .int a1), (2, .int a2)] [] (full d ρ) 0 0 _
  unfold fX1_append
  refine WW.aload_n (pc := 0) (j := 0) rfl dX1_append_0 ?_
  refine WW.sgi (pc := 1) fl_X1_21_1 h3_15 (sh_15 ρ) (Or.inl gt_1_2) dX1_append_1 ?_
  refine WW.if_lt (pc := 4) 31 dX1_append_4 (by decide) (fun _ => ?_) (fun _ => ?_)
  · refine WW.iconst (pc := 31) (-1) dX1_append_31 rfl ?_
    exact WW.ret rfl rfl (show RetI M_X1_append 32 from dX1_append_32) ⟨Nat.le_refl _, Nat.le_refl _⟩ rfl
  · refine WW.aload_n (pc := 7) (j := 0) rfl dX1_append_7 ?_
    refine WW.sgi (pc := 8) fl_X1_21_1 h3_15 (sh_15 ρ) (Or.inl gt_1_2) dX1_append_8 ?_
    refine WW.aload_n (pc := 11) (j := 0) rfl dX1_append_11 ?_
    refine WW.sgr (pc := 12) fl_X1_9_1 h3_15 (sh_15 ρ) (Or.inr ⟨_, gt_1_0⟩) (hr_15_0 ρ) dX1_append_12 ?_
    refine WW.alen (pc := 15) 4 (one_le h3_16) (Or.inl rfl) (sh_16 ρ) rfl dX1_append_15 ?_
    refine WW.icmp_ge (pc := 16) 31 dX1_append_16 (by decide) (fun _ => ?_) (fun _ => ?_)
    · refine WW.iconst (pc := 31) (-1) dX1_append_31 rfl ?_
      exact WW.ret rfl rfl (show RetI M_X1_append 32 from dX1_append_32) ⟨Nat.le_refl _, Nat.le_refl _⟩ rfl
    · refine WW.aload_n (pc := 19) (j := 0) rfl dX1_append_19 ?_
      refine WW.sgi (pc := 20) fl_X1_21_1 h3_15 (sh_15 ρ) (Or.inl gt_1_2) dX1_append_20 ?_
      refine WW.aload_n (pc := 23) (j := 0) rfl dX1_append_23 ?_
      refine WW.sgr (pc := 24) fl_X1_15_1 h3_15 (sh_15 ρ) (Or.inr ⟨_, gt_1_1⟩) (hr_15_1 ρ) dX1_append_24 ?_
      refine WW.alen (pc := 27) 4 (one_le h3_17) (Or.inl rfl) (sh_17 ρ) rfl dX1_append_27 ?_
      refine WW.icmp_lt (pc := 28) 33 dX1_append_28 (by decide) (fun _ => ?_) (fun _ => ?_)
      · refine WW.aload_n (pc := 33) (j := 0) rfl dX1_append_33 ?_
        refine WW.sgr (pc := 34) fl_X1_9_1 h3_15 (sh_15 ρ) (Or.inr ⟨_, gt_1_0⟩) (hr_15_0 ρ) dX1_append_34 ?_
        refine WW.aload_n (pc := 37) (j := 0) rfl dX1_append_37 ?_
        refine WW.sgi (pc := 38) fl_X1_21_1 h3_15 (sh_15 ρ) (Or.inl gt_1_2) dX1_append_38 ?_
        refine WW.iload_n (pc := 41) (j := 1) rfl dX1_append_41 ?_
        refine WW.siast (pc := 42) h3_16 (sh_16 ρ) dX1_append_42 (fun d1 => ?_)
        refine WW.aload_n (pc := 43) (j := 0) rfl dX1_append_43 ?_
        refine WW.sgr (pc := 44) fl_X1_15_1 h3_15 (sh_15 ρ) (Or.inr ⟨_, gt_1_1⟩) (hr_15_1 ρ) dX1_append_44 ?_
        refine WW.aload_n (pc := 47) (j := 0) rfl dX1_append_47 ?_
        refine WW.sgi (pc := 48) fl_X1_21_1 h3_15 (sh_15 ρ) (Or.inl gt_1_2) dX1_append_48 ?_
        refine WW.iload_n (pc := 51) (j := 2) rfl dX1_append_51 ?_
        refine WW.siast (pc := 52) h3_17 (sh_17 ρ) dX1_append_52 (fun d2 => ?_)
        refine WW.aload_n (pc := 53) (j := 0) rfl dX1_append_53 ?_
        refine WW.dup (pc := 54) rfl dX1_append_54 ?_
        refine WW.sgi (pc := 55) fl_X1_21_1 h3_15 (sh_15 ρ) (Or.inl gt_1_2) dX1_append_55 ?_
        refine WW.dup_x1 (pc := 58) rfl rfl dX1_append_58 ?_
        refine WW.iconst (pc := 59) 1 dX1_append_59 rfl ?_
        refine WW.iadd (pc := 60) dX1_append_60 ?_
        refine WW.spi (pc := 61) fp_X1_21_1 h3_15 (sh_15 ρ) gt_1_2 dX1_append_61 (fun d3 => ?_)
        exact WW.ret rfl rfl (show RetI M_X1_append 64 from dX1_append_64) ⟨Nat.le_refl _, Nat.le_refl _⟩ rfl
      · refine WW.iconst (pc := 31) (-1) dX1_append_31 rfl ?_
        exact WW.ret rfl rfl (show RetI M_X1_append 32 from dX1_append_32) ⟨Nat.le_refl _, Nat.le_refl _⟩ rfl
def fX11_buyer (ρ : Rh) (d : Dd) (a1 : Int32) (a2 : Int32) : Option (Int32 × Dd) :=
  (fX1_isLimit a1).bind fun r1 =>
  if r1 = true then
    ((fX1_isFee a2).bind fun r2 =>
    if r2 = true then
      ((fX1_append ρ d a1 a2).bind fun r3 =>
      if r3.1 = (-1) then
        (some ((-104), r3.2))
      else
        ((fX11_unsettle ρ r3.2).bind fun r4 =>
        some (r3.1, r4)))
    else
      (some ((-102), d)))
  else
    (some ((-102), d))
set_option maxHeartbeats 4000000 in
set_option maxRecDepth 100000 in
theorem okX11_buyer (g : Gx) (ρ : Rh) (hρ : Hr ρ) (d : Dd) (a1 : Int32) (a2 : Int32) : CallR g M_X11_buyer (eI ρ) [.ref 3, .int a1, .int a2] (full d ρ) (fX11_buyer ρ d a1 a2) := by
  refine CallR.intro rfl rfl (Nat.le_of_ble_eq_true rfl) (fun a ha => ⟨_, rfl⟩) ?_
  show WW g _ _ 0 [(0, .ref 3), (1, .int a1), (2, .int a2)] [] (full d ρ) 0 0 _
  unfold fX11_buyer
  refine WW.iload_n (pc := 0) (j := 1) rfl dX11_buyer_0 ?_
  refine WW.callS (pc := 1) (As := [.int a1]) (st := []) lk_X11_116 (okX1_isLimit g ρ hρ d a1) rfl (Nat.le_of_ble_eq_true rfl) ⟨Nat.le_of_ble_eq_true rfl, Nat.le_of_ble_eq_true rfl, Nat.le_of_ble_eq_true rfl, Nat.le_of_ble_eq_true rfl⟩ dX11_buyer_1 rfl (fun r1 hr1 => ?_)
  show WW _ _ _ 4 _ [.int (b2i r1)] (full d ρ) 0 0 _
  refine WW.if_eqB (pc := 4) 14 dX11_buyer_4 (by decide) (fun _ => ?_) (fun _ => ?_)
  · refine WW.iload_n (pc := 7) (j := 2) rfl dX11_buyer_7 ?_
    refine WW.callS (pc := 8) (As := [.int a2]) (st := []) lk_X11_121 (okX1_isFee g ρ hρ d a2) rfl (Nat.le_of_ble_eq_true rfl) ⟨Nat.le_of_ble_eq_true rfl, Nat.le_of_ble_eq_true rfl, Nat.le_of_ble_eq_true rfl, Nat.le_of_ble_eq_true rfl⟩ dX11_buyer_8 rfl (fun r2 hr2 => ?_)
    show WW _ _ _ 11 _ [.int (b2i r2)] (full d ρ) 0 0 _
    refine WW.if_neB (pc := 11) 17 dX11_buyer_11 (by decide) (fun _ => ?_) (fun _ => ?_)
    · refine WW.aload_n (pc := 17) (j := 0) rfl dX11_buyer_17 ?_
      refine WW.sgr (pc := 18) fl_X11_50_11 h3_3 (sh_3 ρ) (Or.inl ⟨_, gt_11_4⟩) (hr_3_4 ρ) dX11_buyer_18 ?_
      refine WW.iload_n (pc := 21) (j := 1) rfl dX11_buyer_21 ?_
      refine WW.iload_n (pc := 22) (j := 2) rfl dX11_buyer_22 ?_
      refine WW.callV (pc := 23) (As := [.int a1, .int a2]) (st := []) lk_X11_124 (okX1_append g ρ hρ d a1 a2) h3_15 (sh_15 ρ) ⟨_, _, clk1⟩ rfl (Nat.le_of_ble_eq_true rfl) ⟨Nat.le_of_ble_eq_true rfl, Nat.le_of_ble_eq_true rfl, Nat.le_of_ble_eq_true rfl, Nat.le_of_ble_eq_true rfl⟩ dX11_buyer_23 rfl (fun r3 hr3 => ?_)
      show WW _ _ _ 26 _ [.int r3.1] (full r3.2 ρ) 0 0 _
      refine WW.istore_n (pc := 26) [(3, .int r3.1), (0, .ref 3), (1, .int a1), (2, .int a2)] rfl (by decide) dX11_buyer_26 ?_
      refine WW.iload_n (pc := 27) (j := 0) rfl dX11_buyer_27 ?_
      refine WW.iconst (pc := 28) (-1) dX11_buyer_28 rfl ?_
      refine WW.icmp_ne (pc := 29) 35 dX11_buyer_29 (by decide) (fun _ => ?_) (fun _ => ?_)
      · refine WW.bipush (pc := 32) (-104) dX11_buyer_32 rfl ?_
        exact WW.ret rfl rfl (show RetI M_X11_buyer 34 from dX11_buyer_34) ⟨Nat.le_refl _, Nat.le_refl _⟩ rfl
      · refine WW.aload_n (pc := 35) (j := 1) rfl dX11_buyer_35 ?_
        refine WW.callV (pc := 36) (As := []) (st := []) lk_X11_93 (okX11_unsettle g ρ hρ r3.2 ) h3_3 (sh_3 ρ) ⟨_, _, clk11⟩ rfl (Nat.le_of_ble_eq_true rfl) ⟨Nat.le_of_ble_eq_true rfl, Nat.le_of_ble_eq_true rfl, Nat.le_of_ble_eq_true rfl, Nat.le_of_ble_eq_true rfl⟩ dX11_buyer_36 rfl (fun r4 hr4 => ?_)
        show WW _ _ _ 39 _ [] (full r4 ρ) 0 0 _
        refine WW.iload_n (pc := 39) (j := 0) rfl dX11_buyer_39 ?_
        exact WW.ret rfl rfl (show RetI M_X11_buyer 40 from dX11_buyer_40) ⟨Nat.le_refl _, Nat.le_refl _⟩ rfl
    · refine WW.bipush (pc := 14) (-102) dX11_buyer_14 rfl ?_
      exact WW.ret rfl rfl (show RetI M_X11_buyer 16 from dX11_buyer_16) ⟨Nat.le_refl _, Nat.le_refl _⟩ rfl
  · refine WW.bipush (pc := 14) (-102) dX11_buyer_14 rfl ?_
    exact WW.ret rfl rfl (show RetI M_X11_buyer 16 from dX11_buyer_16) ⟨Nat.le_refl _, Nat.le_refl _⟩ rfl
def fX1_has (ρ : Rh) (d : Dd) (a1 : Int32) : Option Bool :=
  if a1 < 0 then
    (some false)
  else
    (if (d_i d 15 2) ≤ a1 then
      (some false)
    else
      (some true))
set_option maxHeartbeats 4000000 in
set_option maxRecDepth 100000 in
theorem okX1_has (g : Gx) (ρ : Rh) (hρ : Hr ρ) (d : Dd) (a1 : Int32) : CallR g M_X1_has (eZp ρ d) [.ref 15, .int a1] (full d ρ) (fX1_has ρ d a1) := by
  refine CallR.intro rfl rfl (Nat.le_of_ble_eq_true rfl) (fun a ha => ⟨_, rfl⟩) ?_
  show WW g _ _ 0 [(0, .ref 15), (1, .int a1)] [] (full d ρ) 0 0 _
  unfold fX1_has
  refine WW.iload_n (pc := 0) (j := 1) rfl dX1_has_0 ?_
  refine WW.if_lt (pc := 1) 16 dX1_has_1 (by decide) (fun _ => ?_) (fun _ => ?_)
  · refine WW.iconst (pc := 16) 0 dX1_has_16 rfl ?_
    exact WW.ret rfl rfl (show RetI M_X1_has 17 from dX1_has_17) ⟨Nat.le_refl _, Nat.le_refl _⟩ rfl
  · refine WW.iload_n (pc := 4) (j := 1) rfl dX1_has_4 ?_
    refine WW.aload_n (pc := 5) (j := 0) rfl dX1_has_5 ?_
    refine WW.sgi (pc := 6) fl_X1_21_1 h3_15 (sh_15 ρ) (Or.inl gt_1_2) dX1_has_6 ?_
    refine WW.icmp_ge (pc := 9) 16 dX1_has_9 (by decide) (fun _ => ?_) (fun _ => ?_)
    · refine WW.iconst (pc := 16) 0 dX1_has_16 rfl ?_
      exact WW.ret rfl rfl (show RetI M_X1_has 17 from dX1_has_17) ⟨Nat.le_refl _, Nat.le_refl _⟩ rfl
    · refine WW.iconst (pc := 12) 1 dX1_has_12 rfl ?_
      refine WW.goto (pc := 13) 17 dX1_has_13 (by decide) ?_
      exact WW.ret rfl rfl (show RetI M_X1_has 17 from dX1_has_17) ⟨Nat.le_refl _, Nat.le_refl _⟩ rfl
def fX1_limitOf (ρ : Rh) (d : Dd) (a1 : Int32) : Option Int32 :=
  if a1 < 0 then
    (some 0)
  else
    (if (d_i d 15 2) ≤ a1 then
      (some 0)
    else
      (if 4 ≤ a1 then
        (some 0)
      else
        (if inB a1 4 = true then
          (some (d_i d 16 (ix a1)))
        else none)))
set_option maxHeartbeats 4000000 in
set_option maxRecDepth 100000 in
theorem okX1_limitOf (g : Gx) (ρ : Rh) (hρ : Hr ρ) (d : Dd) (a1 : Int32) : CallR g M_X1_limitOf (eIp ρ d) [.ref 15, .int a1] (full d ρ) (fX1_limitOf ρ d a1) := by
  refine CallR.intro rfl rfl (Nat.le_of_ble_eq_true rfl) (fun a ha => ⟨_, rfl⟩) ?_
  show WW g _ _ 0 [(0, .ref 15), (1, .int a1)] [] (full d ρ) 0 0 _
  unfold fX1_limitOf
  refine WW.iload_n (pc := 0) (j := 1) rfl dX1_limitOf_0 ?_
  refine WW.if_lt (pc := 1) 30 dX1_limitOf_1 (by decide) (fun _ => ?_) (fun _ => ?_)
  · refine WW.iconst (pc := 30) 0 dX1_limitOf_30 rfl ?_
    exact WW.ret rfl rfl (show RetI M_X1_limitOf 31 from dX1_limitOf_31) ⟨Nat.le_refl _, Nat.le_refl _⟩ rfl
  · refine WW.iload_n (pc := 4) (j := 1) rfl dX1_limitOf_4 ?_
    refine WW.aload_n (pc := 5) (j := 0) rfl dX1_limitOf_5 ?_
    refine WW.sgi (pc := 6) fl_X1_21_1 h3_15 (sh_15 ρ) (Or.inl gt_1_2) dX1_limitOf_6 ?_
    refine WW.icmp_ge (pc := 9) 30 dX1_limitOf_9 (by decide) (fun _ => ?_) (fun _ => ?_)
    · refine WW.iconst (pc := 30) 0 dX1_limitOf_30 rfl ?_
      exact WW.ret rfl rfl (show RetI M_X1_limitOf 31 from dX1_limitOf_31) ⟨Nat.le_refl _, Nat.le_refl _⟩ rfl
    · refine WW.iload_n (pc := 12) (j := 1) rfl dX1_limitOf_12 ?_
      refine WW.aload_n (pc := 13) (j := 0) rfl dX1_limitOf_13 ?_
      refine WW.sgr (pc := 14) fl_X1_9_1 h3_15 (sh_15 ρ) (Or.inr ⟨_, gt_1_0⟩) (hr_15_0 ρ) dX1_limitOf_14 ?_
      refine WW.alen (pc := 17) 4 (one_le h3_16) (Or.inl rfl) (sh_16 ρ) rfl dX1_limitOf_17 ?_
      refine WW.icmp_ge (pc := 18) 30 dX1_limitOf_18 (by decide) (fun _ => ?_) (fun _ => ?_)
      · refine WW.iconst (pc := 30) 0 dX1_limitOf_30 rfl ?_
        exact WW.ret rfl rfl (show RetI M_X1_limitOf 31 from dX1_limitOf_31) ⟨Nat.le_refl _, Nat.le_refl _⟩ rfl
      · refine WW.aload_n (pc := 21) (j := 0) rfl dX1_limitOf_21 ?_
        refine WW.sgr (pc := 22) fl_X1_9_1 h3_15 (sh_15 ρ) (Or.inr ⟨_, gt_1_0⟩) (hr_15_0 ρ) dX1_limitOf_22 ?_
        refine WW.iload_n (pc := 25) (j := 1) rfl dX1_limitOf_25 ?_
        refine WW.siald (pc := 26) (one_le h3_16) (sh_16 ρ) dX1_limitOf_26 ?_
        refine WW.goto (pc := 27) 31 dX1_limitOf_27 (by decide) ?_
        exact WW.ret rfl rfl (show RetI M_X1_limitOf 31 from dX1_limitOf_31) ⟨Nat.le_refl _, Nat.le_refl _⟩ rfl
def fX1_swapLimit (ρ : Rh) (d : Dd) (a1 : Int32) (a2 : Int32) : Option (Int32 × Dd) :=
  (fX1_limitOf ρ d a1).bind fun r1 =>
  if a1 < 0 then
    (some (r1, d))
  else
    (if (d_i d 15 2) ≤ a1 then
      (some (r1, d))
    else
      (if 4 ≤ a1 then
        (some (r1, d))
      else
        (if inB a1 4 = true then
          (bnd (dI d 16 (ix a1) a2) fun d2 =>
          some (r1, d2))
        else none)))
set_option maxHeartbeats 4000000 in
set_option maxRecDepth 100000 in
theorem okX1_swapLimit (g : Gx) (ρ : Rh) (hρ : Hr ρ) (d : Dd) (a1 : Int32) (a2 : Int32) : CallR g M_X1_swapLimit (eI ρ) [.ref 15, .int a1, .int a2] (full d ρ) (fX1_swapLimit ρ d a1 a2) := by
  refine CallR.intro rfl rfl (Nat.le_of_ble_eq_true rfl) (fun a ha => ⟨_, rfl⟩) ?_
  show WW g _ _ 0 [(0, .ref 15), (1, .int a1), (2, .int a2)] [] (full d ρ) 0 0 _
  unfold fX1_swapLimit
  refine WW.aload_n (pc := 0) (j := 0) rfl dX1_swapLimit_0 ?_
  refine WW.iload_n (pc := 1) (j := 1) rfl dX1_swapLimit_1 ?_
  refine WW.callV (pc := 2) (As := [.int a1]) (st := []) lk_X1_25 (okX1_limitOf g ρ hρ d a1) h3_15 (sh_15 ρ) ⟨_, _, clk1⟩ rfl (Nat.le_of_ble_eq_true rfl) ⟨Nat.le_of_ble_eq_true rfl, Nat.le_of_ble_eq_true rfl, Nat.le_of_ble_eq_true rfl, Nat.le_of_ble_eq_true rfl⟩ dX1_swapLimit_2 rfl (fun r1 hr1 => ?_)
  show WW _ _ _ 5 _ [.int r1] (full d ρ) 0 0 _
  refine WW.istore_n (pc := 5) [(3, .int r1), (0, .ref 15), (1, .int a1), (2, .int a2)] rfl (by decide) dX1_swapLimit_5 ?_
  refine WW.iload_n (pc := 6) (j := 2) rfl dX1_swapLimit_6 ?_
  refine WW.if_lt (pc := 7) 34 dX1_swapLimit_7 (by decide) (fun _ => ?_) (fun _ => ?_)
  · refine WW.iload_n (pc := 34) (j := 0) rfl dX1_swapLimit_34 ?_
    exact WW.ret rfl rfl (show RetI M_X1_swapLimit 35 from dX1_swapLimit_35) ⟨Nat.le_refl _, Nat.le_refl _⟩ rfl
  · refine WW.iload_n (pc := 10) (j := 2) rfl dX1_swapLimit_10 ?_
    refine WW.aload_n (pc := 11) (j := 1) rfl dX1_swapLimit_11 ?_
    refine WW.sgi (pc := 12) fl_X1_21_1 h3_15 (sh_15 ρ) (Or.inl gt_1_2) dX1_swapLimit_12 ?_
    refine WW.icmp_ge (pc := 15) 34 dX1_swapLimit_15 (by decide) (fun _ => ?_) (fun _ => ?_)
    · refine WW.iload_n (pc := 34) (j := 0) rfl dX1_swapLimit_34 ?_
      exact WW.ret rfl rfl (show RetI M_X1_swapLimit 35 from dX1_swapLimit_35) ⟨Nat.le_refl _, Nat.le_refl _⟩ rfl
    · refine WW.iload_n (pc := 18) (j := 2) rfl dX1_swapLimit_18 ?_
      refine WW.aload_n (pc := 19) (j := 1) rfl dX1_swapLimit_19 ?_
      refine WW.sgr (pc := 20) fl_X1_9_1 h3_15 (sh_15 ρ) (Or.inr ⟨_, gt_1_0⟩) (hr_15_0 ρ) dX1_swapLimit_20 ?_
      refine WW.alen (pc := 23) 4 (one_le h3_16) (Or.inl rfl) (sh_16 ρ) rfl dX1_swapLimit_23 ?_
      refine WW.icmp_ge (pc := 24) 34 dX1_swapLimit_24 (by decide) (fun _ => ?_) (fun _ => ?_)
      · refine WW.iload_n (pc := 34) (j := 0) rfl dX1_swapLimit_34 ?_
        exact WW.ret rfl rfl (show RetI M_X1_swapLimit 35 from dX1_swapLimit_35) ⟨Nat.le_refl _, Nat.le_refl _⟩ rfl
      · refine WW.aload_n (pc := 27) (j := 1) rfl dX1_swapLimit_27 ?_
        refine WW.sgr (pc := 28) fl_X1_9_1 h3_15 (sh_15 ρ) (Or.inr ⟨_, gt_1_0⟩) (hr_15_0 ρ) dX1_swapLimit_28 ?_
        refine WW.iload_n (pc := 31) (j := 2) rfl dX1_swapLimit_31 ?_
        refine WW.iload_n (pc := 32) (j := 3) rfl dX1_swapLimit_32 ?_
        refine WW.siast (pc := 33) h3_16 (sh_16 ρ) dX1_swapLimit_33 (fun d2 => ?_)
        refine WW.iload_n (pc := 34) (j := 0) rfl dX1_swapLimit_34 ?_
        exact WW.ret rfl rfl (show RetI M_X1_swapLimit 35 from dX1_swapLimit_35) ⟨Nat.le_refl _, Nat.le_refl _⟩ rfl
def fX1_feeOf (ρ : Rh) (d : Dd) (a1 : Int32) : Option Int32 :=
  if a1 < 0 then
    (some 0)
  else
    (if (d_i d 15 2) ≤ a1 then
      (some 0)
    else
      (if 4 ≤ a1 then
        (some 0)
      else
        (if inB a1 4 = true then
          (some (d_i d 17 (ix a1)))
        else none)))
set_option maxHeartbeats 4000000 in
set_option maxRecDepth 100000 in
theorem okX1_feeOf (g : Gx) (ρ : Rh) (hρ : Hr ρ) (d : Dd) (a1 : Int32) : CallR g M_X1_feeOf (eIp ρ d) [.ref 15, .int a1] (full d ρ) (fX1_feeOf ρ d a1) := by
  refine CallR.intro rfl rfl (Nat.le_of_ble_eq_true rfl) (fun a ha => ⟨_, rfl⟩) ?_
  show WW g _ _ 0 [(0, .ref 15), (1, .int a1)] [] (full d ρ) 0 0 _
  unfold fX1_feeOf
  refine WW.iload_n (pc := 0) (j := 1) rfl dX1_feeOf_0 ?_
  refine WW.if_lt (pc := 1) 30 dX1_feeOf_1 (by decide) (fun _ => ?_) (fun _ => ?_)
  · refine WW.iconst (pc := 30) 0 dX1_feeOf_30 rfl ?_
    exact WW.ret rfl rfl (show RetI M_X1_feeOf 31 from dX1_feeOf_31) ⟨Nat.le_refl _, Nat.le_refl _⟩ rfl
  · refine WW.iload_n (pc := 4) (j := 1) rfl dX1_feeOf_4 ?_
    refine WW.aload_n (pc := 5) (j := 0) rfl dX1_feeOf_5 ?_
    refine WW.sgi (pc := 6) fl_X1_21_1 h3_15 (sh_15 ρ) (Or.inl gt_1_2) dX1_feeOf_6 ?_
    refine WW.icmp_ge (pc := 9) 30 dX1_feeOf_9 (by decide) (fun _ => ?_) (fun _ => ?_)
    · refine WW.iconst (pc := 30) 0 dX1_feeOf_30 rfl ?_
      exact WW.ret rfl rfl (show RetI M_X1_feeOf 31 from dX1_feeOf_31) ⟨Nat.le_refl _, Nat.le_refl _⟩ rfl
    · refine WW.iload_n (pc := 12) (j := 1) rfl dX1_feeOf_12 ?_
      refine WW.aload_n (pc := 13) (j := 0) rfl dX1_feeOf_13 ?_
      refine WW.sgr (pc := 14) fl_X1_15_1 h3_15 (sh_15 ρ) (Or.inr ⟨_, gt_1_1⟩) (hr_15_1 ρ) dX1_feeOf_14 ?_
      refine WW.alen (pc := 17) 4 (one_le h3_17) (Or.inl rfl) (sh_17 ρ) rfl dX1_feeOf_17 ?_
      refine WW.icmp_ge (pc := 18) 30 dX1_feeOf_18 (by decide) (fun _ => ?_) (fun _ => ?_)
      · refine WW.iconst (pc := 30) 0 dX1_feeOf_30 rfl ?_
        exact WW.ret rfl rfl (show RetI M_X1_feeOf 31 from dX1_feeOf_31) ⟨Nat.le_refl _, Nat.le_refl _⟩ rfl
      · refine WW.aload_n (pc := 21) (j := 0) rfl dX1_feeOf_21 ?_
        refine WW.sgr (pc := 22) fl_X1_15_1 h3_15 (sh_15 ρ) (Or.inr ⟨_, gt_1_1⟩) (hr_15_1 ρ) dX1_feeOf_22 ?_
        refine WW.iload_n (pc := 25) (j := 1) rfl dX1_feeOf_25 ?_
        refine WW.siald (pc := 26) (one_le h3_17) (sh_17 ρ) dX1_feeOf_26 ?_
        refine WW.goto (pc := 27) 31 dX1_feeOf_27 (by decide) ?_
        exact WW.ret rfl rfl (show RetI M_X1_feeOf 31 from dX1_feeOf_31) ⟨Nat.le_refl _, Nat.le_refl _⟩ rfl
def fX1_swapFee (ρ : Rh) (d : Dd) (a1 : Int32) (a2 : Int32) : Option (Int32 × Dd) :=
  (fX1_feeOf ρ d a1).bind fun r1 =>
  if a1 < 0 then
    (some (r1, d))
  else
    (if (d_i d 15 2) ≤ a1 then
      (some (r1, d))
    else
      (if 4 ≤ a1 then
        (some (r1, d))
      else
        (if inB a1 4 = true then
          (bnd (dI d 17 (ix a1) a2) fun d2 =>
          some (r1, d2))
        else none)))
set_option maxHeartbeats 4000000 in
set_option maxRecDepth 100000 in
theorem okX1_swapFee (g : Gx) (ρ : Rh) (hρ : Hr ρ) (d : Dd) (a1 : Int32) (a2 : Int32) : CallR g M_X1_swapFee (eI ρ) [.ref 15, .int a1, .int a2] (full d ρ) (fX1_swapFee ρ d a1 a2) := by
  refine CallR.intro rfl rfl (Nat.le_of_ble_eq_true rfl) (fun a ha => ⟨_, rfl⟩) ?_
  show WW g _ _ 0 [(0, .ref 15), (1, .int a1), (2, .int a2)] [] (full d ρ) 0 0 _
  unfold fX1_swapFee
  refine WW.aload_n (pc := 0) (j := 0) rfl dX1_swapFee_0 ?_
  refine WW.iload_n (pc := 1) (j := 1) rfl dX1_swapFee_1 ?_
  refine WW.callV (pc := 2) (As := [.int a1]) (st := []) lk_X1_29 (okX1_feeOf g ρ hρ d a1) h3_15 (sh_15 ρ) ⟨_, _, clk1⟩ rfl (Nat.le_of_ble_eq_true rfl) ⟨Nat.le_of_ble_eq_true rfl, Nat.le_of_ble_eq_true rfl, Nat.le_of_ble_eq_true rfl, Nat.le_of_ble_eq_true rfl⟩ dX1_swapFee_2 rfl (fun r1 hr1 => ?_)
  show WW _ _ _ 5 _ [.int r1] (full d ρ) 0 0 _
  refine WW.istore_n (pc := 5) [(3, .int r1), (0, .ref 15), (1, .int a1), (2, .int a2)] rfl (by decide) dX1_swapFee_5 ?_
  refine WW.iload_n (pc := 6) (j := 2) rfl dX1_swapFee_6 ?_
  refine WW.if_lt (pc := 7) 34 dX1_swapFee_7 (by decide) (fun _ => ?_) (fun _ => ?_)
  · refine WW.iload_n (pc := 34) (j := 0) rfl dX1_swapFee_34 ?_
    exact WW.ret rfl rfl (show RetI M_X1_swapFee 35 from dX1_swapFee_35) ⟨Nat.le_refl _, Nat.le_refl _⟩ rfl
  · refine WW.iload_n (pc := 10) (j := 2) rfl dX1_swapFee_10 ?_
    refine WW.aload_n (pc := 11) (j := 1) rfl dX1_swapFee_11 ?_
    refine WW.sgi (pc := 12) fl_X1_21_1 h3_15 (sh_15 ρ) (Or.inl gt_1_2) dX1_swapFee_12 ?_
    refine WW.icmp_ge (pc := 15) 34 dX1_swapFee_15 (by decide) (fun _ => ?_) (fun _ => ?_)
    · refine WW.iload_n (pc := 34) (j := 0) rfl dX1_swapFee_34 ?_
      exact WW.ret rfl rfl (show RetI M_X1_swapFee 35 from dX1_swapFee_35) ⟨Nat.le_refl _, Nat.le_refl _⟩ rfl
    · refine WW.iload_n (pc := 18) (j := 2) rfl dX1_swapFee_18 ?_
      refine WW.aload_n (pc := 19) (j := 1) rfl dX1_swapFee_19 ?_
      refine WW.sgr (pc := 20) fl_X1_15_1 h3_15 (sh_15 ρ) (Or.inr ⟨_, gt_1_1⟩) (hr_15_1 ρ) dX1_swapFee_20 ?_
      refine WW.alen (pc := 23) 4 (one_le h3_17) (Or.inl rfl) (sh_17 ρ) rfl dX1_swapFee_23 ?_
      refine WW.icmp_ge (pc := 24) 34 dX1_swapFee_24 (by decide) (fun _ => ?_) (fun _ => ?_)
      · refine WW.iload_n (pc := 34) (j := 0) rfl dX1_swapFee_34 ?_
        exact WW.ret rfl rfl (show RetI M_X1_swapFee 35 from dX1_swapFee_35) ⟨Nat.le_refl _, Nat.le_refl _⟩ rfl
      · refine WW.aload_n (pc := 27) (j := 1) rfl dX1_swapFee_27 ?_
        refine WW.sgr (pc := 28) fl_X1_15_1 h3_15 (sh_15 ρ) (Or.inr ⟨_, gt_1_1⟩) (hr_15_1 ρ) dX1_swapFee_28 ?_
        refine WW.iload_n (pc := 31) (j := 2) rfl dX1_swapFee_31 ?_
        refine WW.iload_n (pc := 32) (j := 3) rfl dX1_swapFee_32 ?_
        refine WW.siast (pc := 33) h3_17 (sh_17 ρ) dX1_swapFee_33 (fun d2 => ?_)
        refine WW.iload_n (pc := 34) (j := 0) rfl dX1_swapFee_34 ?_
        exact WW.ret rfl rfl (show RetI M_X1_swapFee 35 from dX1_swapFee_35) ⟨Nat.le_refl _, Nat.le_refl _⟩ rfl
def fX11_change (ρ : Rh) (d : Dd) (a1 : Int32) (a2 : Int32) (a3 : Int32) : Option (Int32 × Dd) :=
  (fX1_has ρ d a1).bind fun r1 =>
  if r1 = true then
    (jn (fun (x2 : Bool) =>
      if x2 = true then
        ((fX11_unsettle ρ d).bind fun r4 =>
        if a2 = 0 then
          ((fX1_swapLimit ρ r4 a1 a3).bind fun r5 =>
          some (r5.1, r5.2))
        else
          ((fX1_swapFee ρ r4 a1 a3).bind fun r6 =>
          some (r6.1, r6.2)))
      else
        (some ((-102), d))
      ) fun k3 =>
    jn (fun (x7 : Unit) =>
      k3 true
      ) fun k8 =>
    jn (fun (x9 : Unit) =>
      jn (fun (x11 : Unit) =>
        k3 false
        ) fun k12 =>
      if a2 = 1 then
        ((fX1_isFee a3).bind fun r13 =>
        if r13 = true then
          (k8 ())
        else
          (k12 ()))
      else
        (k12 ())
      ) fun k10 =>
    if a2 = 0 then
      ((fX1_isLimit a3).bind fun r14 =>
      if r14 = true then
        (k8 ())
      else
        (k10 ()))
    else
      (k10 ()))
  else
    (some ((-101), d))
set_option maxHeartbeats 4000000 in
set_option maxRecDepth 100000 in
theorem okX11_change (g : Gx) (ρ : Rh) (hρ : Hr ρ) (d : Dd) (a1 : Int32) (a2 : Int32) (a3 : Int32) : CallR g M_X11_change (eI ρ) [.ref 3, .int a1, .int a2, .int a3] (full d ρ) (fX11_change ρ d a1 a2 a3) := by
  refine CallR.intro rfl rfl (Nat.le_of_ble_eq_true rfl) (fun a ha => ⟨_, rfl⟩) ?_
  show WW g _ _ 0 [(0, .ref 3), (1, .int a1), (2, .int a2), (3, .int a3)] [] (full d ρ) 0 0 _
  unfold fX11_change
  refine WW.aload_n (pc := 0) (j := 0) rfl dX11_change_0 ?_
  refine WW.sgr (pc := 1) fl_X11_50_11 h3_3 (sh_3 ρ) (Or.inl ⟨_, gt_11_4⟩) (hr_3_4 ρ) dX11_change_1 ?_
  refine WW.iload_n (pc := 4) (j := 1) rfl dX11_change_4 ?_
  refine WW.callV (pc := 5) (As := [.int a1]) (st := []) lk_X11_127 (okX1_has g ρ hρ d a1) h3_15 (sh_15 ρ) ⟨_, _, clk1⟩ rfl (Nat.le_of_ble_eq_true rfl) ⟨Nat.le_of_ble_eq_true rfl, Nat.le_of_ble_eq_true rfl, Nat.le_of_ble_eq_true rfl, Nat.le_of_ble_eq_true rfl⟩ dX11_change_5 rfl (fun r1 hr1 => ?_)
  show WW _ _ _ 8 _ [.int (b2i r1)] (full d ρ) 0 0 _
  refine WW.if_neB (pc := 8) 14 dX11_change_8 (by decide) (fun _ => ?_) (fun _ => ?_)
  · refine WW.iload_n (pc := 14) (j := 2) rfl dX11_change_14 ?_
    refine WW.join (pj := 42) (Lj := fun (x2 : Bool) => [(0, .ref 3), (1, .int a1), (2, .int a2), (3, .int a3)]) (sj := fun (x2 : Bool) => [.int (b2i x2)]) (hj := fun (x2 : Bool) => full d ρ) (fun x2 => ?_) (fun k3 hk3 => ?_)
    · refine WW.istore (pc := 42) [(4, .int (b2i x2)), (0, .ref 3), (1, .int a1), (2, .int a2), (3, .int a3)] rfl (by decide) dX11_change_42 ?_
      refine WW.iload (pc := 44) (j := 0) rfl dX11_change_44 ?_
      refine WW.if_neB (pc := 46) 52 dX11_change_46 (by decide) (fun _ => ?_) (fun _ => ?_)
      · refine WW.aload_n (pc := 52) (j := 1) rfl dX11_change_52 ?_
        refine WW.callV (pc := 53) (As := []) (st := []) lk_X11_93 (okX11_unsettle g ρ hρ d ) h3_3 (sh_3 ρ) ⟨_, _, clk11⟩ rfl (Nat.le_of_ble_eq_true rfl) ⟨Nat.le_of_ble_eq_true rfl, Nat.le_of_ble_eq_true rfl, Nat.le_of_ble_eq_true rfl, Nat.le_of_ble_eq_true rfl⟩ dX11_change_53 rfl (fun r4 hr4 => ?_)
        show WW _ _ _ 56 _ [] (full r4 ρ) 0 0 _
        refine WW.iload_n (pc := 56) (j := 3) rfl dX11_change_56 ?_
        refine WW.if_ne (pc := 57) 72 dX11_change_57 (by decide) (fun _ => ?_) (fun _ => ?_)
        · refine WW.aload_n (pc := 60) (j := 1) rfl dX11_change_60 ?_
          refine WW.sgr (pc := 61) fl_X11_50_11 h3_3 (sh_3 ρ) (Or.inl ⟨_, gt_11_4⟩) (hr_3_4 ρ) dX11_change_61 ?_
          refine WW.iload_n (pc := 64) (j := 2) rfl dX11_change_64 ?_
          refine WW.iload_n (pc := 65) (j := 4) rfl dX11_change_65 ?_
          refine WW.callV (pc := 66) (As := [.int a1, .int a3]) (st := []) lk_X11_130 (okX1_swapLimit g ρ hρ r4 a1 a3) h3_15 (sh_15 ρ) ⟨_, _, clk1⟩ rfl (Nat.le_of_ble_eq_true rfl) ⟨Nat.le_of_ble_eq_true rfl, Nat.le_of_ble_eq_true rfl, Nat.le_of_ble_eq_true rfl, Nat.le_of_ble_eq_true rfl⟩ dX11_change_66 rfl (fun r5 hr5 => ?_)
          show WW _ _ _ 69 _ [.int r5.1] (full r5.2 ρ) 0 0 _
          refine WW.goto (pc := 69) 81 dX11_change_69 (by decide) ?_
          exact WW.ret rfl rfl (show RetI M_X11_change 81 from dX11_change_81) ⟨Nat.le_refl _, Nat.le_refl _⟩ rfl
        · refine WW.aload_n (pc := 72) (j := 1) rfl dX11_change_72 ?_
          refine WW.sgr (pc := 73) fl_X11_50_11 h3_3 (sh_3 ρ) (Or.inl ⟨_, gt_11_4⟩) (hr_3_4 ρ) dX11_change_73 ?_
          refine WW.iload_n (pc := 76) (j := 2) rfl dX11_change_76 ?_
          refine WW.iload_n (pc := 77) (j := 4) rfl dX11_change_77 ?_
          refine WW.callV (pc := 78) (As := [.int a1, .int a3]) (st := []) lk_X11_133 (okX1_swapFee g ρ hρ r4 a1 a3) h3_15 (sh_15 ρ) ⟨_, _, clk1⟩ rfl (Nat.le_of_ble_eq_true rfl) ⟨Nat.le_of_ble_eq_true rfl, Nat.le_of_ble_eq_true rfl, Nat.le_of_ble_eq_true rfl, Nat.le_of_ble_eq_true rfl⟩ dX11_change_78 rfl (fun r6 hr6 => ?_)
          show WW _ _ _ 81 _ [.int r6.1] (full r6.2 ρ) 0 0 _
          exact WW.ret rfl rfl (show RetI M_X11_change 81 from dX11_change_81) ⟨Nat.le_refl _, Nat.le_refl _⟩ rfl
      · refine WW.bipush (pc := 49) (-102) dX11_change_49 rfl ?_
        exact WW.ret rfl rfl (show RetI M_X11_change 51 from dX11_change_51) ⟨Nat.le_refl _, Nat.le_refl _⟩ rfl
    · refine WW.join (pj := 37) (Lj := fun (x7 : Unit) => [(0, .ref 3), (1, .int a1), (2, .int a2), (3, .int a3)]) (sj := fun (x7 : Unit) => []) (hj := fun (x7 : Unit) => full d ρ) (fun x7 => ?_) (fun k8 hk8 => ?_)
      · refine WW.iconst (pc := 37) 1 dX11_change_37 rfl ?_
        refine WW.goto (pc := 38) 42 dX11_change_38 (by decide) ?_
        exact hk3 true
      · refine WW.join (pj := 25) (Lj := fun (x9 : Unit) => [(0, .ref 3), (1, .int a1), (2, .int a2), (3, .int a3)]) (sj := fun (x9 : Unit) => []) (hj := fun (x9 : Unit) => full d ρ) (fun x9 => ?_) (fun k10 hk10 => ?_)
        · refine WW.iload_n (pc := 25) (j := 2) rfl dX11_change_25 ?_
          refine WW.iconst (pc := 26) 1 dX11_change_26 rfl ?_
          refine WW.join (pj := 41) (Lj := fun (x11 : Unit) => [(0, .ref 3), (1, .int a1), (2, .int a2), (3, .int a3)]) (sj := fun (x11 : Unit) => []) (hj := fun (x11 : Unit) => full d ρ) (fun x11 => ?_) (fun k12 hk12 => ?_)
          · refine WW.iconst (pc := 41) 0 dX11_change_41 rfl ?_
            exact hk3 false
          · refine WW.icmp_ne (pc := 27) 41 dX11_change_27 (by decide) (fun _ => ?_) (fun _ => ?_)
            · refine WW.iload_n (pc := 30) (j := 3) rfl dX11_change_30 ?_
              refine WW.callS (pc := 31) (As := [.int a3]) (st := []) lk_X11_121 (okX1_isFee g ρ hρ d a3) rfl (Nat.le_of_ble_eq_true rfl) ⟨Nat.le_of_ble_eq_true rfl, Nat.le_of_ble_eq_true rfl, Nat.le_of_ble_eq_true rfl, Nat.le_of_ble_eq_true rfl⟩ dX11_change_31 rfl (fun r13 hr13 => ?_)
              show WW _ _ _ 34 _ [.int (b2i r13)] (full d ρ) 0 0 _
              refine WW.if_eqB (pc := 34) 41 dX11_change_34 (by decide) (fun _ => ?_) (fun _ => ?_)
              · exact hk8 ()
              · exact hk12 ()
            · exact hk12 ()
        · refine WW.if_ne (pc := 15) 25 dX11_change_15 (by decide) (fun _ => ?_) (fun _ => ?_)
          · refine WW.iload_n (pc := 18) (j := 3) rfl dX11_change_18 ?_
            refine WW.callS (pc := 19) (As := [.int a3]) (st := []) lk_X11_116 (okX1_isLimit g ρ hρ d a3) rfl (Nat.le_of_ble_eq_true rfl) ⟨Nat.le_of_ble_eq_true rfl, Nat.le_of_ble_eq_true rfl, Nat.le_of_ble_eq_true rfl, Nat.le_of_ble_eq_true rfl⟩ dX11_change_19 rfl (fun r14 hr14 => ?_)
            show WW _ _ _ 22 _ [.int (b2i r14)] (full d ρ) 0 0 _
            refine WW.if_neB (pc := 22) 37 dX11_change_22 (by decide) (fun _ => ?_) (fun _ => ?_)
            · exact hk8 ()
            · exact hk10 ()
          · exact hk10 ()
  · refine WW.bipush (pc := 11) (-101) dX11_change_11 rfl ?_
    exact WW.ret rfl rfl (show RetI M_X11_change 13 from dX11_change_13) ⟨Nat.le_refl _, Nat.le_refl _⟩ rfl
def fX6_mostOf (a0 : Int32) : Option Int32 :=
  jn (fun (x1 : Unit) =>
    some 100
    ) fun k2 =>
  if a0 = 3 then
    (k2 ())
  else
    (if a0 = 4 then
      (k2 ())
    else
      (some 255))
set_option maxHeartbeats 4000000 in
set_option maxRecDepth 100000 in
theorem okX6_mostOf (g : Gx) (ρ : Rh) (hρ : Hr ρ) (d : Dd) (a0 : Int32) : CallR g M_X6_mostOf (eIp ρ d) [.int a0] (full d ρ) (fX6_mostOf a0) := by
  refine CallR.intro rfl rfl (Nat.le_of_ble_eq_true rfl) (fun a ha => ⟨_, rfl⟩) ?_
  show WW g _ _ 0 [(0, .int a0)] [] (full d ρ) 0 0 _
  unfold fX6_mostOf
  refine WW.iload_n (pc := 0) (j := 0) rfl dX6_mostOf_0 ?_
  refine WW.iconst (pc := 1) 3 dX6_mostOf_1 rfl ?_
  refine WW.join (pj := 10) (Lj := fun (x1 : Unit) => []) (sj := fun (x1 : Unit) => []) (hj := fun (x1 : Unit) => full d ρ) (fun x1 => ?_) (fun k2 hk2 => ?_)
  · refine WW.bipush (pc := 10) 100 dX6_mostOf_10 rfl ?_
    refine WW.goto (pc := 12) 18 dX6_mostOf_12 (by decide) ?_
    exact WW.ret rfl rfl (show RetI M_X6_mostOf 18 from dX6_mostOf_18) ⟨Nat.le_refl _, Nat.le_refl _⟩ rfl
  · refine WW.icmp_eq (pc := 2) 10 dX6_mostOf_2 (by decide) (fun _ => ?_) (fun _ => ?_)
    · refine WW.sub [] rfl ?_
      exact hk2 ()
    · refine WW.iload_n (pc := 5) (j := 0) rfl dX6_mostOf_5 ?_
      refine WW.iconst (pc := 6) 4 dX6_mostOf_6 rfl ?_
      refine WW.icmp_ne (pc := 7) 15 dX6_mostOf_7 (by decide) (fun _ => ?_) (fun _ => ?_)
      · refine WW.sub [] rfl ?_
        exact hk2 ()
      · refine WW.sipush (pc := 15) 255 dX6_mostOf_15 rfl ?_
        exact WW.ret rfl rfl (show RetI M_X6_mostOf 18 from dX6_mostOf_18) ⟨Nat.le_refl _, Nat.le_refl _⟩ rfl
def fX11_newsAt (ρ : Rh) (d : Dd) (a1 : Int32) : Option Nat :=
  if a1 < 0 then
    (some 0)
  else
    (if (d_i d 3 6) ≤ a1 then
      (some 0)
    else
      (if 8 ≤ a1 then
        (some 0)
      else
        (if inB a1 8 = true then
          (some (hrS ρ 12 (ix a1)))
        else none)))
set_option maxHeartbeats 4000000 in
set_option maxRecDepth 100000 in
theorem okX11_newsAt (g : Gx) (ρ : Rh) (hρ : Hr ρ) (d : Dd) (a1 : Int32) : CallR g M_X11_newsAt (eRp ρ d) [.ref 3, .int a1] (full d ρ) (fX11_newsAt ρ d a1) := by
  refine CallR.intro rfl rfl (Nat.le_of_ble_eq_true rfl) (fun a ha => ⟨_, rfl⟩) ?_
  show WW g _ _ 0 [(0, .ref 3), (1, .int a1)] [] (full d ρ) 0 0 _
  unfold fX11_newsAt
  refine WW.iload_n (pc := 0) (j := 1) rfl dX11_newsAt_0 ?_
  refine WW.if_lt (pc := 1) 30 dX11_newsAt_1 (by decide) (fun _ => ?_) (fun _ => ?_)
  · refine WW.null (pc := 30) dX11_newsAt_30 ?_
    exact WW.ret rfl rfl (show RetI M_X11_newsAt 31 from dX11_newsAt_31) ⟨Nat.le_refl _, Nat.le_refl _⟩ rfl
  · refine WW.iload_n (pc := 4) (j := 1) rfl dX11_newsAt_4 ?_
    refine WW.aload_n (pc := 5) (j := 0) rfl dX11_newsAt_5 ?_
    refine WW.sgi (pc := 6) fl_X11_139_11 h3_3 (sh_3 ρ) (Or.inl gt_11_6) dX11_newsAt_6 ?_
    refine WW.icmp_ge (pc := 9) 30 dX11_newsAt_9 (by decide) (fun _ => ?_) (fun _ => ?_)
    · refine WW.null (pc := 30) dX11_newsAt_30 ?_
      exact WW.ret rfl rfl (show RetI M_X11_newsAt 31 from dX11_newsAt_31) ⟨Nat.le_refl _, Nat.le_refl _⟩ rfl
    · refine WW.iload_n (pc := 12) (j := 1) rfl dX11_newsAt_12 ?_
      refine WW.aload_n (pc := 13) (j := 0) rfl dX11_newsAt_13 ?_
      refine WW.sgr (pc := 14) fl_X11_28_11 h3_3 (sh_3 ρ) (Or.inr ⟨_, gt_11_5⟩) (hr_3_5 ρ) dX11_newsAt_14 ?_
      refine WW.alen (pc := 17) 8 (one_le h3_12) (Or.inr (Or.inr (Or.inr rfl))) (sh_12 ρ) rfl dX11_newsAt_17 ?_
      refine WW.icmp_ge (pc := 18) 30 dX11_newsAt_18 (by decide) (fun _ => ?_) (fun _ => ?_)
      · refine WW.null (pc := 30) dX11_newsAt_30 ?_
        exact WW.ret rfl rfl (show RetI M_X11_newsAt 31 from dX11_newsAt_31) ⟨Nat.le_refl _, Nat.le_refl _⟩ rfl
      · refine WW.aload_n (pc := 21) (j := 0) rfl dX11_newsAt_21 ?_
        refine WW.sgr (pc := 22) fl_X11_28_11 h3_3 (sh_3 ρ) (Or.inr ⟨_, gt_11_5⟩) (hr_3_5 ρ) dX11_newsAt_22 ?_
        refine WW.iload_n (pc := 25) (j := 1) rfl dX11_newsAt_25 ?_
        refine WW.saald (pc := 26) h3_12 (sh_12 ρ) dX11_newsAt_26 ?_
        refine WW.goto (pc := 27) 31 dX11_newsAt_27 (by decide) ?_
        exact WW.ret rfl rfl (show RetI M_X11_newsAt 31 from dX11_newsAt_31) ⟨Nat.le_refl _, Nat.le_refl _⟩ rfl
theorem nwAt {ρ : Rh} {d : Dd} {a : Int32} {b : Nat} (hρ : Hr ρ) (h : fX11_newsAt ρ d a = some b) : NwOK ρ b := by
  unfold fX11_newsAt at h
  (repeat' split at h) <;> first | (cases h; done) | (have h2 := Option.some.inj h; rw [← h2]; first | exact nwAll hρ _ | exact Or.inl rfl)
def fX6_isOf (ρ : Rh) (d : Dd) (o : Nat) (a1 : Int32) : Option Bool :=
  if a1 = 0 then
    (some true)
  else
  if a1 = 1 then
    (some (insB 9 (tg ρ o)))
  else
  if a1 = 2 then
    (some (insB 8 (tg ρ o)))
  else
  if a1 = 3 then
    (some (insB 0 (tg ρ o)))
  else
  if a1 = 4 then
    (some (insB 4 (tg ρ o)))
  else
  (some false)
set_option maxHeartbeats 4000000 in
set_option maxRecDepth 100000 in
theorem okX6_isOf (g : Gx) (ρ : Rh) (hρ : Hr ρ) (d : Dd) (o : Nat) (a1 : Int32) (hn : NewsO ρ o) : CallR g M_X6_isOf (eZp ρ d) [.ref o, .int a1] (full d ρ) (fX6_isOf ρ d o a1) := by
  refine CallR.intro rfl rfl (Nat.le_of_ble_eq_true rfl) (fun a ha => ⟨_, rfl⟩) ?_
  show WW g _ _ 0 [(0, .ref o), (1, .int a1)] [] (full d ρ) 0 0 _
  unfold fX6_isOf
  refine WW.iload_n (pc := 0) (j := 1) rfl dX6_isOf_0 ?_
  refine WW.ite (fun hs1 => ?_) (fun hs1 => ?_)
  · refine WW.tabIn (pc := 1) 0 36 hs1 dX6_isOf_1 (by decide) (by decide) rfl (by decide) ?_
    refine WW.iconst (pc := 36) 1 dX6_isOf_36 rfl ?_
    exact WW.ret rfl rfl (show RetI M_X6_isOf 37 from dX6_isOf_37) ⟨Nat.le_refl _, Nat.le_refl _⟩ rfl
  refine WW.ite (fun hs2 => ?_) (fun hs2 => ?_)
  · refine WW.tabIn (pc := 1) 1 38 hs2 dX6_isOf_1 (by decide) (by decide) rfl (by decide) ?_
    refine WW.aload_n (pc := 38) (j := 0) rfl dX6_isOf_38 ?_
    refine WW.sinst (pc := 39) (T := 9) hρ hn (by intro t ht; rcases mem5 ht with rfl | rfl | rfl | rfl | rfl <;> first | exact lt_X6_18_0 | exact lt_X6_18_4 | exact lt_X6_18_6 | exact lt_X6_18_8 | exact lt_X6_18_9) dX6_isOf_39 ?_
    exact WW.ret rfl rfl (show RetI M_X6_isOf 42 from dX6_isOf_42) ⟨Nat.le_refl _, Nat.le_refl _⟩ rfl
  refine WW.ite (fun hs3 => ?_) (fun hs3 => ?_)
  · refine WW.tabIn (pc := 1) 2 43 hs3 dX6_isOf_1 (by decide) (by decide) rfl (by decide) ?_
    refine WW.aload_n (pc := 43) (j := 0) rfl dX6_isOf_43 ?_
    refine WW.sinst (pc := 44) (T := 8) hρ hn (by intro t ht; rcases mem5 ht with rfl | rfl | rfl | rfl | rfl <;> first | exact lt_X6_23_0 | exact lt_X6_23_4 | exact lt_X6_23_6 | exact lt_X6_23_8 | exact lt_X6_23_9) dX6_isOf_44 ?_
    exact WW.ret rfl rfl (show RetI M_X6_isOf 47 from dX6_isOf_47) ⟨Nat.le_refl _, Nat.le_refl _⟩ rfl
  refine WW.ite (fun hs4 => ?_) (fun hs4 => ?_)
  · refine WW.tabIn (pc := 1) 3 48 hs4 dX6_isOf_1 (by decide) (by decide) rfl (by decide) ?_
    refine WW.aload_n (pc := 48) (j := 0) rfl dX6_isOf_48 ?_
    refine WW.sinst (pc := 49) (T := 0) hρ hn (by intro t ht; rcases mem5 ht with rfl | rfl | rfl | rfl | rfl <;> first | exact lt_X6_26_0 | exact lt_X6_26_4 | exact lt_X6_26_6 | exact lt_X6_26_8 | exact lt_X6_26_9) dX6_isOf_49 ?_
    exact WW.ret rfl rfl (show RetI M_X6_isOf 52 from dX6_isOf_52) ⟨Nat.le_refl _, Nat.le_refl _⟩ rfl
  refine WW.ite (fun hs5 => ?_) (fun hs5 => ?_)
  · refine WW.tabIn (pc := 1) 4 53 hs5 dX6_isOf_1 (by decide) (by decide) rfl (by decide) ?_
    refine WW.aload_n (pc := 53) (j := 0) rfl dX6_isOf_53 ?_
    refine WW.sinst (pc := 54) (T := 4) hρ hn (by intro t ht; rcases mem5 ht with rfl | rfl | rfl | rfl | rfl <;> first | exact lt_X6_29_0 | exact lt_X6_29_4 | exact lt_X6_29_6 | exact lt_X6_29_8 | exact lt_X6_29_9) dX6_isOf_54 ?_
    exact WW.ret rfl rfl (show RetI M_X6_isOf 57 from dX6_isOf_57) ⟨Nat.le_refl _, Nat.le_refl _⟩ rfl
  refine WW.tabOut (pc := 1) 58 dX6_isOf_1 ?_ (by decide) ?_
  · have q0 : ¬ (a1).toInt = 0 := fun z => hs1 (Int32.toInt_inj.mp z)
    have q1 : ¬ (a1).toInt = 1 := fun z => hs2 (Int32.toInt_inj.mp z)
    have q2 : ¬ (a1).toInt = 2 := fun z => hs3 (Int32.toInt_inj.mp z)
    have q3 : ¬ (a1).toInt = 3 := fun z => hs4 (Int32.toInt_inj.mp z)
    have q4 : ¬ (a1).toInt = 4 := fun z => hs5 (Int32.toInt_inj.mp z)
    omega
  · refine WW.iconst (pc := 58) 0 dX6_isOf_58 rfl ?_
    exact WW.ret rfl rfl (show RetI M_X6_isOf 59 from dX6_isOf_59) ⟨Nat.le_refl _, Nat.le_refl _⟩ rfl
def fv_isOf (ρ : Rh) (d : Dd) (o : Nat) (a1 : Int32) : Option Bool :=
  fX6_isOf ρ d o a1
theorem WWv_isOf {α : Type} {g : Gx} {M : Mx} {emb : α → Option Value × HP} {pc : Nat} {L : List (Nat × Value)} {st stk : List Value} {ρ : Rh} {d : Dd} {kc ks : Nat} {κ : Bool → Option α} {ixx o : Nat} {a1 : Int32} (hρ : Hr ρ) (hn : NewsO ρ o) (l0 : LkU (m_own M) ixx RX0 ⟨"SoldNews$News", "isOf", "(I)Z"⟩ M_X6_isOf 1) (l4 : LkU (m_own M) ixx RX4 ⟨"SoldNews$News", "isOf", "(I)Z"⟩ M_X6_isOf 1) (l6 : LkU (m_own M) ixx RX6 ⟨"SoldNews$News", "isOf", "(I)Z"⟩ M_X6_isOf 1) (l8 : LkU (m_own M) ixx RX8 ⟨"SoldNews$News", "isOf", "(I)Z"⟩ M_X6_isOf 1) (l9 : LkU (m_own M) ixx RX9 ⟨"SoldNews$News", "isOf", "(I)Z"⟩ M_X6_isOf 1) (hst : (st.map fun v => v.category).sum ≤ 8) (ftX6_isOf : Fit M M_X6_isOf kc ks) (hd : decode (m_cc M) pc = .ok (.invokevirtual ixx, 3)) (hstk : stk = [.int a1].reverse ++ .ref o :: st)
    (hk : ∀ b, fv_isOf ρ d o a1 = some b → WW g M emb (pc + 3) L (((eZp ρ d) b).1.toList ++ st) ((eZp ρ d) b).2 (kc + 0) (ks + 0) (κ b)) : WW g M emb pc L stk (full d ρ) kc ks ((fv_isOf ρ d o a1).bind κ) := by
  rcases mem5 (tgT hρ hn) with e | e | e | e | e
  · have hf : fv_isOf ρ d o a1 = fX6_isOf ρ d o a1 := by simp [fv_isOf, e]
    rw [hf] at hk ⊢
    exact WW.callU l0 (okX6_isOf g ρ hρ d o a1 hn) (h3N hn) (shN hn e) ⟨_, _, clk0⟩ rfl hst ftX6_isOf hd hstk hk
  · have hf : fv_isOf ρ d o a1 = fX6_isOf ρ d o a1 := by simp [fv_isOf, e]
    rw [hf] at hk ⊢
    exact WW.callU l4 (okX6_isOf g ρ hρ d o a1 hn) (h3N hn) (shN hn e) ⟨_, _, clk4⟩ rfl hst ftX6_isOf hd hstk hk
  · have hf : fv_isOf ρ d o a1 = fX6_isOf ρ d o a1 := by simp [fv_isOf, e]
    rw [hf] at hk ⊢
    exact WW.callU l6 (okX6_isOf g ρ hρ d o a1 hn) (h3N hn) (shN hn e) ⟨_, _, clk6⟩ rfl hst ftX6_isOf hd hstk hk
  · have hf : fv_isOf ρ d o a1 = fX6_isOf ρ d o a1 := by simp [fv_isOf, e]
    rw [hf] at hk ⊢
    exact WW.callU l8 (okX6_isOf g ρ hρ d o a1 hn) (h3N hn) (shN hn e) ⟨_, _, clk8⟩ rfl hst ftX6_isOf hd hstk hk
  · have hf : fv_isOf ρ d o a1 = fX6_isOf ρ d o a1 := by simp [fv_isOf, e]
    rw [hf] at hk ⊢
    exact WW.callU l9 (okX6_isOf g ρ hρ d o a1 hn) (h3N hn) (shN hn e) ⟨_, _, clk9⟩ rfl hst ftX6_isOf hd hstk hk
def fX11_as (ρ : Rh) (d : Dd) (a1 : Int32) (a2 : Int32) : Option Int32 :=
  (fX11_newsAt ρ d a1).bind fun r1 =>
  if r1 = 0 then
    (some (-101))
  else
    (if a2 < 0 then
      (some (-102))
    else
      (if a2 < 5 then
        ((fv_isOf ρ d r1 a2).bind fun r3 =>
        if r3 = true then
          (some a1)
        else
          (some (-1)))
      else
        (some (-102))))
set_option maxHeartbeats 4000000 in
set_option maxRecDepth 100000 in
theorem okX11_as (g : Gx) (ρ : Rh) (hρ : Hr ρ) (d : Dd) (a1 : Int32) (a2 : Int32) : CallR g M_X11_as (eIp ρ d) [.ref 3, .int a1, .int a2] (full d ρ) (fX11_as ρ d a1 a2) := by
  refine CallR.intro rfl rfl (Nat.le_of_ble_eq_true rfl) (fun a ha => ⟨_, rfl⟩) ?_
  show WW g _ _ 0 [(0, .ref 3), (1, .int a1), (2, .int a2)] [] (full d ρ) 0 0 _
  unfold fX11_as
  refine WW.aload_n (pc := 0) (j := 0) rfl dX11_as_0 ?_
  refine WW.iload_n (pc := 1) (j := 1) rfl dX11_as_1 ?_
  refine WW.callV (pc := 2) (As := [.int a1]) (st := []) lk_X11_146 (okX11_newsAt g ρ hρ d a1) h3_3 (sh_3 ρ) ⟨_, _, clk11⟩ rfl (Nat.le_of_ble_eq_true rfl) ⟨Nat.le_of_ble_eq_true rfl, Nat.le_of_ble_eq_true rfl, Nat.le_of_ble_eq_true rfl, Nat.le_of_ble_eq_true rfl⟩ dX11_as_2 rfl (fun r1 hr1 => ?_)
  show WW _ _ _ 5 _ [.ref r1] (full d ρ) 0 0 _
  refine WW.astore_n (pc := 5) [(3, .ref r1), (0, .ref 3), (1, .int a1), (2, .int a2)] rfl (by decide) dX11_as_5 ?_
  refine WW.aload_n (pc := 6) (j := 0) rfl dX11_as_6 ?_
  refine WW.ifnonnull (pc := 7) 13 dX11_as_7 (by decide) (fun _ => ?_) (fun hq2 => ?_)
  · refine WW.bipush (pc := 10) (-101) dX11_as_10 rfl ?_
    exact WW.ret rfl rfl (show RetI M_X11_as 12 from dX11_as_12) ⟨Nat.le_refl _, Nat.le_refl _⟩ rfl
  · refine WW.iload_n (pc := 13) (j := 3) rfl dX11_as_13 ?_
    refine WW.if_lt (pc := 14) 22 dX11_as_14 (by decide) (fun _ => ?_) (fun _ => ?_)
    · refine WW.bipush (pc := 22) (-102) dX11_as_22 rfl ?_
      exact WW.ret rfl rfl (show RetI M_X11_as 24 from dX11_as_24) ⟨Nat.le_refl _, Nat.le_refl _⟩ rfl
    · refine WW.iload_n (pc := 17) (j := 3) rfl dX11_as_17 ?_
      refine WW.iconst (pc := 18) 5 dX11_as_18 rfl ?_
      refine WW.icmp_lt (pc := 19) 25 dX11_as_19 (by decide) (fun _ => ?_) (fun _ => ?_)
      · refine WW.aload_n (pc := 25) (j := 0) rfl dX11_as_25 ?_
        refine WW.iload_n (pc := 26) (j := 3) rfl dX11_as_26 ?_
        refine WWv_isOf (pc := 27) (st := []) hρ ((nwAt hρ hr1).resolve_left hq2) lk_X11_150_0 lk_X11_150_4 lk_X11_150_6 lk_X11_150_8 lk_X11_150_9 (Nat.le_of_ble_eq_true rfl) (by first | exact ⟨Nat.le_of_ble_eq_true rfl, Nat.le_of_ble_eq_true rfl, Nat.le_of_ble_eq_true rfl, Nat.le_of_ble_eq_true rfl⟩) dX11_as_27 rfl (fun r3 hr3 => ?_)
        show WW _ _ _ 30 _ [.int (b2i r3)] (full d ρ) 0 0 _
        refine WW.if_eqB (pc := 30) 37 dX11_as_30 (by decide) (fun _ => ?_) (fun _ => ?_)
        · refine WW.iload_n (pc := 33) (j := 2) rfl dX11_as_33 ?_
          refine WW.goto (pc := 34) 38 dX11_as_34 (by decide) ?_
          exact WW.ret rfl rfl (show RetI M_X11_as 38 from dX11_as_38) ⟨Nat.le_refl _, Nat.le_refl _⟩ rfl
        · refine WW.iconst (pc := 37) (-1) dX11_as_37 rfl ?_
          exact WW.ret rfl rfl (show RetI M_X11_as 38 from dX11_as_38) ⟨Nat.le_refl _, Nat.le_refl _⟩ rfl
      · refine WW.bipush (pc := 22) (-102) dX11_as_22 rfl ?_
        exact WW.ret rfl rfl (show RetI M_X11_as 24 from dX11_as_24) ⟨Nat.le_refl _, Nat.le_refl _⟩ rfl
def fX11_isSign (a0 : Int32) : Option Bool :=
  if a0 < 0 then
    (some false)
  else
    (if 4 ≤ a0 then
      (some false)
    else
      (some true))
set_option maxHeartbeats 4000000 in
set_option maxRecDepth 100000 in
theorem okX11_isSign (g : Gx) (ρ : Rh) (hρ : Hr ρ) (d : Dd) (a0 : Int32) : CallR g M_X11_isSign (eZp ρ d) [.int a0] (full d ρ) (fX11_isSign a0) := by
  refine CallR.intro rfl rfl (Nat.le_of_ble_eq_true rfl) (fun a ha => ⟨_, rfl⟩) ?_
  show WW g _ _ 0 [(0, .int a0)] [] (full d ρ) 0 0 _
  unfold fX11_isSign
  refine WW.iload_n (pc := 0) (j := 0) rfl dX11_isSign_0 ?_
  refine WW.if_lt (pc := 1) 13 dX11_isSign_1 (by decide) (fun _ => ?_) (fun _ => ?_)
  · refine WW.iconst (pc := 13) 0 dX11_isSign_13 rfl ?_
    exact WW.ret rfl rfl (show RetI M_X11_isSign 14 from dX11_isSign_14) ⟨Nat.le_refl _, Nat.le_refl _⟩ rfl
  · refine WW.iload_n (pc := 4) (j := 0) rfl dX11_isSign_4 ?_
    refine WW.iconst (pc := 5) 4 dX11_isSign_5 rfl ?_
    refine WW.icmp_ge (pc := 6) 13 dX11_isSign_6 (by decide) (fun _ => ?_) (fun _ => ?_)
    · refine WW.iconst (pc := 13) 0 dX11_isSign_13 rfl ?_
      exact WW.ret rfl rfl (show RetI M_X11_isSign 14 from dX11_isSign_14) ⟨Nat.le_refl _, Nat.le_refl _⟩ rfl
    · refine WW.iconst (pc := 9) 1 dX11_isSign_9 rfl ?_
      refine WW.goto (pc := 10) 14 dX11_isSign_10 (by decide) ?_
      exact WW.ret rfl rfl (show RetI M_X11_isSign 14 from dX11_isSign_14) ⟨Nat.le_refl _, Nat.le_refl _⟩ rfl
def fX11_isPart (a0 : Int32) : Option Bool :=
  jn (fun (x1 : Unit) =>
    some true
    ) fun k2 =>
  if a0 = 0 then
    (k2 ())
  else
    (if a0 = 1 then
      (k2 ())
    else
      (some false))
set_option maxHeartbeats 4000000 in
set_option maxRecDepth 100000 in
theorem okX11_isPart (g : Gx) (ρ : Rh) (hρ : Hr ρ) (d : Dd) (a0 : Int32) : CallR g M_X11_isPart (eZp ρ d) [.int a0] (full d ρ) (fX11_isPart a0) := by
  refine CallR.intro rfl rfl (Nat.le_of_ble_eq_true rfl) (fun a ha => ⟨_, rfl⟩) ?_
  show WW g _ _ 0 [(0, .int a0)] [] (full d ρ) 0 0 _
  unfold fX11_isPart
  refine WW.iload_n (pc := 0) (j := 0) rfl dX11_isPart_0 ?_
  refine WW.join (pj := 9) (Lj := fun (x1 : Unit) => []) (sj := fun (x1 : Unit) => []) (hj := fun (x1 : Unit) => full d ρ) (fun x1 => ?_) (fun k2 hk2 => ?_)
  · refine WW.iconst (pc := 9) 1 dX11_isPart_9 rfl ?_
    refine WW.goto (pc := 10) 14 dX11_isPart_10 (by decide) ?_
    exact WW.ret rfl rfl (show RetI M_X11_isPart 14 from dX11_isPart_14) ⟨Nat.le_refl _, Nat.le_refl _⟩ rfl
  · refine WW.if_eq (pc := 1) 9 dX11_isPart_1 (by decide) (fun _ => ?_) (fun _ => ?_)
    · refine WW.sub [] rfl ?_
      exact hk2 ()
    · refine WW.iload_n (pc := 4) (j := 0) rfl dX11_isPart_4 ?_
      refine WW.iconst (pc := 5) 1 dX11_isPart_5 rfl ?_
      refine WW.icmp_ne (pc := 6) 13 dX11_isPart_6 (by decide) (fun _ => ?_) (fun _ => ?_)
      · refine WW.sub [] rfl ?_
        exact hk2 ()
      · refine WW.iconst (pc := 13) 0 dX11_isPart_13 rfl ?_
        exact WW.ret rfl rfl (show RetI M_X11_isPart 14 from dX11_isPart_14) ⟨Nat.le_refl _, Nat.le_refl _⟩ rfl
def fX11_refusal (ρ : Rh) (d : Dd) (a1 : Int32) (a2 : Bool) (a3 : Bool) : Option Int32 :=
  (fX11_newsAt ρ d a1).bind fun r1 =>
  if r1 = 0 then
    (some (-101))
  else
    (if (d_i d 3 3) = 0 then
      (some (-103))
    else
      (if a2 = true then
        (if a3 = true then
          (some 0)
        else
          (some (-102)))
      else
        (some (-101))))
set_option maxHeartbeats 4000000 in
set_option maxRecDepth 100000 in
theorem okX11_refusal (g : Gx) (ρ : Rh) (hρ : Hr ρ) (d : Dd) (a1 : Int32) (a2 : Bool) (a3 : Bool) : CallR g M_X11_refusal (eIp ρ d) [.ref 3, .int a1, .int (b2i a2), .int (b2i a3)] (full d ρ) (fX11_refusal ρ d a1 a2 a3) := by
  refine CallR.intro rfl rfl (Nat.le_of_ble_eq_true rfl) (fun a ha => ⟨_, rfl⟩) ?_
  show WW g _ _ 0 [(0, .ref 3), (1, .int a1), (2, .int (b2i a2)), (3, .int (b2i a3))] [] (full d ρ) 0 0 _
  unfold fX11_refusal
  refine WW.aload_n (pc := 0) (j := 0) rfl dX11_refusal_0 ?_
  refine WW.iload_n (pc := 1) (j := 1) rfl dX11_refusal_1 ?_
  refine WW.callV (pc := 2) (As := [.int a1]) (st := []) lk_X11_146 (okX11_newsAt g ρ hρ d a1) h3_3 (sh_3 ρ) ⟨_, _, clk11⟩ rfl (Nat.le_of_ble_eq_true rfl) ⟨Nat.le_of_ble_eq_true rfl, Nat.le_of_ble_eq_true rfl, Nat.le_of_ble_eq_true rfl, Nat.le_of_ble_eq_true rfl⟩ dX11_refusal_2 rfl (fun r1 hr1 => ?_)
  show WW _ _ _ 5 _ [.ref r1] (full d ρ) 0 0 _
  refine WW.ifnonnull (pc := 5) 11 dX11_refusal_5 (by decide) (fun _ => ?_) (fun hq2 => ?_)
  · refine WW.bipush (pc := 8) (-101) dX11_refusal_8 rfl ?_
    exact WW.ret rfl rfl (show RetI M_X11_refusal 10 from dX11_refusal_10) ⟨Nat.le_refl _, Nat.le_refl _⟩ rfl
  · refine WW.aload_n (pc := 11) (j := 0) rfl dX11_refusal_11 ?_
    refine WW.sgi (pc := 12) fl_X11_89_11 h3_3 (sh_3 ρ) (Or.inr gt_11_3) dX11_refusal_12 ?_
    refine WW.if_ne (pc := 15) 21 dX11_refusal_15 (by decide) (fun _ => ?_) (fun _ => ?_)
    · refine WW.bipush (pc := 18) (-103) dX11_refusal_18 rfl ?_
      exact WW.ret rfl rfl (show RetI M_X11_refusal 20 from dX11_refusal_20) ⟨Nat.le_refl _, Nat.le_refl _⟩ rfl
    · refine WW.iload_n (pc := 21) (j := 2) rfl dX11_refusal_21 ?_
      refine WW.if_neB (pc := 22) 28 dX11_refusal_22 (by decide) (fun _ => ?_) (fun _ => ?_)
      · refine WW.iload_n (pc := 28) (j := 3) rfl dX11_refusal_28 ?_
        refine WW.if_eqB (pc := 29) 36 dX11_refusal_29 (by decide) (fun _ => ?_) (fun _ => ?_)
        · refine WW.iconst (pc := 32) 0 dX11_refusal_32 rfl ?_
          refine WW.goto (pc := 33) 38 dX11_refusal_33 (by decide) ?_
          exact WW.ret rfl rfl (show RetI M_X11_refusal 38 from dX11_refusal_38) ⟨Nat.le_refl _, Nat.le_refl _⟩ rfl
        · refine WW.bipush (pc := 36) (-102) dX11_refusal_36 rfl ?_
          exact WW.ret rfl rfl (show RetI M_X11_refusal 38 from dX11_refusal_38) ⟨Nat.le_refl _, Nat.le_refl _⟩ rfl
      · refine WW.bipush (pc := 25) (-101) dX11_refusal_25 rfl ?_
        exact WW.ret rfl rfl (show RetI M_X11_refusal 27 from dX11_refusal_27) ⟨Nat.le_refl _, Nat.le_refl _⟩ rfl
def fX11_refusedPart (a0 : Int32) : Option Int64 :=
  if a0 = (-101) then
    (some (-1000000000000000001))
  else
    (if a0 = (-103) then
      (some (-1000000000000000003))
    else
      (some (-1000000000000000002)))
set_option maxHeartbeats 4000000 in
set_option maxRecDepth 100000 in
theorem okX11_refusedPart (g : Gx) (ρ : Rh) (hρ : Hr ρ) (d : Dd) (a0 : Int32) : CallR g M_X11_refusedPart (eLp ρ d) [.int a0] (full d ρ) (fX11_refusedPart a0) := by
  refine CallR.intro rfl rfl (Nat.le_of_ble_eq_true rfl) (fun a ha => ⟨_, rfl⟩) ?_
  show WW g _ _ 0 [(0, .int a0)] [] (full d ρ) 0 0 _
  unfold fX11_refusedPart
  refine WW.iload_n (pc := 0) (j := 0) rfl dX11_refusedPart_0 ?_
  refine WW.bipush (pc := 1) (-101) dX11_refusedPart_1 rfl ?_
  refine WW.icmp_ne (pc := 3) 10 dX11_refusedPart_3 (by decide) (fun _ => ?_) (fun _ => ?_)
  · refine WW.ldc2 (pc := 6) wd_474 dX11_refusedPart_6 ?_
    exact WW.ret rfl rfl (show RetI M_X11_refusedPart 9 from dX11_refusedPart_9) ⟨Nat.le_refl _, Nat.le_refl _⟩ rfl
  · refine WW.iload_n (pc := 10) (j := 0) rfl dX11_refusedPart_10 ?_
    refine WW.bipush (pc := 11) (-103) dX11_refusedPart_11 rfl ?_
    refine WW.icmp_ne (pc := 13) 22 dX11_refusedPart_13 (by decide) (fun _ => ?_) (fun _ => ?_)
    · refine WW.ldc2 (pc := 16) wd_475 dX11_refusedPart_16 ?_
      refine WW.goto (pc := 19) 25 dX11_refusedPart_19 (by decide) ?_
      exact WW.ret rfl rfl (show RetI M_X11_refusedPart 25 from dX11_refusedPart_25) ⟨Nat.le_refl _, Nat.le_refl _⟩ rfl
    · refine WW.ldc2 (pc := 22) wd_476 dX11_refusedPart_22 ?_
      exact WW.ret rfl rfl (show RetI M_X11_refusedPart 25 from dX11_refusedPart_25) ⟨Nat.le_refl _, Nat.le_refl _⟩ rfl
def fX6_wholeOf (a0 : Int32) : Option Int32 :=
  some (100 * (jmaxI 1 (a0 - 1)))
set_option maxHeartbeats 4000000 in
set_option maxRecDepth 100000 in
theorem okX6_wholeOf (g : Gx) (ρ : Rh) (hρ : Hr ρ) (d : Dd) (a0 : Int32) : CallR g M_X6_wholeOf (eIp ρ d) [.int a0] (full d ρ) (fX6_wholeOf a0) := by
  refine CallR.intro rfl rfl (Nat.le_of_ble_eq_true rfl) (fun a ha => ⟨_, rfl⟩) ?_
  show WW g _ _ 0 [(0, .int a0)] [] (full d ρ) 0 0 _
  unfold fX6_wholeOf
  refine WW.bipush (pc := 0) 100 dX6_wholeOf_0 rfl ?_
  refine WW.iconst (pc := 2) 1 dX6_wholeOf_2 rfl ?_
  refine WW.iload_n (pc := 3) (j := 0) rfl dX6_wholeOf_3 ?_
  refine WW.iconst (pc := 4) 1 dX6_wholeOf_4 rfl ?_
  refine WW.isub (pc := 5) dX6_wholeOf_5 ?_
  refine WW.max (pc := 6) lk_X6_33 (Nat.le_of_ble_eq_true rfl) (Nat.le_of_ble_eq_true rfl) ⟨(Nat.le_of_ble_eq_true rfl), (Nat.le_of_ble_eq_true rfl)⟩ dX6_wholeOf_6 ?_
  refine WW.imul (pc := 9) dX6_wholeOf_9 ?_
  exact WW.ret rfl rfl (show RetI M_X6_wholeOf 10 from dX6_wholeOf_10) ⟨Nat.le_refl _, Nat.le_refl _⟩ rfl
def fX0_share (ρ : Rh) (d : Dd) (o : Nat) (a1 : Int32) (a2 : Int32) (a3 : Int32) : Option Int32 :=
  if 2 ≤ a3 then
    (if a2 < a3 then
      (if a2 = a1 then
        (some ((100 - (d_i d o 1)) * (a3 - 1)))
      else
        (some (d_i d o 1)))
    else
      (some 0))
  else
    (if a2 = a1 then
      ((fX6_wholeOf a3).bind fun r1 =>
      some r1)
    else
      (some 0))
set_option maxHeartbeats 4000000 in
set_option maxRecDepth 100000 in
theorem okX0_share (g : Gx) (ρ : Rh) (hρ : Hr ρ) (d : Dd) (o : Nat) (a1 : Int32) (a2 : Int32) (a3 : Int32) (hn : NewsO ρ o) (htg : tg ρ o = 0) : CallR g M_X0_share (eIp ρ d) [.ref o, .int a1, .int a2, .int a3] (full d ρ) (fX0_share ρ d o a1 a2 a3) := by
  refine CallR.intro rfl rfl (Nat.le_of_ble_eq_true rfl) (fun a ha => ⟨_, rfl⟩) ?_
  show WW g _ _ 0 [(0, .ref o), (1, .int a1), (2, .int a2), (3, .int a3)] [] (full d ρ) 0 0 _
  unfold fX0_share
  refine WW.iload_n (pc := 0) (j := 3) rfl dX0_share_0 ?_
  refine WW.iconst (pc := 1) 2 dX0_share_1 rfl ?_
  refine WW.icmp_ge (pc := 2) 19 dX0_share_2 (by decide) (fun _ => ?_) (fun _ => ?_)
  · refine WW.iload_n (pc := 19) (j := 2) rfl dX0_share_19 ?_
    refine WW.iload_n (pc := 20) (j := 3) rfl dX0_share_20 ?_
    refine WW.icmp_lt (pc := 21) 26 dX0_share_21 (by decide) (fun _ => ?_) (fun _ => ?_)
    · refine WW.iload_n (pc := 26) (j := 2) rfl dX0_share_26 ?_
      refine WW.iload_n (pc := 27) (j := 1) rfl dX0_share_27 ?_
      refine WW.icmp_ne (pc := 28) 45 dX0_share_28 (by decide) (fun _ => ?_) (fun _ => ?_)
      · refine WW.bipush (pc := 31) 100 dX0_share_31 rfl ?_
        refine WW.aload_n (pc := 33) (j := 0) rfl dX0_share_33 ?_
        refine WW.sgi (pc := 34) fl_X0_15_0 (h3N hn) (shN hn htg) (Or.inl gt_0_1) dX0_share_34 ?_
        refine WW.isub (pc := 37) dX0_share_37 ?_
        refine WW.iload_n (pc := 38) (j := 3) rfl dX0_share_38 ?_
        refine WW.iconst (pc := 39) 1 dX0_share_39 rfl ?_
        refine WW.isub (pc := 40) dX0_share_40 ?_
        refine WW.imul (pc := 41) dX0_share_41 ?_
        refine WW.goto (pc := 42) 49 dX0_share_42 (by decide) ?_
        exact WW.ret rfl rfl (show RetI M_X0_share 49 from dX0_share_49) ⟨Nat.le_refl _, Nat.le_refl _⟩ rfl
      · refine WW.aload_n (pc := 45) (j := 0) rfl dX0_share_45 ?_
        refine WW.sgi (pc := 46) fl_X0_15_0 (h3N hn) (shN hn htg) (Or.inl gt_0_1) dX0_share_46 ?_
        exact WW.ret rfl rfl (show RetI M_X0_share 49 from dX0_share_49) ⟨Nat.le_refl _, Nat.le_refl _⟩ rfl
    · refine WW.iconst (pc := 24) 0 dX0_share_24 rfl ?_
      exact WW.ret rfl rfl (show RetI M_X0_share 25 from dX0_share_25) ⟨Nat.le_refl _, Nat.le_refl _⟩ rfl
  · refine WW.iload_n (pc := 5) (j := 2) rfl dX0_share_5 ?_
    refine WW.iload_n (pc := 6) (j := 1) rfl dX0_share_6 ?_
    refine WW.icmp_ne (pc := 7) 17 dX0_share_7 (by decide) (fun _ => ?_) (fun _ => ?_)
    · refine WW.iload_n (pc := 10) (j := 3) rfl dX0_share_10 ?_
      refine WW.callSI (pc := 11) (As := [.int a3]) (st := []) lk_X0_9 (okX6_wholeOf g ρ hρ d a3) rfl (Nat.le_of_ble_eq_true rfl) ⟨Nat.le_of_ble_eq_true rfl, Nat.le_of_ble_eq_true rfl, Nat.le_of_ble_eq_true rfl, Nat.le_of_ble_eq_true rfl⟩ dX0_share_11 rfl (fun r1 hr1 => ?_)
      show WW _ _ _ 14 _ [.int r1] (full d ρ) 0 0 _
      refine WW.goto (pc := 14) 18 dX0_share_14 (by decide) ?_
      exact WW.ret rfl rfl (show RetI M_X0_share 18 from dX0_share_18) ⟨Nat.le_refl _, Nat.le_refl _⟩ rfl
    · refine WW.iconst (pc := 17) 0 dX0_share_17 rfl ?_
      exact WW.ret rfl rfl (show RetI M_X0_share 18 from dX0_share_18) ⟨Nat.le_refl _, Nat.le_refl _⟩ rfl
def fX9_signOf (o : Nat) (a1 : Int32) : Option Int32 :=
  some a1
set_option maxHeartbeats 4000000 in
set_option maxRecDepth 100000 in
theorem okX9_signOf (g : Gx) (ρ : Rh) (hρ : Hr ρ) (d : Dd) (o : Nat) (a1 : Int32) (hn : NewsO ρ o) : CallR g M_X9_signOf (eIp ρ d) [.ref o, .int a1] (full d ρ) (fX9_signOf o a1) := by
  refine CallR.intro rfl rfl (Nat.le_of_ble_eq_true rfl) (fun a ha => ⟨_, rfl⟩) ?_
  show WW g _ _ 0 [(0, .ref o), (1, .int a1)] [] (full d ρ) 0 0 _
  unfold fX9_signOf
  refine WW.iload_n (pc := 0) (j := 1) rfl dX9_signOf_0 ?_
  exact WW.ret rfl rfl (show RetI M_X9_signOf 1 from dX9_signOf_1) ⟨Nat.le_refl _, Nat.le_refl _⟩ rfl
