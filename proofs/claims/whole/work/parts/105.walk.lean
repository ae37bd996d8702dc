def fX11_toldBy (ρ : Rh) (d : Dd) (a1 : Int32) (a2 : Int32) (a3 : Int32) : Option Int32 :=
  (fX11_worthOf ρ d a1 a2 a3).bind fun r1 =>
  lp (fun self3 (x2 : Int32) =>
    if (d_i d 15 2) ≤ x2 then
      (some (-1))
    else
      ((fX11_bit x2).bind fun r4 =>
      bnd ((a2 ||| r4) : Int32) fun v5 =>
      jn (fun (x6 : Unit) =>
        self3 (x2 + 1)
        ) fun k7 =>
      if v5 = a2 then
        (k7 ())
      else
        ((fX11_worthOf ρ d a1 v5 a3).bind fun r8 =>
        (fX11_worthOf ρ d a1 v5 x2).bind fun r9 =>
        if (r8 + r9) ≤ r1 then
          (k7 ())
        else
          (some x2)))
    ) 6000 (0)
set_option maxHeartbeats 4000000 in
set_option maxRecDepth 100000 in
theorem okX11_toldBy (g : Gx) (ρ : Rh) (hρ : Hr ρ) (d : Dd) (a1 : Int32) (a2 : Int32) (a3 : Int32) : CallR g M_X11_toldBy (eIp ρ d) [.ref 3, .int a1, .int a2, .int a3] (full d ρ) (fX11_toldBy ρ d a1 a2 a3) := by
  refine CallR.intro rfl rfl (Nat.le_of_ble_eq_true rfl) (fun a ha => ⟨_, rfl⟩) ?_
  show WW g _ _ 0 [(0, .ref 3), (1, .int a1), (2, .int a2), (3, .int a3)] [] (full d ρ) 0 0 _
  unfold fX11_toldBy
  refine WW.aload_n (pc := 0) (j := 0) rfl dX11_toldBy_0 ?_
  refine WW.iload_n (pc := 1) (j := 1) rfl dX11_toldBy_1 ?_
  refine WW.iload_n (pc := 2) (j := 2) rfl dX11_toldBy_2 ?_
  refine WW.iload_n (pc := 3) (j := 3) rfl dX11_toldBy_3 ?_
  refine WW.callV (pc := 4) (As := [.int a1, .int a2, .int a3]) (st := []) lk_X11_217 (okX11_worthOf g ρ hρ d a1 a2 a3) h3_3 (sh_3 ρ) ⟨_, _, clk11⟩ rfl (Nat.le_of_ble_eq_true rfl) ⟨Nat.le_of_ble_eq_true rfl, Nat.le_of_ble_eq_true rfl, Nat.le_of_ble_eq_true rfl, Nat.le_of_ble_eq_true rfl⟩ dX11_toldBy_4 rfl (fun r1 hr1 => ?_)
  show WW _ _ _ 7 _ [.long r1] (full d ρ) 0 0 _
  refine WW.lstore (pc := 7) [(4, .long r1), (0, .ref 3), (1, .int a1), (2, .int a2), (3, .int a3)] rfl (by decide) dX11_toldBy_7 ?_
  refine WW.iconst (pc := 9) 0 dX11_toldBy_9 rfl ?_
  refine WW.istore (pc := 10) [(6, .int 0), (4, .long r1), (0, .ref 3), (1, .int a1), (2, .int a2), (3, .int a3)] rfl (by decide) dX11_toldBy_10 ?_
  refine WW.sub [2, 3, 4, 5, 1, 0] rfl ?_
  refine WW.loop (pc := 12) (Lj := fun (x2 : Int32) => [(0, .ref 3), (1, .int a1), (2, .int a2), (3, .int a3), (4, .long r1), (6, .int x2)]) (hj := fun (x2 : Int32) => full d ρ) (fun self3 hself3 x2 => ?_) 6000 (0)
  refine WW.iload (pc := 12) (j := 5) rfl dX11_toldBy_12 ?_
  refine WW.aload_n (pc := 14) (j := 0) rfl dX11_toldBy_14 ?_
  refine WW.sgr (pc := 15) fl_X11_50_11 h3_3 (sh_3 ρ) (Or.inl ⟨_, gt_11_4⟩) (hr_3_4 ρ) dX11_toldBy_15 ?_
  refine WW.sgi (pc := 18) fl_X11_243_1 h3_15 (sh_15 ρ) (Or.inl gt_1_2) dX11_toldBy_18 ?_
  refine WW.icmp_ge (pc := 21) 72 dX11_toldBy_21 (by decide) (fun _ => ?_) (fun _ => ?_)
  · refine WW.iconst (pc := 72) (-1) dX11_toldBy_72 rfl ?_
    exact WW.ret rfl rfl (show RetI M_X11_toldBy 73 from dX11_toldBy_73) ⟨Nat.le_refl _, Nat.le_refl _⟩ rfl
  · refine WW.iload_n (pc := 24) (j := 2) rfl dX11_toldBy_24 ?_
    refine WW.iload (pc := 25) (j := 5) rfl dX11_toldBy_25 ?_
    refine WW.callS (pc := 27) (As := [.int x2]) (st := [.int a2]) lk_X11_240 (okX11_bit g ρ hρ d x2) rfl (Nat.le_of_ble_eq_true rfl) ⟨Nat.le_of_ble_eq_true rfl, Nat.le_of_ble_eq_true rfl, Nat.le_of_ble_eq_true rfl, Nat.le_of_ble_eq_true rfl⟩ dX11_toldBy_27 rfl (fun r4 hr4 => ?_)
    show WW _ _ _ 30 _ [.int r4, .int a2] (full d ρ) 0 0 _
    refine WW.ior (pc := 30) dX11_toldBy_30 ?_
    refine WW.nmi (fun v5 => ?_)
    refine WW.istore (pc := 31) [(7, .int v5), (0, .ref 3), (1, .int a1), (2, .int a2), (3, .int a3), (4, .long r1), (6, .int x2)] rfl (by decide) dX11_toldBy_31 ?_
    refine WW.iload (pc := 33) (j := 0) rfl dX11_toldBy_33 ?_
    refine WW.iload_n (pc := 35) (j := 3) rfl dX11_toldBy_35 ?_
    refine WW.join (pj := 66) (Lj := fun (x6 : Unit) => [(0, .ref 3), (1, .int a1), (2, .int a2), (3, .int a3), (4, .long r1), (6, .int x2)]) (sj := fun (x6 : Unit) => []) (hj := fun (x6 : Unit) => full d ρ) (fun x6 => ?_) (fun k7 hk7 => ?_)
    · refine WW.iinc (pc := 66) (j := 5) (x2 + 1) [(6, .int (x2 + 1)), (0, .ref 3), (1, .int a1), (2, .int a2), (3, .int a3), (4, .long r1)] rfl rfl rfl (by decide) dX11_toldBy_66 ?_
      refine WW.goto (pc := 69) 12 dX11_toldBy_69 (by decide) ?_
      refine WW.sub [1, 2, 3, 4, 5, 0] rfl ?_
      exact hself3 (x2 + 1)
    · refine WW.icmp_eq (pc := 36) 66 dX11_toldBy_36 (by decide) (fun _ => ?_) (fun _ => ?_)
      · refine WW.sub [1, 2, 3, 4, 5, 6] rfl ?_
        exact hk7 ()
      · refine WW.aload_n (pc := 39) (j := 1) rfl dX11_toldBy_39 ?_
        refine WW.iload_n (pc := 40) (j := 2) rfl dX11_toldBy_40 ?_
        refine WW.iload (pc := 41) (j := 0) rfl dX11_toldBy_41 ?_
        refine WW.iload_n (pc := 43) (j := 4) rfl dX11_toldBy_43 ?_
        refine WW.callV (pc := 44) (As := [.int a1, .int v5, .int a3]) (st := []) lk_X11_217 (okX11_worthOf g ρ hρ d a1 v5 a3) h3_3 (sh_3 ρ) ⟨_, _, clk11⟩ rfl (Nat.le_of_ble_eq_true rfl) ⟨Nat.le_of_ble_eq_true rfl, Nat.le_of_ble_eq_true rfl, Nat.le_of_ble_eq_true rfl, Nat.le_of_ble_eq_true rfl⟩ dX11_toldBy_44 rfl (fun r8 hr8 => ?_)
        show WW _ _ _ 47 _ [.long r8] (full d ρ) 0 0 _
        refine WW.aload_n (pc := 47) (j := 1) rfl dX11_toldBy_47 ?_
        refine WW.iload_n (pc := 48) (j := 2) rfl dX11_toldBy_48 ?_
        refine WW.iload (pc := 49) (j := 0) rfl dX11_toldBy_49 ?_
        refine WW.iload (pc := 51) (j := 6) rfl dX11_toldBy_51 ?_
        refine WW.callV (pc := 53) (As := [.int a1, .int v5, .int x2]) (st := [.long r8]) lk_X11_217 (okX11_worthOf g ρ hρ d a1 v5 x2) h3_3 (sh_3 ρ) ⟨_, _, clk11⟩ rfl (Nat.le_of_ble_eq_true rfl) ⟨Nat.le_of_ble_eq_true rfl, Nat.le_of_ble_eq_true rfl, Nat.le_of_ble_eq_true rfl, Nat.le_of_ble_eq_true rfl⟩ dX11_toldBy_53 rfl (fun r9 hr9 => ?_)
        show WW _ _ _ 56 _ [.long r9, .long r8] (full d ρ) 0 0 _
        refine WW.ladd (pc := 56) dX11_toldBy_56 ?_
        refine WW.lload (pc := 57) (j := 5) rfl dX11_toldBy_57 ?_
        refine WW.lcmp_le (pc := 59) 66 dX11_toldBy_59 dX11_toldBy_60 (by decide) (fun _ => ?_) (fun _ => ?_)
        · refine WW.sub [1, 2, 3, 4, 5, 6] rfl ?_
          exact hk7 ()
        · refine WW.iload (pc := 63) (j := 6) rfl dX11_toldBy_63 ?_
          exact WW.ret rfl rfl (show RetI M_X11_toldBy 65 from dX11_toldBy_65) ⟨Nat.le_refl _, Nat.le_refl _⟩ rfl
def fX11_on (ρ : Rh) (d : Dd) (a1 : Int32) (a2 : Int32) (a3 : Int32) : Option (Int32 × Dd) :=
  (fX11_isSet ρ d a2).bind fun r1 =>
  jn (fun (x2 : Bool) =>
    (fX11_refusal ρ d a1 true x2).bind fun r4 =>
    if r4 = 0 then
      ((fX11_settleAll ρ d a1).bind fun r5 =>
      lp (fun self7 (x6 : Int32) =>
        if (d_i r5 15 2) ≤ x6 then
          (some ((-1), r5))
        else
          ((fX11_isIn a2 x6).bind fun r8 =>
          jn (fun (x9 : Int32) =>
            if x9 = (-1) then
              (self7 (x6 + 1))
            else
              (if a3 = 0 then
                (some (x6, r5))
              else
                (some (x9, r5)))
            ) fun k10 =>
          if r8 = true then
            ((fX11_toldBy ρ r5 a1 a2 x6).bind fun r11 =>
            k10 r11)
          else
            (k10 (-1)))
        ) 6000 (0))
    else
      (some (r4, d))
    ) fun k3 =>
  jn (fun (x12 : Unit) =>
    k3 false
    ) fun k13 =>
  if r1 = true then
    (jn (fun (x14 : Unit) =>
      k3 true
      ) fun k15 =>
    if a3 = 0 then
      (k15 ())
    else
      (if a3 = 1 then
        (k15 ())
      else
        (k13 ())))
  else
    (k13 ())
set_option maxHeartbeats 4000000 in
set_option maxRecDepth 100000 in
theorem okX11_on (g : Gx) (ρ : Rh) (hρ : Hr ρ) (d : Dd) (a1 : Int32) (a2 : Int32) (a3 : Int32) : CallR g M_X11_on (eI ρ) [.ref 3, .int a1, .int a2, .int a3] (full d ρ) (fX11_on ρ d a1 a2 a3) := by
  refine CallR.intro rfl rfl (Nat.le_of_ble_eq_true rfl) (fun a ha => ⟨_, rfl⟩) ?_
  show WW g _ _ 0 [(0, .ref 3), (1, .int a1), (2, .int a2), (3, .int a3)] [] (full d ρ) 0 0 _
  unfold fX11_on
  refine WW.aload_n (pc := 0) (j := 0) rfl dX11_on_0 ?_
  refine WW.iload_n (pc := 1) (j := 1) rfl dX11_on_1 ?_
  refine WW.iconst (pc := 2) 1 dX11_on_2 rfl ?_
  refine WW.aload_n (pc := 3) (j := 0) rfl dX11_on_3 ?_
  refine WW.iload_n (pc := 4) (j := 2) rfl dX11_on_4 ?_
  refine WW.callV (pc := 5) (As := [.int a2]) (st := [.int 1, .int a1, .ref 3]) lk_X11_192 (okX11_isSet g ρ hρ d a2) h3_3 (sh_3 ρ) ⟨_, _, clk11⟩ rfl (Nat.le_of_ble_eq_true rfl) ⟨Nat.le_of_ble_eq_true rfl, Nat.le_of_ble_eq_true rfl, Nat.le_of_ble_eq_true rfl, Nat.le_of_ble_eq_true rfl⟩ dX11_on_5 rfl (fun r1 hr1 => ?_)
  show WW _ _ _ 8 _ [.int (b2i r1), .int 1, .int a1, .ref 3] (full d ρ) 0 0 _
  refine WW.join (pj := 25) (Lj := fun (x2 : Bool) => [(0, .ref 3), (1, .int a1), (2, .int a2), (3, .int a3)]) (sj := fun (x2 : Bool) => [.int (b2i x2), .int 1, .int a1, .ref 3]) (hj := fun (x2 : Bool) => full d ρ) (fun x2 => ?_) (fun k3 hk3 => ?_)
  · refine WW.callV (pc := 25) (As := [.int a1, .int (b2i true), .int (b2i x2)]) (st := []) lk_X11_159 (okX11_refusal g ρ hρ d a1 true x2) h3_3 (sh_3 ρ) ⟨_, _, clk11⟩ rfl (Nat.le_of_ble_eq_true rfl) ⟨Nat.le_of_ble_eq_true rfl, Nat.le_of_ble_eq_true rfl, Nat.le_of_ble_eq_true rfl, Nat.le_of_ble_eq_true rfl⟩ dX11_on_25 rfl (fun r4 hr4 => ?_)
    show WW _ _ _ 28 _ [.int r4] (full d ρ) 0 0 _
    refine WW.istore (pc := 28) [(4, .int r4), (0, .ref 3), (1, .int a1), (2, .int a2), (3, .int a3)] rfl (by decide) dX11_on_28 ?_
    refine WW.iload (pc := 30) (j := 0) rfl dX11_on_30 ?_
    refine WW.if_eq (pc := 32) 38 dX11_on_32 (by decide) (fun _ => ?_) (fun _ => ?_)
    · refine WW.aload_n (pc := 38) (j := 1) rfl dX11_on_38 ?_
      refine WW.iload_n (pc := 39) (j := 2) rfl dX11_on_39 ?_
      refine WW.callV (pc := 40) (As := [.int a1]) (st := []) lk_X11_227 (okX11_settleAll g ρ hρ d a1) h3_3 (sh_3 ρ) ⟨_, _, clk11⟩ rfl (Nat.le_of_ble_eq_true rfl) ⟨Nat.le_of_ble_eq_true rfl, Nat.le_of_ble_eq_true rfl, Nat.le_of_ble_eq_true rfl, Nat.le_of_ble_eq_true rfl⟩ dX11_on_40 rfl (fun r5 hr5 => ?_)
      show WW _ _ _ 43 _ [] (full r5 ρ) 0 0 _
      refine WW.iconst (pc := 43) 0 dX11_on_43 rfl ?_
      refine WW.istore (pc := 44) [(5, .int 0), (4, .int r4), (0, .ref 3), (1, .int a1), (2, .int a2), (3, .int a3)] rfl (by decide) dX11_on_44 ?_
      refine WW.sub [2, 3, 4, 5, 0] rfl ?_
      refine WW.loop (pc := 46) (Lj := fun (x6 : Int32) => [(0, .ref 3), (1, .int a1), (2, .int a2), (3, .int a3), (5, .int x6)]) (hj := fun (x6 : Int32) => full r5 ρ) (fun self7 hself7 x6 => ?_) 6000 (0)
      refine WW.iload (pc := 46) (j := 4) rfl dX11_on_46 ?_
      refine WW.aload_n (pc := 48) (j := 0) rfl dX11_on_48 ?_
      refine WW.sgr (pc := 49) fl_X11_50_11 h3_3 (sh_3 ρ) (Or.inl ⟨_, gt_11_4⟩) (hr_3_4 ρ) dX11_on_49 ?_
      refine WW.sgi (pc := 52) fl_X11_243_1 h3_15 (sh_15 ρ) (Or.inl gt_1_2) dX11_on_52 ?_
      refine WW.icmp_ge (pc := 55) 105 dX11_on_55 (by decide) (fun _ => ?_) (fun _ => ?_)
      · refine WW.iconst (pc := 105) (-1) dX11_on_105 rfl ?_
        exact WW.ret rfl rfl (show RetI M_X11_on 106 from dX11_on_106) ⟨Nat.le_refl _, Nat.le_refl _⟩ rfl
      · refine WW.iload_n (pc := 58) (j := 2) rfl dX11_on_58 ?_
        refine WW.iload (pc := 59) (j := 4) rfl dX11_on_59 ?_
        refine WW.callS (pc := 61) (As := [.int a2, .int x6]) (st := []) lk_X11_246 (okX11_isIn g ρ hρ r5 a2 x6) rfl (Nat.le_of_ble_eq_true rfl) ⟨Nat.le_of_ble_eq_true rfl, Nat.le_of_ble_eq_true rfl, Nat.le_of_ble_eq_true rfl, Nat.le_of_ble_eq_true rfl⟩ dX11_on_61 rfl (fun r8 hr8 => ?_)
        show WW _ _ _ 64 _ [.int (b2i r8)] (full r5 ρ) 0 0 _
        refine WW.join (pj := 79) (Lj := fun (x9 : Int32) => [(0, .ref 3), (1, .int a1), (2, .int a2), (3, .int a3), (5, .int x6)]) (sj := fun (x9 : Int32) => [.int x9]) (hj := fun (x9 : Int32) => full r5 ρ) (fun x9 => ?_) (fun k10 hk10 => ?_)
        · refine WW.istore (pc := 79) [(6, .int x9), (0, .ref 3), (1, .int a1), (2, .int a2), (3, .int a3), (5, .int x6)] rfl (by decide) dX11_on_79 ?_
          refine WW.iload (pc := 81) (j := 0) rfl dX11_on_81 ?_
          refine WW.iconst (pc := 83) (-1) dX11_on_83 rfl ?_
          refine WW.icmp_eq (pc := 84) 99 dX11_on_84 (by decide) (fun _ => ?_) (fun _ => ?_)
          · refine WW.iinc (pc := 99) (j := 5) (x6 + 1) [(5, .int (x6 + 1)), (6, .int x9), (0, .ref 3), (1, .int a1), (2, .int a2), (3, .int a3)] rfl rfl rfl (by decide) dX11_on_99 ?_
            refine WW.goto (pc := 102) 46 dX11_on_102 (by decide) ?_
            refine WW.sub [2, 3, 4, 5, 0] rfl ?_
            exact hself7 (x6 + 1)
          · refine WW.iload_n (pc := 87) (j := 4) rfl dX11_on_87 ?_
            refine WW.if_ne (pc := 88) 96 dX11_on_88 (by decide) (fun _ => ?_) (fun _ => ?_)
            · refine WW.iload (pc := 91) (j := 5) rfl dX11_on_91 ?_
              refine WW.goto (pc := 93) 98 dX11_on_93 (by decide) ?_
              exact WW.ret rfl rfl (show RetI M_X11_on 98 from dX11_on_98) ⟨Nat.le_refl _, Nat.le_refl _⟩ rfl
            · refine WW.iload (pc := 96) (j := 0) rfl dX11_on_96 ?_
              exact WW.ret rfl rfl (show RetI M_X11_on 98 from dX11_on_98) ⟨Nat.le_refl _, Nat.le_refl _⟩ rfl
        · refine WW.if_eqB (pc := 64) 78 dX11_on_64 (by decide) (fun _ => ?_) (fun _ => ?_)
          · refine WW.aload_n (pc := 67) (j := 0) rfl dX11_on_67 ?_
            refine WW.iload_n (pc := 68) (j := 1) rfl dX11_on_68 ?_
            refine WW.iload_n (pc := 69) (j := 2) rfl dX11_on_69 ?_
            refine WW.iload (pc := 70) (j := 4) rfl dX11_on_70 ?_
            refine WW.callV (pc := 72) (As := [.int a1, .int a2, .int x6]) (st := []) lk_X11_250 (okX11_toldBy g ρ hρ r5 a1 a2 x6) h3_3 (sh_3 ρ) ⟨_, _, clk11⟩ rfl (Nat.le_of_ble_eq_true rfl) ⟨Nat.le_of_ble_eq_true rfl, Nat.le_of_ble_eq_true rfl, Nat.le_of_ble_eq_true rfl, Nat.le_of_ble_eq_true rfl⟩ dX11_on_72 rfl (fun r11 hr11 => ?_)
            show WW _ _ _ 75 _ [.int r11] (full r5 ρ) 0 0 _
            refine WW.goto (pc := 75) 79 dX11_on_75 (by decide) ?_
            exact hk10 r11
          · refine WW.iconst (pc := 78) (-1) dX11_on_78 rfl ?_
            exact hk10 (-1)
    · refine WW.iload (pc := 35) (j := 0) rfl dX11_on_35 ?_
      exact WW.ret rfl rfl (show RetI M_X11_on 37 from dX11_on_37) ⟨Nat.le_refl _, Nat.le_refl _⟩ rfl
  · refine WW.join (pj := 24) (Lj := fun (x12 : Unit) => [(0, .ref 3), (1, .int a1), (2, .int a2), (3, .int a3)]) (sj := fun (x12 : Unit) => [.int 1, .int a1, .ref 3]) (hj := fun (x12 : Unit) => full d ρ) (fun x12 => ?_) (fun k13 hk13 => ?_)
    · refine WW.iconst (pc := 24) 0 dX11_on_24 rfl ?_
      exact hk3 false
    · refine WW.if_eqB (pc := 8) 24 dX11_on_8 (by decide) (fun _ => ?_) (fun _ => ?_)
      · refine WW.iload_n (pc := 11) (j := 3) rfl dX11_on_11 ?_
        refine WW.join (pj := 20) (Lj := fun (x14 : Unit) => [(0, .ref 3), (1, .int a1), (2, .int a2), (3, .int a3)]) (sj := fun (x14 : Unit) => [.int 1, .int a1, .ref 3]) (hj := fun (x14 : Unit) => full d ρ) (fun x14 => ?_) (fun k15 hk15 => ?_)
        · refine WW.iconst (pc := 20) 1 dX11_on_20 rfl ?_
          refine WW.goto (pc := 21) 25 dX11_on_21 (by decide) ?_
          exact hk3 true
        · refine WW.if_eq (pc := 12) 20 dX11_on_12 (by decide) (fun _ => ?_) (fun _ => ?_)
          · exact hk15 ()
          · refine WW.iload_n (pc := 15) (j := 3) rfl dX11_on_15 ?_
            refine WW.iconst (pc := 16) 1 dX11_on_16 rfl ?_
            refine WW.icmp_ne (pc := 17) 24 dX11_on_17 (by decide) (fun _ => ?_) (fun _ => ?_)
            · exact hk15 ()
            · exact hk13 ()
      · exact hk13 ()
def fX11_shut (ρ : Rh) (d : Dd) (a1 : Int32) (a2 : Int32) (a3 : Int32) : Option (Int64 × Dd) :=
  (fX1_has ρ d a2).bind fun r1 =>
  (fX11_isPart a3).bind fun r2 =>
  (fX11_refusal ρ d a1 r1 r2).bind fun r3 =>
  if r3 = 0 then
    ((fX11_bit a2).bind fun r4 =>
    (fX11_settle ρ d a1 r4).bind fun r5 =>
    (fX1_everybody ρ r5).bind fun r6 =>
    (fX11_settle ρ r5 a1 r6).bind fun r7 =>
    (fX11_bit a2).bind fun r8 =>
    (fX11_worthOf ρ r7 a1 r8 a2).bind fun r9 =>
    (fX1_everybody ρ r7).bind fun r10 =>
    (fX11_worthOf ρ r7 a1 r10 a2).bind fun r11 =>
    (fX5_wholeWeight ρ r7 ρ.1).bind fun r12 =>
    (fX11_partOf (r9 - r11) r12 a3).bind fun r13 =>
    some (r13, r7))
  else
    ((fX11_refusedPart r3).bind fun r14 =>
    some (r14, d))
set_option maxHeartbeats 4000000 in
set_option maxRecDepth 100000 in
theorem okX11_shut (g : Gx) (ρ : Rh) (hρ : Hr ρ) (d : Dd) (a1 : Int32) (a2 : Int32) (a3 : Int32) : CallR g M_X11_shut (eL ρ) [.ref 3, .int a1, .int a2, .int a3] (full d ρ) (fX11_shut ρ d a1 a2 a3) := by
  refine CallR.intro rfl rfl (Nat.le_of_ble_eq_true rfl) (fun a ha => ⟨_, rfl⟩) ?_
  show WW g _ _ 0 [(0, .ref 3), (1, .int a1), (2, .int a2), (3, .int a3)] [] (full d ρ) 0 0 _
  unfold fX11_shut
  refine WW.aload_n (pc := 0) (j := 0) rfl dX11_shut_0 ?_
  refine WW.iload_n (pc := 1) (j := 1) rfl dX11_shut_1 ?_
  refine WW.aload_n (pc := 2) (j := 0) rfl dX11_shut_2 ?_
  refine WW.sgr (pc := 3) fl_X11_50_11 h3_3 (sh_3 ρ) (Or.inl ⟨_, gt_11_4⟩) (hr_3_4 ρ) dX11_shut_3 ?_
  refine WW.iload_n (pc := 6) (j := 2) rfl dX11_shut_6 ?_
  refine WW.callV (pc := 7) (As := [.int a2]) (st := [.int a1, .ref 3]) lk_X11_127 (okX1_has g ρ hρ d a2) h3_15 (sh_15 ρ) ⟨_, _, clk1⟩ rfl (Nat.le_of_ble_eq_true rfl) ⟨Nat.le_of_ble_eq_true rfl, Nat.le_of_ble_eq_true rfl, Nat.le_of_ble_eq_true rfl, Nat.le_of_ble_eq_true rfl⟩ dX11_shut_7 rfl (fun r1 hr1 => ?_)
  show WW _ _ _ 10 _ [.int (b2i r1), .int a1, .ref 3] (full d ρ) 0 0 _
  refine WW.iload_n (pc := 10) (j := 3) rfl dX11_shut_10 ?_
  refine WW.callS (pc := 11) (As := [.int a3]) (st := [.int (b2i r1), .int a1, .ref 3]) lk_X11_156 (okX11_isPart g ρ hρ d a3) rfl (Nat.le_of_ble_eq_true rfl) ⟨Nat.le_of_ble_eq_true rfl, Nat.le_of_ble_eq_true rfl, Nat.le_of_ble_eq_true rfl, Nat.le_of_ble_eq_true rfl⟩ dX11_shut_11 rfl (fun r2 hr2 => ?_)
  show WW _ _ _ 14 _ [.int (b2i r2), .int (b2i r1), .int a1, .ref 3] (full d ρ) 0 0 _
  refine WW.callV (pc := 14) (As := [.int a1, .int (b2i r1), .int (b2i r2)]) (st := []) lk_X11_159 (okX11_refusal g ρ hρ d a1 r1 r2) h3_3 (sh_3 ρ) ⟨_, _, clk11⟩ rfl (Nat.le_of_ble_eq_true rfl) ⟨Nat.le_of_ble_eq_true rfl, Nat.le_of_ble_eq_true rfl, Nat.le_of_ble_eq_true rfl, Nat.le_of_ble_eq_true rfl⟩ dX11_shut_14 rfl (fun r3 hr3 => ?_)
  show WW _ _ _ 17 _ [.int r3] (full d ρ) 0 0 _
  refine WW.istore (pc := 17) [(4, .int r3), (0, .ref 3), (1, .int a1), (2, .int a2), (3, .int a3)] rfl (by decide) dX11_shut_17 ?_
  refine WW.iload (pc := 19) (j := 0) rfl dX11_shut_19 ?_
  refine WW.if_eq (pc := 21) 30 dX11_shut_21 (by decide) (fun _ => ?_) (fun _ => ?_)
  · refine WW.aload_n (pc := 30) (j := 1) rfl dX11_shut_30 ?_
    refine WW.iload_n (pc := 31) (j := 2) rfl dX11_shut_31 ?_
    refine WW.iload_n (pc := 32) (j := 3) rfl dX11_shut_32 ?_
    refine WW.callS (pc := 33) (As := [.int a2]) (st := [.int a1, .ref 3]) lk_X11_240 (okX11_bit g ρ hρ d a2) rfl (Nat.le_of_ble_eq_true rfl) ⟨Nat.le_of_ble_eq_true rfl, Nat.le_of_ble_eq_true rfl, Nat.le_of_ble_eq_true rfl, Nat.le_of_ble_eq_true rfl⟩ dX11_shut_33 rfl (fun r4 hr4 => ?_)
    show WW _ _ _ 36 _ [.int r4, .int a1, .ref 3] (full d ρ) 0 0 _
    refine WW.callV (pc := 36) (As := [.int a1, .int r4]) (st := []) lk_X11_195 (okX11_settle g ρ hρ d a1 r4) h3_3 (sh_3 ρ) ⟨_, _, clk11⟩ rfl (Nat.le_of_ble_eq_true rfl) ⟨Nat.le_of_ble_eq_true rfl, Nat.le_of_ble_eq_true rfl, Nat.le_of_ble_eq_true rfl, Nat.le_of_ble_eq_true rfl⟩ dX11_shut_36 rfl (fun r5 hr5 => ?_)
    show WW _ _ _ 39 _ [] (full r5 ρ) 0 0 _
    refine WW.aload_n (pc := 39) (j := 1) rfl dX11_shut_39 ?_
    refine WW.iload_n (pc := 40) (j := 2) rfl dX11_shut_40 ?_
    refine WW.aload_n (pc := 41) (j := 1) rfl dX11_shut_41 ?_
    refine WW.sgr (pc := 42) fl_X11_50_11 h3_3 (sh_3 ρ) (Or.inl ⟨_, gt_11_4⟩) (hr_3_4 ρ) dX11_shut_42 ?_
    refine WW.callV (pc := 45) (As := []) (st := [.int a1, .ref 3]) lk_X11_253 (okX1_everybody g ρ hρ r5 ) h3_15 (sh_15 ρ) ⟨_, _, clk1⟩ rfl (Nat.le_of_ble_eq_true rfl) ⟨Nat.le_of_ble_eq_true rfl, Nat.le_of_ble_eq_true rfl, Nat.le_of_ble_eq_true rfl, Nat.le_of_ble_eq_true rfl⟩ dX11_shut_45 rfl (fun r6 hr6 => ?_)
    show WW _ _ _ 48 _ [.int r6, .int a1, .ref 3] (full r5 ρ) 0 0 _
    refine WW.callV (pc := 48) (As := [.int a1, .int r6]) (st := []) lk_X11_195 (okX11_settle g ρ hρ r5 a1 r6) h3_3 (sh_3 ρ) ⟨_, _, clk11⟩ rfl (Nat.le_of_ble_eq_true rfl) ⟨Nat.le_of_ble_eq_true rfl, Nat.le_of_ble_eq_true rfl, Nat.le_of_ble_eq_true rfl, Nat.le_of_ble_eq_true rfl⟩ dX11_shut_48 rfl (fun r7 hr7 => ?_)
    show WW _ _ _ 51 _ [] (full r7 ρ) 0 0 _
    refine WW.aload_n (pc := 51) (j := 1) rfl dX11_shut_51 ?_
    refine WW.iload_n (pc := 52) (j := 2) rfl dX11_shut_52 ?_
    refine WW.iload_n (pc := 53) (j := 3) rfl dX11_shut_53 ?_
    refine WW.callS (pc := 54) (As := [.int a2]) (st := [.int a1, .ref 3]) lk_X11_240 (okX11_bit g ρ hρ r7 a2) rfl (Nat.le_of_ble_eq_true rfl) ⟨Nat.le_of_ble_eq_true rfl, Nat.le_of_ble_eq_true rfl, Nat.le_of_ble_eq_true rfl, Nat.le_of_ble_eq_true rfl⟩ dX11_shut_54 rfl (fun r8 hr8 => ?_)
    show WW _ _ _ 57 _ [.int r8, .int a1, .ref 3] (full r7 ρ) 0 0 _
    refine WW.iload_n (pc := 57) (j := 3) rfl dX11_shut_57 ?_
    refine WW.callV (pc := 58) (As := [.int a1, .int r8, .int a2]) (st := []) lk_X11_217 (okX11_worthOf g ρ hρ r7 a1 r8 a2) h3_3 (sh_3 ρ) ⟨_, _, clk11⟩ rfl (Nat.le_of_ble_eq_true rfl) ⟨Nat.le_of_ble_eq_true rfl, Nat.le_of_ble_eq_true rfl, Nat.le_of_ble_eq_true rfl, Nat.le_of_ble_eq_true rfl⟩ dX11_shut_58 rfl (fun r9 hr9 => ?_)
    show WW _ _ _ 61 _ [.long r9] (full r7 ρ) 0 0 _
    refine WW.lstore (pc := 61) [(5, .long r9), (4, .int r3), (0, .ref 3), (1, .int a1), (2, .int a2), (3, .int a3)] rfl (by decide) dX11_shut_61 ?_
    refine WW.aload_n (pc := 63) (j := 2) rfl dX11_shut_63 ?_
    refine WW.iload_n (pc := 64) (j := 3) rfl dX11_shut_64 ?_
    refine WW.aload_n (pc := 65) (j := 2) rfl dX11_shut_65 ?_
    refine WW.sgr (pc := 66) fl_X11_50_11 h3_3 (sh_3 ρ) (Or.inl ⟨_, gt_11_4⟩) (hr_3_4 ρ) dX11_shut_66 ?_
    refine WW.callV (pc := 69) (As := []) (st := [.int a1, .ref 3]) lk_X11_253 (okX1_everybody g ρ hρ r7 ) h3_15 (sh_15 ρ) ⟨_, _, clk1⟩ rfl (Nat.le_of_ble_eq_true rfl) ⟨Nat.le_of_ble_eq_true rfl, Nat.le_of_ble_eq_true rfl, Nat.le_of_ble_eq_true rfl, Nat.le_of_ble_eq_true rfl⟩ dX11_shut_69 rfl (fun r10 hr10 => ?_)
    show WW _ _ _ 72 _ [.int r10, .int a1, .ref 3] (full r7 ρ) 0 0 _
    refine WW.iload_n (pc := 72) (j := 4) rfl dX11_shut_72 ?_
    refine WW.callV (pc := 73) (As := [.int a1, .int r10, .int a2]) (st := []) lk_X11_217 (okX11_worthOf g ρ hρ r7 a1 r10 a2) h3_3 (sh_3 ρ) ⟨_, _, clk11⟩ rfl (Nat.le_of_ble_eq_true rfl) ⟨Nat.le_of_ble_eq_true rfl, Nat.le_of_ble_eq_true rfl, Nat.le_of_ble_eq_true rfl, Nat.le_of_ble_eq_true rfl⟩ dX11_shut_73 rfl (fun r11 hr11 => ?_)
    show WW _ _ _ 76 _ [.long r11] (full r7 ρ) 0 0 _
    refine WW.lstore (pc := 76) [(7, .long r11), (5, .long r9), (4, .int r3), (0, .ref 3), (1, .int a1), (2, .int a2), (3, .int a3)] rfl (by decide) dX11_shut_76 ?_
    refine WW.lload (pc := 78) (j := 1) rfl dX11_shut_78 ?_
    refine WW.lload (pc := 80) (j := 0) rfl dX11_shut_80 ?_
    refine WW.lsub (pc := 82) dX11_shut_82 ?_
    refine WW.aload_n (pc := 83) (j := 3) rfl dX11_shut_83 ?_
    refine WW.sgr (pc := 84) fl_X11_19_11 h3_3 (sh_3 ρ) (Or.inl ⟨_, gt_11_1⟩) (hr_mk ρ) dX11_shut_84 ?_
    refine WW.callV (pc := 87) (As := []) (st := [.long (r9 - r11)]) lk_X11_175 (okX5_wholeWeight g ρ hρ r7 ρ.1 hρ.1) (mk3 hρ.1) (mkS hρ.1) ⟨_, _, clk5⟩ rfl (Nat.le_of_ble_eq_true rfl) ⟨Nat.le_of_ble_eq_true rfl, Nat.le_of_ble_eq_true rfl, Nat.le_of_ble_eq_true rfl, Nat.le_of_ble_eq_true rfl⟩ dX11_shut_87 rfl (fun r12 hr12 => ?_)
    show WW _ _ _ 90 _ [.long r12, .long (r9 - r11)] (full r7 ρ) 0 0 _
    refine WW.iload_n (pc := 90) (j := 6) rfl dX11_shut_90 ?_
    refine WW.callS (pc := 91) (As := [.long (r9 - r11), .long r12, .int a3]) (st := []) lk_X11_179 (okX11_partOf g ρ hρ r7 (r9 - r11) r12 a3) rfl (Nat.le_of_ble_eq_true rfl) ⟨Nat.le_of_ble_eq_true rfl, Nat.le_of_ble_eq_true rfl, Nat.le_of_ble_eq_true rfl, Nat.le_of_ble_eq_true rfl⟩ dX11_shut_91 rfl (fun r13 hr13 => ?_)
    show WW _ _ _ 94 _ [.long r13] (full r7 ρ) 0 0 _
    exact WW.ret rfl rfl (show RetI M_X11_shut 94 from dX11_shut_94) ⟨Nat.le_refl _, Nat.le_refl _⟩ rfl
  · refine WW.iload (pc := 24) (j := 0) rfl dX11_shut_24 ?_
    refine WW.callS (pc := 26) (As := [.int r3]) (st := []) lk_X11_163 (okX11_refusedPart g ρ hρ d r3) rfl (Nat.le_of_ble_eq_true rfl) ⟨Nat.le_of_ble_eq_true rfl, Nat.le_of_ble_eq_true rfl, Nat.le_of_ble_eq_true rfl, Nat.le_of_ble_eq_true rfl⟩ dX11_shut_26 rfl (fun r14 hr14 => ?_)
    show WW _ _ _ 29 _ [.long r14] (full d ρ) 0 0 _
    exact WW.ret rfl rfl (show RetI M_X11_shut 29 from dX11_shut_29) ⟨Nat.le_refl _, Nat.le_refl _⟩ rfl
def fX3_takeCase (ρ : Rh) (d : Dd) (a1 : Nat) (a2 : Nat) (a3 : Int32) : Option Dd :=
  bnd (dL d 13 0 100) fun d1 =>
  (fX5_valueOf ρ d1 a1 a3).bind fun r2 =>
  bnd (dL d1 13 1 ((d_l d1 13 0) * (Int32.toInt64 r2))) fun d3 =>
  bnd (dL d3 13 2 0) fun d4 =>
  if a2 = 0 then
    (some d4)
  else
    ((fX3_narrow ρ d4 a1 a2).bind fun r6 =>
    some r6)
set_option maxHeartbeats 4000000 in
set_option maxRecDepth 100000 in
theorem okX3_takeCase (g : Gx) (ρ : Rh) (hρ : Hr ρ) (d : Dd) (a1 : Nat) (a2 : Nat) (a3 : Int32) (ho1 : a1 = 6 ∨ a1 = 9) (hnw2 : NwOK ρ a2) : CallR g M_X3_takeCase (eV ρ) [.ref 13, .ref a1, .ref a2, .int a3] (full d ρ) (fX3_takeCase ρ d a1 a2 a3) := by
  refine CallR.intro rfl rfl (Nat.le_of_ble_eq_true rfl) (fun a ha => rfl) ?_
  show WW g _ _ 0 [(0, .ref 13), (1, .ref a1), (2, .ref a2), (3, .int a3)] [] (full d ρ) 0 0 _
  unfold fX3_takeCase
  refine WW.aload_n (pc := 0) (j := 0) rfl dX3_takeCase_0 ?_
  refine WW.ldc2 (pc := 1) wd_530 dX3_takeCase_1 ?_
  refine WW.spl (pc := 4) fp_X3_9_3 h3_13 (sh_13 ρ) gt_3_0 dX3_takeCase_4 (fun d1 => ?_)
  refine WW.aload_n (pc := 7) (j := 0) rfl dX3_takeCase_7 ?_
  refine WW.aload_n (pc := 8) (j := 0) rfl dX3_takeCase_8 ?_
  refine WW.sgl (pc := 9) fl_X3_9_3 h3_13 (sh_13 ρ) gt_3_0 dX3_takeCase_9 ?_
  refine WW.aload_n (pc := 12) (j := 1) rfl dX3_takeCase_12 ?_
  refine WW.iload_n (pc := 13) (j := 3) rfl dX3_takeCase_13 ?_
  refine WW.callV (pc := 14) (As := [.int a3]) (st := [.long (d_l d1 13 0), .ref 13]) lk_X3_37 (okX5_valueOf g ρ hρ d1 a1 a3 ho1) (mk3 ho1) (mkS ho1) ⟨_, _, clk5⟩ rfl (Nat.le_of_ble_eq_true rfl) ⟨Nat.le_of_ble_eq_true rfl, Nat.le_of_ble_eq_true rfl, Nat.le_of_ble_eq_true rfl, Nat.le_of_ble_eq_true rfl⟩ dX3_takeCase_14 rfl (fun r2 hr2 => ?_)
  show WW _ _ _ 17 _ [.int r2, .long (d_l d1 13 0), .ref 13] (full d1 ρ) 0 0 _
  refine WW.i2l (pc := 17) dX3_takeCase_17 ?_
  refine WW.lmul (pc := 18) dX3_takeCase_18 ?_
  refine WW.spl (pc := 19) fp_X3_15_3 h3_13 (sh_13 ρ) gt_3_1 dX3_takeCase_19 (fun d3 => ?_)
  refine WW.aload_n (pc := 22) (j := 0) rfl dX3_takeCase_22 ?_
  refine WW.lconst (pc := 23) 0 dX3_takeCase_23 rfl ?_
  refine WW.spl (pc := 24) fp_X3_18_3 h3_13 (sh_13 ρ) gt_3_2 dX3_takeCase_24 (fun d4 => ?_)
  refine WW.aload_n (pc := 27) (j := 2) rfl dX3_takeCase_27 ?_
  refine WW.ifnull (pc := 28) 37 dX3_takeCase_28 (by decide) (fun _ => ?_) (fun hq5 => ?_)
  · exact WW.ret rfl rfl (show RetI M_X3_takeCase 37 from dX3_takeCase_37) ⟨Nat.le_refl _, Nat.le_refl _⟩ rfl
  · refine WW.aload_n (pc := 31) (j := 0) rfl dX3_takeCase_31 ?_
    refine WW.aload_n (pc := 32) (j := 1) rfl dX3_takeCase_32 ?_
    refine WW.aload_n (pc := 33) (j := 2) rfl dX3_takeCase_33 ?_
    refine WW.callV (pc := 34) (As := [.ref a1, .ref a2]) (st := []) lk_X3_40 (okX3_narrow g ρ hρ d4 a1 a2 ho1 (hnw2.resolve_left hq5)) h3_13 (sh_13 ρ) ⟨_, _, clk3⟩ rfl (Nat.le_of_ble_eq_true rfl) ⟨Nat.le_of_ble_eq_true rfl, Nat.le_of_ble_eq_true rfl, Nat.le_of_ble_eq_true rfl, Nat.le_of_ble_eq_true rfl⟩ dX3_takeCase_34 rfl (fun r6 hr6 => ?_)
    show WW _ _ _ 37 _ [] (full r6 ρ) 0 0 _
    exact WW.ret rfl rfl (show RetI M_X3_takeCase 37 from dX3_takeCase_37) ⟨Nat.le_refl _, Nat.le_refl _⟩ rfl
def fX11_wrongly (ρ : Rh) (d : Dd) (a1 : Int32) (a2 : Int32) (a3 : Int32) (a4 : Int32) (a5 : Int32) (a6 : Int32) : Option (Int64 × Dd) :=
  (fX11_isSet ρ d a2).bind fun r1 =>
  jn (fun (x2 : Bool) =>
    (fX1_has ρ d a5).bind fun r4 =>
    jn (fun (x5 : Bool) =>
      (fX11_refusal ρ d a1 x5 x2).bind fun r7 =>
      if r7 = 0 then
        ((fX11_settle ρ d a1 a2).bind fun r8 =>
        (fX11_dealtFor ρ r8 a1 a2 a3).bind fun r9 =>
        if r9 = (-1) then
          (some ((-1000000000000000004), r8))
        else
          ((fX11_newsAt ρ r8 a1).bind fun r10 =>
          (fX3_takeCase ρ r8 ρ.1 r10 a4).bind fun r11 =>
          (fX2_begin ρ r11 (d_i r11 ρ.1 1) a2).bind fun r12 =>
          (fX2_madeBy ρ r12 r9 a5).bind fun r13 =>
          (fX11_partOf r13.1 (d_l r13.2 13 0) a6).bind fun r14 =>
          some (r14, r13.2)))
      else
        ((fX11_refusedPart r7).bind fun r15 =>
        some (r15, d))
      ) fun k6 =>
    jn (fun (x16 : Unit) =>
      k6 false
      ) fun k17 =>
    if r4 = true then
      ((fX11_isCase ρ d a4).bind fun r18 =>
      if r18 = true then
        (k6 true)
      else
        (k17 ()))
    else
      (k17 ())
    ) fun k3 =>
  jn (fun (x19 : Unit) =>
    k3 false
    ) fun k20 =>
  if r1 = true then
    ((fX11_isSign a3).bind fun r21 =>
    if r21 = true then
      ((fX11_isPart a6).bind fun r22 =>
      if r22 = true then
        (k3 true)
      else
        (k20 ()))
    else
      (k20 ()))
  else
    (k20 ())
set_option maxHeartbeats 4000000 in
set_option maxRecDepth 100000 in
theorem okX11_wrongly (g : Gx) (ρ : Rh) (hρ : Hr ρ) (d : Dd) (a1 : Int32) (a2 : Int32) (a3 : Int32) (a4 : Int32) (a5 : Int32) (a6 : Int32) : CallR g M_X11_wrongly (eL ρ) [.ref 3, .int a1, .int a2, .int a3, .int a4, .int a5, .int a6] (full d ρ) (fX11_wrongly ρ d a1 a2 a3 a4 a5 a6) := by
  refine CallR.intro rfl rfl (Nat.le_of_ble_eq_true rfl) (fun a ha => ⟨_, rfl⟩) ?_
  show WW g _ _ 0 [(0, .ref 3), (1, .int a1), (2, .int a2), (3, .int a3), (4, .int a4), (5, .int a5), (6, .int a6)] [] (full d ρ) 0 0 _
  unfold fX11_wrongly
  refine WW.aload_n (pc := 0) (j := 0) rfl dX11_wrongly_0 ?_
  refine WW.iload_n (pc := 1) (j := 2) rfl dX11_wrongly_1 ?_
  refine WW.callV (pc := 2) (As := [.int a2]) (st := []) lk_X11_192 (okX11_isSet g ρ hρ d a2) h3_3 (sh_3 ρ) ⟨_, _, clk11⟩ rfl (Nat.le_of_ble_eq_true rfl) ⟨Nat.le_of_ble_eq_true rfl, Nat.le_of_ble_eq_true rfl, Nat.le_of_ble_eq_true rfl, Nat.le_of_ble_eq_true rfl⟩ dX11_wrongly_2 rfl (fun r1 hr1 => ?_)
  show WW _ _ _ 5 _ [.int (b2i r1)] (full d ρ) 0 0 _
  refine WW.join (pj := 28) (Lj := fun (x2 : Bool) => [(0, .ref 3), (1, .int a1), (2, .int a2), (3, .int a3), (4, .int a4), (5, .int a5), (6, .int a6)]) (sj := fun (x2 : Bool) => [.int (b2i x2)]) (hj := fun (x2 : Bool) => full d ρ) (fun x2 => ?_) (fun k3 hk3 => ?_)
  · refine WW.istore (pc := 28) [(7, .int (b2i x2)), (0, .ref 3), (1, .int a1), (2, .int a2), (3, .int a3), (4, .int a4), (5, .int a5), (6, .int a6)] rfl (by decide) dX11_wrongly_28 ?_
    refine WW.aload_n (pc := 30) (j := 1) rfl dX11_wrongly_30 ?_
    refine WW.iload_n (pc := 31) (j := 2) rfl dX11_wrongly_31 ?_
    refine WW.aload_n (pc := 32) (j := 1) rfl dX11_wrongly_32 ?_
    refine WW.sgr (pc := 33) fl_X11_50_11 h3_3 (sh_3 ρ) (Or.inl ⟨_, gt_11_4⟩) (hr_3_4 ρ) dX11_wrongly_33 ?_
    refine WW.iload (pc := 36) (j := 6) rfl dX11_wrongly_36 ?_
    refine WW.callV (pc := 38) (As := [.int a5]) (st := [.int a1, .ref 3]) lk_X11_127 (okX1_has g ρ hρ d a5) h3_15 (sh_15 ρ) ⟨_, _, clk1⟩ rfl (Nat.le_of_ble_eq_true rfl) ⟨Nat.le_of_ble_eq_true rfl, Nat.le_of_ble_eq_true rfl, Nat.le_of_ble_eq_true rfl, Nat.le_of_ble_eq_true rfl⟩ dX11_wrongly_38 rfl (fun r4 hr4 => ?_)
    show WW _ _ _ 41 _ [.int (b2i r4), .int a1, .ref 3] (full d ρ) 0 0 _
    refine WW.join (pj := 58) (Lj := fun (x5 : Bool) => [(0, .ref 3), (1, .int a1), (2, .int a2), (3, .int a3), (4, .int a4), (5, .int a5), (6, .int a6), (7, .int (b2i x2))]) (sj := fun (x5 : Bool) => [.int (b2i x5), .int a1, .ref 3]) (hj := fun (x5 : Bool) => full d ρ) (fun x5 => ?_) (fun k6 hk6 => ?_)
    · refine WW.iload (pc := 58) (j := 7) rfl dX11_wrongly_58 ?_
      refine WW.callV (pc := 60) (As := [.int a1, .int (b2i x5), .int (b2i x2)]) (st := []) lk_X11_159 (okX11_refusal g ρ hρ d a1 x5 x2) h3_3 (sh_3 ρ) ⟨_, _, clk11⟩ rfl (Nat.le_of_ble_eq_true rfl) ⟨Nat.le_of_ble_eq_true rfl, Nat.le_of_ble_eq_true rfl, Nat.le_of_ble_eq_true rfl, Nat.le_of_ble_eq_true rfl⟩ dX11_wrongly_60 rfl (fun r7 hr7 => ?_)
      show WW _ _ _ 63 _ [.int r7] (full d ρ) 0 0 _
      refine WW.istore (pc := 63) [(8, .int r7), (0, .ref 3), (1, .int a1), (2, .int a2), (3, .int a3), (4, .int a4), (5, .int a5), (6, .int a6), (7, .int (b2i x2))] rfl (by decide) dX11_wrongly_63 ?_
      refine WW.iload (pc := 65) (j := 0) rfl dX11_wrongly_65 ?_
      refine WW.if_eq (pc := 67) 76 dX11_wrongly_67 (by decide) (fun _ => ?_) (fun _ => ?_)
      · refine WW.aload_n (pc := 76) (j := 1) rfl dX11_wrongly_76 ?_
        refine WW.iload_n (pc := 77) (j := 2) rfl dX11_wrongly_77 ?_
        refine WW.iload_n (pc := 78) (j := 3) rfl dX11_wrongly_78 ?_
        refine WW.callV (pc := 79) (As := [.int a1, .int a2]) (st := []) lk_X11_195 (okX11_settle g ρ hρ d a1 a2) h3_3 (sh_3 ρ) ⟨_, _, clk11⟩ rfl (Nat.le_of_ble_eq_true rfl) ⟨Nat.le_of_ble_eq_true rfl, Nat.le_of_ble_eq_true rfl, Nat.le_of_ble_eq_true rfl, Nat.le_of_ble_eq_true rfl⟩ dX11_wrongly_79 rfl (fun r8 hr8 => ?_)
        show WW _ _ _ 82 _ [] (full r8 ρ) 0 0 _
        refine WW.aload_n (pc := 82) (j := 1) rfl dX11_wrongly_82 ?_
        refine WW.iload_n (pc := 83) (j := 2) rfl dX11_wrongly_83 ?_
        refine WW.iload_n (pc := 84) (j := 3) rfl dX11_wrongly_84 ?_
        refine WW.iload_n (pc := 85) (j := 4) rfl dX11_wrongly_85 ?_
        refine WW.callV (pc := 86) (As := [.int a1, .int a2, .int a3]) (st := []) lk_X11_199 (okX11_dealtFor g ρ hρ r8 a1 a2 a3) h3_3 (sh_3 ρ) ⟨_, _, clk11⟩ rfl (Nat.le_of_ble_eq_true rfl) ⟨Nat.le_of_ble_eq_true rfl, Nat.le_of_ble_eq_true rfl, Nat.le_of_ble_eq_true rfl, Nat.le_of_ble_eq_true rfl⟩ dX11_wrongly_86 rfl (fun r9 hr9 => ?_)
        show WW _ _ _ 89 _ [.int r9] (full r8 ρ) 0 0 _
        refine WW.istore (pc := 89) [(9, .int r9), (8, .int r7), (0, .ref 3), (1, .int a1), (2, .int a2), (3, .int a3), (4, .int a4), (5, .int a5), (6, .int a6), (7, .int (b2i x2))] rfl (by decide) dX11_wrongly_89 ?_
        refine WW.iload (pc := 91) (j := 0) rfl dX11_wrongly_91 ?_
        refine WW.iconst (pc := 93) (-1) dX11_wrongly_93 rfl ?_
        refine WW.icmp_ne (pc := 94) 101 dX11_wrongly_94 (by decide) (fun _ => ?_) (fun _ => ?_)
        · refine WW.ldc2 (pc := 97) wd_545 dX11_wrongly_97 ?_
          exact WW.ret rfl rfl (show RetI M_X11_wrongly 100 from dX11_wrongly_100) ⟨Nat.le_refl _, Nat.le_refl _⟩ rfl
        · refine WW.aload_n (pc := 101) (j := 2) rfl dX11_wrongly_101 ?_
          refine WW.sgr (pc := 102) fl_X11_35_11 h3_3 (sh_3 ρ) (Or.inl ⟨_, gt_11_8⟩) (hr_3_8 ρ) dX11_wrongly_102 ?_
          refine WW.aload_n (pc := 105) (j := 2) rfl dX11_wrongly_105 ?_
          refine WW.sgr (pc := 106) fl_X11_19_11 h3_3 (sh_3 ρ) (Or.inl ⟨_, gt_11_1⟩) (hr_mk ρ) dX11_wrongly_106 ?_
          refine WW.aload_n (pc := 109) (j := 2) rfl dX11_wrongly_109 ?_
          refine WW.iload_n (pc := 110) (j := 3) rfl dX11_wrongly_110 ?_
          refine WW.callV (pc := 111) (As := [.int a1]) (st := [.ref ρ.1, .ref 13]) lk_X11_146 (okX11_newsAt g ρ hρ r8 a1) h3_3 (sh_3 ρ) ⟨_, _, clk11⟩ rfl (Nat.le_of_ble_eq_true rfl) ⟨Nat.le_of_ble_eq_true rfl, Nat.le_of_ble_eq_true rfl, Nat.le_of_ble_eq_true rfl, Nat.le_of_ble_eq_true rfl⟩ dX11_wrongly_111 rfl (fun r10 hr10 => ?_)
          show WW _ _ _ 114 _ [.ref r10, .ref ρ.1, .ref 13] (full r8 ρ) 0 0 _
          refine WW.iload (pc := 114) (j := 6) rfl dX11_wrongly_114 ?_
          refine WW.callV (pc := 116) (As := [.ref ρ.1, .ref r10, .int a4]) (st := []) lk_X11_257 (okX3_takeCase g ρ hρ r8 ρ.1 r10 a4 hρ.1 (nwAt hρ hr10)) h3_13 (sh_13 ρ) ⟨_, _, clk3⟩ rfl (Nat.le_of_ble_eq_true rfl) ⟨Nat.le_of_ble_eq_true rfl, Nat.le_of_ble_eq_true rfl, Nat.le_of_ble_eq_true rfl, Nat.le_of_ble_eq_true rfl⟩ dX11_wrongly_116 rfl (fun r11 hr11 => ?_)
          show WW _ _ _ 119 _ [] (full r11 ρ) 0 0 _
          refine WW.aload_n (pc := 119) (j := 2) rfl dX11_wrongly_119 ?_
          refine WW.sgr (pc := 120) fl_X11_42_11 h3_3 (sh_3 ρ) (Or.inl ⟨_, gt_11_9⟩) (hr_3_9 ρ) dX11_wrongly_120 ?_
          refine WW.aload_n (pc := 123) (j := 2) rfl dX11_wrongly_123 ?_
          refine WW.sgr (pc := 124) fl_X11_35_11 h3_3 (sh_3 ρ) (Or.inl ⟨_, gt_11_8⟩) (hr_3_8 ρ) dX11_wrongly_124 ?_
          refine WW.aload_n (pc := 127) (j := 2) rfl dX11_wrongly_127 ?_
          refine WW.sgr (pc := 128) fl_X11_19_11 h3_3 (sh_3 ρ) (Or.inl ⟨_, gt_11_1⟩) (hr_mk ρ) dX11_wrongly_128 ?_
          refine WW.sgi (pc := 131) fl_X11_106_5 (mk3 hρ.1) (mkS hρ.1) (Or.inl gt_5_1) dX11_wrongly_131 ?_
          refine WW.iload_n (pc := 134) (j := 4) rfl dX11_wrongly_134 ?_
          refine WW.callV (pc := 135) (As := [.ref 13, .int (d_i r11 ρ.1 1), .int a2]) (st := []) lk_X11_203 (okX2_begin g ρ hρ r11 (d_i r11 ρ.1 1) a2) h3_14 (sh_14 ρ) ⟨_, _, clk2⟩ rfl (Nat.le_of_ble_eq_true rfl) ⟨Nat.le_of_ble_eq_true rfl, Nat.le_of_ble_eq_true rfl, Nat.le_of_ble_eq_true rfl, Nat.le_of_ble_eq_true rfl⟩ dX11_wrongly_135 rfl (fun r12 hr12 => ?_)
          show WW _ _ _ 138 _ [] (full r12 ρ) 0 0 _
          refine WW.aload_n (pc := 138) (j := 2) rfl dX11_wrongly_138 ?_
          refine WW.sgr (pc := 139) fl_X11_42_11 h3_3 (sh_3 ρ) (Or.inl ⟨_, gt_11_9⟩) (hr_3_9 ρ) dX11_wrongly_139 ?_
          refine WW.iload (pc := 142) (j := 0) rfl dX11_wrongly_142 ?_
          refine WW.iload (pc := 144) (j := 7) rfl dX11_wrongly_144 ?_
          refine WW.callV (pc := 146) (As := [.int r9, .int a5]) (st := []) lk_X11_213 (okX2_madeBy g ρ hρ r12 r9 a5) h3_14 (sh_14 ρ) ⟨_, _, clk2⟩ rfl (Nat.le_of_ble_eq_true rfl) ⟨Nat.le_of_ble_eq_true rfl, Nat.le_of_ble_eq_true rfl, Nat.le_of_ble_eq_true rfl, Nat.le_of_ble_eq_true rfl⟩ dX11_wrongly_146 rfl (fun r13 hr13 => ?_)
          show WW _ _ _ 149 _ [.long r13.1] (full r13.2 ρ) 0 0 _
          refine WW.aload_n (pc := 149) (j := 2) rfl dX11_wrongly_149 ?_
          refine WW.sgr (pc := 150) fl_X11_35_11 h3_3 (sh_3 ρ) (Or.inl ⟨_, gt_11_8⟩) (hr_3_8 ρ) dX11_wrongly_150 ?_
          refine WW.sgl (pc := 153) fl_X11_171_3 h3_13 (sh_13 ρ) gt_3_0 dX11_wrongly_153 ?_
          refine WW.iload (pc := 156) (j := 8) rfl dX11_wrongly_156 ?_
          refine WW.callS (pc := 158) (As := [.long r13.1, .long (d_l r13.2 13 0), .int a6]) (st := []) lk_X11_179 (okX11_partOf g ρ hρ r13.2 r13.1 (d_l r13.2 13 0) a6) rfl (Nat.le_of_ble_eq_true rfl) ⟨Nat.le_of_ble_eq_true rfl, Nat.le_of_ble_eq_true rfl, Nat.le_of_ble_eq_true rfl, Nat.le_of_ble_eq_true rfl⟩ dX11_wrongly_158 rfl (fun r14 hr14 => ?_)
          show WW _ _ _ 161 _ [.long r14] (full r13.2 ρ) 0 0 _
          exact WW.ret rfl rfl (show RetI M_X11_wrongly 161 from dX11_wrongly_161) ⟨Nat.le_refl _, Nat.le_refl _⟩ rfl
      · refine WW.iload (pc := 70) (j := 0) rfl dX11_wrongly_70 ?_
        refine WW.callS (pc := 72) (As := [.int r7]) (st := []) lk_X11_163 (okX11_refusedPart g ρ hρ d r7) rfl (Nat.le_of_ble_eq_true rfl) ⟨Nat.le_of_ble_eq_true rfl, Nat.le_of_ble_eq_true rfl, Nat.le_of_ble_eq_true rfl, Nat.le_of_ble_eq_true rfl⟩ dX11_wrongly_72 rfl (fun r15 hr15 => ?_)
        show WW _ _ _ 75 _ [.long r15] (full d ρ) 0 0 _
        exact WW.ret rfl rfl (show RetI M_X11_wrongly 75 from dX11_wrongly_75) ⟨Nat.le_refl _, Nat.le_refl _⟩ rfl
    · refine WW.join (pj := 57) (Lj := fun (x16 : Unit) => [(0, .ref 3), (1, .int a1), (2, .int a2), (3, .int a3), (4, .int a4), (5, .int a5), (6, .int a6), (7, .int (b2i x2))]) (sj := fun (x16 : Unit) => [.int a1, .ref 3]) (hj := fun (x16 : Unit) => full d ρ) (fun x16 => ?_) (fun k17 hk17 => ?_)
      · refine WW.iconst (pc := 57) 0 dX11_wrongly_57 rfl ?_
        exact hk6 false
      · refine WW.if_eqB (pc := 41) 57 dX11_wrongly_41 (by decide) (fun _ => ?_) (fun _ => ?_)
        · refine WW.aload_n (pc := 44) (j := 1) rfl dX11_wrongly_44 ?_
          refine WW.iload (pc := 45) (j := 5) rfl dX11_wrongly_45 ?_
          refine WW.callV (pc := 47) (As := [.int a4]) (st := [.int a1, .ref 3]) lk_X11_99 (okX11_isCase g ρ hρ d a4) h3_3 (sh_3 ρ) ⟨_, _, clk11⟩ rfl (Nat.le_of_ble_eq_true rfl) ⟨Nat.le_of_ble_eq_true rfl, Nat.le_of_ble_eq_true rfl, Nat.le_of_ble_eq_true rfl, Nat.le_of_ble_eq_true rfl⟩ dX11_wrongly_47 rfl (fun r18 hr18 => ?_)
          show WW _ _ _ 50 _ [.int (b2i r18), .int a1, .ref 3] (full d ρ) 0 0 _
          refine WW.if_eqB (pc := 50) 57 dX11_wrongly_50 (by decide) (fun _ => ?_) (fun _ => ?_)
          · refine WW.iconst (pc := 53) 1 dX11_wrongly_53 rfl ?_
            refine WW.goto (pc := 54) 58 dX11_wrongly_54 (by decide) ?_
            refine WW.sub [1, 2, 3, 4, 5, 6, 7, 0] rfl ?_
            exact hk6 true
          · refine WW.sub [1, 2, 3, 4, 5, 6, 7, 0] rfl ?_
            exact hk17 ()
        · refine WW.sub [1, 2, 3, 4, 5, 6, 7, 0] rfl ?_
          exact hk17 ()
  · refine WW.join (pj := 27) (Lj := fun (x19 : Unit) => [(0, .ref 3), (1, .int a1), (2, .int a2), (3, .int a3), (4, .int a4), (5, .int a5), (6, .int a6)]) (sj := fun (x19 : Unit) => []) (hj := fun (x19 : Unit) => full d ρ) (fun x19 => ?_) (fun k20 hk20 => ?_)
    · refine WW.iconst (pc := 27) 0 dX11_wrongly_27 rfl ?_
      exact hk3 false
    · refine WW.if_eqB (pc := 5) 27 dX11_wrongly_5 (by decide) (fun _ => ?_) (fun _ => ?_)
      · refine WW.iload_n (pc := 8) (j := 3) rfl dX11_wrongly_8 ?_
        refine WW.callS (pc := 9) (As := [.int a3]) (st := []) lk_X11_153 (okX11_isSign g ρ hρ d a3) rfl (Nat.le_of_ble_eq_true rfl) ⟨Nat.le_of_ble_eq_true rfl, Nat.le_of_ble_eq_true rfl, Nat.le_of_ble_eq_true rfl, Nat.le_of_ble_eq_true rfl⟩ dX11_wrongly_9 rfl (fun r21 hr21 => ?_)
        show WW _ _ _ 12 _ [.int (b2i r21)] (full d ρ) 0 0 _
        refine WW.if_eqB (pc := 12) 27 dX11_wrongly_12 (by decide) (fun _ => ?_) (fun _ => ?_)
        · refine WW.iload (pc := 15) (j := 6) rfl dX11_wrongly_15 ?_
          refine WW.callS (pc := 17) (As := [.int a6]) (st := []) lk_X11_156 (okX11_isPart g ρ hρ d a6) rfl (Nat.le_of_ble_eq_true rfl) ⟨Nat.le_of_ble_eq_true rfl, Nat.le_of_ble_eq_true rfl, Nat.le_of_ble_eq_true rfl, Nat.le_of_ble_eq_true rfl⟩ dX11_wrongly_17 rfl (fun r22 hr22 => ?_)
          show WW _ _ _ 20 _ [.int (b2i r22)] (full d ρ) 0 0 _
          refine WW.if_eqB (pc := 20) 27 dX11_wrongly_20 (by decide) (fun _ => ?_) (fun _ => ?_)
          · refine WW.iconst (pc := 23) 1 dX11_wrongly_23 rfl ?_
            refine WW.goto (pc := 24) 28 dX11_wrongly_24 (by decide) ?_
            exact hk3 true
          · exact hk20 ()
        · exact hk20 ()
      · exact hk20 ()
def fX1_stepsOf (ρ : Rh) (d : Dd) (a1 : Int32) : Option Int32 :=
  lp (fun self2 (x1 : Int32 × Int32) =>
    if (d_i d 15 2) ≤ x1.2 then
      (some x1.1)
    else
      ((fX1_stepOf ρ d a1 x1.2).bind fun r3 =>
      bnd ((x1.1 + r3) : Int32) fun v4 =>
      self2 (v4, (x1.2 + 1)))
    ) 6000 (0, 0)
set_option maxHeartbeats 4000000 in
set_option maxRecDepth 100000 in
theorem okX1_stepsOf (g : Gx) (ρ : Rh) (hρ : Hr ρ) (d : Dd) (a1 : Int32) : CallR g M_X1_stepsOf (eIp ρ d) [.ref 15, .int a1] (full d ρ) (fX1_stepsOf ρ d a1) := by
  refine CallR.intro rfl rfl (Nat.le_of_ble_eq_true rfl) (fun a ha => ⟨_, rfl⟩) ?_
  show WW g _ _ 0 [(0, .ref 15), (1, .int a1)] [] (full d ρ) 0 0 _
  unfold fX1_stepsOf
  refine WW.iconst (pc := 0) 0 dX1_stepsOf_0 rfl ?_
  refine WW.istore_n (pc := 1) [(2, .int 0), (0, .ref 15), (1, .int a1)] rfl (by decide) dX1_stepsOf_1 ?_
  refine WW.iconst (pc := 2) 0 dX1_stepsOf_2 rfl ?_
  refine WW.istore_n (pc := 3) [(3, .int 0), (2, .int 0), (0, .ref 15), (1, .int a1)] rfl (by decide) dX1_stepsOf_3 ?_
  refine WW.sub [2, 3, 1, 0] rfl ?_
  refine WW.loop (pc := 4) (Lj := fun (x1 : Int32 × Int32) => [(0, .ref 15), (1, .int a1), (2, .int x1.1), (3, .int x1.2)]) (hj := fun (x1 : Int32 × Int32) => full d ρ) (fun self2 hself2 x1 => ?_) 6000 (0, 0)
  refine WW.iload_n (pc := 4) (j := 3) rfl dX1_stepsOf_4 ?_
  refine WW.aload_n (pc := 5) (j := 0) rfl dX1_stepsOf_5 ?_
  refine WW.sgi (pc := 6) fl_X1_21_1 h3_15 (sh_15 ρ) (Or.inl gt_1_2) dX1_stepsOf_6 ?_
  refine WW.icmp_ge (pc := 9) 26 dX1_stepsOf_9 (by decide) (fun _ => ?_) (fun _ => ?_)
  · refine WW.iload_n (pc := 26) (j := 2) rfl dX1_stepsOf_26 ?_
    exact WW.ret rfl rfl (show RetI M_X1_stepsOf 27 from dX1_stepsOf_27) ⟨Nat.le_refl _, Nat.le_refl _⟩ rfl
  · refine WW.iload_n (pc := 12) (j := 2) rfl dX1_stepsOf_12 ?_
    refine WW.iload_n (pc := 13) (j := 1) rfl dX1_stepsOf_13 ?_
    refine WW.iload_n (pc := 14) (j := 3) rfl dX1_stepsOf_14 ?_
    refine WW.callS (pc := 15) (As := [.int a1, .int x1.2]) (st := [.int x1.1]) lk_X1_37 (okX1_stepOf g ρ hρ d a1 x1.2) rfl (Nat.le_of_ble_eq_true rfl) ⟨Nat.le_of_ble_eq_true rfl, Nat.le_of_ble_eq_true rfl, Nat.le_of_ble_eq_true rfl, Nat.le_of_ble_eq_true rfl⟩ dX1_stepsOf_15 rfl (fun r3 hr3 => ?_)
    show WW _ _ _ 18 _ [.int r3, .int x1.1] (full d ρ) 0 0 _
    refine WW.iadd (pc := 18) dX1_stepsOf_18 ?_
    refine WW.nmi (fun v4 => ?_)
    refine WW.istore_n (pc := 19) [(2, .int v4), (0, .ref 15), (1, .int a1), (3, .int x1.2)] rfl (by decide) dX1_stepsOf_19 ?_
    refine WW.iinc (pc := 20) (j := 3) (x1.2 + 1) [(3, .int (x1.2 + 1)), (2, .int v4), (0, .ref 15), (1, .int a1)] rfl rfl rfl (by decide) dX1_stepsOf_20 ?_
    refine WW.goto (pc := 23) 4 dX1_stepsOf_23 (by decide) ?_
    refine WW.sub [2, 3, 1, 0] rfl ?_
    exact hself2 (v4, (x1.2 + 1))
def fX11_lookAlike (ρ : Rh) (d : Dd) (a1 : Int32) (a2 : Int32) (a3 : Int32) (a4 : Int32) : Option Bool :=
  (fX11_dealtFor ρ d a1 a2 a3).bind fun r1 =>
  (fX11_dealtFor ρ d a1 a2 a4).bind fun r2 =>
  if r1 = (-1) then
    (some false)
  else
    (if r2 = (-1) then
      (some false)
    else
      ((fX1_stepsOf ρ d r1).bind fun r3 =>
      (fX1_stepsOf ρ d r2).bind fun r4 =>
      if r3 = r4 then
        (some true)
      else
        (some false)))
set_option maxHeartbeats 4000000 in
set_option maxRecDepth 100000 in
theorem okX11_lookAlike (g : Gx) (ρ : Rh) (hρ : Hr ρ) (d : Dd) (a1 : Int32) (a2 : Int32) (a3 : Int32) (a4 : Int32) : CallR g M_X11_lookAlike (eZp ρ d) [.ref 3, .int a1, .int a2, .int a3, .int a4] (full d ρ) (fX11_lookAlike ρ d a1 a2 a3 a4) := by
  refine CallR.intro rfl rfl (Nat.le_of_ble_eq_true rfl) (fun a ha => ⟨_, rfl⟩) ?_
  show WW g _ _ 0 [(0, .ref 3), (1, .int a1), (2, .int a2), (3, .int a3), (4, .int a4)] [] (full d ρ) 0 0 _
  unfold fX11_lookAlike
  refine WW.aload_n (pc := 0) (j := 0) rfl dX11_lookAlike_0 ?_
  refine WW.iload_n (pc := 1) (j := 1) rfl dX11_lookAlike_1 ?_
  refine WW.iload_n (pc := 2) (j := 2) rfl dX11_lookAlike_2 ?_
  refine WW.iload_n (pc := 3) (j := 3) rfl dX11_lookAlike_3 ?_
  refine WW.callV (pc := 4) (As := [.int a1, .int a2, .int a3]) (st := []) lk_X11_199 (okX11_dealtFor g ρ hρ d a1 a2 a3) h3_3 (sh_3 ρ) ⟨_, _, clk11⟩ rfl (Nat.le_of_ble_eq_true rfl) ⟨Nat.le_of_ble_eq_true rfl, Nat.le_of_ble_eq_true rfl, Nat.le_of_ble_eq_true rfl, Nat.le_of_ble_eq_true rfl⟩ dX11_lookAlike_4 rfl (fun r1 hr1 => ?_)
  show WW _ _ _ 7 _ [.int r1] (full d ρ) 0 0 _
  refine WW.istore (pc := 7) [(5, .int r1), (0, .ref 3), (1, .int a1), (2, .int a2), (3, .int a3), (4, .int a4)] rfl (by decide) dX11_lookAlike_7 ?_
  refine WW.aload_n (pc := 9) (j := 1) rfl dX11_lookAlike_9 ?_
  refine WW.iload_n (pc := 10) (j := 2) rfl dX11_lookAlike_10 ?_
  refine WW.iload_n (pc := 11) (j := 3) rfl dX11_lookAlike_11 ?_
  refine WW.iload (pc := 12) (j := 5) rfl dX11_lookAlike_12 ?_
  refine WW.callV (pc := 14) (As := [.int a1, .int a2, .int a4]) (st := []) lk_X11_199 (okX11_dealtFor g ρ hρ d a1 a2 a4) h3_3 (sh_3 ρ) ⟨_, _, clk11⟩ rfl (Nat.le_of_ble_eq_true rfl) ⟨Nat.le_of_ble_eq_true rfl, Nat.le_of_ble_eq_true rfl, Nat.le_of_ble_eq_true rfl, Nat.le_of_ble_eq_true rfl⟩ dX11_lookAlike_14 rfl (fun r2 hr2 => ?_)
  show WW _ _ _ 17 _ [.int r2] (full d ρ) 0 0 _
  refine WW.istore (pc := 17) [(6, .int r2), (5, .int r1), (0, .ref 3), (1, .int a1), (2, .int a2), (3, .int a3), (4, .int a4)] rfl (by decide) dX11_lookAlike_17 ?_
  refine WW.iload (pc := 19) (j := 1) rfl dX11_lookAlike_19 ?_
  refine WW.iconst (pc := 21) (-1) dX11_lookAlike_21 rfl ?_
  refine WW.icmp_eq (pc := 22) 56 dX11_lookAlike_22 (by decide) (fun _ => ?_) (fun _ => ?_)
  · refine WW.iconst (pc := 56) 0 dX11_lookAlike_56 rfl ?_
    exact WW.ret rfl rfl (show RetI M_X11_lookAlike 57 from dX11_lookAlike_57) ⟨Nat.le_refl _, Nat.le_refl _⟩ rfl
  · refine WW.iload (pc := 25) (j := 0) rfl dX11_lookAlike_25 ?_
    refine WW.iconst (pc := 27) (-1) dX11_lookAlike_27 rfl ?_
    refine WW.icmp_eq (pc := 28) 56 dX11_lookAlike_28 (by decide) (fun _ => ?_) (fun _ => ?_)
    · refine WW.iconst (pc := 56) 0 dX11_lookAlike_56 rfl ?_
      exact WW.ret rfl rfl (show RetI M_X11_lookAlike 57 from dX11_lookAlike_57) ⟨Nat.le_refl _, Nat.le_refl _⟩ rfl
    · refine WW.aload_n (pc := 31) (j := 2) rfl dX11_lookAlike_31 ?_
      refine WW.sgr (pc := 32) fl_X11_50_11 h3_3 (sh_3 ρ) (Or.inl ⟨_, gt_11_4⟩) (hr_3_4 ρ) dX11_lookAlike_32 ?_
      refine WW.iload (pc := 35) (j := 1) rfl dX11_lookAlike_35 ?_
      refine WW.callV (pc := 37) (As := [.int r1]) (st := []) lk_X11_352 (okX1_stepsOf g ρ hρ d r1) h3_15 (sh_15 ρ) ⟨_, _, clk1⟩ rfl (Nat.le_of_ble_eq_true rfl) ⟨Nat.le_of_ble_eq_true rfl, Nat.le_of_ble_eq_true rfl, Nat.le_of_ble_eq_true rfl, Nat.le_of_ble_eq_true rfl⟩ dX11_lookAlike_37 rfl (fun r3 hr3 => ?_)
      show WW _ _ _ 40 _ [.int r3] (full d ρ) 0 0 _
      refine WW.aload_n (pc := 40) (j := 2) rfl dX11_lookAlike_40 ?_
      refine WW.sgr (pc := 41) fl_X11_50_11 h3_3 (sh_3 ρ) (Or.inl ⟨_, gt_11_4⟩) (hr_3_4 ρ) dX11_lookAlike_41 ?_
      refine WW.iload (pc := 44) (j := 0) rfl dX11_lookAlike_44 ?_
      refine WW.callV (pc := 46) (As := [.int r2]) (st := [.int r3]) lk_X11_352 (okX1_stepsOf g ρ hρ d r2) h3_15 (sh_15 ρ) ⟨_, _, clk1⟩ rfl (Nat.le_of_ble_eq_true rfl) ⟨Nat.le_of_ble_eq_true rfl, Nat.le_of_ble_eq_true rfl, Nat.le_of_ble_eq_true rfl, Nat.le_of_ble_eq_true rfl⟩ dX11_lookAlike_46 rfl (fun r4 hr4 => ?_)
      show WW _ _ _ 49 _ [.int r4, .int r3] (full d ρ) 0 0 _
      refine WW.icmp_ne (pc := 49) 56 dX11_lookAlike_49 (by decide) (fun _ => ?_) (fun _ => ?_)
      · refine WW.iconst (pc := 52) 1 dX11_lookAlike_52 rfl ?_
        refine WW.goto (pc := 53) 57 dX11_lookAlike_53 (by decide) ?_
        exact WW.ret rfl rfl (show RetI M_X11_lookAlike 57 from dX11_lookAlike_57) ⟨Nat.le_refl _, Nat.le_refl _⟩ rfl
      · refine WW.iconst (pc := 56) 0 dX11_lookAlike_56 rfl ?_
        exact WW.ret rfl rfl (show RetI M_X11_lookAlike 57 from dX11_lookAlike_57) ⟨Nat.le_refl _, Nat.le_refl _⟩ rfl
def fX11_looksLikeEarlier (ρ : Rh) (d : Dd) (a1 : Int32) (a2 : Int32) (a3 : Int32) : Option Bool :=
  lp (fun self2 (x1 : Int32) =>
    if a3 ≤ x1 then
      (some false)
    else
      ((fX11_lookAlike ρ d a1 a2 a3 x1).bind fun r3 =>
      if r3 = true then
        (some true)
      else
        (self2 (x1 + 1)))
    ) 6000 (0)
set_option maxHeartbeats 4000000 in
set_option maxRecDepth 100000 in
theorem okX11_looksLikeEarlier (g : Gx) (ρ : Rh) (hρ : Hr ρ) (d : Dd) (a1 : Int32) (a2 : Int32) (a3 : Int32) : CallR g M_X11_looksLikeEarlier (eZp ρ d) [.ref 3, .int a1, .int a2, .int a3] (full d ρ) (fX11_looksLikeEarlier ρ d a1 a2 a3) := by
  refine CallR.intro rfl rfl (Nat.le_of_ble_eq_true rfl) (fun a ha => ⟨_, rfl⟩) ?_
  show WW g _ _ 0 [(0, .ref 3), (1, .int a1), (2, .int a2), (3, .int a3)] [] (full d ρ) 0 0 _
  unfold fX11_looksLikeEarlier
  refine WW.iconst (pc := 0) 0 dX11_looksLikeEarlier_0 rfl ?_
  refine WW.istore (pc := 1) [(4, .int 0), (0, .ref 3), (1, .int a1), (2, .int a2), (3, .int a3)] rfl (by decide) dX11_looksLikeEarlier_1 ?_
  refine WW.sub [1, 2, 3, 4, 0] rfl ?_
  refine WW.loop (pc := 3) (Lj := fun (x1 : Int32) => [(0, .ref 3), (1, .int a1), (2, .int a2), (3, .int a3), (4, .int x1)]) (hj := fun (x1 : Int32) => full d ρ) (fun self2 hself2 x1 => ?_) 6000 (0)
  refine WW.iload (pc := 3) (j := 4) rfl dX11_looksLikeEarlier_3 ?_
  refine WW.iload_n (pc := 5) (j := 3) rfl dX11_looksLikeEarlier_5 ?_
  refine WW.icmp_ge (pc := 6) 29 dX11_looksLikeEarlier_6 (by decide) (fun _ => ?_) (fun _ => ?_)
  · refine WW.iconst (pc := 29) 0 dX11_looksLikeEarlier_29 rfl ?_
    exact WW.ret rfl rfl (show RetI M_X11_looksLikeEarlier 30 from dX11_looksLikeEarlier_30) ⟨Nat.le_refl _, Nat.le_refl _⟩ rfl
  · refine WW.aload_n (pc := 9) (j := 0) rfl dX11_looksLikeEarlier_9 ?_
    refine WW.iload_n (pc := 10) (j := 1) rfl dX11_looksLikeEarlier_10 ?_
    refine WW.iload_n (pc := 11) (j := 2) rfl dX11_looksLikeEarlier_11 ?_
    refine WW.iload_n (pc := 12) (j := 3) rfl dX11_looksLikeEarlier_12 ?_
    refine WW.iload (pc := 13) (j := 4) rfl dX11_looksLikeEarlier_13 ?_
    refine WW.callV (pc := 15) (As := [.int a1, .int a2, .int a3, .int x1]) (st := []) lk_X11_264 (okX11_lookAlike g ρ hρ d a1 a2 a3 x1) h3_3 (sh_3 ρ) ⟨_, _, clk11⟩ rfl (Nat.le_of_ble_eq_true rfl) ⟨Nat.le_of_ble_eq_true rfl, Nat.le_of_ble_eq_true rfl, Nat.le_of_ble_eq_true rfl, Nat.le_of_ble_eq_true rfl⟩ dX11_looksLikeEarlier_15 rfl (fun r3 hr3 => ?_)
    show WW _ _ _ 18 _ [.int (b2i r3)] (full d ρ) 0 0 _
    refine WW.if_eqB (pc := 18) 23 dX11_looksLikeEarlier_18 (by decide) (fun _ => ?_) (fun _ => ?_)
    · refine WW.iconst (pc := 21) 1 dX11_looksLikeEarlier_21 rfl ?_
      exact WW.ret rfl rfl (show RetI M_X11_looksLikeEarlier 22 from dX11_looksLikeEarlier_22) ⟨Nat.le_refl _, Nat.le_refl _⟩ rfl
    · refine WW.iinc (pc := 23) (j := 4) (x1 + 1) [(4, .int (x1 + 1)), (0, .ref 3), (1, .int a1), (2, .int a2), (3, .int a3)] rfl rfl rfl (by decide) dX11_looksLikeEarlier_23 ?_
      refine WW.goto (pc := 26) 3 dX11_looksLikeEarlier_26 (by decide) ?_
      refine WW.sub [1, 2, 3, 4, 0] rfl ?_
      exact hself2 (x1 + 1)
def fX11_shown (ρ : Rh) (d : Dd) (a1 : Int32) (a2 : Int32) : Option (Int32 × Dd) :=
  (fX11_isSet ρ d a2).bind fun r1 =>
  (fX11_refusal ρ d a1 true r1).bind fun r2 =>
  if r2 = 0 then
    ((fX11_settle ρ d a1 a2).bind fun r3 =>
    lp (fun self5 (x4 : Int32 × Int32) =>
      if 4 ≤ x4.2 then
        (some (x4.1, r3))
      else
        ((fX11_dealtFor ρ r3 a1 a2 x4.2).bind fun r6 =>
        jn (fun (x7 : Int32) =>
          self5 (x7, (x4.2 + 1))
          ) fun k8 =>
        if r6 = (-1) then
          (k8 x4.1)
        else
          ((fX11_looksLikeEarlier ρ r3 a1 a2 x4.2).bind fun r9 =>
          if r9 = true then
            (k8 x4.1)
          else
            (k8 (x4.1 + 1))))
      ) 6000 (0, 0))
  else
    (some (r2, d))
set_option maxHeartbeats 4000000 in
set_option maxRecDepth 100000 in
theorem okX11_shown (g : Gx) (ρ : Rh) (hρ : Hr ρ) (d : Dd) (a1 : Int32) (a2 : Int32) : CallR g M_X11_shown (eI ρ) [.ref 3, .int a1, .int a2] (full d ρ) (fX11_shown ρ d a1 a2) := by
  refine CallR.intro rfl rfl (Nat.le_of_ble_eq_true rfl) (fun a ha => ⟨_, rfl⟩) ?_
  show WW g _ _ 0 [(0, .ref 3), (1, .int a1), (2, .int a2)] [] (full d ρ) 0 0 _
  unfold fX11_shown
  refine WW.aload_n (pc := 0) (j := 0) rfl dX11_shown_0 ?_
  refine WW.iload_n (pc := 1) (j := 1) rfl dX11_shown_1 ?_
  refine WW.iconst (pc := 2) 1 dX11_shown_2 rfl ?_
  refine WW.aload_n (pc := 3) (j := 0) rfl dX11_shown_3 ?_
  refine WW.iload_n (pc := 4) (j := 2) rfl dX11_shown_4 ?_
  refine WW.callV (pc := 5) (As := [.int a2]) (st := [.int 1, .int a1, .ref 3]) lk_X11_192 (okX11_isSet g ρ hρ d a2) h3_3 (sh_3 ρ) ⟨_, _, clk11⟩ rfl (Nat.le_of_ble_eq_true rfl) ⟨Nat.le_of_ble_eq_true rfl, Nat.le_of_ble_eq_true rfl, Nat.le_of_ble_eq_true rfl, Nat.le_of_ble_eq_true rfl⟩ dX11_shown_5 rfl (fun r1 hr1 => ?_)
  show WW _ _ _ 8 _ [.int (b2i r1), .int 1, .int a1, .ref 3] (full d ρ) 0 0 _
  refine WW.callV (pc := 8) (As := [.int a1, .int (b2i true), .int (b2i r1)]) (st := []) lk_X11_159 (okX11_refusal g ρ hρ d a1 true r1) h3_3 (sh_3 ρ) ⟨_, _, clk11⟩ rfl (Nat.le_of_ble_eq_true rfl) ⟨Nat.le_of_ble_eq_true rfl, Nat.le_of_ble_eq_true rfl, Nat.le_of_ble_eq_true rfl, Nat.le_of_ble_eq_true rfl⟩ dX11_shown_8 rfl (fun r2 hr2 => ?_)
  show WW _ _ _ 11 _ [.int r2] (full d ρ) 0 0 _
  refine WW.istore_n (pc := 11) [(3, .int r2), (0, .ref 3), (1, .int a1), (2, .int a2)] rfl (by decide) dX11_shown_11 ?_
  refine WW.iload_n (pc := 12) (j := 0) rfl dX11_shown_12 ?_
  refine WW.if_eq (pc := 13) 18 dX11_shown_13 (by decide) (fun _ => ?_) (fun _ => ?_)
  · refine WW.aload_n (pc := 18) (j := 1) rfl dX11_shown_18 ?_
    refine WW.iload_n (pc := 19) (j := 2) rfl dX11_shown_19 ?_
    refine WW.iload_n (pc := 20) (j := 3) rfl dX11_shown_20 ?_
    refine WW.callV (pc := 21) (As := [.int a1, .int a2]) (st := []) lk_X11_195 (okX11_settle g ρ hρ d a1 a2) h3_3 (sh_3 ρ) ⟨_, _, clk11⟩ rfl (Nat.le_of_ble_eq_true rfl) ⟨Nat.le_of_ble_eq_true rfl, Nat.le_of_ble_eq_true rfl, Nat.le_of_ble_eq_true rfl, Nat.le_of_ble_eq_true rfl⟩ dX11_shown_21 rfl (fun r3 hr3 => ?_)
    show WW _ _ _ 24 _ [] (full r3 ρ) 0 0 _
    refine WW.iconst (pc := 24) 0 dX11_shown_24 rfl ?_
    refine WW.istore (pc := 25) [(4, .int 0), (3, .int r2), (0, .ref 3), (1, .int a1), (2, .int a2)] rfl (by decide) dX11_shown_25 ?_
    refine WW.iconst (pc := 27) 0 dX11_shown_27 rfl ?_
    refine WW.istore (pc := 28) [(5, .int 0), (4, .int 0), (3, .int r2), (0, .ref 3), (1, .int a1), (2, .int a2)] rfl (by decide) dX11_shown_28 ?_
    refine WW.sub [3, 4, 5, 1, 0] rfl ?_
    refine WW.loop (pc := 30) (Lj := fun (x4 : Int32 × Int32) => [(0, .ref 3), (1, .int a1), (2, .int a2), (4, .int x4.1), (5, .int x4.2)]) (hj := fun (x4 : Int32 × Int32) => full r3 ρ) (fun self5 hself5 x4 => ?_) 6000 (0, 0)
    refine WW.iload (pc := 30) (j := 4) rfl dX11_shown_30 ?_
    refine WW.iconst (pc := 32) 4 dX11_shown_32 rfl ?_
    refine WW.icmp_ge (pc := 33) 68 dX11_shown_33 (by decide) (fun _ => ?_) (fun _ => ?_)
    · refine WW.iload (pc := 68) (j := 3) rfl dX11_shown_68 ?_
      exact WW.ret rfl rfl (show RetI M_X11_shown 70 from dX11_shown_70) ⟨Nat.le_refl _, Nat.le_refl _⟩ rfl
    · refine WW.aload_n (pc := 36) (j := 0) rfl dX11_shown_36 ?_
      refine WW.iload_n (pc := 37) (j := 1) rfl dX11_shown_37 ?_
      refine WW.iload_n (pc := 38) (j := 2) rfl dX11_shown_38 ?_
      refine WW.iload (pc := 39) (j := 4) rfl dX11_shown_39 ?_
      refine WW.callV (pc := 41) (As := [.int a1, .int a2, .int x4.2]) (st := []) lk_X11_199 (okX11_dealtFor g ρ hρ r3 a1 a2 x4.2) h3_3 (sh_3 ρ) ⟨_, _, clk11⟩ rfl (Nat.le_of_ble_eq_true rfl) ⟨Nat.le_of_ble_eq_true rfl, Nat.le_of_ble_eq_true rfl, Nat.le_of_ble_eq_true rfl, Nat.le_of_ble_eq_true rfl⟩ dX11_shown_41 rfl (fun r6 hr6 => ?_)
      show WW _ _ _ 44 _ [.int r6] (full r3 ρ) 0 0 _
      refine WW.iconst (pc := 44) (-1) dX11_shown_44 rfl ?_
      refine WW.join (pj := 62) (Lj := fun (x7 : Int32) => [(0, .ref 3), (1, .int a1), (2, .int a2), (4, .int x7), (5, .int x4.2)]) (sj := fun (x7 : Int32) => []) (hj := fun (x7 : Int32) => full r3 ρ) (fun x7 => ?_) (fun k8 hk8 => ?_)
      · refine WW.iinc (pc := 62) (j := 4) (x4.2 + 1) [(5, .int (x4.2 + 1)), (0, .ref 3), (1, .int a1), (2, .int a2), (4, .int x7)] rfl rfl rfl (by decide) dX11_shown_62 ?_
        refine WW.goto (pc := 65) 30 dX11_shown_65 (by decide) ?_
        refine WW.sub [1, 2, 3, 4, 0] rfl ?_
        exact hself5 (x7, (x4.2 + 1))
      · refine WW.icmp_eq (pc := 45) 62 dX11_shown_45 (by decide) (fun _ => ?_) (fun _ => ?_)
        · exact hk8 x4.1
        · refine WW.aload_n (pc := 48) (j := 0) rfl dX11_shown_48 ?_
          refine WW.iload_n (pc := 49) (j := 1) rfl dX11_shown_49 ?_
          refine WW.iload_n (pc := 50) (j := 2) rfl dX11_shown_50 ?_
          refine WW.iload (pc := 51) (j := 4) rfl dX11_shown_51 ?_
          refine WW.callV (pc := 53) (As := [.int a1, .int a2, .int x4.2]) (st := []) lk_X11_260 (okX11_looksLikeEarlier g ρ hρ r3 a1 a2 x4.2) h3_3 (sh_3 ρ) ⟨_, _, clk11⟩ rfl (Nat.le_of_ble_eq_true rfl) ⟨Nat.le_of_ble_eq_true rfl, Nat.le_of_ble_eq_true rfl, Nat.le_of_ble_eq_true rfl, Nat.le_of_ble_eq_true rfl⟩ dX11_shown_53 rfl (fun r9 hr9 => ?_)
          show WW _ _ _ 56 _ [.int (b2i r9)] (full r3 ρ) 0 0 _
          refine WW.if_neB (pc := 56) 62 dX11_shown_56 (by decide) (fun _ => ?_) (fun _ => ?_)
          · exact hk8 x4.1
          · refine WW.iinc (pc := 59) (j := 3) (x4.1 + 1) [(4, .int (x4.1 + 1)), (0, .ref 3), (1, .int a1), (2, .int a2), (5, .int x4.2)] rfl rfl rfl (by decide) dX11_shown_59 ?_
            refine WW.sub [1, 2, 3, 0, 4] rfl ?_
            exact hk8 (x4.1 + 1)
  · refine WW.iload_n (pc := 16) (j := 0) rfl dX11_shown_16 ?_
    exact WW.ret rfl rfl (show RetI M_X11_shown 17 from dX11_shown_17) ⟨Nat.le_refl _, Nat.le_refl _⟩ rfl
def fX11_thought (ρ : Rh) (d : Dd) (a1 : Int32) (a2 : Int32) (a3 : Int32) (a4 : Int32) : Option (Int64 × Dd) :=
  (fX11_isSet ρ d a2).bind fun r1 =>
  jn (fun (x2 : Bool) =>
    (fX11_refusal ρ d a1 true x2).bind fun r4 =>
    if r4 = 0 then
      ((fX11_settle ρ d a1 a2).bind fun r5 =>
      (fX11_dealtFor ρ r5 a1 a2 a3).bind fun r6 =>
      if r6 = (-1) then
        (some ((-1000000000000000004), r5))
      else
        (lp (fun self8 (x7 : Int64 × Int64 × Int32 × Dd) =>
          if 4 ≤ x7.2.2.1 then
            ((fX11_partOf x7.1 x7.2.1 a4).bind fun r9 =>
            some (r9, x7.2.2.2))
          else
            ((fX11_lookAlike ρ x7.2.2.2 a1 a2 a3 x7.2.2.1).bind fun r10 =>
            jn (fun (x11 : Int64 × Int64 × Dd) =>
              self8 (x11.1, x11.2.1, (x7.2.2.1 + 1), x11.2.2)
              ) fun k12 =>
            if r10 = true then
              ((fX11_newsAt ρ x7.2.2.2 a1).bind fun r13 =>
              (fX3_take ρ x7.2.2.2 ρ.1 r13 x7.2.2.1).bind fun r14 =>
              bnd ((x7.1 + (d_l r14 13 1)) : Int64) fun v15 =>
              bnd ((x7.2.1 + (d_l r14 13 0)) : Int64) fun v16 =>
              k12 (v15, v16, r14))
            else
              (k12 (x7.1, x7.2.1, x7.2.2.2)))
          ) 6000 (0, 0, 0, r5)))
    else
      ((fX11_refusedPart r4).bind fun r17 =>
      some (r17, d))
    ) fun k3 =>
  jn (fun (x18 : Unit) =>
    k3 false
    ) fun k19 =>
  if r1 = true then
    ((fX11_isSign a3).bind fun r20 =>
    if r20 = true then
      ((fX11_isPart a4).bind fun r21 =>
      if r21 = true then
        (k3 true)
      else
        (k19 ()))
    else
      (k19 ()))
  else
    (k19 ())
set_option maxHeartbeats 4000000 in
set_option maxRecDepth 100000 in
theorem okX11_thought (g : Gx) (ρ : Rh) (hρ : Hr ρ) (d : Dd) (a1 : Int32) (a2 : Int32) (a3 : Int32) (a4 : Int32) : CallR g M_X11_thought (eL ρ) [.ref 3, .int a1, .int a2, .int a3, .int a4] (full d ρ) (fX11_thought ρ d a1 a2 a3 a4) := by
  refine CallR.intro rfl rfl (Nat.le_of_ble_eq_true rfl) (fun a ha => ⟨_, rfl⟩) ?_
  show WW g _ _ 0 [(0, .ref 3), (1, .int a1), (2, .int a2), (3, .int a3), (4, .int a4)] [] (full d ρ) 0 0 _
  unfold fX11_thought
  refine WW.aload_n (pc := 0) (j := 0) rfl dX11_thought_0 ?_
  refine WW.iload_n (pc := 1) (j := 1) rfl dX11_thought_1 ?_
  refine WW.iconst (pc := 2) 1 dX11_thought_2 rfl ?_
  refine WW.aload_n (pc := 3) (j := 0) rfl dX11_thought_3 ?_
  refine WW.iload_n (pc := 4) (j := 2) rfl dX11_thought_4 ?_
  refine WW.callV (pc := 5) (As := [.int a2]) (st := [.int 1, .int a1, .ref 3]) lk_X11_192 (okX11_isSet g ρ hρ d a2) h3_3 (sh_3 ρ) ⟨_, _, clk11⟩ rfl (Nat.le_of_ble_eq_true rfl) ⟨Nat.le_of_ble_eq_true rfl, Nat.le_of_ble_eq_true rfl, Nat.le_of_ble_eq_true rfl, Nat.le_of_ble_eq_true rfl⟩ dX11_thought_5 rfl (fun r1 hr1 => ?_)
  show WW _ _ _ 8 _ [.int (b2i r1), .int 1, .int a1, .ref 3] (full d ρ) 0 0 _
  refine WW.join (pj := 31) (Lj := fun (x2 : Bool) => [(0, .ref 3), (1, .int a1), (2, .int a2), (3, .int a3), (4, .int a4)]) (sj := fun (x2 : Bool) => [.int (b2i x2), .int 1, .int a1, .ref 3]) (hj := fun (x2 : Bool) => full d ρ) (fun x2 => ?_) (fun k3 hk3 => ?_)
  · refine WW.callV (pc := 31) (As := [.int a1, .int (b2i true), .int (b2i x2)]) (st := []) lk_X11_159 (okX11_refusal g ρ hρ d a1 true x2) h3_3 (sh_3 ρ) ⟨_, _, clk11⟩ rfl (Nat.le_of_ble_eq_true rfl) ⟨Nat.le_of_ble_eq_true rfl, Nat.le_of_ble_eq_true rfl, Nat.le_of_ble_eq_true rfl, Nat.le_of_ble_eq_true rfl⟩ dX11_thought_31 rfl (fun r4 hr4 => ?_)
    show WW _ _ _ 34 _ [.int r4] (full d ρ) 0 0 _
    refine WW.istore (pc := 34) [(5, .int r4), (0, .ref 3), (1, .int a1), (2, .int a2), (3, .int a3), (4, .int a4)] rfl (by decide) dX11_thought_34 ?_
    refine WW.iload (pc := 36) (j := 0) rfl dX11_thought_36 ?_
    refine WW.if_eq (pc := 38) 47 dX11_thought_38 (by decide) (fun _ => ?_) (fun _ => ?_)
    · refine WW.aload_n (pc := 47) (j := 1) rfl dX11_thought_47 ?_
      refine WW.iload_n (pc := 48) (j := 2) rfl dX11_thought_48 ?_
      refine WW.iload_n (pc := 49) (j := 3) rfl dX11_thought_49 ?_
      refine WW.callV (pc := 50) (As := [.int a1, .int a2]) (st := []) lk_X11_195 (okX11_settle g ρ hρ d a1 a2) h3_3 (sh_3 ρ) ⟨_, _, clk11⟩ rfl (Nat.le_of_ble_eq_true rfl) ⟨Nat.le_of_ble_eq_true rfl, Nat.le_of_ble_eq_true rfl, Nat.le_of_ble_eq_true rfl, Nat.le_of_ble_eq_true rfl⟩ dX11_thought_50 rfl (fun r5 hr5 => ?_)
      show WW _ _ _ 53 _ [] (full r5 ρ) 0 0 _
      refine WW.aload_n (pc := 53) (j := 1) rfl dX11_thought_53 ?_
      refine WW.iload_n (pc := 54) (j := 2) rfl dX11_thought_54 ?_
      refine WW.iload_n (pc := 55) (j := 3) rfl dX11_thought_55 ?_
      refine WW.iload_n (pc := 56) (j := 4) rfl dX11_thought_56 ?_
      refine WW.callV (pc := 57) (As := [.int a1, .int a2, .int a3]) (st := []) lk_X11_199 (okX11_dealtFor g ρ hρ r5 a1 a2 a3) h3_3 (sh_3 ρ) ⟨_, _, clk11⟩ rfl (Nat.le_of_ble_eq_true rfl) ⟨Nat.le_of_ble_eq_true rfl, Nat.le_of_ble_eq_true rfl, Nat.le_of_ble_eq_true rfl, Nat.le_of_ble_eq_true rfl⟩ dX11_thought_57 rfl (fun r6 hr6 => ?_)
      show WW _ _ _ 60 _ [.int r6] (full r5 ρ) 0 0 _
      refine WW.iconst (pc := 60) (-1) dX11_thought_60 rfl ?_
      refine WW.icmp_ne (pc := 61) 68 dX11_thought_61 (by decide) (fun _ => ?_) (fun _ => ?_)
      · refine WW.ldc2 (pc := 64) wd_545 dX11_thought_64 ?_
        exact WW.ret rfl rfl (show RetI M_X11_thought 67 from dX11_thought_67) ⟨Nat.le_refl _, Nat.le_refl _⟩ rfl
      · refine WW.lconst (pc := 68) 0 dX11_thought_68 rfl ?_
        refine WW.lstore (pc := 69) [(6, .long 0), (5, .int r4), (0, .ref 3), (1, .int a1), (2, .int a2), (3, .int a3), (4, .int a4)] rfl (by decide) dX11_thought_69 ?_
        refine WW.lconst (pc := 71) 0 dX11_thought_71 rfl ?_
        refine WW.lstore (pc := 72) [(8, .long 0), (6, .long 0), (5, .int r4), (0, .ref 3), (1, .int a1), (2, .int a2), (3, .int a3), (4, .int a4)] rfl (by decide) dX11_thought_72 ?_
        refine WW.iconst (pc := 74) 0 dX11_thought_74 rfl ?_
        refine WW.istore (pc := 75) [(10, .int 0), (8, .long 0), (6, .long 0), (5, .int r4), (0, .ref 3), (1, .int a1), (2, .int a2), (3, .int a3), (4, .int a4)] rfl (by decide) dX11_thought_75 ?_
        refine WW.sub [4, 5, 6, 7, 8, 2, 1, 0] rfl ?_
        refine WW.loop (pc := 77) (Lj := fun (x7 : Int64 × Int64 × Int32 × Dd) => [(0, .ref 3), (1, .int a1), (2, .int a2), (3, .int a3), (4, .int a4), (6, .long x7.1), (8, .long x7.2.1), (10, .int x7.2.2.1)]) (hj := fun (x7 : Int64 × Int64 × Int32 × Dd) => full x7.2.2.2 ρ) (fun self8 hself8 x7 => ?_) 6000 (0, 0, 0, r5)
        refine WW.iload (pc := 77) (j := 7) rfl dX11_thought_77 ?_
        refine WW.iconst (pc := 79) 4 dX11_thought_79 rfl ?_
        refine WW.icmp_ge (pc := 80) 143 dX11_thought_80 (by decide) (fun _ => ?_) (fun _ => ?_)
        · refine WW.lload (pc := 143) (j := 5) rfl dX11_thought_143 ?_
          refine WW.lload (pc := 145) (j := 6) rfl dX11_thought_145 ?_
          refine WW.iload (pc := 147) (j := 4) rfl dX11_thought_147 ?_
          refine WW.callS (pc := 149) (As := [.long x7.1, .long x7.2.1, .int a4]) (st := []) lk_X11_179 (okX11_partOf g ρ hρ x7.2.2.2 x7.1 x7.2.1 a4) rfl (Nat.le_of_ble_eq_true rfl) ⟨Nat.le_of_ble_eq_true rfl, Nat.le_of_ble_eq_true rfl, Nat.le_of_ble_eq_true rfl, Nat.le_of_ble_eq_true rfl⟩ dX11_thought_149 rfl (fun r9 hr9 => ?_)
          show WW _ _ _ 152 _ [.long r9] (full x7.2.2.2 ρ) 0 0 _
          exact WW.ret rfl rfl (show RetI M_X11_thought 152 from dX11_thought_152) ⟨Nat.le_refl _, Nat.le_refl _⟩ rfl
        · refine WW.aload_n (pc := 83) (j := 0) rfl dX11_thought_83 ?_
          refine WW.iload_n (pc := 84) (j := 1) rfl dX11_thought_84 ?_
          refine WW.iload_n (pc := 85) (j := 2) rfl dX11_thought_85 ?_
          refine WW.iload_n (pc := 86) (j := 3) rfl dX11_thought_86 ?_
          refine WW.iload (pc := 87) (j := 7) rfl dX11_thought_87 ?_
          refine WW.callV (pc := 89) (As := [.int a1, .int a2, .int a3, .int x7.2.2.1]) (st := []) lk_X11_264 (okX11_lookAlike g ρ hρ x7.2.2.2 a1 a2 a3 x7.2.2.1) h3_3 (sh_3 ρ) ⟨_, _, clk11⟩ rfl (Nat.le_of_ble_eq_true rfl) ⟨Nat.le_of_ble_eq_true rfl, Nat.le_of_ble_eq_true rfl, Nat.le_of_ble_eq_true rfl, Nat.le_of_ble_eq_true rfl⟩ dX11_thought_89 rfl (fun r10 hr10 => ?_)
          show WW _ _ _ 92 _ [.int (b2i r10)] (full x7.2.2.2 ρ) 0 0 _
          refine WW.join (pj := 137) (Lj := fun (x11 : Int64 × Int64 × Dd) => [(0, .ref 3), (1, .int a1), (2, .int a2), (3, .int a3), (4, .int a4), (6, .long x11.1), (8, .long x11.2.1), (10, .int x7.2.2.1)]) (sj := fun (x11 : Int64 × Int64 × Dd) => []) (hj := fun (x11 : Int64 × Int64 × Dd) => full x11.2.2 ρ) (fun x11 => ?_) (fun k12 hk12 => ?_)
          · refine WW.iinc (pc := 137) (j := 7) (x7.2.2.1 + 1) [(10, .int (x7.2.2.1 + 1)), (0, .ref 3), (1, .int a1), (2, .int a2), (3, .int a3), (4, .int a4), (6, .long x11.1), (8, .long x11.2.1)] rfl rfl rfl (by decide) dX11_thought_137 ?_
            refine WW.goto (pc := 140) 77 dX11_thought_140 (by decide) ?_
            refine WW.sub [1, 2, 3, 4, 5, 6, 7, 0] rfl ?_
            exact hself8 (x11.1, x11.2.1, (x7.2.2.1 + 1), x11.2.2)
          · refine WW.if_eqB (pc := 92) 137 dX11_thought_92 (by decide) (fun _ => ?_) (fun _ => ?_)
            · refine WW.aload_n (pc := 95) (j := 0) rfl dX11_thought_95 ?_
              refine WW.sgr (pc := 96) fl_X11_35_11 h3_3 (sh_3 ρ) (Or.inl ⟨_, gt_11_8⟩) (hr_3_8 ρ) dX11_thought_96 ?_
              refine WW.aload_n (pc := 99) (j := 0) rfl dX11_thought_99 ?_
              refine WW.sgr (pc := 100) fl_X11_19_11 h3_3 (sh_3 ρ) (Or.inl ⟨_, gt_11_1⟩) (hr_mk ρ) dX11_thought_100 ?_
              refine WW.aload_n (pc := 103) (j := 0) rfl dX11_thought_103 ?_
              refine WW.iload_n (pc := 104) (j := 1) rfl dX11_thought_104 ?_
              refine WW.callV (pc := 105) (As := [.int a1]) (st := [.ref ρ.1, .ref 13]) lk_X11_146 (okX11_newsAt g ρ hρ x7.2.2.2 a1) h3_3 (sh_3 ρ) ⟨_, _, clk11⟩ rfl (Nat.le_of_ble_eq_true rfl) ⟨Nat.le_of_ble_eq_true rfl, Nat.le_of_ble_eq_true rfl, Nat.le_of_ble_eq_true rfl, Nat.le_of_ble_eq_true rfl⟩ dX11_thought_105 rfl (fun r13 hr13 => ?_)
              show WW _ _ _ 108 _ [.ref r13, .ref ρ.1, .ref 13] (full x7.2.2.2 ρ) 0 0 _
              refine WW.iload (pc := 108) (j := 7) rfl dX11_thought_108 ?_
              refine WW.callV (pc := 110) (As := [.ref ρ.1, .ref r13, .int x7.2.2.1]) (st := []) lk_X11_167 (okX3_take g ρ hρ x7.2.2.2 ρ.1 r13 x7.2.2.1 hρ.1 (nwAt hρ hr13)) h3_13 (sh_13 ρ) ⟨_, _, clk3⟩ rfl (Nat.le_of_ble_eq_true rfl) ⟨Nat.le_of_ble_eq_true rfl, Nat.le_of_ble_eq_true rfl, Nat.le_of_ble_eq_true rfl, Nat.le_of_ble_eq_true rfl⟩ dX11_thought_110 rfl (fun r14 hr14 => ?_)
              show WW _ _ _ 113 _ [] (full r14 ρ) 0 0 _
              refine WW.lload (pc := 113) (j := 5) rfl dX11_thought_113 ?_
              refine WW.aload_n (pc := 115) (j := 0) rfl dX11_thought_115 ?_
              refine WW.sgr (pc := 116) fl_X11_35_11 h3_3 (sh_3 ρ) (Or.inl ⟨_, gt_11_8⟩) (hr_3_8 ρ) dX11_thought_116 ?_
              refine WW.sgl (pc := 119) fl_X11_268_3 h3_13 (sh_13 ρ) gt_3_1 dX11_thought_119 ?_
              refine WW.ladd (pc := 122) dX11_thought_122 ?_
              refine WW.nml (fun v15 => ?_)
              refine WW.lstore (pc := 123) [(6, .long v15), (0, .ref 3), (1, .int a1), (2, .int a2), (3, .int a3), (4, .int a4), (8, .long x7.2.1), (10, .int x7.2.2.1)] rfl (by decide) dX11_thought_123 ?_
              refine WW.lload (pc := 125) (j := 6) rfl dX11_thought_125 ?_
              refine WW.aload_n (pc := 127) (j := 1) rfl dX11_thought_127 ?_
              refine WW.sgr (pc := 128) fl_X11_35_11 h3_3 (sh_3 ρ) (Or.inl ⟨_, gt_11_8⟩) (hr_3_8 ρ) dX11_thought_128 ?_
              refine WW.sgl (pc := 131) fl_X11_171_3 h3_13 (sh_13 ρ) gt_3_0 dX11_thought_131 ?_
              refine WW.ladd (pc := 134) dX11_thought_134 ?_
              refine WW.nml (fun v16 => ?_)
              refine WW.lstore (pc := 135) [(8, .long v16), (6, .long v15), (0, .ref 3), (1, .int a1), (2, .int a2), (3, .int a3), (4, .int a4), (10, .int x7.2.2.1)] rfl (by decide) dX11_thought_135 ?_
              refine WW.sub [2, 3, 4, 5, 6, 1, 0, 7] rfl ?_
              exact hk12 (v15, v16, r14)
            · exact hk12 (x7.1, x7.2.1, x7.2.2.2)
    · refine WW.iload (pc := 41) (j := 0) rfl dX11_thought_41 ?_
      refine WW.callS (pc := 43) (As := [.int r4]) (st := []) lk_X11_163 (okX11_refusedPart g ρ hρ d r4) rfl (Nat.le_of_ble_eq_true rfl) ⟨Nat.le_of_ble_eq_true rfl, Nat.le_of_ble_eq_true rfl, Nat.le_of_ble_eq_true rfl, Nat.le_of_ble_eq_true rfl⟩ dX11_thought_43 rfl (fun r17 hr17 => ?_)
      show WW _ _ _ 46 _ [.long r17] (full d ρ) 0 0 _
      exact WW.ret rfl rfl (show RetI M_X11_thought 46 from dX11_thought_46) ⟨Nat.le_refl _, Nat.le_refl _⟩ rfl
  · refine WW.join (pj := 30) (Lj := fun (x18 : Unit) => [(0, .ref 3), (1, .int a1), (2, .int a2), (3, .int a3), (4, .int a4)]) (sj := fun (x18 : Unit) => [.int 1, .int a1, .ref 3]) (hj := fun (x18 : Unit) => full d ρ) (fun x18 => ?_) (fun k19 hk19 => ?_)
    · refine WW.iconst (pc := 30) 0 dX11_thought_30 rfl ?_
      exact hk3 false
    · refine WW.if_eqB (pc := 8) 30 dX11_thought_8 (by decide) (fun _ => ?_) (fun _ => ?_)
      · refine WW.iload_n (pc := 11) (j := 3) rfl dX11_thought_11 ?_
        refine WW.callS (pc := 12) (As := [.int a3]) (st := [.int 1, .int a1, .ref 3]) lk_X11_153 (okX11_isSign g ρ hρ d a3) rfl (Nat.le_of_ble_eq_true rfl) ⟨Nat.le_of_ble_eq_true rfl, Nat.le_of_ble_eq_true rfl, Nat.le_of_ble_eq_true rfl, Nat.le_of_ble_eq_true rfl⟩ dX11_thought_12 rfl (fun r20 hr20 => ?_)
        show WW _ _ _ 15 _ [.int (b2i r20), .int 1, .int a1, .ref 3] (full d ρ) 0 0 _
        refine WW.if_eqB (pc := 15) 30 dX11_thought_15 (by decide) (fun _ => ?_) (fun _ => ?_)
        · refine WW.iload (pc := 18) (j := 4) rfl dX11_thought_18 ?_
          refine WW.callS (pc := 20) (As := [.int a4]) (st := [.int 1, .int a1, .ref 3]) lk_X11_156 (okX11_isPart g ρ hρ d a4) rfl (Nat.le_of_ble_eq_true rfl) ⟨Nat.le_of_ble_eq_true rfl, Nat.le_of_ble_eq_true rfl, Nat.le_of_ble_eq_true rfl, Nat.le_of_ble_eq_true rfl⟩ dX11_thought_20 rfl (fun r21 hr21 => ?_)
          show WW _ _ _ 23 _ [.int (b2i r21), .int 1, .int a1, .ref 3] (full d ρ) 0 0 _
          refine WW.if_eqB (pc := 23) 30 dX11_thought_23 (by decide) (fun _ => ?_) (fun _ => ?_)
          · refine WW.iconst (pc := 26) 1 dX11_thought_26 rfl ?_
            refine WW.goto (pc := 27) 31 dX11_thought_27 (by decide) ?_
            exact hk3 true
          · exact hk19 ()
        · exact hk19 ()
      · exact hk19 ()
def fX1_allLimits (ρ : Rh) (d : Dd) : Option Int32 :=
  lp (fun self2 (x1 : Int32 × Int32) =>
    if (d_i d 15 2) ≤ x1.2 then
      (some x1.1)
    else
      ((fX1_limitOf ρ d x1.2).bind fun r3 =>
      bnd ((x1.1 + r3) : Int32) fun v4 =>
      self2 (v4, (x1.2 + 1)))
    ) 6000 (0, 0)
set_option maxHeartbeats 4000000 in
set_option maxRecDepth 100000 in
theorem okX1_allLimits (g : Gx) (ρ : Rh) (hρ : Hr ρ) (d : Dd)  : CallR g M_X1_allLimits (eIp ρ d) [.ref 15] (full d ρ) (fX1_allLimits ρ d) := by
  refine CallR.intro rfl rfl (Nat.le_of_ble_eq_true rfl) (fun a ha => ⟨_, rfl⟩) ?_
  show WW g _ _ 0 [(0, .ref 15)] [] (full d ρ) 0 0 _
  unfold fX1_allLimits
  refine WW.iconst (pc := 0) 0 dX1_allLimits_0 rfl ?_
  refine WW.istore_n (pc := 1) [(1, .int 0), (0, .ref 15)] rfl (by decide) dX1_allLimits_1 ?_
  refine WW.iconst (pc := 2) 0 dX1_allLimits_2 rfl ?_
  refine WW.istore_n (pc := 3) [(2, .int 0), (1, .int 0), (0, .ref 15)] rfl (by decide) dX1_allLimits_3 ?_
  refine WW.sub [2, 1, 0] rfl ?_
  refine WW.loop (pc := 4) (Lj := fun (x1 : Int32 × Int32) => [(0, .ref 15), (1, .int x1.1), (2, .int x1.2)]) (hj := fun (x1 : Int32 × Int32) => full d ρ) (fun self2 hself2 x1 => ?_) 6000 (0, 0)
  refine WW.iload_n (pc := 4) (j := 2) rfl dX1_allLimits_4 ?_
  refine WW.aload_n (pc := 5) (j := 0) rfl dX1_allLimits_5 ?_
  refine WW.sgi (pc := 6) fl_X1_21_1 h3_15 (sh_15 ρ) (Or.inl gt_1_2) dX1_allLimits_6 ?_
  refine WW.icmp_ge (pc := 9) 26 dX1_allLimits_9 (by decide) (fun _ => ?_) (fun _ => ?_)
  · refine WW.iload_n (pc := 26) (j := 1) rfl dX1_allLimits_26 ?_
    exact WW.ret rfl rfl (show RetI M_X1_allLimits 27 from dX1_allLimits_27) ⟨Nat.le_refl _, Nat.le_refl _⟩ rfl
  · refine WW.iload_n (pc := 12) (j := 1) rfl dX1_allLimits_12 ?_
    refine WW.aload_n (pc := 13) (j := 0) rfl dX1_allLimits_13 ?_
    refine WW.iload_n (pc := 14) (j := 2) rfl dX1_allLimits_14 ?_
    refine WW.callV (pc := 15) (As := [.int x1.2]) (st := [.int x1.1]) lk_X1_25 (okX1_limitOf g ρ hρ d x1.2) h3_15 (sh_15 ρ) ⟨_, _, clk1⟩ rfl (Nat.le_of_ble_eq_true rfl) ⟨Nat.le_of_ble_eq_true rfl, Nat.le_of_ble_eq_true rfl, Nat.le_of_ble_eq_true rfl, Nat.le_of_ble_eq_true rfl⟩ dX1_allLimits_15 rfl (fun r3 hr3 => ?_)
    show WW _ _ _ 18 _ [.int r3, .int x1.1] (full d ρ) 0 0 _
    refine WW.iadd (pc := 18) dX1_allLimits_18 ?_
    refine WW.nmi (fun v4 => ?_)
    refine WW.istore_n (pc := 19) [(1, .int v4), (0, .ref 15), (2, .int x1.2)] rfl (by decide) dX1_allLimits_19 ?_
    refine WW.iinc (pc := 20) (j := 2) (x1.2 + 1) [(2, .int (x1.2 + 1)), (1, .int v4), (0, .ref 15)] rfl rfl rfl (by decide) dX1_allLimits_20 ?_
    refine WW.goto (pc := 23) 4 dX1_allLimits_23 (by decide) ?_
    refine WW.sub [2, 1, 0] rfl ?_
    exact hself2 (v4, (x1.2 + 1))
