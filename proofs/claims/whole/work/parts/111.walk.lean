def fX12_moreOf (ρ : Rh) (d : Dd) (a1 : Int32) (a2 : Int32) : Option (Int32 × Dd) :=
  bnd (dL d 23 28 0) fun d1 =>
  lp (fun self3 (x2 : Int32 × Int32 × Dd) =>
    if (d_i x2.2.2 23 15) ≤ x2.2.1 then
      (some (x2.1, x2.2.2))
    else
      (jn (fun (x4 : Int64 × Dd) =>
        jn (fun (x6 : Int32) =>
          jn (fun (x8 : Int64) =>
            bnd (dL x4.2 23 28 x8) fun d10 =>
            self3 (x6, (x2.2.1 + 1), d10)
            ) fun k9 =>
          if x4.1 ≤ (d_l x4.2 23 28) then
            (k9 (d_l x4.2 23 28))
          else
            (k9 x4.1)
          ) fun k7 =>
        if x4.1 ≤ (d_l x4.2 23 28) then
          (k7 x2.1)
        else
          (k7 x2.2.1)
        ) fun k5 =>
      if ((jshr a2 x2.2.1) &&& 1) = 1 then
        (k5 (0, x2.2.2))
      else
        ((fX12_worthOf ρ x2.2.2 a1 (a2 ||| (jshl 1 x2.2.1)) x2.2.1).bind fun r11 =>
        k5 (r11.1, r11.2)))
    ) 6000 ((-1), 0, d1)
set_option maxHeartbeats 4000000 in
set_option maxRecDepth 100000 in
theorem okX12_moreOf (g : Gx) (ρ : Rh) (hρ : Hr ρ) (d : Dd) (a1 : Int32) (a2 : Int32) : CallR g M_X12_moreOf (eI ρ) [.ref 23, .int a1, .int a2] (full d ρ) (fX12_moreOf ρ d a1 a2) := by
  refine CallR.intro rfl rfl (Nat.le_of_ble_eq_true rfl) (fun a ha => ⟨_, rfl⟩) ?_
  show WW g _ _ 0 [(0, .ref 23), (1, .int a1), (2, .int a2)] [] (full d ρ) 0 0 _
  unfold fX12_moreOf
  refine WW.iconst (pc := 0) (-1) dX12_moreOf_0 rfl ?_
  refine WW.istore_n (pc := 1) [(3, .int (-1)), (0, .ref 23), (1, .int a1), (2, .int a2)] rfl (by decide) dX12_moreOf_1 ?_
  refine WW.aload_n (pc := 2) (j := 1) rfl dX12_moreOf_2 ?_
  refine WW.lconst (pc := 3) 0 dX12_moreOf_3 rfl ?_
  refine WW.spl (pc := 4) fp_X12_258_12 h3_23 (sh_23 ρ) gt_12_28 dX12_moreOf_4 (fun d1 => ?_)
  refine WW.iconst (pc := 7) 0 dX12_moreOf_7 rfl ?_
  refine WW.istore (pc := 8) [(4, .int 0), (3, .int (-1)), (0, .ref 23), (1, .int a1), (2, .int a2)] rfl (by decide) dX12_moreOf_8 ?_
  refine WW.sub [2, 3, 4, 1, 0] rfl ?_
  refine WW.loop (pc := 10) (Lj := fun (x2 : Int32 × Int32 × Dd) => [(0, .ref 23), (1, .int a1), (2, .int a2), (3, .int x2.1), (4, .int x2.2.1)]) (hj := fun (x2 : Int32 × Int32 × Dd) => full x2.2.2 ρ) (fun self3 hself3 x2 => ?_) 6000 ((-1), 0, d1)
  refine WW.iload (pc := 10) (j := 4) rfl dX12_moreOf_10 ?_
  refine WW.aload_n (pc := 12) (j := 0) rfl dX12_moreOf_12 ?_
  refine WW.sgi (pc := 13) fl_X12_114_12 h3_23 (sh_23 ρ) (Or.inl gt_12_15) dX12_moreOf_13 ?_
  refine WW.icmp_ge (pc := 16) 94 dX12_moreOf_16 (by decide) (fun _ => ?_) (fun _ => ?_)
  · refine WW.iload_n (pc := 94) (j := 3) rfl dX12_moreOf_94 ?_
    exact WW.ret rfl rfl (show RetI M_X12_moreOf 95 from dX12_moreOf_95) ⟨Nat.le_refl _, Nat.le_refl _⟩ rfl
  · refine WW.iload_n (pc := 19) (j := 2) rfl dX12_moreOf_19 ?_
    refine WW.iload (pc := 20) (j := 4) rfl dX12_moreOf_20 ?_
    refine WW.ishr (pc := 22) dX12_moreOf_22 ?_
    refine WW.iconst (pc := 23) 1 dX12_moreOf_23 rfl ?_
    refine WW.iand (pc := 24) dX12_moreOf_24 ?_
    refine WW.iconst (pc := 25) 1 dX12_moreOf_25 rfl ?_
    refine WW.join (pj := 46) (Lj := fun (x4 : Int64 × Dd) => [(0, .ref 23), (1, .int a1), (2, .int a2), (3, .int x2.1), (4, .int x2.2.1)]) (sj := fun (x4 : Int64 × Dd) => [.long x4.1]) (hj := fun (x4 : Int64 × Dd) => full x4.2 ρ) (fun x4 => ?_) (fun k5 hk5 => ?_)
    · refine WW.lstore (pc := 46) [(5, .long x4.1), (0, .ref 23), (1, .int a1), (2, .int a2), (3, .int x2.1), (4, .int x2.2.1)] rfl (by decide) dX12_moreOf_46 ?_
      refine WW.lload (pc := 48) (j := 0) rfl dX12_moreOf_48 ?_
      refine WW.aload_n (pc := 50) (j := 1) rfl dX12_moreOf_50 ?_
      refine WW.sgl (pc := 51) fl_X12_258_12 h3_23 (sh_23 ρ) gt_12_28 dX12_moreOf_51 ?_
      refine WW.join (pj := 64) (Lj := fun (x6 : Int32) => [(0, .ref 23), (1, .int a1), (2, .int a2), (4, .int x2.2.1), (5, .long x4.1)]) (sj := fun (x6 : Int32) => [.int x6]) (hj := fun (x6 : Int32) => full x4.2 ρ) (fun x6 => ?_) (fun k7 hk7 => ?_)
      · refine WW.istore_n (pc := 64) [(3, .int x6), (0, .ref 23), (1, .int a1), (2, .int a2), (4, .int x2.2.1), (5, .long x4.1)] rfl (by decide) dX12_moreOf_64 ?_
        refine WW.aload_n (pc := 65) (j := 1) rfl dX12_moreOf_65 ?_
        refine WW.lload (pc := 66) (j := 5) rfl dX12_moreOf_66 ?_
        refine WW.aload_n (pc := 68) (j := 1) rfl dX12_moreOf_68 ?_
        refine WW.sgl (pc := 69) fl_X12_258_12 h3_23 (sh_23 ρ) gt_12_28 dX12_moreOf_69 ?_
        refine WW.join (pj := 85) (Lj := fun (x8 : Int64) => [(0, .ref 23), (1, .int a1), (2, .int a2), (3, .int x6), (4, .int x2.2.1)]) (sj := fun (x8 : Int64) => [.long x8, .ref 23]) (hj := fun (x8 : Int64) => full x4.2 ρ) (fun x8 => ?_) (fun k9 hk9 => ?_)
        · refine WW.spl (pc := 85) fp_X12_258_12 h3_23 (sh_23 ρ) gt_12_28 dX12_moreOf_85 (fun d10 => ?_)
          refine WW.iinc (pc := 88) (j := 4) (x2.2.1 + 1) [(4, .int (x2.2.1 + 1)), (0, .ref 23), (1, .int a1), (2, .int a2), (3, .int x6)] rfl rfl rfl (by decide) dX12_moreOf_88 ?_
          refine WW.goto (pc := 91) 10 dX12_moreOf_91 (by decide) ?_
          refine WW.sub [1, 2, 3, 4, 0] rfl ?_
          exact hself3 (x6, (x2.2.1 + 1), d10)
        · refine WW.lcmp_le (pc := 72) 81 dX12_moreOf_72 dX12_moreOf_73 (by decide) (fun _ => ?_) (fun _ => ?_)
          · refine WW.aload_n (pc := 81) (j := 1) rfl dX12_moreOf_81 ?_
            refine WW.sgl (pc := 82) fl_X12_258_12 h3_23 (sh_23 ρ) gt_12_28 dX12_moreOf_82 ?_
            refine WW.sub [1, 2, 3, 0, 4] rfl ?_
            exact hk9 (d_l x4.2 23 28)
          · refine WW.lload (pc := 76) (j := 5) rfl dX12_moreOf_76 ?_
            refine WW.goto (pc := 78) 85 dX12_moreOf_78 (by decide) ?_
            refine WW.sub [1, 2, 3, 0, 4] rfl ?_
            exact hk9 x4.1
      · refine WW.lcmp_le (pc := 54) 63 dX12_moreOf_54 dX12_moreOf_55 (by decide) (fun _ => ?_) (fun _ => ?_)
        · refine WW.iload_n (pc := 63) (j := 4) rfl dX12_moreOf_63 ?_
          refine WW.sub [1, 2, 3, 5, 0] rfl ?_
          exact hk7 x2.1
        · refine WW.iload (pc := 58) (j := 5) rfl dX12_moreOf_58 ?_
          refine WW.goto (pc := 60) 64 dX12_moreOf_60 (by decide) ?_
          refine WW.sub [1, 2, 3, 5, 0] rfl ?_
          exact hk7 x2.2.1
    · refine WW.icmp_ne (pc := 26) 33 dX12_moreOf_26 (by decide) (fun _ => ?_) (fun _ => ?_)
      · refine WW.lconst (pc := 29) 0 dX12_moreOf_29 rfl ?_
        refine WW.goto (pc := 30) 46 dX12_moreOf_30 (by decide) ?_
        exact hk5 (0, x2.2.2)
      · refine WW.aload_n (pc := 33) (j := 0) rfl dX12_moreOf_33 ?_
        refine WW.iload_n (pc := 34) (j := 1) rfl dX12_moreOf_34 ?_
        refine WW.iload_n (pc := 35) (j := 2) rfl dX12_moreOf_35 ?_
        refine WW.iconst (pc := 36) 1 dX12_moreOf_36 rfl ?_
        refine WW.iload (pc := 37) (j := 4) rfl dX12_moreOf_37 ?_
        refine WW.ishl (pc := 39) dX12_moreOf_39 ?_
        refine WW.ior (pc := 40) dX12_moreOf_40 ?_
        refine WW.iload (pc := 41) (j := 4) rfl dX12_moreOf_41 ?_
        refine WW.callV (pc := 43) (As := [.int a1, .int (a2 ||| (jshl 1 x2.2.1)), .int x2.2.1]) (st := []) lk_X12_242 (okX12_worthOf g ρ hρ x2.2.2 a1 (a2 ||| (jshl 1 x2.2.1)) x2.2.1) h3_23 (sh_23 ρ) ⟨_, _, clk12⟩ rfl (Nat.le_of_ble_eq_true rfl) ⟨Nat.le_of_ble_eq_true rfl, Nat.le_of_ble_eq_true rfl, Nat.le_of_ble_eq_true rfl, Nat.le_of_ble_eq_true rfl⟩ dX12_moreOf_43 rfl (fun r11 hr11 => ?_)
        show WW _ _ _ 46 _ [.long r11.1] (full r11.2 ρ) 0 0 _
        exact hk5 (r11.1, r11.2)
def fX12_more (ρ : Rh) (d : Dd) (a1 : Int32) (a2 : Int32) : Option (Int32 × Dd) :=
  (fX12_isSet ρ d a2).bind fun r1 =>
  (fX12_refusal ρ d a1 true r1).bind fun r2 =>
  if r2 = 0 then
    ((fX12_moreOf ρ d a1 a2).bind fun r3 =>
    some (r3.1, r3.2))
  else
    (some (r2, d))
set_option maxHeartbeats 4000000 in
set_option maxRecDepth 100000 in
theorem okX12_more (g : Gx) (ρ : Rh) (hρ : Hr ρ) (d : Dd) (a1 : Int32) (a2 : Int32) : CallR g M_X12_more (eI ρ) [.ref 23, .int a1, .int a2] (full d ρ) (fX12_more ρ d a1 a2) := by
  refine CallR.intro rfl rfl (Nat.le_of_ble_eq_true rfl) (fun a ha => ⟨_, rfl⟩) ?_
  show WW g _ _ 0 [(0, .ref 23), (1, .int a1), (2, .int a2)] [] (full d ρ) 0 0 _
  unfold fX12_more
  refine WW.aload_n (pc := 0) (j := 0) rfl dX12_more_0 ?_
  refine WW.iload_n (pc := 1) (j := 1) rfl dX12_more_1 ?_
  refine WW.iconst (pc := 2) 1 dX12_more_2 rfl ?_
  refine WW.aload_n (pc := 3) (j := 0) rfl dX12_more_3 ?_
  refine WW.iload_n (pc := 4) (j := 2) rfl dX12_more_4 ?_
  refine WW.callV (pc := 5) (As := [.int a2]) (st := [.int 1, .int a1, .ref 23]) lk_X12_227 (okX12_isSet g ρ hρ d a2) h3_23 (sh_23 ρ) ⟨_, _, clk12⟩ rfl (Nat.le_of_ble_eq_true rfl) ⟨Nat.le_of_ble_eq_true rfl, Nat.le_of_ble_eq_true rfl, Nat.le_of_ble_eq_true rfl, Nat.le_of_ble_eq_true rfl⟩ dX12_more_5 rfl (fun r1 hr1 => ?_)
  show WW _ _ _ 8 _ [.int (b2i r1), .int 1, .int a1, .ref 23] (full d ρ) 0 0 _
  refine WW.callV (pc := 8) (As := [.int a1, .int (b2i true), .int (b2i r1)]) (st := []) lk_X12_160 (okX12_refusal g ρ hρ d a1 true r1) h3_23 (sh_23 ρ) ⟨_, _, clk12⟩ rfl (Nat.le_of_ble_eq_true rfl) ⟨Nat.le_of_ble_eq_true rfl, Nat.le_of_ble_eq_true rfl, Nat.le_of_ble_eq_true rfl, Nat.le_of_ble_eq_true rfl⟩ dX12_more_8 rfl (fun r2 hr2 => ?_)
  show WW _ _ _ 11 _ [.int r2] (full d ρ) 0 0 _
  refine WW.istore_n (pc := 11) [(3, .int r2), (0, .ref 23), (1, .int a1), (2, .int a2)] rfl (by decide) dX12_more_11 ?_
  refine WW.iload_n (pc := 12) (j := 0) rfl dX12_more_12 ?_
  refine WW.if_eq (pc := 13) 20 dX12_more_13 (by decide) (fun _ => ?_) (fun _ => ?_)
  · refine WW.aload_n (pc := 20) (j := 1) rfl dX12_more_20 ?_
    refine WW.iload_n (pc := 21) (j := 2) rfl dX12_more_21 ?_
    refine WW.iload_n (pc := 22) (j := 3) rfl dX12_more_22 ?_
    refine WW.callV (pc := 23) (As := [.int a1, .int a2]) (st := []) lk_X12_261 (okX12_moreOf g ρ hρ d a1 a2) h3_23 (sh_23 ρ) ⟨_, _, clk12⟩ rfl (Nat.le_of_ble_eq_true rfl) ⟨Nat.le_of_ble_eq_true rfl, Nat.le_of_ble_eq_true rfl, Nat.le_of_ble_eq_true rfl, Nat.le_of_ble_eq_true rfl⟩ dX12_more_23 rfl (fun r3 hr3 => ?_)
    show WW _ _ _ 26 _ [.int r3.1] (full r3.2 ρ) 0 0 _
    exact WW.ret rfl rfl (show RetI M_X12_more 26 from dX12_more_26) ⟨Nat.le_refl _, Nat.le_refl _⟩ rfl
  · refine WW.iload_n (pc := 16) (j := 0) rfl dX12_more_16 ?_
    refine WW.goto (pc := 17) 26 dX12_more_17 (by decide) ?_
    exact WW.ret rfl rfl (show RetI M_X12_more 26 from dX12_more_26) ⟨Nat.le_refl _, Nat.le_refl _⟩ rfl
def fX12_pledge (ρ : Rh) (d : Dd) (a1 : Int32) (a2 : Int32) (a3 : Int32) : Option (Int64 × Dd) :=
  (fX12_isSet ρ d a2).bind fun r1 =>
  jn (fun (x2 : Bool) =>
    (fX12_refusal ρ d a1 true x2).bind fun r4 =>
    if r4 = 0 then
      ((fX12_moreOf ρ d a1 a2).bind fun r5 =>
      (fX12_below ρ r5.2).bind fun r6 =>
      (fX12_term (d_l r5.2 23 28) r6 a3).bind fun r7 =>
      some (r7, r5.2))
    else
      ((fX12_asLong r4).bind fun r8 =>
      some (r8, d))
    ) fun k3 =>
  jn (fun (x9 : Unit) =>
    k3 false
    ) fun k10 =>
  if r1 = true then
    ((fX12_isPart a3).bind fun r11 =>
    if r11 = true then
      (k3 true)
    else
      (k10 ()))
  else
    (k10 ())
set_option maxHeartbeats 4000000 in
set_option maxRecDepth 100000 in
theorem okX12_pledge (g : Gx) (ρ : Rh) (hρ : Hr ρ) (d : Dd) (a1 : Int32) (a2 : Int32) (a3 : Int32) : CallR g M_X12_pledge (eL ρ) [.ref 23, .int a1, .int a2, .int a3] (full d ρ) (fX12_pledge ρ d a1 a2 a3) := by
  refine CallR.intro rfl rfl (Nat.le_of_ble_eq_true rfl) (fun a ha => ⟨_, rfl⟩) ?_
  show WW g _ _ 0 [(0, .ref 23), (1, .int a1), (2, .int a2), (3, .int a3)] [] (full d ρ) 0 0 _
  unfold fX12_pledge
  refine WW.aload_n (pc := 0) (j := 0) rfl dX12_pledge_0 ?_
  refine WW.iload_n (pc := 1) (j := 1) rfl dX12_pledge_1 ?_
  refine WW.iconst (pc := 2) 1 dX12_pledge_2 rfl ?_
  refine WW.aload_n (pc := 3) (j := 0) rfl dX12_pledge_3 ?_
  refine WW.iload_n (pc := 4) (j := 2) rfl dX12_pledge_4 ?_
  refine WW.callV (pc := 5) (As := [.int a2]) (st := [.int 1, .int a1, .ref 23]) lk_X12_227 (okX12_isSet g ρ hρ d a2) h3_23 (sh_23 ρ) ⟨_, _, clk12⟩ rfl (Nat.le_of_ble_eq_true rfl) ⟨Nat.le_of_ble_eq_true rfl, Nat.le_of_ble_eq_true rfl, Nat.le_of_ble_eq_true rfl, Nat.le_of_ble_eq_true rfl⟩ dX12_pledge_5 rfl (fun r1 hr1 => ?_)
  show WW _ _ _ 8 _ [.int (b2i r1), .int 1, .int a1, .ref 23] (full d ρ) 0 0 _
  refine WW.join (pj := 23) (Lj := fun (x2 : Bool) => [(0, .ref 23), (1, .int a1), (2, .int a2), (3, .int a3)]) (sj := fun (x2 : Bool) => [.int (b2i x2), .int 1, .int a1, .ref 23]) (hj := fun (x2 : Bool) => full d ρ) (fun x2 => ?_) (fun k3 hk3 => ?_)
  · refine WW.callV (pc := 23) (As := [.int a1, .int (b2i true), .int (b2i x2)]) (st := []) lk_X12_160 (okX12_refusal g ρ hρ d a1 true x2) h3_23 (sh_23 ρ) ⟨_, _, clk12⟩ rfl (Nat.le_of_ble_eq_true rfl) ⟨Nat.le_of_ble_eq_true rfl, Nat.le_of_ble_eq_true rfl, Nat.le_of_ble_eq_true rfl, Nat.le_of_ble_eq_true rfl⟩ dX12_pledge_23 rfl (fun r4 hr4 => ?_)
    show WW _ _ _ 26 _ [.int r4] (full d ρ) 0 0 _
    refine WW.istore (pc := 26) [(4, .int r4), (0, .ref 23), (1, .int a1), (2, .int a2), (3, .int a3)] rfl (by decide) dX12_pledge_26 ?_
    refine WW.iload (pc := 28) (j := 0) rfl dX12_pledge_28 ?_
    refine WW.if_eq (pc := 30) 39 dX12_pledge_30 (by decide) (fun _ => ?_) (fun _ => ?_)
    · refine WW.aload_n (pc := 39) (j := 1) rfl dX12_pledge_39 ?_
      refine WW.iload_n (pc := 40) (j := 2) rfl dX12_pledge_40 ?_
      refine WW.iload_n (pc := 41) (j := 3) rfl dX12_pledge_41 ?_
      refine WW.callV (pc := 42) (As := [.int a1, .int a2]) (st := []) lk_X12_261 (okX12_moreOf g ρ hρ d a1 a2) h3_23 (sh_23 ρ) ⟨_, _, clk12⟩ rfl (Nat.le_of_ble_eq_true rfl) ⟨Nat.le_of_ble_eq_true rfl, Nat.le_of_ble_eq_true rfl, Nat.le_of_ble_eq_true rfl, Nat.le_of_ble_eq_true rfl⟩ dX12_pledge_42 rfl (fun r5 hr5 => ?_)
      show WW _ _ _ 45 _ [.int r5.1] (full r5.2 ρ) 0 0 _
      refine WW.pop (pc := 45) rfl dX12_pledge_45 ?_
      refine WW.aload_n (pc := 46) (j := 1) rfl dX12_pledge_46 ?_
      refine WW.sgl (pc := 47) fl_X12_258_12 h3_23 (sh_23 ρ) gt_12_28 dX12_pledge_47 ?_
      refine WW.aload_n (pc := 50) (j := 1) rfl dX12_pledge_50 ?_
      refine WW.callV (pc := 51) (As := []) (st := [.long (d_l r5.2 23 28)]) lk_X12_245 (okX12_below g ρ hρ r5.2 ) h3_23 (sh_23 ρ) ⟨_, _, clk12⟩ rfl (Nat.le_of_ble_eq_true rfl) ⟨Nat.le_of_ble_eq_true rfl, Nat.le_of_ble_eq_true rfl, Nat.le_of_ble_eq_true rfl, Nat.le_of_ble_eq_true rfl⟩ dX12_pledge_51 rfl (fun r6 hr6 => ?_)
      show WW _ _ _ 54 _ [.long r6, .long (d_l r5.2 23 28)] (full r5.2 ρ) 0 0 _
      refine WW.iload_n (pc := 54) (j := 4) rfl dX12_pledge_54 ?_
      refine WW.callS (pc := 55) (As := [.long (d_l r5.2 23 28), .long r6, .int a3]) (st := []) lk_X12_174 (okX12_term g ρ hρ r5.2 (d_l r5.2 23 28) r6 a3) rfl (Nat.le_of_ble_eq_true rfl) ⟨Nat.le_of_ble_eq_true rfl, Nat.le_of_ble_eq_true rfl, Nat.le_of_ble_eq_true rfl, Nat.le_of_ble_eq_true rfl⟩ dX12_pledge_55 rfl (fun r7 hr7 => ?_)
      show WW _ _ _ 58 _ [.long r7] (full r5.2 ρ) 0 0 _
      exact WW.ret rfl rfl (show RetI M_X12_pledge 58 from dX12_pledge_58) ⟨Nat.le_refl _, Nat.le_refl _⟩ rfl
    · refine WW.iload (pc := 33) (j := 0) rfl dX12_pledge_33 ?_
      refine WW.callS (pc := 35) (As := [.int r4]) (st := []) lk_X12_164 (okX12_asLong g ρ hρ d r4) rfl (Nat.le_of_ble_eq_true rfl) ⟨Nat.le_of_ble_eq_true rfl, Nat.le_of_ble_eq_true rfl, Nat.le_of_ble_eq_true rfl, Nat.le_of_ble_eq_true rfl⟩ dX12_pledge_35 rfl (fun r8 hr8 => ?_)
      show WW _ _ _ 38 _ [.long r8] (full d ρ) 0 0 _
      exact WW.ret rfl rfl (show RetI M_X12_pledge 38 from dX12_pledge_38) ⟨Nat.le_refl _, Nat.le_refl _⟩ rfl
  · refine WW.join (pj := 22) (Lj := fun (x9 : Unit) => [(0, .ref 23), (1, .int a1), (2, .int a2), (3, .int a3)]) (sj := fun (x9 : Unit) => [.int 1, .int a1, .ref 23]) (hj := fun (x9 : Unit) => full d ρ) (fun x9 => ?_) (fun k10 hk10 => ?_)
    · refine WW.iconst (pc := 22) 0 dX12_pledge_22 rfl ?_
      exact hk3 false
    · refine WW.if_eqB (pc := 8) 22 dX12_pledge_8 (by decide) (fun _ => ?_) (fun _ => ?_)
      · refine WW.iload_n (pc := 11) (j := 3) rfl dX12_pledge_11 ?_
        refine WW.callS (pc := 12) (As := [.int a3]) (st := [.int 1, .int a1, .ref 23]) lk_X12_157 (okX12_isPart g ρ hρ d a3) rfl (Nat.le_of_ble_eq_true rfl) ⟨Nat.le_of_ble_eq_true rfl, Nat.le_of_ble_eq_true rfl, Nat.le_of_ble_eq_true rfl, Nat.le_of_ble_eq_true rfl⟩ dX12_pledge_12 rfl (fun r11 hr11 => ?_)
        show WW _ _ _ 15 _ [.int (b2i r11), .int 1, .int a1, .ref 23] (full d ρ) 0 0 _
        refine WW.if_eqB (pc := 15) 22 dX12_pledge_15 (by decide) (fun _ => ?_) (fun _ => ?_)
        · refine WW.iconst (pc := 18) 1 dX12_pledge_18 rfl ?_
          refine WW.goto (pc := 19) 23 dX12_pledge_19 (by decide) ?_
          exact hk3 true
        · exact hk10 ()
      · exact hk10 ()
def fX12_on (ρ : Rh) (d : Dd) (a1 : Int32) (a2 : Int32) (a3 : Int32) : Option (Int32 × Dd) :=
  (fX12_isSet ρ d a2).bind fun r1 =>
  jn (fun (x2 : Bool) =>
    (fX12_refusal ρ d a1 true x2).bind fun r4 =>
    if r4 = 0 then
      (lp (fun self6 (x5 : Int32 × Dd) =>
        if (d_i x5.2 23 15) ≤ x5.1 then
          (some ((-1), x5.2))
        else
          (jn (fun (x7 : Int64 × Dd) =>
            jn (fun (x9 : Dd) =>
              self6 ((x5.1 + 1), x9)
              ) fun k10 =>
            lp (fun self12 (x11 : Int32 × Dd) =>
              if (d_i x11.2 23 15) ≤ x11.1 then
                (k10 x11.2)
              else
                (if ((jshr a2 x5.1) &&& 1) = 1 then
                  (jn (fun (x13 : Dd) =>
                    self12 ((x11.1 + 1), x13)
                    ) fun k14 =>
                  if ((jshr a2 x11.1) &&& 1) = 0 then
                    ((fX12_worthOf ρ x11.2 a1 (a2 ||| (jshl 1 x11.1)) x5.1).bind fun r15 =>
                    if inB ((4 * (a2 ||| (jshl 1 x11.1))) + x11.1) 64 = true then
                      (bnd ((r15.1 + (d_l r15.2 33 (ix ((4 * (a2 ||| (jshl 1 x11.1))) + x11.1)))) : Int64) fun v16 =>
                      if v16 ≤ x7.1 then
                        (k14 r15.2)
                      else
                        (if a3 = 0 then
                          (some (x5.1, r15.2))
                        else
                          (some (x11.1, r15.2))))
                    else none)
                  else
                    (k14 x11.2))
                else
                  (k10 x11.2))
              ) 6000 (0, x7.2)
            ) fun k8 =>
          if ((jshr a2 x5.1) &&& 1) = 1 then
            ((fX12_worthOf ρ x5.2 a1 a2 x5.1).bind fun r17 =>
            k8 (r17.1, r17.2))
          else
            (k8 (0, x5.2)))
        ) 6000 (0, d))
    else
      (some (r4, d))
    ) fun k3 =>
  jn (fun (x18 : Unit) =>
    k3 false
    ) fun k19 =>
  if r1 = true then
    ((fX12_in (Int32.toInt64 a3) 0 1).bind fun r20 =>
    if r20 = true then
      (k3 true)
    else
      (k19 ()))
  else
    (k19 ())
set_option maxHeartbeats 4000000 in
set_option maxRecDepth 100000 in
theorem okX12_on (g : Gx) (ρ : Rh) (hρ : Hr ρ) (d : Dd) (a1 : Int32) (a2 : Int32) (a3 : Int32) : CallR g M_X12_on (eI ρ) [.ref 23, .int a1, .int a2, .int a3] (full d ρ) (fX12_on ρ d a1 a2 a3) := by
  refine CallR.intro rfl rfl (Nat.le_of_ble_eq_true rfl) (fun a ha => ⟨_, rfl⟩) ?_
  show WW g _ _ 0 [(0, .ref 23), (1, .int a1), (2, .int a2), (3, .int a3)] [] (full d ρ) 0 0 _
  unfold fX12_on
  refine WW.aload_n (pc := 0) (j := 0) rfl dX12_on_0 ?_
  refine WW.iload_n (pc := 1) (j := 1) rfl dX12_on_1 ?_
  refine WW.iconst (pc := 2) 1 dX12_on_2 rfl ?_
  refine WW.aload_n (pc := 3) (j := 0) rfl dX12_on_3 ?_
  refine WW.iload_n (pc := 4) (j := 2) rfl dX12_on_4 ?_
  refine WW.callV (pc := 5) (As := [.int a2]) (st := [.int 1, .int a1, .ref 23]) lk_X12_227 (okX12_isSet g ρ hρ d a2) h3_23 (sh_23 ρ) ⟨_, _, clk12⟩ rfl (Nat.le_of_ble_eq_true rfl) ⟨Nat.le_of_ble_eq_true rfl, Nat.le_of_ble_eq_true rfl, Nat.le_of_ble_eq_true rfl, Nat.le_of_ble_eq_true rfl⟩ dX12_on_5 rfl (fun r1 hr1 => ?_)
  show WW _ _ _ 8 _ [.int (b2i r1), .int 1, .int a1, .ref 23] (full d ρ) 0 0 _
  refine WW.join (pj := 26) (Lj := fun (x2 : Bool) => [(0, .ref 23), (1, .int a1), (2, .int a2), (3, .int a3)]) (sj := fun (x2 : Bool) => [.int (b2i x2), .int 1, .int a1, .ref 23]) (hj := fun (x2 : Bool) => full d ρ) (fun x2 => ?_) (fun k3 hk3 => ?_)
  · refine WW.callV (pc := 26) (As := [.int a1, .int (b2i true), .int (b2i x2)]) (st := []) lk_X12_160 (okX12_refusal g ρ hρ d a1 true x2) h3_23 (sh_23 ρ) ⟨_, _, clk12⟩ rfl (Nat.le_of_ble_eq_true rfl) ⟨Nat.le_of_ble_eq_true rfl, Nat.le_of_ble_eq_true rfl, Nat.le_of_ble_eq_true rfl, Nat.le_of_ble_eq_true rfl⟩ dX12_on_26 rfl (fun r4 hr4 => ?_)
    show WW _ _ _ 29 _ [.int r4] (full d ρ) 0 0 _
    refine WW.istore (pc := 29) [(4, .int r4), (0, .ref 23), (1, .int a1), (2, .int a2), (3, .int a3)] rfl (by decide) dX12_on_29 ?_
    refine WW.iload (pc := 31) (j := 0) rfl dX12_on_31 ?_
    refine WW.if_eq (pc := 33) 39 dX12_on_33 (by decide) (fun _ => ?_) (fun _ => ?_)
    · refine WW.iconst (pc := 39) 0 dX12_on_39 rfl ?_
      refine WW.istore (pc := 40) [(5, .int 0), (4, .int r4), (0, .ref 23), (1, .int a1), (2, .int a2), (3, .int a3)] rfl (by decide) dX12_on_40 ?_
      refine WW.sub [2, 3, 4, 5, 0] rfl ?_
      refine WW.loop (pc := 42) (Lj := fun (x5 : Int32 × Dd) => [(0, .ref 23), (1, .int a1), (2, .int a2), (3, .int a3), (5, .int x5.1)]) (hj := fun (x5 : Int32 × Dd) => full x5.2 ρ) (fun self6 hself6 x5 => ?_) 6000 (0, d)
      refine WW.iload (pc := 42) (j := 4) rfl dX12_on_42 ?_
      refine WW.aload_n (pc := 44) (j := 0) rfl dX12_on_44 ?_
      refine WW.sgi (pc := 45) fl_X12_114_12 h3_23 (sh_23 ρ) (Or.inl gt_12_15) dX12_on_45 ?_
      refine WW.icmp_ge (pc := 48) 170 dX12_on_48 (by decide) (fun _ => ?_) (fun _ => ?_)
      · refine WW.iconst (pc := 170) (-1) dX12_on_170 rfl ?_
        exact WW.ret rfl rfl (show RetI M_X12_on 171 from dX12_on_171) ⟨Nat.le_refl _, Nat.le_refl _⟩ rfl
      · refine WW.iload_n (pc := 51) (j := 2) rfl dX12_on_51 ?_
        refine WW.iload (pc := 52) (j := 4) rfl dX12_on_52 ?_
        refine WW.ishr (pc := 54) dX12_on_54 ?_
        refine WW.iconst (pc := 55) 1 dX12_on_55 rfl ?_
        refine WW.iand (pc := 56) dX12_on_56 ?_
        refine WW.iconst (pc := 57) 1 dX12_on_57 rfl ?_
        refine WW.join (pj := 73) (Lj := fun (x7 : Int64 × Dd) => [(0, .ref 23), (1, .int a1), (2, .int a2), (3, .int a3), (5, .int x5.1)]) (sj := fun (x7 : Int64 × Dd) => [.long x7.1]) (hj := fun (x7 : Int64 × Dd) => full x7.2 ρ) (fun x7 => ?_) (fun k8 hk8 => ?_)
        · refine WW.lstore (pc := 73) [(6, .long x7.1), (0, .ref 23), (1, .int a1), (2, .int a2), (3, .int a3), (5, .int x5.1)] rfl (by decide) dX12_on_73 ?_
          refine WW.iconst (pc := 75) 0 dX12_on_75 rfl ?_
          refine WW.istore (pc := 76) [(8, .int 0), (6, .long x7.1), (0, .ref 23), (1, .int a1), (2, .int a2), (3, .int a3), (5, .int x5.1)] rfl (by decide) dX12_on_76 ?_
          refine WW.join (pj := 164) (Lj := fun (x9 : Dd) => [(0, .ref 23), (1, .int a1), (2, .int a2), (3, .int a3), (5, .int x5.1)]) (sj := fun (x9 : Dd) => []) (hj := fun (x9 : Dd) => full x9 ρ) (fun x9 => ?_) (fun k10 hk10 => ?_)
          · refine WW.iinc (pc := 164) (j := 4) (x5.1 + 1) [(5, .int (x5.1 + 1)), (0, .ref 23), (1, .int a1), (2, .int a2), (3, .int a3)] rfl rfl rfl (by decide) dX12_on_164 ?_
            refine WW.goto (pc := 167) 42 dX12_on_167 (by decide) ?_
            refine WW.sub [1, 2, 3, 4, 0] rfl ?_
            exact hself6 ((x5.1 + 1), x9)
          · refine WW.sub [2, 3, 4, 5, 6, 1, 0] rfl ?_
            refine WW.loop (pc := 78) (Lj := fun (x11 : Int32 × Dd) => [(0, .ref 23), (1, .int a1), (2, .int a2), (3, .int a3), (5, .int x5.1), (6, .long x7.1), (8, .int x11.1)]) (hj := fun (x11 : Int32 × Dd) => full x11.2 ρ) (fun self12 hself12 x11 => ?_) 6000 (0, x7.2)
            refine WW.iload (pc := 78) (j := 6) rfl dX12_on_78 ?_
            refine WW.aload_n (pc := 80) (j := 0) rfl dX12_on_80 ?_
            refine WW.sgi (pc := 81) fl_X12_114_12 h3_23 (sh_23 ρ) (Or.inl gt_12_15) dX12_on_81 ?_
            refine WW.icmp_ge (pc := 84) 164 dX12_on_84 (by decide) (fun _ => ?_) (fun _ => ?_)
            · refine WW.sub [0, 1, 2, 3, 4] rfl ?_
              exact hk10 x11.2
            · refine WW.iload_n (pc := 87) (j := 2) rfl dX12_on_87 ?_
              refine WW.iload (pc := 88) (j := 4) rfl dX12_on_88 ?_
              refine WW.ishr (pc := 90) dX12_on_90 ?_
              refine WW.iconst (pc := 91) 1 dX12_on_91 rfl ?_
              refine WW.iand (pc := 92) dX12_on_92 ?_
              refine WW.iconst (pc := 93) 1 dX12_on_93 rfl ?_
              refine WW.icmp_ne (pc := 94) 164 dX12_on_94 (by decide) (fun _ => ?_) (fun _ => ?_)
              · refine WW.iload_n (pc := 97) (j := 2) rfl dX12_on_97 ?_
                refine WW.iload (pc := 98) (j := 6) rfl dX12_on_98 ?_
                refine WW.ishr (pc := 100) dX12_on_100 ?_
                refine WW.iconst (pc := 101) 1 dX12_on_101 rfl ?_
                refine WW.iand (pc := 102) dX12_on_102 ?_
                refine WW.join (pj := 158) (Lj := fun (x13 : Dd) => [(0, .ref 23), (1, .int a1), (2, .int a2), (3, .int a3), (5, .int x5.1), (6, .long x7.1), (8, .int x11.1)]) (sj := fun (x13 : Dd) => []) (hj := fun (x13 : Dd) => full x13 ρ) (fun x13 => ?_) (fun k14 hk14 => ?_)
                · refine WW.iinc (pc := 158) (j := 6) (x11.1 + 1) [(8, .int (x11.1 + 1)), (0, .ref 23), (1, .int a1), (2, .int a2), (3, .int a3), (5, .int x5.1), (6, .long x7.1)] rfl rfl rfl (by decide) dX12_on_158 ?_
                  refine WW.goto (pc := 161) 78 dX12_on_161 (by decide) ?_
                  refine WW.sub [1, 2, 3, 4, 5, 6, 0] rfl ?_
                  exact hself12 ((x11.1 + 1), x13)
                · refine WW.if_ne (pc := 103) 158 dX12_on_103 (by decide) (fun _ => ?_) (fun _ => ?_)
                  · refine WW.aload_n (pc := 106) (j := 0) rfl dX12_on_106 ?_
                    refine WW.iload_n (pc := 107) (j := 1) rfl dX12_on_107 ?_
                    refine WW.iload_n (pc := 108) (j := 2) rfl dX12_on_108 ?_
                    refine WW.iconst (pc := 109) 1 dX12_on_109 rfl ?_
                    refine WW.iload (pc := 110) (j := 6) rfl dX12_on_110 ?_
                    refine WW.ishl (pc := 112) dX12_on_112 ?_
                    refine WW.ior (pc := 113) dX12_on_113 ?_
                    refine WW.iload (pc := 114) (j := 4) rfl dX12_on_114 ?_
                    refine WW.callV (pc := 116) (As := [.int a1, .int (a2 ||| (jshl 1 x11.1)), .int x5.1]) (st := []) lk_X12_242 (okX12_worthOf g ρ hρ x11.2 a1 (a2 ||| (jshl 1 x11.1)) x5.1) h3_23 (sh_23 ρ) ⟨_, _, clk12⟩ rfl (Nat.le_of_ble_eq_true rfl) ⟨Nat.le_of_ble_eq_true rfl, Nat.le_of_ble_eq_true rfl, Nat.le_of_ble_eq_true rfl, Nat.le_of_ble_eq_true rfl⟩ dX12_on_116 rfl (fun r15 hr15 => ?_)
                    show WW _ _ _ 119 _ [.long r15.1] (full r15.2 ρ) 0 0 _
                    refine WW.aload_n (pc := 119) (j := 0) rfl dX12_on_119 ?_
                    refine WW.sgr (pc := 120) fl_X12_37_12 h3_23 (sh_23 ρ) (Or.inr ⟨_, gt_12_25⟩) (hr_23_25 ρ) dX12_on_120 ?_
                    refine WW.iconst (pc := 123) 4 dX12_on_123 rfl ?_
                    refine WW.iload_n (pc := 124) (j := 2) rfl dX12_on_124 ?_
                    refine WW.iconst (pc := 125) 1 dX12_on_125 rfl ?_
                    refine WW.iload (pc := 126) (j := 6) rfl dX12_on_126 ?_
                    refine WW.ishl (pc := 128) dX12_on_128 ?_
                    refine WW.ior (pc := 129) dX12_on_129 ?_
                    refine WW.imul (pc := 130) dX12_on_130 ?_
                    refine WW.iload (pc := 131) (j := 6) rfl dX12_on_131 ?_
                    refine WW.iadd (pc := 133) dX12_on_133 ?_
                    refine WW.slald (pc := 134) h3_33 (sh_33 ρ) dX12_on_134 ?_
                    refine WW.ladd (pc := 135) dX12_on_135 ?_
                    refine WW.nml (fun v16 => ?_)
                    refine WW.lstore (pc := 136) [(9, .long v16), (0, .ref 23), (1, .int a1), (2, .int a2), (3, .int a3), (5, .int x5.1), (6, .long x7.1), (8, .int x11.1)] rfl (by decide) dX12_on_136 ?_
                    refine WW.lload (pc := 138) (j := 0) rfl dX12_on_138 ?_
                    refine WW.lload (pc := 140) (j := 6) rfl dX12_on_140 ?_
                    refine WW.lcmp_le (pc := 142) 158 dX12_on_142 dX12_on_143 (by decide) (fun _ => ?_) (fun _ => ?_)
                    · refine WW.sub [1, 2, 3, 4, 5, 6, 7] rfl ?_
                      exact hk14 r15.2
                    · refine WW.iload_n (pc := 146) (j := 4) rfl dX12_on_146 ?_
                      refine WW.if_ne (pc := 147) 155 dX12_on_147 (by decide) (fun _ => ?_) (fun _ => ?_)
                      · refine WW.iload (pc := 150) (j := 5) rfl dX12_on_150 ?_
                        refine WW.goto (pc := 152) 157 dX12_on_152 (by decide) ?_
                        exact WW.ret rfl rfl (show RetI M_X12_on 157 from dX12_on_157) ⟨Nat.le_refl _, Nat.le_refl _⟩ rfl
                      · refine WW.iload (pc := 155) (j := 7) rfl dX12_on_155 ?_
                        exact WW.ret rfl rfl (show RetI M_X12_on 157 from dX12_on_157) ⟨Nat.le_refl _, Nat.le_refl _⟩ rfl
                  · exact hk14 x11.2
              · refine WW.sub [0, 1, 2, 3, 4] rfl ?_
                exact hk10 x11.2
        · refine WW.icmp_ne (pc := 58) 72 dX12_on_58 (by decide) (fun _ => ?_) (fun _ => ?_)
          · refine WW.aload_n (pc := 61) (j := 0) rfl dX12_on_61 ?_
            refine WW.iload_n (pc := 62) (j := 1) rfl dX12_on_62 ?_
            refine WW.iload_n (pc := 63) (j := 2) rfl dX12_on_63 ?_
            refine WW.iload (pc := 64) (j := 4) rfl dX12_on_64 ?_
            refine WW.callV (pc := 66) (As := [.int a1, .int a2, .int x5.1]) (st := []) lk_X12_242 (okX12_worthOf g ρ hρ x5.2 a1 a2 x5.1) h3_23 (sh_23 ρ) ⟨_, _, clk12⟩ rfl (Nat.le_of_ble_eq_true rfl) ⟨Nat.le_of_ble_eq_true rfl, Nat.le_of_ble_eq_true rfl, Nat.le_of_ble_eq_true rfl, Nat.le_of_ble_eq_true rfl⟩ dX12_on_66 rfl (fun r17 hr17 => ?_)
            show WW _ _ _ 69 _ [.long r17.1] (full r17.2 ρ) 0 0 _
            refine WW.goto (pc := 69) 73 dX12_on_69 (by decide) ?_
            exact hk8 (r17.1, r17.2)
          · refine WW.lconst (pc := 72) 0 dX12_on_72 rfl ?_
            exact hk8 (0, x5.2)
    · refine WW.iload (pc := 36) (j := 0) rfl dX12_on_36 ?_
      exact WW.ret rfl rfl (show RetI M_X12_on 38 from dX12_on_38) ⟨Nat.le_refl _, Nat.le_refl _⟩ rfl
  · refine WW.join (pj := 25) (Lj := fun (x18 : Unit) => [(0, .ref 23), (1, .int a1), (2, .int a2), (3, .int a3)]) (sj := fun (x18 : Unit) => [.int 1, .int a1, .ref 23]) (hj := fun (x18 : Unit) => full d ρ) (fun x18 => ?_) (fun k19 hk19 => ?_)
    · refine WW.iconst (pc := 25) 0 dX12_on_25 rfl ?_
      exact hk3 false
    · refine WW.if_eqB (pc := 8) 25 dX12_on_8 (by decide) (fun _ => ?_) (fun _ => ?_)
      · refine WW.iload_n (pc := 11) (j := 3) rfl dX12_on_11 ?_
        refine WW.i2l (pc := 12) dX12_on_12 ?_
        refine WW.lconst (pc := 13) 0 dX12_on_13 rfl ?_
        refine WW.lconst (pc := 14) 1 dX12_on_14 rfl ?_
        refine WW.callS (pc := 15) (As := [.long (Int32.toInt64 a3), .long 0, .long 1]) (st := [.int 1, .int a1, .ref 23]) lk_X12_73 (okX12_in g ρ hρ d (Int32.toInt64 a3) 0 1) rfl (Nat.le_of_ble_eq_true rfl) ⟨Nat.le_of_ble_eq_true rfl, Nat.le_of_ble_eq_true rfl, Nat.le_of_ble_eq_true rfl, Nat.le_of_ble_eq_true rfl⟩ dX12_on_15 rfl (fun r20 hr20 => ?_)
        show WW _ _ _ 18 _ [.int (b2i r20), .int 1, .int a1, .ref 23] (full d ρ) 0 0 _
        refine WW.if_eqB (pc := 18) 25 dX12_on_18 (by decide) (fun _ => ?_) (fun _ => ?_)
        · refine WW.iconst (pc := 21) 1 dX12_on_21 rfl ?_
          refine WW.goto (pc := 22) 26 dX12_on_22 (by decide) ?_
          exact hk3 true
        · exact hk19 ()
      · exact hk19 ()
def fX12_shut (ρ : Rh) (d : Dd) (a1 : Int32) (a2 : Int32) (a3 : Int32) : Option (Int64 × Dd) :=
  (fX12_isNews ρ d a1).bind fun r1 =>
  if r1 = true then
    (jn (fun (x2 : Unit) =>
      (fX12_isBuyer ρ d a2).bind fun r4 =>
      (fX12_isPart a3).bind fun r5 =>
      (fX12_refusal ρ d a1 r4 r5).bind fun r6 =>
      if r6 = 0 then
        ((fX12_worthOf ρ d a1 (jshl 1 a2) a2).bind fun r7 =>
        (fX12_worthOf ρ r7.2 a1 ((jshl 1 (d_i r7.2 23 15)) - 1) a2).bind fun r8 =>
        (fX12_below ρ r8.2).bind fun r9 =>
        (fX12_term (r7.1 - r8.1) r9 a3).bind fun r10 =>
        some (r10, r8.2))
      else
        ((fX12_asLong r6).bind fun r11 =>
        some (r11, d))
      ) fun k3 =>
    if (d_i d 23 4) ≤ 0 then
      (k3 ())
    else
      ((fX12_isBuyer ρ d a2).bind fun r12 =>
      if r12 = true then
        (k3 ())
      else
        (some ((-1000000000000000001), d))))
  else
    (some ((-1000000000000000001), d))
set_option maxHeartbeats 4000000 in
set_option maxRecDepth 100000 in
theorem okX12_shut (g : Gx) (ρ : Rh) (hρ : Hr ρ) (d : Dd) (a1 : Int32) (a2 : Int32) (a3 : Int32) : CallR g M_X12_shut (eL ρ) [.ref 23, .int a1, .int a2, .int a3] (full d ρ) (fX12_shut ρ d a1 a2 a3) := by
  refine CallR.intro rfl rfl (Nat.le_of_ble_eq_true rfl) (fun a ha => ⟨_, rfl⟩) ?_
  show WW g _ _ 0 [(0, .ref 23), (1, .int a1), (2, .int a2), (3, .int a3)] [] (full d ρ) 0 0 _
  unfold fX12_shut
  refine WW.aload_n (pc := 0) (j := 0) rfl dX12_shut_0 ?_
  refine WW.iload_n (pc := 1) (j := 1) rfl dX12_shut_1 ?_
  refine WW.callV (pc := 2) (As := [.int a1]) (st := []) lk_X12_127 (okX12_isNews g ρ hρ d a1) h3_23 (sh_23 ρ) ⟨_, _, clk12⟩ rfl (Nat.le_of_ble_eq_true rfl) ⟨Nat.le_of_ble_eq_true rfl, Nat.le_of_ble_eq_true rfl, Nat.le_of_ble_eq_true rfl, Nat.le_of_ble_eq_true rfl⟩ dX12_shut_2 rfl (fun r1 hr1 => ?_)
  show WW _ _ _ 5 _ [.int (b2i r1)] (full d ρ) 0 0 _
  refine WW.if_eqB (pc := 5) 23 dX12_shut_5 (by decide) (fun _ => ?_) (fun _ => ?_)
  · refine WW.aload_n (pc := 8) (j := 0) rfl dX12_shut_8 ?_
    refine WW.sgi (pc := 9) fl_X12_44_12 h3_23 (sh_23 ρ) (Or.inl gt_12_4) dX12_shut_9 ?_
    refine WW.join (pj := 27) (Lj := fun (x2 : Unit) => [(0, .ref 23), (1, .int a1), (2, .int a2), (3, .int a3)]) (sj := fun (x2 : Unit) => []) (hj := fun (x2 : Unit) => full d ρ) (fun x2 => ?_) (fun k3 hk3 => ?_)
    · refine WW.aload_n (pc := 27) (j := 0) rfl dX12_shut_27 ?_
      refine WW.iload_n (pc := 28) (j := 1) rfl dX12_shut_28 ?_
      refine WW.aload_n (pc := 29) (j := 0) rfl dX12_shut_29 ?_
      refine WW.iload_n (pc := 30) (j := 2) rfl dX12_shut_30 ?_
      refine WW.callV (pc := 31) (As := [.int a2]) (st := [.int a1, .ref 23]) lk_X12_117 (okX12_isBuyer g ρ hρ d a2) h3_23 (sh_23 ρ) ⟨_, _, clk12⟩ rfl (Nat.le_of_ble_eq_true rfl) ⟨Nat.le_of_ble_eq_true rfl, Nat.le_of_ble_eq_true rfl, Nat.le_of_ble_eq_true rfl, Nat.le_of_ble_eq_true rfl⟩ dX12_shut_31 rfl (fun r4 hr4 => ?_)
      show WW _ _ _ 34 _ [.int (b2i r4), .int a1, .ref 23] (full d ρ) 0 0 _
      refine WW.iload_n (pc := 34) (j := 3) rfl dX12_shut_34 ?_
      refine WW.callS (pc := 35) (As := [.int a3]) (st := [.int (b2i r4), .int a1, .ref 23]) lk_X12_157 (okX12_isPart g ρ hρ d a3) rfl (Nat.le_of_ble_eq_true rfl) ⟨Nat.le_of_ble_eq_true rfl, Nat.le_of_ble_eq_true rfl, Nat.le_of_ble_eq_true rfl, Nat.le_of_ble_eq_true rfl⟩ dX12_shut_35 rfl (fun r5 hr5 => ?_)
      show WW _ _ _ 38 _ [.int (b2i r5), .int (b2i r4), .int a1, .ref 23] (full d ρ) 0 0 _
      refine WW.callV (pc := 38) (As := [.int a1, .int (b2i r4), .int (b2i r5)]) (st := []) lk_X12_160 (okX12_refusal g ρ hρ d a1 r4 r5) h3_23 (sh_23 ρ) ⟨_, _, clk12⟩ rfl (Nat.le_of_ble_eq_true rfl) ⟨Nat.le_of_ble_eq_true rfl, Nat.le_of_ble_eq_true rfl, Nat.le_of_ble_eq_true rfl, Nat.le_of_ble_eq_true rfl⟩ dX12_shut_38 rfl (fun r6 hr6 => ?_)
      show WW _ _ _ 41 _ [.int r6] (full d ρ) 0 0 _
      refine WW.istore (pc := 41) [(4, .int r6), (0, .ref 23), (1, .int a1), (2, .int a2), (3, .int a3)] rfl (by decide) dX12_shut_41 ?_
      refine WW.iload (pc := 43) (j := 0) rfl dX12_shut_43 ?_
      refine WW.if_eq (pc := 45) 54 dX12_shut_45 (by decide) (fun _ => ?_) (fun _ => ?_)
      · refine WW.aload_n (pc := 54) (j := 1) rfl dX12_shut_54 ?_
        refine WW.iload_n (pc := 55) (j := 2) rfl dX12_shut_55 ?_
        refine WW.iconst (pc := 56) 1 dX12_shut_56 rfl ?_
        refine WW.iload_n (pc := 57) (j := 3) rfl dX12_shut_57 ?_
        refine WW.ishl (pc := 58) dX12_shut_58 ?_
        refine WW.iload_n (pc := 59) (j := 3) rfl dX12_shut_59 ?_
        refine WW.callV (pc := 60) (As := [.int a1, .int (jshl 1 a2), .int a2]) (st := []) lk_X12_242 (okX12_worthOf g ρ hρ d a1 (jshl 1 a2) a2) h3_23 (sh_23 ρ) ⟨_, _, clk12⟩ rfl (Nat.le_of_ble_eq_true rfl) ⟨Nat.le_of_ble_eq_true rfl, Nat.le_of_ble_eq_true rfl, Nat.le_of_ble_eq_true rfl, Nat.le_of_ble_eq_true rfl⟩ dX12_shut_60 rfl (fun r7 hr7 => ?_)
        show WW _ _ _ 63 _ [.long r7.1] (full r7.2 ρ) 0 0 _
        refine WW.lstore (pc := 63) [(5, .long r7.1), (4, .int r6), (0, .ref 23), (1, .int a1), (2, .int a2), (3, .int a3)] rfl (by decide) dX12_shut_63 ?_
        refine WW.lload (pc := 65) (j := 0) rfl dX12_shut_65 ?_
        refine WW.aload_n (pc := 67) (j := 2) rfl dX12_shut_67 ?_
        refine WW.iload_n (pc := 68) (j := 3) rfl dX12_shut_68 ?_
        refine WW.iconst (pc := 69) 1 dX12_shut_69 rfl ?_
        refine WW.aload_n (pc := 70) (j := 2) rfl dX12_shut_70 ?_
        refine WW.sgi (pc := 71) fl_X12_114_12 h3_23 (sh_23 ρ) (Or.inl gt_12_15) dX12_shut_71 ?_
        refine WW.ishl (pc := 74) dX12_shut_74 ?_
        refine WW.iconst (pc := 75) 1 dX12_shut_75 rfl ?_
        refine WW.isub (pc := 76) dX12_shut_76 ?_
        refine WW.iload_n (pc := 77) (j := 4) rfl dX12_shut_77 ?_
        refine WW.callV (pc := 78) (As := [.int a1, .int ((jshl 1 (d_i r7.2 23 15)) - 1), .int a2]) (st := [.long r7.1]) lk_X12_242 (okX12_worthOf g ρ hρ r7.2 a1 ((jshl 1 (d_i r7.2 23 15)) - 1) a2) h3_23 (sh_23 ρ) ⟨_, _, clk12⟩ rfl (Nat.le_of_ble_eq_true rfl) ⟨Nat.le_of_ble_eq_true rfl, Nat.le_of_ble_eq_true rfl, Nat.le_of_ble_eq_true rfl, Nat.le_of_ble_eq_true rfl⟩ dX12_shut_78 rfl (fun r8 hr8 => ?_)
        show WW _ _ _ 81 _ [.long r8.1, .long r7.1] (full r8.2 ρ) 0 0 _
        refine WW.lsub (pc := 81) dX12_shut_81 ?_
        refine WW.aload_n (pc := 82) (j := 2) rfl dX12_shut_82 ?_
        refine WW.callV (pc := 83) (As := []) (st := [.long (r7.1 - r8.1)]) lk_X12_245 (okX12_below g ρ hρ r8.2 ) h3_23 (sh_23 ρ) ⟨_, _, clk12⟩ rfl (Nat.le_of_ble_eq_true rfl) ⟨Nat.le_of_ble_eq_true rfl, Nat.le_of_ble_eq_true rfl, Nat.le_of_ble_eq_true rfl, Nat.le_of_ble_eq_true rfl⟩ dX12_shut_83 rfl (fun r9 hr9 => ?_)
        show WW _ _ _ 86 _ [.long r9, .long (r7.1 - r8.1)] (full r8.2 ρ) 0 0 _
        refine WW.iload_n (pc := 86) (j := 5) rfl dX12_shut_86 ?_
        refine WW.callS (pc := 87) (As := [.long (r7.1 - r8.1), .long r9, .int a3]) (st := []) lk_X12_174 (okX12_term g ρ hρ r8.2 (r7.1 - r8.1) r9 a3) rfl (Nat.le_of_ble_eq_true rfl) ⟨Nat.le_of_ble_eq_true rfl, Nat.le_of_ble_eq_true rfl, Nat.le_of_ble_eq_true rfl, Nat.le_of_ble_eq_true rfl⟩ dX12_shut_87 rfl (fun r10 hr10 => ?_)
        show WW _ _ _ 90 _ [.long r10] (full r8.2 ρ) 0 0 _
        exact WW.ret rfl rfl (show RetI M_X12_shut 90 from dX12_shut_90) ⟨Nat.le_refl _, Nat.le_refl _⟩ rfl
      · refine WW.iload (pc := 48) (j := 0) rfl dX12_shut_48 ?_
        refine WW.callS (pc := 50) (As := [.int r6]) (st := []) lk_X12_164 (okX12_asLong g ρ hρ d r6) rfl (Nat.le_of_ble_eq_true rfl) ⟨Nat.le_of_ble_eq_true rfl, Nat.le_of_ble_eq_true rfl, Nat.le_of_ble_eq_true rfl, Nat.le_of_ble_eq_true rfl⟩ dX12_shut_50 rfl (fun r11 hr11 => ?_)
        show WW _ _ _ 53 _ [.long r11] (full d ρ) 0 0 _
        exact WW.ret rfl rfl (show RetI M_X12_shut 53 from dX12_shut_53) ⟨Nat.le_refl _, Nat.le_refl _⟩ rfl
    · refine WW.if_le (pc := 12) 27 dX12_shut_12 (by decide) (fun _ => ?_) (fun _ => ?_)
      · exact hk3 ()
      · refine WW.aload_n (pc := 15) (j := 0) rfl dX12_shut_15 ?_
        refine WW.iload_n (pc := 16) (j := 2) rfl dX12_shut_16 ?_
        refine WW.callV (pc := 17) (As := [.int a2]) (st := []) lk_X12_117 (okX12_isBuyer g ρ hρ d a2) h3_23 (sh_23 ρ) ⟨_, _, clk12⟩ rfl (Nat.le_of_ble_eq_true rfl) ⟨Nat.le_of_ble_eq_true rfl, Nat.le_of_ble_eq_true rfl, Nat.le_of_ble_eq_true rfl, Nat.le_of_ble_eq_true rfl⟩ dX12_shut_17 rfl (fun r12 hr12 => ?_)
        show WW _ _ _ 20 _ [.int (b2i r12)] (full d ρ) 0 0 _
        refine WW.if_neB (pc := 20) 27 dX12_shut_20 (by decide) (fun _ => ?_) (fun _ => ?_)
        · exact hk3 ()
        · refine WW.ldc2 (pc := 23) wd_1015 dX12_shut_23 ?_
          exact WW.ret rfl rfl (show RetI M_X12_shut 26 from dX12_shut_26) ⟨Nat.le_refl _, Nat.le_refl _⟩ rfl
  · refine WW.ldc2 (pc := 23) wd_1015 dX12_shut_23 ?_
    exact WW.ret rfl rfl (show RetI M_X12_shut 26 from dX12_shut_26) ⟨Nat.le_refl _, Nat.le_refl _⟩ rfl
def fX12_wrongly (ρ : Rh) (d : Dd) (a1 : Int32) (a2 : Int32) (a3 : Int32) (a4 : Int32) (a5 : Int32) (a6 : Int32) : Option (Int64 × Dd) :=
  (fX12_isBuyer ρ d a5).bind fun r1 =>
  jn (fun (x2 : Bool) =>
    (fX12_isSet ρ d a2).bind fun r4 =>
    jn (fun (x5 : Bool) =>
      (fX12_refusal ρ d a1 x2 x5).bind fun r7 =>
      if r7 = 0 then
        ((fX12_heardOf ρ d a1 a3).bind fun r8 =>
        if r8 = 0 then
          (some ((-1000000000000000004), d))
        else
          ((fX12_dealtFor ρ d a1 a2 a3 (-1)).bind fun r9 =>
          (fX12_stepsOf r9.1 a5).bind fun r10 =>
          jn (fun (x11 : Int32) =>
            if inB a4 4 = true then
              ((fX12_baseOf ρ r9.2 a1 a4).bind fun r13 =>
              (fX12_together ρ r9.2 r9.1).bind fun r14 =>
              if inB a5 4 = true then
                (bnd ((((Int32.toInt64 r10) * (Int32.toInt64 (((100 * (d_i r9.2 26 (ix a4))) - r13) - ((100 * (d_i r9.2 23 3)) * r14)))) - ((100 * (Int32.toInt64 (d_i r9.2 30 (ix a5)))) * (Int32.toInt64 x11))) : Int64) fun v15 =>
                (fX12_term v15 100 a6).bind fun r16 =>
                some (r16, r9.2))
              else none)
            else none
            ) fun k12 =>
          if 0 ≤ r10 then
            (k12 r10)
          else
            (k12 (-r10))))
      else
        ((fX12_asLong r7).bind fun r17 =>
        some (r17, d))
      ) fun k6 =>
    jn (fun (x18 : Unit) =>
      k6 false
      ) fun k19 =>
    if r4 = true then
      ((fX12_isSign a3).bind fun r20 =>
      if r20 = true then
        ((fX12_isPart a6).bind fun r21 =>
        if r21 = true then
          (k6 true)
        else
          (k19 ()))
      else
        (k19 ()))
    else
      (k19 ())
    ) fun k3 =>
  jn (fun (x22 : Unit) =>
    k3 false
    ) fun k23 =>
  if r1 = true then
    ((fX12_isCase ρ d a4).bind fun r24 =>
    if r24 = true then
      (k3 true)
    else
      (k23 ()))
  else
    (k23 ())
set_option maxHeartbeats 4000000 in
set_option maxRecDepth 100000 in
theorem okX12_wrongly (g : Gx) (ρ : Rh) (hρ : Hr ρ) (d : Dd) (a1 : Int32) (a2 : Int32) (a3 : Int32) (a4 : Int32) (a5 : Int32) (a6 : Int32) : CallR g M_X12_wrongly (eL ρ) [.ref 23, .int a1, .int a2, .int a3, .int a4, .int a5, .int a6] (full d ρ) (fX12_wrongly ρ d a1 a2 a3 a4 a5 a6) := by
  refine CallR.intro rfl rfl (Nat.le_of_ble_eq_true rfl) (fun a ha => ⟨_, rfl⟩) ?_
  show WW g _ _ 0 [(0, .ref 23), (1, .int a1), (2, .int a2), (3, .int a3), (4, .int a4), (5, .int a5), (6, .int a6)] [] (full d ρ) 0 0 _
  unfold fX12_wrongly
  refine WW.aload_n (pc := 0) (j := 0) rfl dX12_wrongly_0 ?_
  refine WW.iload_n (pc := 1) (j := 1) rfl dX12_wrongly_1 ?_
  refine WW.aload_n (pc := 2) (j := 0) rfl dX12_wrongly_2 ?_
  refine WW.iload (pc := 3) (j := 5) rfl dX12_wrongly_3 ?_
  refine WW.callV (pc := 5) (As := [.int a5]) (st := [.int a1, .ref 23]) lk_X12_117 (okX12_isBuyer g ρ hρ d a5) h3_23 (sh_23 ρ) ⟨_, _, clk12⟩ rfl (Nat.le_of_ble_eq_true rfl) ⟨Nat.le_of_ble_eq_true rfl, Nat.le_of_ble_eq_true rfl, Nat.le_of_ble_eq_true rfl, Nat.le_of_ble_eq_true rfl⟩ dX12_wrongly_5 rfl (fun r1 hr1 => ?_)
  show WW _ _ _ 8 _ [.int (b2i r1), .int a1, .ref 23] (full d ρ) 0 0 _
  refine WW.join (pj := 25) (Lj := fun (x2 : Bool) => [(0, .ref 23), (1, .int a1), (2, .int a2), (3, .int a3), (4, .int a4), (5, .int a5), (6, .int a6)]) (sj := fun (x2 : Bool) => [.int (b2i x2), .int a1, .ref 23]) (hj := fun (x2 : Bool) => full d ρ) (fun x2 => ?_) (fun k3 hk3 => ?_)
  · refine WW.aload_n (pc := 25) (j := 0) rfl dX12_wrongly_25 ?_
    refine WW.iload_n (pc := 26) (j := 2) rfl dX12_wrongly_26 ?_
    refine WW.callV (pc := 27) (As := [.int a2]) (st := [.int (b2i x2), .int a1, .ref 23]) lk_X12_227 (okX12_isSet g ρ hρ d a2) h3_23 (sh_23 ρ) ⟨_, _, clk12⟩ rfl (Nat.le_of_ble_eq_true rfl) ⟨Nat.le_of_ble_eq_true rfl, Nat.le_of_ble_eq_true rfl, Nat.le_of_ble_eq_true rfl, Nat.le_of_ble_eq_true rfl⟩ dX12_wrongly_27 rfl (fun r4 hr4 => ?_)
    show WW _ _ _ 30 _ [.int (b2i r4), .int (b2i x2), .int a1, .ref 23] (full d ρ) 0 0 _
    refine WW.join (pj := 53) (Lj := fun (x5 : Bool) => [(0, .ref 23), (1, .int a1), (2, .int a2), (3, .int a3), (4, .int a4), (5, .int a5), (6, .int a6)]) (sj := fun (x5 : Bool) => [.int (b2i x5), .int (b2i x2), .int a1, .ref 23]) (hj := fun (x5 : Bool) => full d ρ) (fun x5 => ?_) (fun k6 hk6 => ?_)
    · refine WW.callV (pc := 53) (As := [.int a1, .int (b2i x2), .int (b2i x5)]) (st := []) lk_X12_160 (okX12_refusal g ρ hρ d a1 x2 x5) h3_23 (sh_23 ρ) ⟨_, _, clk12⟩ rfl (Nat.le_of_ble_eq_true rfl) ⟨Nat.le_of_ble_eq_true rfl, Nat.le_of_ble_eq_true rfl, Nat.le_of_ble_eq_true rfl, Nat.le_of_ble_eq_true rfl⟩ dX12_wrongly_53 rfl (fun r7 hr7 => ?_)
      show WW _ _ _ 56 _ [.int r7] (full d ρ) 0 0 _
      refine WW.istore (pc := 56) [(7, .int r7), (0, .ref 23), (1, .int a1), (2, .int a2), (3, .int a3), (4, .int a4), (5, .int a5), (6, .int a6)] rfl (by decide) dX12_wrongly_56 ?_
      refine WW.iload (pc := 58) (j := 0) rfl dX12_wrongly_58 ?_
      refine WW.if_eq (pc := 60) 69 dX12_wrongly_60 (by decide) (fun _ => ?_) (fun _ => ?_)
      · refine WW.aload_n (pc := 69) (j := 1) rfl dX12_wrongly_69 ?_
        refine WW.iload_n (pc := 70) (j := 2) rfl dX12_wrongly_70 ?_
        refine WW.iload_n (pc := 71) (j := 4) rfl dX12_wrongly_71 ?_
        refine WW.callV (pc := 72) (As := [.int a1, .int a3]) (st := []) lk_X12_168 (okX12_heardOf g ρ hρ d a1 a3) h3_23 (sh_23 ρ) ⟨_, _, clk12⟩ rfl (Nat.le_of_ble_eq_true rfl) ⟨Nat.le_of_ble_eq_true rfl, Nat.le_of_ble_eq_true rfl, Nat.le_of_ble_eq_true rfl, Nat.le_of_ble_eq_true rfl⟩ dX12_wrongly_72 rfl (fun r8 hr8 => ?_)
        show WW _ _ _ 75 _ [.int r8] (full d ρ) 0 0 _
        refine WW.if_ne (pc := 75) 82 dX12_wrongly_75 (by decide) (fun _ => ?_) (fun _ => ?_)
        · refine WW.ldc2 (pc := 78) wd_1048 dX12_wrongly_78 ?_
          exact WW.ret rfl rfl (show RetI M_X12_wrongly 81 from dX12_wrongly_81) ⟨Nat.le_refl _, Nat.le_refl _⟩ rfl
        · refine WW.aload_n (pc := 82) (j := 1) rfl dX12_wrongly_82 ?_
          refine WW.iload_n (pc := 83) (j := 2) rfl dX12_wrongly_83 ?_
          refine WW.iload_n (pc := 84) (j := 3) rfl dX12_wrongly_84 ?_
          refine WW.iload_n (pc := 85) (j := 4) rfl dX12_wrongly_85 ?_
          refine WW.iconst (pc := 86) (-1) dX12_wrongly_86 rfl ?_
          refine WW.callV (pc := 87) (As := [.int a1, .int a2, .int a3, .int (-1)]) (st := []) lk_X12_232 (okX12_dealtFor g ρ hρ d a1 a2 a3 (-1)) h3_23 (sh_23 ρ) ⟨_, _, clk12⟩ rfl (Nat.le_of_ble_eq_true rfl) ⟨Nat.le_of_ble_eq_true rfl, Nat.le_of_ble_eq_true rfl, Nat.le_of_ble_eq_true rfl, Nat.le_of_ble_eq_true rfl⟩ dX12_wrongly_87 rfl (fun r9 hr9 => ?_)
          show WW _ _ _ 90 _ [.int r9.1] (full r9.2 ρ) 0 0 _
          refine WW.istore (pc := 90) [(8, .int r9.1), (7, .int r7), (0, .ref 23), (1, .int a1), (2, .int a2), (3, .int a3), (4, .int a4), (5, .int a5), (6, .int a6)] rfl (by decide) dX12_wrongly_90 ?_
          refine WW.iload (pc := 92) (j := 0) rfl dX12_wrongly_92 ?_
          refine WW.iload (pc := 94) (j := 7) rfl dX12_wrongly_94 ?_
          refine WW.callS (pc := 96) (As := [.int r9.1, .int a5]) (st := []) lk_X12_188 (okX12_stepsOf g ρ hρ r9.2 r9.1 a5) rfl (Nat.le_of_ble_eq_true rfl) ⟨Nat.le_of_ble_eq_true rfl, Nat.le_of_ble_eq_true rfl, Nat.le_of_ble_eq_true rfl, Nat.le_of_ble_eq_true rfl⟩ dX12_wrongly_96 rfl (fun r10 hr10 => ?_)
          show WW _ _ _ 99 _ [.int r10] (full r9.2 ρ) 0 0 _
          refine WW.istore (pc := 99) [(9, .int r10), (8, .int r9.1), (7, .int r7), (0, .ref 23), (1, .int a1), (2, .int a2), (3, .int a3), (4, .int a4), (5, .int a5), (6, .int a6)] rfl (by decide) dX12_wrongly_99 ?_
          refine WW.iload (pc := 101) (j := 0) rfl dX12_wrongly_101 ?_
          refine WW.join (pj := 114) (Lj := fun (x11 : Int32) => [(0, .ref 23), (1, .int a1), (4, .int a4), (5, .int a5), (6, .int a6), (8, .int r9.1), (9, .int r10)]) (sj := fun (x11 : Int32) => [.int x11]) (hj := fun (x11 : Int32) => full r9.2 ρ) (fun x11 => ?_) (fun k12 hk12 => ?_)
          · refine WW.istore (pc := 114) [(10, .int x11), (0, .ref 23), (1, .int a1), (4, .int a4), (5, .int a5), (6, .int a6), (8, .int r9.1), (9, .int r10)] rfl (by decide) dX12_wrongly_114 ?_
            refine WW.iload (pc := 116) (j := 7) rfl dX12_wrongly_116 ?_
            refine WW.i2l (pc := 118) dX12_wrongly_118 ?_
            refine WW.bipush (pc := 119) 100 dX12_wrongly_119 rfl ?_
            refine WW.aload_n (pc := 121) (j := 1) rfl dX12_wrongly_121 ?_
            refine WW.sgr (pc := 122) fl_X12_16_12 h3_23 (sh_23 ρ) (Or.inr ⟨_, gt_12_6⟩) (hr_23_6 ρ) dX12_wrongly_122 ?_
            refine WW.iload (pc := 125) (j := 3) rfl dX12_wrongly_125 ?_
            refine WW.siald (pc := 127) (one_le h3_26) (sh_26 ρ) dX12_wrongly_127 ?_
            refine WW.imul (pc := 128) dX12_wrongly_128 ?_
            refine WW.aload_n (pc := 129) (j := 1) rfl dX12_wrongly_129 ?_
            refine WW.iload_n (pc := 130) (j := 2) rfl dX12_wrongly_130 ?_
            refine WW.iload (pc := 131) (j := 3) rfl dX12_wrongly_131 ?_
            refine WW.callV (pc := 133) (As := [.int a1, .int a4]) (st := [.int (100 * (d_i r9.2 26 (ix a4))), .long (Int32.toInt64 r10)]) lk_X12_140 (okX12_baseOf g ρ hρ r9.2 a1 a4) h3_23 (sh_23 ρ) ⟨_, _, clk12⟩ rfl (Nat.le_of_ble_eq_true rfl) ⟨Nat.le_of_ble_eq_true rfl, Nat.le_of_ble_eq_true rfl, Nat.le_of_ble_eq_true rfl, Nat.le_of_ble_eq_true rfl⟩ dX12_wrongly_133 rfl (fun r13 hr13 => ?_)
            show WW _ _ _ 136 _ [.int r13, .int (100 * (d_i r9.2 26 (ix a4))), .long (Int32.toInt64 r10)] (full r9.2 ρ) 0 0 _
            refine WW.isub (pc := 136) dX12_wrongly_136 ?_
            refine WW.bipush (pc := 137) 100 dX12_wrongly_137 rfl ?_
            refine WW.aload_n (pc := 139) (j := 1) rfl dX12_wrongly_139 ?_
            refine WW.sgi (pc := 140) fl_X12_104_12 h3_23 (sh_23 ρ) (Or.inl gt_12_3) dX12_wrongly_140 ?_
            refine WW.imul (pc := 143) dX12_wrongly_143 ?_
            refine WW.aload_n (pc := 144) (j := 1) rfl dX12_wrongly_144 ?_
            refine WW.iload (pc := 145) (j := 6) rfl dX12_wrongly_145 ?_
            refine WW.callV (pc := 147) (As := [.int r9.1]) (st := [.int (100 * (d_i r9.2 23 3)), .int ((100 * (d_i r9.2 26 (ix a4))) - r13), .long (Int32.toInt64 r10)]) lk_X12_198 (okX12_together g ρ hρ r9.2 r9.1) h3_23 (sh_23 ρ) ⟨_, _, clk12⟩ rfl (Nat.le_of_ble_eq_true rfl) ⟨Nat.le_of_ble_eq_true rfl, Nat.le_of_ble_eq_true rfl, Nat.le_of_ble_eq_true rfl, Nat.le_of_ble_eq_true rfl⟩ dX12_wrongly_147 rfl (fun r14 hr14 => ?_)
            show WW _ _ _ 150 _ [.int r14, .int (100 * (d_i r9.2 23 3)), .int ((100 * (d_i r9.2 26 (ix a4))) - r13), .long (Int32.toInt64 r10)] (full r9.2 ρ) 0 0 _
            refine WW.imul (pc := 150) dX12_wrongly_150 ?_
            refine WW.isub (pc := 151) dX12_wrongly_151 ?_
            refine WW.i2l (pc := 152) dX12_wrongly_152 ?_
            refine WW.lmul (pc := 153) dX12_wrongly_153 ?_
            refine WW.ldc2 (pc := 154) wd_989 dX12_wrongly_154 ?_
            refine WW.aload_n (pc := 157) (j := 1) rfl dX12_wrongly_157 ?_
            refine WW.sgr (pc := 158) fl_X12_28_12 h3_23 (sh_23 ρ) (Or.inr ⟨_, gt_12_17⟩) (hr_23_17 ρ) dX12_wrongly_158 ?_
            refine WW.iload (pc := 161) (j := 4) rfl dX12_wrongly_161 ?_
            refine WW.siald (pc := 163) (one_le h3_30) (sh_30 ρ) dX12_wrongly_163 ?_
            refine WW.i2l (pc := 164) dX12_wrongly_164 ?_
            refine WW.lmul (pc := 165) dX12_wrongly_165 ?_
            refine WW.iload (pc := 166) (j := 0) rfl dX12_wrongly_166 ?_
            refine WW.i2l (pc := 168) dX12_wrongly_168 ?_
            refine WW.lmul (pc := 169) dX12_wrongly_169 ?_
            refine WW.lsub (pc := 170) dX12_wrongly_170 ?_
            refine WW.nml (fun v15 => ?_)
            refine WW.lstore (pc := 171) [(11, .long v15), (10, .int x11), (0, .ref 23), (1, .int a1), (4, .int a4), (5, .int a5), (6, .int a6), (8, .int r9.1), (9, .int r10)] rfl (by decide) dX12_wrongly_171 ?_
            refine WW.lload (pc := 173) (j := 0) rfl dX12_wrongly_173 ?_
            refine WW.ldc2 (pc := 175) wd_989 dX12_wrongly_175 ?_
            refine WW.iload (pc := 178) (j := 6) rfl dX12_wrongly_178 ?_
            refine WW.callS (pc := 180) (As := [.long v15, .long 100, .int a6]) (st := []) lk_X12_174 (okX12_term g ρ hρ r9.2 v15 100 a6) rfl (Nat.le_of_ble_eq_true rfl) ⟨Nat.le_of_ble_eq_true rfl, Nat.le_of_ble_eq_true rfl, Nat.le_of_ble_eq_true rfl, Nat.le_of_ble_eq_true rfl⟩ dX12_wrongly_180 rfl (fun r16 hr16 => ?_)
            show WW _ _ _ 183 _ [.long r16] (full r9.2 ρ) 0 0 _
            exact WW.ret rfl rfl (show RetI M_X12_wrongly 183 from dX12_wrongly_183) ⟨Nat.le_refl _, Nat.le_refl _⟩ rfl
          · refine WW.if_ge (pc := 103) 112 dX12_wrongly_103 (by decide) (fun _ => ?_) (fun _ => ?_)
            · refine WW.iload (pc := 112) (j := 0) rfl dX12_wrongly_112 ?_
              refine WW.sub [3, 4, 7, 8, 9, 1, 0] rfl ?_
              exact hk12 r10
            · refine WW.iload (pc := 106) (j := 0) rfl dX12_wrongly_106 ?_
              refine WW.ineg (pc := 108) dX12_wrongly_108 ?_
              refine WW.goto (pc := 109) 114 dX12_wrongly_109 (by decide) ?_
              refine WW.sub [3, 4, 7, 8, 9, 1, 0] rfl ?_
              exact hk12 (-r10)
      · refine WW.iload (pc := 63) (j := 0) rfl dX12_wrongly_63 ?_
        refine WW.callS (pc := 65) (As := [.int r7]) (st := []) lk_X12_164 (okX12_asLong g ρ hρ d r7) rfl (Nat.le_of_ble_eq_true rfl) ⟨Nat.le_of_ble_eq_true rfl, Nat.le_of_ble_eq_true rfl, Nat.le_of_ble_eq_true rfl, Nat.le_of_ble_eq_true rfl⟩ dX12_wrongly_65 rfl (fun r17 hr17 => ?_)
        show WW _ _ _ 68 _ [.long r17] (full d ρ) 0 0 _
        exact WW.ret rfl rfl (show RetI M_X12_wrongly 68 from dX12_wrongly_68) ⟨Nat.le_refl _, Nat.le_refl _⟩ rfl
    · refine WW.join (pj := 52) (Lj := fun (x18 : Unit) => [(0, .ref 23), (1, .int a1), (2, .int a2), (3, .int a3), (4, .int a4), (5, .int a5), (6, .int a6)]) (sj := fun (x18 : Unit) => [.int (b2i x2), .int a1, .ref 23]) (hj := fun (x18 : Unit) => full d ρ) (fun x18 => ?_) (fun k19 hk19 => ?_)
      · refine WW.iconst (pc := 52) 0 dX12_wrongly_52 rfl ?_
        exact hk6 false
      · refine WW.if_eqB (pc := 30) 52 dX12_wrongly_30 (by decide) (fun _ => ?_) (fun _ => ?_)
        · refine WW.iload_n (pc := 33) (j := 3) rfl dX12_wrongly_33 ?_
          refine WW.callS (pc := 34) (As := [.int a3]) (st := [.int (b2i x2), .int a1, .ref 23]) lk_X12_154 (okX12_isSign g ρ hρ d a3) rfl (Nat.le_of_ble_eq_true rfl) ⟨Nat.le_of_ble_eq_true rfl, Nat.le_of_ble_eq_true rfl, Nat.le_of_ble_eq_true rfl, Nat.le_of_ble_eq_true rfl⟩ dX12_wrongly_34 rfl (fun r20 hr20 => ?_)
          show WW _ _ _ 37 _ [.int (b2i r20), .int (b2i x2), .int a1, .ref 23] (full d ρ) 0 0 _
          refine WW.if_eqB (pc := 37) 52 dX12_wrongly_37 (by decide) (fun _ => ?_) (fun _ => ?_)
          · refine WW.iload (pc := 40) (j := 6) rfl dX12_wrongly_40 ?_
            refine WW.callS (pc := 42) (As := [.int a6]) (st := [.int (b2i x2), .int a1, .ref 23]) lk_X12_157 (okX12_isPart g ρ hρ d a6) rfl (Nat.le_of_ble_eq_true rfl) ⟨Nat.le_of_ble_eq_true rfl, Nat.le_of_ble_eq_true rfl, Nat.le_of_ble_eq_true rfl, Nat.le_of_ble_eq_true rfl⟩ dX12_wrongly_42 rfl (fun r21 hr21 => ?_)
            show WW _ _ _ 45 _ [.int (b2i r21), .int (b2i x2), .int a1, .ref 23] (full d ρ) 0 0 _
            refine WW.if_eqB (pc := 45) 52 dX12_wrongly_45 (by decide) (fun _ => ?_) (fun _ => ?_)
            · refine WW.iconst (pc := 48) 1 dX12_wrongly_48 rfl ?_
              refine WW.goto (pc := 49) 53 dX12_wrongly_49 (by decide) ?_
              exact hk6 true
            · exact hk19 ()
          · exact hk19 ()
        · exact hk19 ()
  · refine WW.join (pj := 24) (Lj := fun (x22 : Unit) => [(0, .ref 23), (1, .int a1), (2, .int a2), (3, .int a3), (4, .int a4), (5, .int a5), (6, .int a6)]) (sj := fun (x22 : Unit) => [.int a1, .ref 23]) (hj := fun (x22 : Unit) => full d ρ) (fun x22 => ?_) (fun k23 hk23 => ?_)
    · refine WW.iconst (pc := 24) 0 dX12_wrongly_24 rfl ?_
      exact hk3 false
    · refine WW.if_eqB (pc := 8) 24 dX12_wrongly_8 (by decide) (fun _ => ?_) (fun _ => ?_)
      · refine WW.aload_n (pc := 11) (j := 0) rfl dX12_wrongly_11 ?_
        refine WW.iload (pc := 12) (j := 4) rfl dX12_wrongly_12 ?_
        refine WW.callV (pc := 14) (As := [.int a4]) (st := [.int a1, .ref 23]) lk_X12_107 (okX12_isCase g ρ hρ d a4) h3_23 (sh_23 ρ) ⟨_, _, clk12⟩ rfl (Nat.le_of_ble_eq_true rfl) ⟨Nat.le_of_ble_eq_true rfl, Nat.le_of_ble_eq_true rfl, Nat.le_of_ble_eq_true rfl, Nat.le_of_ble_eq_true rfl⟩ dX12_wrongly_14 rfl (fun r24 hr24 => ?_)
        show WW _ _ _ 17 _ [.int (b2i r24), .int a1, .ref 23] (full d ρ) 0 0 _
        refine WW.if_eqB (pc := 17) 24 dX12_wrongly_17 (by decide) (fun _ => ?_) (fun _ => ?_)
        · refine WW.iconst (pc := 20) 1 dX12_wrongly_20 rfl ?_
          refine WW.goto (pc := 21) 25 dX12_wrongly_21 (by decide) ?_
          exact hk3 true
        · exact hk23 ()
      · exact hk23 ()
def fX12_layStepsBySign (ρ : Rh) (d : Dd) (a1 : Int32) (a2 : Int32) : Option Dd :=
  lp (fun self2 (x1 : Int32 × Dd) =>
    if 4 ≤ x1.1 then
      (some x1.2)
    else
      ((fX12_heardOf ρ x1.2 a1 x1.1).bind fun r3 =>
      jn (fun (x4 : Int32 × Dd) =>
        if inB x1.1 4 = true then
          (bnd (dI x4.2 34 (ix x1.1) x4.1) fun d6 =>
          self2 ((x1.1 + 1), d6))
        else none
        ) fun k5 =>
      if r3 = 0 then
        (k5 (99, x1.2))
      else
        ((fX12_dealtFor ρ x1.2 a1 a2 x1.1 (-1)).bind fun r7 =>
        (fX12_together ρ r7.2 r7.1).bind fun r8 =>
        k5 (r8, r7.2)))
    ) 6000 (0, d)
set_option maxHeartbeats 4000000 in
set_option maxRecDepth 100000 in
theorem okX12_layStepsBySign (g : Gx) (ρ : Rh) (hρ : Hr ρ) (d : Dd) (a1 : Int32) (a2 : Int32) : CallR g M_X12_layStepsBySign (eV ρ) [.ref 23, .int a1, .int a2] (full d ρ) (fX12_layStepsBySign ρ d a1 a2) := by
  refine CallR.intro rfl rfl (Nat.le_of_ble_eq_true rfl) (fun a ha => rfl) ?_
  show WW g _ _ 0 [(0, .ref 23), (1, .int a1), (2, .int a2)] [] (full d ρ) 0 0 _
  unfold fX12_layStepsBySign
  refine WW.iconst (pc := 0) 0 dX12_layStepsBySign_0 rfl ?_
  refine WW.istore_n (pc := 1) [(3, .int 0), (0, .ref 23), (1, .int a1), (2, .int a2)] rfl (by decide) dX12_layStepsBySign_1 ?_
  refine WW.sub [1, 2, 3, 0] rfl ?_
  refine WW.loop (pc := 2) (Lj := fun (x1 : Int32 × Dd) => [(0, .ref 23), (1, .int a1), (2, .int a2), (3, .int x1.1)]) (hj := fun (x1 : Int32 × Dd) => full x1.2 ρ) (fun self2 hself2 x1 => ?_) 6000 (0, d)
  refine WW.iload_n (pc := 2) (j := 3) rfl dX12_layStepsBySign_2 ?_
  refine WW.iconst (pc := 3) 4 dX12_layStepsBySign_3 rfl ?_
  refine WW.icmp_ge (pc := 4) 45 dX12_layStepsBySign_4 (by decide) (fun _ => ?_) (fun _ => ?_)
  · exact WW.ret rfl rfl (show RetI M_X12_layStepsBySign 45 from dX12_layStepsBySign_45) ⟨Nat.le_refl _, Nat.le_refl _⟩ rfl
  · refine WW.aload_n (pc := 7) (j := 0) rfl dX12_layStepsBySign_7 ?_
    refine WW.sgr (pc := 8) fl_X12_41_12 h3_23 (sh_23 ρ) (Or.inr ⟨_, gt_12_29⟩) (hr_23_29 ρ) dX12_layStepsBySign_8 ?_
    refine WW.iload_n (pc := 11) (j := 3) rfl dX12_layStepsBySign_11 ?_
    refine WW.aload_n (pc := 12) (j := 0) rfl dX12_layStepsBySign_12 ?_
    refine WW.iload_n (pc := 13) (j := 1) rfl dX12_layStepsBySign_13 ?_
    refine WW.iload_n (pc := 14) (j := 3) rfl dX12_layStepsBySign_14 ?_
    refine WW.callV (pc := 15) (As := [.int a1, .int x1.1]) (st := [.int x1.1, .ref 34]) lk_X12_168 (okX12_heardOf g ρ hρ x1.2 a1 x1.1) h3_23 (sh_23 ρ) ⟨_, _, clk12⟩ rfl (Nat.le_of_ble_eq_true rfl) ⟨Nat.le_of_ble_eq_true rfl, Nat.le_of_ble_eq_true rfl, Nat.le_of_ble_eq_true rfl, Nat.le_of_ble_eq_true rfl⟩ dX12_layStepsBySign_15 rfl (fun r3 hr3 => ?_)
    show WW _ _ _ 18 _ [.int r3, .int x1.1, .ref 34] (full x1.2 ρ) 0 0 _
    refine WW.join (pj := 38) (Lj := fun (x4 : Int32 × Dd) => [(0, .ref 23), (1, .int a1), (2, .int a2), (3, .int x1.1)]) (sj := fun (x4 : Int32 × Dd) => [.int x4.1, .int x1.1, .ref 34]) (hj := fun (x4 : Int32 × Dd) => full x4.2 ρ) (fun x4 => ?_) (fun k5 hk5 => ?_)
    · refine WW.siast (pc := 38) h3_34 (sh_34 ρ) dX12_layStepsBySign_38 (fun d6 => ?_)
      refine WW.iinc (pc := 39) (j := 3) (x1.1 + 1) [(3, .int (x1.1 + 1)), (0, .ref 23), (1, .int a1), (2, .int a2)] rfl rfl rfl (by decide) dX12_layStepsBySign_39 ?_
      refine WW.goto (pc := 42) 2 dX12_layStepsBySign_42 (by decide) ?_
      refine WW.sub [1, 2, 3, 0] rfl ?_
      exact hself2 ((x1.1 + 1), d6)
    · refine WW.if_ne (pc := 18) 26 dX12_layStepsBySign_18 (by decide) (fun _ => ?_) (fun _ => ?_)
      · refine WW.bipush (pc := 21) 99 dX12_layStepsBySign_21 rfl ?_
        refine WW.goto (pc := 23) 38 dX12_layStepsBySign_23 (by decide) ?_
        exact hk5 (99, x1.2)
      · refine WW.aload_n (pc := 26) (j := 0) rfl dX12_layStepsBySign_26 ?_
        refine WW.aload_n (pc := 27) (j := 0) rfl dX12_layStepsBySign_27 ?_
        refine WW.iload_n (pc := 28) (j := 1) rfl dX12_layStepsBySign_28 ?_
        refine WW.iload_n (pc := 29) (j := 2) rfl dX12_layStepsBySign_29 ?_
        refine WW.iload_n (pc := 30) (j := 3) rfl dX12_layStepsBySign_30 ?_
        refine WW.iconst (pc := 31) (-1) dX12_layStepsBySign_31 rfl ?_
        refine WW.callV (pc := 32) (As := [.int a1, .int a2, .int x1.1, .int (-1)]) (st := [.ref 23, .int x1.1, .ref 34]) lk_X12_232 (okX12_dealtFor g ρ hρ x1.2 a1 a2 x1.1 (-1)) h3_23 (sh_23 ρ) ⟨_, _, clk12⟩ rfl (Nat.le_of_ble_eq_true rfl) ⟨Nat.le_of_ble_eq_true rfl, Nat.le_of_ble_eq_true rfl, Nat.le_of_ble_eq_true rfl, Nat.le_of_ble_eq_true rfl⟩ dX12_layStepsBySign_32 rfl (fun r7 hr7 => ?_)
        show WW _ _ _ 35 _ [.int r7.1, .ref 23, .int x1.1, .ref 34] (full r7.2 ρ) 0 0 _
        refine WW.callV (pc := 35) (As := [.int r7.1]) (st := [.int x1.1, .ref 34]) lk_X12_198 (okX12_together g ρ hρ r7.2 r7.1) h3_23 (sh_23 ρ) ⟨_, _, clk12⟩ rfl (Nat.le_of_ble_eq_true rfl) ⟨Nat.le_of_ble_eq_true rfl, Nat.le_of_ble_eq_true rfl, Nat.le_of_ble_eq_true rfl, Nat.le_of_ble_eq_true rfl⟩ dX12_layStepsBySign_35 rfl (fun r8 hr8 => ?_)
        show WW _ _ _ 38 _ [.int r8, .int x1.1, .ref 34] (full r7.2 ρ) 0 0 _
        exact hk5 (r8, r7.2)
def fX12_shown (ρ : Rh) (d : Dd) (a1 : Int32) (a2 : Int32) : Option (Int32 × Dd) :=
  (fX12_isSet ρ d a2).bind fun r1 =>
  (fX12_refusal ρ d a1 true r1).bind fun r2 =>
  if r2 = 0 then
    ((fX12_layStepsBySign ρ d a1 a2).bind fun r3 =>
    lp (fun self5 (x4 : Int32 × Int32) =>
      if 4 ≤ x4.2 then
        (some (x4.1, r3))
      else
        (if inB x4.2 4 = true then
          (jn (fun (x6 : Bool) =>
            lp (fun self9 (x8 : Bool × Int32) =>
              if x4.2 ≤ x8.2 then
                (jn (fun (x10 : Bool) =>
                  bnd ((x4.1 + (b2i x10)) : Int32) fun v12 =>
                  self5 (v12, (x4.2 + 1))
                  ) fun k11 =>
                if x8.1 = true then
                  (k11 true)
                else
                  (k11 false))
              else
                (jn (fun (x13 : Bool) =>
                  self9 (x13, (x8.2 + 1))
                  ) fun k14 =>
                jn (fun (x15 : Unit) =>
                  k14 false
                  ) fun k16 =>
                if x8.1 = true then
                  (if inB x8.2 4 = true then
                    (if inB x4.2 4 = true then
                      (if (d_i r3 34 (ix x8.2)) = (d_i r3 34 (ix x4.2)) then
                        (k16 ())
                      else
                        (k14 true))
                    else none)
                  else none)
                else
                  (k16 ()))
              ) 6000 (x6, 0)
            ) fun k7 =>
          if (d_i r3 34 (ix x4.2)) = 99 then
            (k7 false)
          else
            (k7 true))
        else none)
      ) 6000 (0, 0))
  else
    (some (r2, d))
set_option maxHeartbeats 4000000 in
set_option maxRecDepth 100000 in
theorem okX12_shown (g : Gx) (ρ : Rh) (hρ : Hr ρ) (d : Dd) (a1 : Int32) (a2 : Int32) : CallR g M_X12_shown (eI ρ) [.ref 23, .int a1, .int a2] (full d ρ) (fX12_shown ρ d a1 a2) := by
  refine CallR.intro rfl rfl (Nat.le_of_ble_eq_true rfl) (fun a ha => ⟨_, rfl⟩) ?_
  show WW g _ _ 0 [(0, .ref 23), (1, .int a1), (2, .int a2)] [] (full d ρ) 0 0 _
  unfold fX12_shown
  refine WW.aload_n (pc := 0) (j := 0) rfl dX12_shown_0 ?_
  refine WW.iload_n (pc := 1) (j := 1) rfl dX12_shown_1 ?_
  refine WW.iconst (pc := 2) 1 dX12_shown_2 rfl ?_
  refine WW.aload_n (pc := 3) (j := 0) rfl dX12_shown_3 ?_
  refine WW.iload_n (pc := 4) (j := 2) rfl dX12_shown_4 ?_
  refine WW.callV (pc := 5) (As := [.int a2]) (st := [.int 1, .int a1, .ref 23]) lk_X12_227 (okX12_isSet g ρ hρ d a2) h3_23 (sh_23 ρ) ⟨_, _, clk12⟩ rfl (Nat.le_of_ble_eq_true rfl) ⟨Nat.le_of_ble_eq_true rfl, Nat.le_of_ble_eq_true rfl, Nat.le_of_ble_eq_true rfl, Nat.le_of_ble_eq_true rfl⟩ dX12_shown_5 rfl (fun r1 hr1 => ?_)
  show WW _ _ _ 8 _ [.int (b2i r1), .int 1, .int a1, .ref 23] (full d ρ) 0 0 _
  refine WW.callV (pc := 8) (As := [.int a1, .int (b2i true), .int (b2i r1)]) (st := []) lk_X12_160 (okX12_refusal g ρ hρ d a1 true r1) h3_23 (sh_23 ρ) ⟨_, _, clk12⟩ rfl (Nat.le_of_ble_eq_true rfl) ⟨Nat.le_of_ble_eq_true rfl, Nat.le_of_ble_eq_true rfl, Nat.le_of_ble_eq_true rfl, Nat.le_of_ble_eq_true rfl⟩ dX12_shown_8 rfl (fun r2 hr2 => ?_)
  show WW _ _ _ 11 _ [.int r2] (full d ρ) 0 0 _
  refine WW.istore_n (pc := 11) [(3, .int r2), (0, .ref 23), (1, .int a1), (2, .int a2)] rfl (by decide) dX12_shown_11 ?_
  refine WW.iload_n (pc := 12) (j := 0) rfl dX12_shown_12 ?_
  refine WW.if_eq (pc := 13) 18 dX12_shown_13 (by decide) (fun _ => ?_) (fun _ => ?_)
  · refine WW.iconst (pc := 18) 0 dX12_shown_18 rfl ?_
    refine WW.istore (pc := 19) [(4, .int 0), (3, .int r2), (0, .ref 23), (1, .int a1), (2, .int a2)] rfl (by decide) dX12_shown_19 ?_
    refine WW.aload_n (pc := 21) (j := 2) rfl dX12_shown_21 ?_
    refine WW.iload_n (pc := 22) (j := 3) rfl dX12_shown_22 ?_
    refine WW.iload_n (pc := 23) (j := 4) rfl dX12_shown_23 ?_
    refine WW.callV (pc := 24) (As := [.int a1, .int a2]) (st := []) lk_X12_264 (okX12_layStepsBySign g ρ hρ d a1 a2) h3_23 (sh_23 ρ) ⟨_, _, clk12⟩ rfl (Nat.le_of_ble_eq_true rfl) ⟨Nat.le_of_ble_eq_true rfl, Nat.le_of_ble_eq_true rfl, Nat.le_of_ble_eq_true rfl, Nat.le_of_ble_eq_true rfl⟩ dX12_shown_24 rfl (fun r3 hr3 => ?_)
    show WW _ _ _ 27 _ [] (full r3 ρ) 0 0 _
    refine WW.iconst (pc := 27) 0 dX12_shown_27 rfl ?_
    refine WW.istore (pc := 28) [(5, .int 0), (4, .int 0), (3, .int r2), (0, .ref 23), (1, .int a1), (2, .int a2)] rfl (by decide) dX12_shown_28 ?_
    refine WW.sub [3, 1, 0] rfl ?_
    refine WW.loop (pc := 30) (Lj := fun (x4 : Int32 × Int32) => [(0, .ref 23), (4, .int x4.1), (5, .int x4.2)]) (hj := fun (x4 : Int32 × Int32) => full r3 ρ) (fun self5 hself5 x4 => ?_) 6000 (0, 0)
    refine WW.iload (pc := 30) (j := 2) rfl dX12_shown_30 ?_
    refine WW.iconst (pc := 32) 4 dX12_shown_32 rfl ?_
    refine WW.icmp_ge (pc := 33) 121 dX12_shown_33 (by decide) (fun _ => ?_) (fun _ => ?_)
    · refine WW.iload (pc := 121) (j := 1) rfl dX12_shown_121 ?_
      exact WW.ret rfl rfl (show RetI M_X12_shown 123 from dX12_shown_123) ⟨Nat.le_refl _, Nat.le_refl _⟩ rfl
    · refine WW.aload_n (pc := 36) (j := 0) rfl dX12_shown_36 ?_
      refine WW.sgr (pc := 37) fl_X12_41_12 h3_23 (sh_23 ρ) (Or.inr ⟨_, gt_12_29⟩) (hr_23_29 ρ) dX12_shown_37 ?_
      refine WW.iload (pc := 40) (j := 2) rfl dX12_shown_40 ?_
      refine WW.siald (pc := 42) (one_le h3_34) (sh_34 ρ) dX12_shown_42 ?_
      refine WW.bipush (pc := 43) 99 dX12_shown_43 rfl ?_
      refine WW.join (pj := 53) (Lj := fun (x6 : Bool) => [(0, .ref 23), (4, .int x4.1), (5, .int x4.2)]) (sj := fun (x6 : Bool) => [.int (b2i x6)]) (hj := fun (x6 : Bool) => full r3 ρ) (fun x6 => ?_) (fun k7 hk7 => ?_)
      · refine WW.istore (pc := 53) [(6, .int (b2i x6)), (0, .ref 23), (4, .int x4.1), (5, .int x4.2)] rfl (by decide) dX12_shown_53 ?_
        refine WW.iconst (pc := 55) 0 dX12_shown_55 rfl ?_
        refine WW.istore (pc := 56) [(7, .int 0), (6, .int (b2i x6)), (0, .ref 23), (4, .int x4.1), (5, .int x4.2)] rfl (by decide) dX12_shown_56 ?_
        refine WW.sub [2, 3, 4, 1, 0] rfl ?_
        refine WW.loop (pc := 58) (Lj := fun (x8 : Bool × Int32) => [(0, .ref 23), (4, .int x4.1), (5, .int x4.2), (6, .int (b2i x8.1)), (7, .int x8.2)]) (hj := fun (x8 : Bool × Int32) => full r3 ρ) (fun self9 hself9 x8 => ?_) 6000 (x6, 0)
        refine WW.iload (pc := 58) (j := 4) rfl dX12_shown_58 ?_
        refine WW.iload (pc := 60) (j := 2) rfl dX12_shown_60 ?_
        refine WW.icmp_ge (pc := 62) 100 dX12_shown_62 (by decide) (fun _ => ?_) (fun _ => ?_)
        · refine WW.iload (pc := 100) (j := 1) rfl dX12_shown_100 ?_
          refine WW.iload (pc := 102) (j := 3) rfl dX12_shown_102 ?_
          refine WW.join (pj := 112) (Lj := fun (x10 : Bool) => [(0, .ref 23), (5, .int x4.2)]) (sj := fun (x10 : Bool) => [.int (b2i x10), .int x4.1]) (hj := fun (x10 : Bool) => full r3 ρ) (fun x10 => ?_) (fun k11 hk11 => ?_)
          · refine WW.iadd (pc := 112) dX12_shown_112 ?_
            refine WW.nmi (fun v12 => ?_)
            refine WW.istore (pc := 113) [(4, .int v12), (0, .ref 23), (5, .int x4.2)] rfl (by decide) dX12_shown_113 ?_
            refine WW.iinc (pc := 115) (j := 2) (x4.2 + 1) [(5, .int (x4.2 + 1)), (4, .int v12), (0, .ref 23)] rfl rfl rfl (by decide) dX12_shown_115 ?_
            refine WW.goto (pc := 118) 30 dX12_shown_118 (by decide) ?_
            refine WW.sub [2, 1, 0] rfl ?_
            exact hself5 (v12, (x4.2 + 1))
          · refine WW.if_eqB (pc := 104) 111 dX12_shown_104 (by decide) (fun _ => ?_) (fun _ => ?_)
            · refine WW.iconst (pc := 107) 1 dX12_shown_107 rfl ?_
              refine WW.goto (pc := 108) 112 dX12_shown_108 (by decide) ?_
              refine WW.sub [0, 2] rfl ?_
              exact hk11 true
            · refine WW.iconst (pc := 111) 0 dX12_shown_111 rfl ?_
              refine WW.sub [0, 2] rfl ?_
              exact hk11 false
        · refine WW.iload (pc := 65) (j := 3) rfl dX12_shown_65 ?_
          refine WW.join (pj := 92) (Lj := fun (x13 : Bool) => [(0, .ref 23), (4, .int x4.1), (5, .int x4.2), (7, .int x8.2)]) (sj := fun (x13 : Bool) => [.int (b2i x13)]) (hj := fun (x13 : Bool) => full r3 ρ) (fun x13 => ?_) (fun k14 hk14 => ?_)
          · refine WW.istore (pc := 92) [(6, .int (b2i x13)), (0, .ref 23), (4, .int x4.1), (5, .int x4.2), (7, .int x8.2)] rfl (by decide) dX12_shown_92 ?_
            refine WW.iinc (pc := 94) (j := 4) (x8.2 + 1) [(7, .int (x8.2 + 1)), (6, .int (b2i x13)), (0, .ref 23), (4, .int x4.1), (5, .int x4.2)] rfl rfl rfl (by decide) dX12_shown_94 ?_
            refine WW.goto (pc := 97) 58 dX12_shown_97 (by decide) ?_
            refine WW.sub [2, 3, 4, 1, 0] rfl ?_
            exact hself9 (x13, (x8.2 + 1))
          · refine WW.join (pj := 91) (Lj := fun (x15 : Unit) => [(0, .ref 23), (4, .int x4.1), (5, .int x4.2), (7, .int x8.2)]) (sj := fun (x15 : Unit) => []) (hj := fun (x15 : Unit) => full r3 ρ) (fun x15 => ?_) (fun k16 hk16 => ?_)
            · refine WW.iconst (pc := 91) 0 dX12_shown_91 rfl ?_
              exact hk14 false
            · refine WW.if_eqB (pc := 67) 91 dX12_shown_67 (by decide) (fun _ => ?_) (fun _ => ?_)
              · refine WW.aload_n (pc := 70) (j := 0) rfl dX12_shown_70 ?_
                refine WW.sgr (pc := 71) fl_X12_41_12 h3_23 (sh_23 ρ) (Or.inr ⟨_, gt_12_29⟩) (hr_23_29 ρ) dX12_shown_71 ?_
                refine WW.iload (pc := 74) (j := 4) rfl dX12_shown_74 ?_
                refine WW.siald (pc := 76) (one_le h3_34) (sh_34 ρ) dX12_shown_76 ?_
                refine WW.aload_n (pc := 77) (j := 0) rfl dX12_shown_77 ?_
                refine WW.sgr (pc := 78) fl_X12_41_12 h3_23 (sh_23 ρ) (Or.inr ⟨_, gt_12_29⟩) (hr_23_29 ρ) dX12_shown_78 ?_
                refine WW.iload (pc := 81) (j := 2) rfl dX12_shown_81 ?_
                refine WW.siald (pc := 83) (one_le h3_34) (sh_34 ρ) dX12_shown_83 ?_
                refine WW.icmp_eq (pc := 84) 91 dX12_shown_84 (by decide) (fun _ => ?_) (fun _ => ?_)
                · refine WW.sub [0, 1, 2, 4] rfl ?_
                  exact hk16 ()
                · refine WW.iconst (pc := 87) 1 dX12_shown_87 rfl ?_
                  refine WW.goto (pc := 88) 92 dX12_shown_88 (by decide) ?_
                  refine WW.sub [0, 1, 2, 4] rfl ?_
                  exact hk14 true
              · refine WW.sub [0, 1, 2, 4] rfl ?_
                exact hk16 ()
      · refine WW.icmp_eq (pc := 45) 52 dX12_shown_45 (by decide) (fun _ => ?_) (fun _ => ?_)
        · refine WW.iconst (pc := 52) 0 dX12_shown_52 rfl ?_
          exact hk7 false
        · refine WW.iconst (pc := 48) 1 dX12_shown_48 rfl ?_
          refine WW.goto (pc := 49) 53 dX12_shown_49 (by decide) ?_
          exact hk7 true
  · refine WW.iload_n (pc := 16) (j := 0) rfl dX12_shown_16 ?_
    exact WW.ret rfl rfl (show RetI M_X12_shown 17 from dX12_shown_17) ⟨Nat.le_refl _, Nat.le_refl _⟩ rfl
