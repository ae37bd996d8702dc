def fX12_buyer (ρ : Rh) (d : Dd) (a1 : Int32) (a2 : Int32) : Option (Int32 × Dd) :=
  (fX12_in (Int32.toInt64 a1) 1 3).bind fun r1 =>
  if r1 = true then
    ((fX12_in (Int32.toInt64 a2) 0 99).bind fun r2 =>
    if r2 = true then
      (if (d_i d 23 15) = 4 then
        (some ((-104), d))
      else
        (if inB (d_i d 23 15) 4 = true then
          (bnd (dI d 29 (ix (d_i d 23 15)) a1) fun d3 =>
          if inB (d_i d3 23 15) 4 = true then
            (bnd (dI d3 30 (ix (d_i d3 23 15)) a2) fun d4 =>
            bnd (dI d4 23 15 ((d_i d4 23 15) + 1)) fun d5 =>
            some (((d_i d5 23 15) - 1), d5))
          else none)
        else none))
    else
      (some ((-102), d)))
  else
    (some ((-102), d))
set_option maxHeartbeats 4000000 in
set_option maxRecDepth 100000 in
theorem okX12_buyer (g : Gx) (ρ : Rh) (hρ : Hr ρ) (d : Dd) (a1 : Int32) (a2 : Int32) : CallR g M_X12_buyer (eI ρ) [.ref 23, .int a1, .int a2] (full d ρ) (fX12_buyer ρ d a1 a2) := by
  refine CallR.intro rfl rfl (Nat.le_of_ble_eq_true rfl) (fun a ha => ⟨_, rfl⟩) ?_
  show WW g _ _ 0 [(0, .ref 23), (1, .int a1), (2, .int a2)] [] (full d ρ) 0 0 _
  unfold fX12_buyer
  refine WW.iload_n (pc := 0) (j := 1) rfl dX12_buyer_0 ?_
  refine WW.i2l (pc := 1) dX12_buyer_1 ?_
  refine WW.lconst (pc := 2) 1 dX12_buyer_2 rfl ?_
  refine WW.ldc2 (pc := 3) wd_974 dX12_buyer_3 ?_
  refine WW.callS (pc := 6) (As := [.long (Int32.toInt64 a1), .long 1, .long 3]) (st := []) lk_X12_73 (okX12_in g ρ hρ d (Int32.toInt64 a1) 1 3) rfl (Nat.le_of_ble_eq_true rfl) ⟨Nat.le_of_ble_eq_true rfl, Nat.le_of_ble_eq_true rfl, Nat.le_of_ble_eq_true rfl, Nat.le_of_ble_eq_true rfl⟩ dX12_buyer_6 rfl (fun r1 hr1 => ?_)
  show WW _ _ _ 9 _ [.int (b2i r1)] (full d ρ) 0 0 _
  refine WW.if_eqB (pc := 9) 24 dX12_buyer_9 (by decide) (fun _ => ?_) (fun _ => ?_)
  · refine WW.iload_n (pc := 12) (j := 2) rfl dX12_buyer_12 ?_
    refine WW.i2l (pc := 13) dX12_buyer_13 ?_
    refine WW.lconst (pc := 14) 0 dX12_buyer_14 rfl ?_
    refine WW.ldc2 (pc := 15) wd_975 dX12_buyer_15 ?_
    refine WW.callS (pc := 18) (As := [.long (Int32.toInt64 a2), .long 0, .long 99]) (st := []) lk_X12_73 (okX12_in g ρ hρ d (Int32.toInt64 a2) 0 99) rfl (Nat.le_of_ble_eq_true rfl) ⟨Nat.le_of_ble_eq_true rfl, Nat.le_of_ble_eq_true rfl, Nat.le_of_ble_eq_true rfl, Nat.le_of_ble_eq_true rfl⟩ dX12_buyer_18 rfl (fun r2 hr2 => ?_)
    show WW _ _ _ 21 _ [.int (b2i r2)] (full d ρ) 0 0 _
    refine WW.if_neB (pc := 21) 27 dX12_buyer_21 (by decide) (fun _ => ?_) (fun _ => ?_)
    · refine WW.aload_n (pc := 27) (j := 0) rfl dX12_buyer_27 ?_
      refine WW.sgi (pc := 28) fl_X12_114_12 h3_23 (sh_23 ρ) (Or.inl gt_12_15) dX12_buyer_28 ?_
      refine WW.iconst (pc := 31) 4 dX12_buyer_31 rfl ?_
      refine WW.icmp_ne (pc := 32) 38 dX12_buyer_32 (by decide) (fun _ => ?_) (fun _ => ?_)
      · refine WW.bipush (pc := 35) (-104) dX12_buyer_35 rfl ?_
        exact WW.ret rfl rfl (show RetI M_X12_buyer 37 from dX12_buyer_37) ⟨Nat.le_refl _, Nat.le_refl _⟩ rfl
      · refine WW.aload_n (pc := 38) (j := 0) rfl dX12_buyer_38 ?_
        refine WW.sgr (pc := 39) fl_X12_25_12 h3_23 (sh_23 ρ) (Or.inr ⟨_, gt_12_16⟩) (hr_23_16 ρ) dX12_buyer_39 ?_
        refine WW.aload_n (pc := 42) (j := 0) rfl dX12_buyer_42 ?_
        refine WW.sgi (pc := 43) fl_X12_114_12 h3_23 (sh_23 ρ) (Or.inl gt_12_15) dX12_buyer_43 ?_
        refine WW.iload_n (pc := 46) (j := 1) rfl dX12_buyer_46 ?_
        refine WW.siast (pc := 47) h3_29 (sh_29 ρ) dX12_buyer_47 (fun d3 => ?_)
        refine WW.aload_n (pc := 48) (j := 0) rfl dX12_buyer_48 ?_
        refine WW.sgr (pc := 49) fl_X12_28_12 h3_23 (sh_23 ρ) (Or.inr ⟨_, gt_12_17⟩) (hr_23_17 ρ) dX12_buyer_49 ?_
        refine WW.aload_n (pc := 52) (j := 0) rfl dX12_buyer_52 ?_
        refine WW.sgi (pc := 53) fl_X12_114_12 h3_23 (sh_23 ρ) (Or.inl gt_12_15) dX12_buyer_53 ?_
        refine WW.iload_n (pc := 56) (j := 2) rfl dX12_buyer_56 ?_
        refine WW.siast (pc := 57) h3_30 (sh_30 ρ) dX12_buyer_57 (fun d4 => ?_)
        refine WW.aload_n (pc := 58) (j := 0) rfl dX12_buyer_58 ?_
        refine WW.dup (pc := 59) rfl dX12_buyer_59 ?_
        refine WW.sgi (pc := 60) fl_X12_114_12 h3_23 (sh_23 ρ) (Or.inl gt_12_15) dX12_buyer_60 ?_
        refine WW.iconst (pc := 63) 1 dX12_buyer_63 rfl ?_
        refine WW.iadd (pc := 64) dX12_buyer_64 ?_
        refine WW.spi (pc := 65) fp_X12_114_12 h3_23 (sh_23 ρ) gt_12_15 dX12_buyer_65 (fun d5 => ?_)
        refine WW.aload_n (pc := 68) (j := 0) rfl dX12_buyer_68 ?_
        refine WW.sgi (pc := 69) fl_X12_114_12 h3_23 (sh_23 ρ) (Or.inl gt_12_15) dX12_buyer_69 ?_
        refine WW.iconst (pc := 72) 1 dX12_buyer_72 rfl ?_
        refine WW.isub (pc := 73) dX12_buyer_73 ?_
        exact WW.ret rfl rfl (show RetI M_X12_buyer 74 from dX12_buyer_74) ⟨Nat.le_refl _, Nat.le_refl _⟩ rfl
    · refine WW.bipush (pc := 24) (-102) dX12_buyer_24 rfl ?_
      exact WW.ret rfl rfl (show RetI M_X12_buyer 26 from dX12_buyer_26) ⟨Nat.le_refl _, Nat.le_refl _⟩ rfl
  · refine WW.bipush (pc := 24) (-102) dX12_buyer_24 rfl ?_
    exact WW.ret rfl rfl (show RetI M_X12_buyer 26 from dX12_buyer_26) ⟨Nat.le_refl _, Nat.le_refl _⟩ rfl
def fX12_isBuyer (ρ : Rh) (d : Dd) (a1 : Int32) : Option Bool :=
  (fX12_in (Int32.toInt64 a1) 0 (Int32.toInt64 ((d_i d 23 15) - 1))).bind fun r1 =>
  some r1
set_option maxHeartbeats 4000000 in
set_option maxRecDepth 100000 in
theorem okX12_isBuyer (g : Gx) (ρ : Rh) (hρ : Hr ρ) (d : Dd) (a1 : Int32) : CallR g M_X12_isBuyer (eZp ρ d) [.ref 23, .int a1] (full d ρ) (fX12_isBuyer ρ d a1) := by
  refine CallR.intro rfl rfl (Nat.le_of_ble_eq_true rfl) (fun a ha => ⟨_, rfl⟩) ?_
  show WW g _ _ 0 [(0, .ref 23), (1, .int a1)] [] (full d ρ) 0 0 _
  unfold fX12_isBuyer
  refine WW.iload_n (pc := 0) (j := 1) rfl dX12_isBuyer_0 ?_
  refine WW.i2l (pc := 1) dX12_isBuyer_1 ?_
  refine WW.lconst (pc := 2) 0 dX12_isBuyer_2 rfl ?_
  refine WW.aload_n (pc := 3) (j := 0) rfl dX12_isBuyer_3 ?_
  refine WW.sgi (pc := 4) fl_X12_114_12 h3_23 (sh_23 ρ) (Or.inl gt_12_15) dX12_isBuyer_4 ?_
  refine WW.iconst (pc := 7) 1 dX12_isBuyer_7 rfl ?_
  refine WW.isub (pc := 8) dX12_isBuyer_8 ?_
  refine WW.i2l (pc := 9) dX12_isBuyer_9 ?_
  refine WW.callS (pc := 10) (As := [.long (Int32.toInt64 a1), .long 0, .long (Int32.toInt64 ((d_i d 23 15) - 1))]) (st := []) lk_X12_73 (okX12_in g ρ hρ d (Int32.toInt64 a1) 0 (Int32.toInt64 ((d_i d 23 15) - 1))) rfl (Nat.le_of_ble_eq_true rfl) ⟨Nat.le_of_ble_eq_true rfl, Nat.le_of_ble_eq_true rfl, Nat.le_of_ble_eq_true rfl, Nat.le_of_ble_eq_true rfl⟩ dX12_isBuyer_10 rfl (fun r1 hr1 => ?_)
  show WW _ _ _ 13 _ [.int (b2i r1)] (full d ρ) 0 0 _
  exact WW.ret rfl rfl (show RetI M_X12_isBuyer 13 from dX12_isBuyer_13) ⟨Nat.le_refl _, Nat.le_refl _⟩ rfl
def fX12_change (ρ : Rh) (d : Dd) (a1 : Int32) (a2 : Int32) (a3 : Int32) : Option (Int32 × Dd) :=
  (fX12_isBuyer ρ d a1).bind fun r1 =>
  if r1 = true then
    ((fX12_in (Int32.toInt64 a2) 0 1).bind fun r2 =>
    if r2 = true then
      (jn (fun (x3 : Int64) =>
        jn (fun (x5 : Int64) =>
          (fX12_in (Int32.toInt64 a3) x3 x5).bind fun r7 =>
          if r7 = true then
            (jn (fun (x8 : Int32) =>
              jn (fun (x10 : Int32) =>
                if inB a1 4 = true then
                  (bnd (dI d 29 (ix a1) x10) fun d12 =>
                  jn (fun (x13 : Int32) =>
                    if inB a1 4 = true then
                      (bnd (dI d12 30 (ix a1) x13) fun d15 =>
                      some (x8, d15))
                    else none
                    ) fun k14 =>
                  if a2 = 0 then
                    (if inB a1 4 = true then
                      (k14 (d_i d12 30 (ix a1)))
                    else none)
                  else
                    (k14 a3))
                else none
                ) fun k11 =>
              if a2 = 0 then
                (k11 a3)
              else
                (if inB a1 4 = true then
                  (k11 (d_i d 29 (ix a1)))
                else none)
              ) fun k9 =>
            if a2 = 0 then
              (if inB a1 4 = true then
                (k9 (d_i d 29 (ix a1)))
              else none)
            else
              (if inB a1 4 = true then
                (k9 (d_i d 30 (ix a1)))
              else none))
          else
            (some ((-102), d))
          ) fun k6 =>
        if a2 = 0 then
          (k6 3)
        else
          (k6 99)
        ) fun k4 =>
      if a2 = 0 then
        (k4 1)
      else
        (k4 0))
    else
      (some ((-102), d)))
  else
    (some ((-101), d))
set_option maxHeartbeats 4000000 in
set_option maxRecDepth 100000 in
theorem okX12_change (g : Gx) (ρ : Rh) (hρ : Hr ρ) (d : Dd) (a1 : Int32) (a2 : Int32) (a3 : Int32) : CallR g M_X12_change (eI ρ) [.ref 23, .int a1, .int a2, .int a3] (full d ρ) (fX12_change ρ d a1 a2 a3) := by
  refine CallR.intro rfl rfl (Nat.le_of_ble_eq_true rfl) (fun a ha => ⟨_, rfl⟩) ?_
  show WW g _ _ 0 [(0, .ref 23), (1, .int a1), (2, .int a2), (3, .int a3)] [] (full d ρ) 0 0 _
  unfold fX12_change
  refine WW.aload_n (pc := 0) (j := 0) rfl dX12_change_0 ?_
  refine WW.iload_n (pc := 1) (j := 1) rfl dX12_change_1 ?_
  refine WW.callV (pc := 2) (As := [.int a1]) (st := []) lk_X12_117 (okX12_isBuyer g ρ hρ d a1) h3_23 (sh_23 ρ) ⟨_, _, clk12⟩ rfl (Nat.le_of_ble_eq_true rfl) ⟨Nat.le_of_ble_eq_true rfl, Nat.le_of_ble_eq_true rfl, Nat.le_of_ble_eq_true rfl, Nat.le_of_ble_eq_true rfl⟩ dX12_change_2 rfl (fun r1 hr1 => ?_)
  show WW _ _ _ 5 _ [.int (b2i r1)] (full d ρ) 0 0 _
  refine WW.if_neB (pc := 5) 11 dX12_change_5 (by decide) (fun _ => ?_) (fun _ => ?_)
  · refine WW.iload_n (pc := 11) (j := 2) rfl dX12_change_11 ?_
    refine WW.i2l (pc := 12) dX12_change_12 ?_
    refine WW.lconst (pc := 13) 0 dX12_change_13 rfl ?_
    refine WW.lconst (pc := 14) 1 dX12_change_14 rfl ?_
    refine WW.callS (pc := 15) (As := [.long (Int32.toInt64 a2), .long 0, .long 1]) (st := []) lk_X12_73 (okX12_in g ρ hρ d (Int32.toInt64 a2) 0 1) rfl (Nat.le_of_ble_eq_true rfl) ⟨Nat.le_of_ble_eq_true rfl, Nat.le_of_ble_eq_true rfl, Nat.le_of_ble_eq_true rfl, Nat.le_of_ble_eq_true rfl⟩ dX12_change_15 rfl (fun r2 hr2 => ?_)
    show WW _ _ _ 18 _ [.int (b2i r2)] (full d ρ) 0 0 _
    refine WW.if_eqB (pc := 18) 51 dX12_change_18 (by decide) (fun _ => ?_) (fun _ => ?_)
    · refine WW.iload_n (pc := 21) (j := 3) rfl dX12_change_21 ?_
      refine WW.i2l (pc := 22) dX12_change_22 ?_
      refine WW.iload_n (pc := 23) (j := 2) rfl dX12_change_23 ?_
      refine WW.join (pj := 32) (Lj := fun (x3 : Int64) => [(0, .ref 23), (1, .int a1), (2, .int a2), (3, .int a3)]) (sj := fun (x3 : Int64) => [.long x3, .long (Int32.toInt64 a3)]) (hj := fun (x3 : Int64) => full d ρ) (fun x3 => ?_) (fun k4 hk4 => ?_)
      · refine WW.iload_n (pc := 32) (j := 2) rfl dX12_change_32 ?_
        refine WW.join (pj := 45) (Lj := fun (x5 : Int64) => [(0, .ref 23), (1, .int a1), (2, .int a2), (3, .int a3)]) (sj := fun (x5 : Int64) => [.long x5, .long x3, .long (Int32.toInt64 a3)]) (hj := fun (x5 : Int64) => full d ρ) (fun x5 => ?_) (fun k6 hk6 => ?_)
        · refine WW.callS (pc := 45) (As := [.long (Int32.toInt64 a3), .long x3, .long x5]) (st := []) lk_X12_73 (okX12_in g ρ hρ d (Int32.toInt64 a3) x3 x5) rfl (Nat.le_of_ble_eq_true rfl) ⟨Nat.le_of_ble_eq_true rfl, Nat.le_of_ble_eq_true rfl, Nat.le_of_ble_eq_true rfl, Nat.le_of_ble_eq_true rfl⟩ dX12_change_45 rfl (fun r7 hr7 => ?_)
          show WW _ _ _ 48 _ [.int (b2i r7)] (full d ρ) 0 0 _
          refine WW.if_neB (pc := 48) 54 dX12_change_48 (by decide) (fun _ => ?_) (fun _ => ?_)
          · refine WW.iload_n (pc := 54) (j := 2) rfl dX12_change_54 ?_
            refine WW.join (pj := 73) (Lj := fun (x8 : Int32) => [(0, .ref 23), (1, .int a1), (2, .int a2), (3, .int a3)]) (sj := fun (x8 : Int32) => [.int x8]) (hj := fun (x8 : Int32) => full d ρ) (fun x8 => ?_) (fun k9 hk9 => ?_)
            · refine WW.istore (pc := 73) [(4, .int x8), (0, .ref 23), (1, .int a1), (2, .int a2), (3, .int a3)] rfl (by decide) dX12_change_73 ?_
              refine WW.aload_n (pc := 75) (j := 1) rfl dX12_change_75 ?_
              refine WW.sgr (pc := 76) fl_X12_25_12 h3_23 (sh_23 ρ) (Or.inr ⟨_, gt_12_16⟩) (hr_23_16 ρ) dX12_change_76 ?_
              refine WW.iload_n (pc := 79) (j := 2) rfl dX12_change_79 ?_
              refine WW.iload_n (pc := 80) (j := 3) rfl dX12_change_80 ?_
              refine WW.join (pj := 94) (Lj := fun (x10 : Int32) => [(0, .ref 23), (1, .int a1), (2, .int a2), (3, .int a3), (4, .int x8)]) (sj := fun (x10 : Int32) => [.int x10, .int a1, .ref 29]) (hj := fun (x10 : Int32) => full d ρ) (fun x10 => ?_) (fun k11 hk11 => ?_)
              · refine WW.siast (pc := 94) h3_29 (sh_29 ρ) dX12_change_94 (fun d12 => ?_)
                refine WW.aload_n (pc := 95) (j := 0) rfl dX12_change_95 ?_
                refine WW.sgr (pc := 96) fl_X12_28_12 h3_23 (sh_23 ρ) (Or.inr ⟨_, gt_12_17⟩) (hr_23_17 ρ) dX12_change_96 ?_
                refine WW.iload_n (pc := 99) (j := 1) rfl dX12_change_99 ?_
                refine WW.iload_n (pc := 100) (j := 2) rfl dX12_change_100 ?_
                refine WW.join (pj := 114) (Lj := fun (x13 : Int32) => [(4, .int x8)]) (sj := fun (x13 : Int32) => [.int x13, .int a1, .ref 30]) (hj := fun (x13 : Int32) => full d12 ρ) (fun x13 => ?_) (fun k14 hk14 => ?_)
                · refine WW.siast (pc := 114) h3_30 (sh_30 ρ) dX12_change_114 (fun d15 => ?_)
                  refine WW.iload (pc := 115) (j := 0) rfl dX12_change_115 ?_
                  exact WW.ret rfl rfl (show RetI M_X12_change 117 from dX12_change_117) ⟨Nat.le_refl _, Nat.le_refl _⟩ rfl
                · refine WW.if_ne (pc := 101) 113 dX12_change_101 (by decide) (fun _ => ?_) (fun _ => ?_)
                  · refine WW.aload_n (pc := 104) (j := 0) rfl dX12_change_104 ?_
                    refine WW.sgr (pc := 105) fl_X12_28_12 h3_23 (sh_23 ρ) (Or.inr ⟨_, gt_12_17⟩) (hr_23_17 ρ) dX12_change_105 ?_
                    refine WW.iload_n (pc := 108) (j := 1) rfl dX12_change_108 ?_
                    refine WW.siald (pc := 109) (one_le h3_30) (sh_30 ρ) dX12_change_109 ?_
                    refine WW.goto (pc := 110) 114 dX12_change_110 (by decide) ?_
                    refine WW.sub [4] rfl ?_
                    exact hk14 (d_i d12 30 (ix a1))
                  · refine WW.iload_n (pc := 113) (j := 3) rfl dX12_change_113 ?_
                    refine WW.sub [4] rfl ?_
                    exact hk14 a3
              · refine WW.if_ne (pc := 81) 88 dX12_change_81 (by decide) (fun _ => ?_) (fun _ => ?_)
                · refine WW.iload_n (pc := 84) (j := 4) rfl dX12_change_84 ?_
                  refine WW.goto (pc := 85) 94 dX12_change_85 (by decide) ?_
                  refine WW.sub [1, 2, 3, 4, 0] rfl ?_
                  exact hk11 a3
                · refine WW.aload_n (pc := 88) (j := 1) rfl dX12_change_88 ?_
                  refine WW.sgr (pc := 89) fl_X12_25_12 h3_23 (sh_23 ρ) (Or.inr ⟨_, gt_12_16⟩) (hr_23_16 ρ) dX12_change_89 ?_
                  refine WW.iload_n (pc := 92) (j := 2) rfl dX12_change_92 ?_
                  refine WW.siald (pc := 93) (one_le h3_29) (sh_29 ρ) dX12_change_93 ?_
                  refine WW.sub [1, 2, 3, 4, 0] rfl ?_
                  exact hk11 (d_i d 29 (ix a1))
            · refine WW.if_ne (pc := 55) 67 dX12_change_55 (by decide) (fun _ => ?_) (fun _ => ?_)
              · refine WW.aload_n (pc := 58) (j := 0) rfl dX12_change_58 ?_
                refine WW.sgr (pc := 59) fl_X12_25_12 h3_23 (sh_23 ρ) (Or.inr ⟨_, gt_12_16⟩) (hr_23_16 ρ) dX12_change_59 ?_
                refine WW.iload_n (pc := 62) (j := 1) rfl dX12_change_62 ?_
                refine WW.siald (pc := 63) (one_le h3_29) (sh_29 ρ) dX12_change_63 ?_
                refine WW.goto (pc := 64) 73 dX12_change_64 (by decide) ?_
                exact hk9 (d_i d 29 (ix a1))
              · refine WW.aload_n (pc := 67) (j := 0) rfl dX12_change_67 ?_
                refine WW.sgr (pc := 68) fl_X12_28_12 h3_23 (sh_23 ρ) (Or.inr ⟨_, gt_12_17⟩) (hr_23_17 ρ) dX12_change_68 ?_
                refine WW.iload_n (pc := 71) (j := 1) rfl dX12_change_71 ?_
                refine WW.siald (pc := 72) (one_le h3_30) (sh_30 ρ) dX12_change_72 ?_
                exact hk9 (d_i d 30 (ix a1))
          · refine WW.bipush (pc := 51) (-102) dX12_change_51 rfl ?_
            exact WW.ret rfl rfl (show RetI M_X12_change 53 from dX12_change_53) ⟨Nat.le_refl _, Nat.le_refl _⟩ rfl
        · refine WW.if_ne (pc := 33) 42 dX12_change_33 (by decide) (fun _ => ?_) (fun _ => ?_)
          · refine WW.ldc2 (pc := 36) wd_974 dX12_change_36 ?_
            refine WW.goto (pc := 39) 45 dX12_change_39 (by decide) ?_
            exact hk6 3
          · refine WW.ldc2 (pc := 42) wd_975 dX12_change_42 ?_
            exact hk6 99
      · refine WW.if_ne (pc := 24) 31 dX12_change_24 (by decide) (fun _ => ?_) (fun _ => ?_)
        · refine WW.lconst (pc := 27) 1 dX12_change_27 rfl ?_
          refine WW.goto (pc := 28) 32 dX12_change_28 (by decide) ?_
          exact hk4 1
        · refine WW.lconst (pc := 31) 0 dX12_change_31 rfl ?_
          exact hk4 0
    · refine WW.bipush (pc := 51) (-102) dX12_change_51 rfl ?_
      exact WW.ret rfl rfl (show RetI M_X12_change 53 from dX12_change_53) ⟨Nat.le_refl _, Nat.le_refl _⟩ rfl
  · refine WW.bipush (pc := 8) (-101) dX12_change_8 rfl ?_
    exact WW.ret rfl rfl (show RetI M_X12_change 10 from dX12_change_10) ⟨Nat.le_refl _, Nat.le_refl _⟩ rfl
def fX12_news (ρ : Rh) (d : Dd) (a1 : Int32) (a2 : Int32) : Option (Int32 × Dd) :=
  (fX12_in (Int32.toInt64 a1) 0 4).bind fun r1 =>
  if r1 = true then
    (jn (fun (x2 : Int64) =>
      (fX12_in (Int32.toInt64 a2) 0 x2).bind fun r4 =>
      if r4 = true then
        (if (d_i d 23 18) = 8 then
          (some ((-104), d))
        else
          (if inB (d_i d 23 18) 8 = true then
            (bnd (dI d 31 (ix (d_i d 23 18)) a1) fun d5 =>
            if inB (d_i d5 23 18) 8 = true then
              (bnd (dI d5 32 (ix (d_i d5 23 18)) a2) fun d6 =>
              bnd (dI d6 23 18 ((d_i d6 23 18) + 1)) fun d7 =>
              some (((d_i d7 23 18) - 1), d7))
            else none)
          else none))
      else
        (some ((-102), d))
      ) fun k3 =>
    if a1 ≤ 2 then
      (k3 255)
    else
      (k3 100))
  else
    (some ((-102), d))
set_option maxHeartbeats 4000000 in
set_option maxRecDepth 100000 in
theorem okX12_news (g : Gx) (ρ : Rh) (hρ : Hr ρ) (d : Dd) (a1 : Int32) (a2 : Int32) : CallR g M_X12_news (eI ρ) [.ref 23, .int a1, .int a2] (full d ρ) (fX12_news ρ d a1 a2) := by
  refine CallR.intro rfl rfl (Nat.le_of_ble_eq_true rfl) (fun a ha => ⟨_, rfl⟩) ?_
  show WW g _ _ 0 [(0, .ref 23), (1, .int a1), (2, .int a2)] [] (full d ρ) 0 0 _
  unfold fX12_news
  refine WW.iload_n (pc := 0) (j := 1) rfl dX12_news_0 ?_
  refine WW.i2l (pc := 1) dX12_news_1 ?_
  refine WW.lconst (pc := 2) 0 dX12_news_2 rfl ?_
  refine WW.ldc2 (pc := 3) wd_988 dX12_news_3 ?_
  refine WW.callS (pc := 6) (As := [.long (Int32.toInt64 a1), .long 0, .long 4]) (st := []) lk_X12_73 (okX12_in g ρ hρ d (Int32.toInt64 a1) 0 4) rfl (Nat.le_of_ble_eq_true rfl) ⟨Nat.le_of_ble_eq_true rfl, Nat.le_of_ble_eq_true rfl, Nat.le_of_ble_eq_true rfl, Nat.le_of_ble_eq_true rfl⟩ dX12_news_6 rfl (fun r1 hr1 => ?_)
  show WW _ _ _ 9 _ [.int (b2i r1)] (full d ρ) 0 0 _
  refine WW.if_eqB (pc := 9) 35 dX12_news_9 (by decide) (fun _ => ?_) (fun _ => ?_)
  · refine WW.iload_n (pc := 12) (j := 2) rfl dX12_news_12 ?_
    refine WW.i2l (pc := 13) dX12_news_13 ?_
    refine WW.lconst (pc := 14) 0 dX12_news_14 rfl ?_
    refine WW.iload_n (pc := 15) (j := 1) rfl dX12_news_15 ?_
    refine WW.iconst (pc := 16) 2 dX12_news_16 rfl ?_
    refine WW.join (pj := 29) (Lj := fun (x2 : Int64) => [(0, .ref 23), (1, .int a1), (2, .int a2)]) (sj := fun (x2 : Int64) => [.long x2, .long 0, .long (Int32.toInt64 a2)]) (hj := fun (x2 : Int64) => full d ρ) (fun x2 => ?_) (fun k3 hk3 => ?_)
    · refine WW.callS (pc := 29) (As := [.long (Int32.toInt64 a2), .long 0, .long x2]) (st := []) lk_X12_73 (okX12_in g ρ hρ d (Int32.toInt64 a2) 0 x2) rfl (Nat.le_of_ble_eq_true rfl) ⟨Nat.le_of_ble_eq_true rfl, Nat.le_of_ble_eq_true rfl, Nat.le_of_ble_eq_true rfl, Nat.le_of_ble_eq_true rfl⟩ dX12_news_29 rfl (fun r4 hr4 => ?_)
      show WW _ _ _ 32 _ [.int (b2i r4)] (full d ρ) 0 0 _
      refine WW.if_neB (pc := 32) 38 dX12_news_32 (by decide) (fun _ => ?_) (fun _ => ?_)
      · refine WW.aload_n (pc := 38) (j := 0) rfl dX12_news_38 ?_
        refine WW.sgi (pc := 39) fl_X12_124_12 h3_23 (sh_23 ρ) (Or.inl gt_12_18) dX12_news_39 ?_
        refine WW.bipush (pc := 42) 8 dX12_news_42 rfl ?_
        refine WW.icmp_ne (pc := 44) 50 dX12_news_44 (by decide) (fun _ => ?_) (fun _ => ?_)
        · refine WW.bipush (pc := 47) (-104) dX12_news_47 rfl ?_
          exact WW.ret rfl rfl (show RetI M_X12_news 49 from dX12_news_49) ⟨Nat.le_refl _, Nat.le_refl _⟩ rfl
        · refine WW.aload_n (pc := 50) (j := 0) rfl dX12_news_50 ?_
          refine WW.sgr (pc := 51) fl_X12_31_12 h3_23 (sh_23 ρ) (Or.inr ⟨_, gt_12_19⟩) (hr_23_19 ρ) dX12_news_51 ?_
          refine WW.aload_n (pc := 54) (j := 0) rfl dX12_news_54 ?_
          refine WW.sgi (pc := 55) fl_X12_124_12 h3_23 (sh_23 ρ) (Or.inl gt_12_18) dX12_news_55 ?_
          refine WW.iload_n (pc := 58) (j := 1) rfl dX12_news_58 ?_
          refine WW.siast (pc := 59) h3_31 (sh_31 ρ) dX12_news_59 (fun d5 => ?_)
          refine WW.aload_n (pc := 60) (j := 0) rfl dX12_news_60 ?_
          refine WW.sgr (pc := 61) fl_X12_34_12 h3_23 (sh_23 ρ) (Or.inr ⟨_, gt_12_20⟩) (hr_23_20 ρ) dX12_news_61 ?_
          refine WW.aload_n (pc := 64) (j := 0) rfl dX12_news_64 ?_
          refine WW.sgi (pc := 65) fl_X12_124_12 h3_23 (sh_23 ρ) (Or.inl gt_12_18) dX12_news_65 ?_
          refine WW.iload_n (pc := 68) (j := 2) rfl dX12_news_68 ?_
          refine WW.siast (pc := 69) h3_32 (sh_32 ρ) dX12_news_69 (fun d6 => ?_)
          refine WW.aload_n (pc := 70) (j := 0) rfl dX12_news_70 ?_
          refine WW.dup (pc := 71) rfl dX12_news_71 ?_
          refine WW.sgi (pc := 72) fl_X12_124_12 h3_23 (sh_23 ρ) (Or.inl gt_12_18) dX12_news_72 ?_
          refine WW.iconst (pc := 75) 1 dX12_news_75 rfl ?_
          refine WW.iadd (pc := 76) dX12_news_76 ?_
          refine WW.spi (pc := 77) fp_X12_124_12 h3_23 (sh_23 ρ) gt_12_18 dX12_news_77 (fun d7 => ?_)
          refine WW.aload_n (pc := 80) (j := 0) rfl dX12_news_80 ?_
          refine WW.sgi (pc := 81) fl_X12_124_12 h3_23 (sh_23 ρ) (Or.inl gt_12_18) dX12_news_81 ?_
          refine WW.iconst (pc := 84) 1 dX12_news_84 rfl ?_
          refine WW.isub (pc := 85) dX12_news_85 ?_
          exact WW.ret rfl rfl (show RetI M_X12_news 86 from dX12_news_86) ⟨Nat.le_refl _, Nat.le_refl _⟩ rfl
      · refine WW.bipush (pc := 35) (-102) dX12_news_35 rfl ?_
        exact WW.ret rfl rfl (show RetI M_X12_news 37 from dX12_news_37) ⟨Nat.le_refl _, Nat.le_refl _⟩ rfl
    · refine WW.icmp_le (pc := 17) 26 dX12_news_17 (by decide) (fun _ => ?_) (fun _ => ?_)
      · refine WW.ldc2 (pc := 26) wd_923 dX12_news_26 ?_
        exact hk3 255
      · refine WW.ldc2 (pc := 20) wd_989 dX12_news_20 ?_
        refine WW.goto (pc := 23) 29 dX12_news_23 (by decide) ?_
        exact hk3 100
  · refine WW.bipush (pc := 35) (-102) dX12_news_35 rfl ?_
    exact WW.ret rfl rfl (show RetI M_X12_news 37 from dX12_news_37) ⟨Nat.le_refl _, Nat.le_refl _⟩ rfl
def fX12_isNews (ρ : Rh) (d : Dd) (a1 : Int32) : Option Bool :=
  (fX12_in (Int32.toInt64 a1) 0 (Int32.toInt64 ((d_i d 23 18) - 1))).bind fun r1 =>
  some r1
set_option maxHeartbeats 4000000 in
set_option maxRecDepth 100000 in
theorem okX12_isNews (g : Gx) (ρ : Rh) (hρ : Hr ρ) (d : Dd) (a1 : Int32) : CallR g M_X12_isNews (eZp ρ d) [.ref 23, .int a1] (full d ρ) (fX12_isNews ρ d a1) := by
  refine CallR.intro rfl rfl (Nat.le_of_ble_eq_true rfl) (fun a ha => ⟨_, rfl⟩) ?_
  show WW g _ _ 0 [(0, .ref 23), (1, .int a1)] [] (full d ρ) 0 0 _
  unfold fX12_isNews
  refine WW.iload_n (pc := 0) (j := 1) rfl dX12_isNews_0 ?_
  refine WW.i2l (pc := 1) dX12_isNews_1 ?_
  refine WW.lconst (pc := 2) 0 dX12_isNews_2 rfl ?_
  refine WW.aload_n (pc := 3) (j := 0) rfl dX12_isNews_3 ?_
  refine WW.sgi (pc := 4) fl_X12_124_12 h3_23 (sh_23 ρ) (Or.inl gt_12_18) dX12_isNews_4 ?_
  refine WW.iconst (pc := 7) 1 dX12_isNews_7 rfl ?_
  refine WW.isub (pc := 8) dX12_isNews_8 ?_
  refine WW.i2l (pc := 9) dX12_isNews_9 ?_
  refine WW.callS (pc := 10) (As := [.long (Int32.toInt64 a1), .long 0, .long (Int32.toInt64 ((d_i d 23 18) - 1))]) (st := []) lk_X12_73 (okX12_in g ρ hρ d (Int32.toInt64 a1) 0 (Int32.toInt64 ((d_i d 23 18) - 1))) rfl (Nat.le_of_ble_eq_true rfl) ⟨Nat.le_of_ble_eq_true rfl, Nat.le_of_ble_eq_true rfl, Nat.le_of_ble_eq_true rfl, Nat.le_of_ble_eq_true rfl⟩ dX12_isNews_10 rfl (fun r1 hr1 => ?_)
  show WW _ _ _ 13 _ [.int (b2i r1)] (full d ρ) 0 0 _
  exact WW.ret rfl rfl (show RetI M_X12_isNews 13 from dX12_isNews_13) ⟨Nat.le_refl _, Nat.le_refl _⟩ rfl
def fX12_as (ρ : Rh) (d : Dd) (a1 : Int32) (a2 : Int32) : Option Int32 :=
  (fX12_isNews ρ d a1).bind fun r1 =>
  if r1 = true then
    ((fX12_in (Int32.toInt64 a2) 0 4).bind fun r2 =>
    if r2 = true then
      (jn (fun (x3 : Bool) =>
        if x3 = true then
          (some a1)
        else
          (some (-1))
        ) fun k4 =>
      jn (fun (x5 : Unit) =>
        k4 true
        ) fun k6 =>
      if a2 = 0 then
        (k6 ())
      else
        (if inB a1 8 = true then
          (if a2 = (d_i d 31 (ix a1)) then
            (k6 ())
          else
            (jn (fun (x7 : Unit) =>
              k4 false
              ) fun k8 =>
            if a2 = 1 then
              (if inB a1 8 = true then
                (if (d_i d 31 (ix a1)) ≤ 2 then
                  (k8 ())
                else
                  (k6 ()))
              else none)
            else
              (k8 ())))
        else none))
    else
      (some (-102)))
  else
    (some (-101))
set_option maxHeartbeats 4000000 in
set_option maxRecDepth 100000 in
theorem okX12_as (g : Gx) (ρ : Rh) (hρ : Hr ρ) (d : Dd) (a1 : Int32) (a2 : Int32) : CallR g M_X12_as (eIp ρ d) [.ref 23, .int a1, .int a2] (full d ρ) (fX12_as ρ d a1 a2) := by
  refine CallR.intro rfl rfl (Nat.le_of_ble_eq_true rfl) (fun a ha => ⟨_, rfl⟩) ?_
  show WW g _ _ 0 [(0, .ref 23), (1, .int a1), (2, .int a2)] [] (full d ρ) 0 0 _
  unfold fX12_as
  refine WW.aload_n (pc := 0) (j := 0) rfl dX12_as_0 ?_
  refine WW.iload_n (pc := 1) (j := 1) rfl dX12_as_1 ?_
  refine WW.callV (pc := 2) (As := [.int a1]) (st := []) lk_X12_127 (okX12_isNews g ρ hρ d a1) h3_23 (sh_23 ρ) ⟨_, _, clk12⟩ rfl (Nat.le_of_ble_eq_true rfl) ⟨Nat.le_of_ble_eq_true rfl, Nat.le_of_ble_eq_true rfl, Nat.le_of_ble_eq_true rfl, Nat.le_of_ble_eq_true rfl⟩ dX12_as_2 rfl (fun r1 hr1 => ?_)
  show WW _ _ _ 5 _ [.int (b2i r1)] (full d ρ) 0 0 _
  refine WW.if_neB (pc := 5) 11 dX12_as_5 (by decide) (fun _ => ?_) (fun _ => ?_)
  · refine WW.iload_n (pc := 11) (j := 2) rfl dX12_as_11 ?_
    refine WW.i2l (pc := 12) dX12_as_12 ?_
    refine WW.lconst (pc := 13) 0 dX12_as_13 rfl ?_
    refine WW.ldc2 (pc := 14) wd_988 dX12_as_14 ?_
    refine WW.callS (pc := 17) (As := [.long (Int32.toInt64 a2), .long 0, .long 4]) (st := []) lk_X12_73 (okX12_in g ρ hρ d (Int32.toInt64 a2) 0 4) rfl (Nat.le_of_ble_eq_true rfl) ⟨Nat.le_of_ble_eq_true rfl, Nat.le_of_ble_eq_true rfl, Nat.le_of_ble_eq_true rfl, Nat.le_of_ble_eq_true rfl⟩ dX12_as_17 rfl (fun r2 hr2 => ?_)
    show WW _ _ _ 20 _ [.int (b2i r2)] (full d ρ) 0 0 _
    refine WW.if_neB (pc := 20) 26 dX12_as_20 (by decide) (fun _ => ?_) (fun _ => ?_)
    · refine WW.iload_n (pc := 26) (j := 2) rfl dX12_as_26 ?_
      refine WW.join (pj := 60) (Lj := fun (x3 : Bool) => [(1, .int a1)]) (sj := fun (x3 : Bool) => [.int (b2i x3)]) (hj := fun (x3 : Bool) => full d ρ) (fun x3 => ?_) (fun k4 hk4 => ?_)
      · refine WW.istore_n (pc := 60) [(3, .int (b2i x3)), (1, .int a1)] rfl (by decide) dX12_as_60 ?_
        refine WW.iload_n (pc := 61) (j := 0) rfl dX12_as_61 ?_
        refine WW.if_eqB (pc := 62) 69 dX12_as_62 (by decide) (fun _ => ?_) (fun _ => ?_)
        · refine WW.iload_n (pc := 65) (j := 1) rfl dX12_as_65 ?_
          refine WW.goto (pc := 66) 70 dX12_as_66 (by decide) ?_
          exact WW.ret rfl rfl (show RetI M_X12_as 70 from dX12_as_70) ⟨Nat.le_refl _, Nat.le_refl _⟩ rfl
        · refine WW.iconst (pc := 69) (-1) dX12_as_69 rfl ?_
          exact WW.ret rfl rfl (show RetI M_X12_as 70 from dX12_as_70) ⟨Nat.le_refl _, Nat.le_refl _⟩ rfl
      · refine WW.join (pj := 55) (Lj := fun (x5 : Unit) => [(1, .int a1)]) (sj := fun (x5 : Unit) => []) (hj := fun (x5 : Unit) => full d ρ) (fun x5 => ?_) (fun k6 hk6 => ?_)
        · refine WW.iconst (pc := 55) 1 dX12_as_55 rfl ?_
          refine WW.goto (pc := 56) 60 dX12_as_56 (by decide) ?_
          exact hk4 true
        · refine WW.if_eq (pc := 27) 55 dX12_as_27 (by decide) (fun _ => ?_) (fun _ => ?_)
          · refine WW.sub [1] rfl ?_
            exact hk6 ()
          · refine WW.iload_n (pc := 30) (j := 2) rfl dX12_as_30 ?_
            refine WW.aload_n (pc := 31) (j := 0) rfl dX12_as_31 ?_
            refine WW.sgr (pc := 32) fl_X12_31_12 h3_23 (sh_23 ρ) (Or.inr ⟨_, gt_12_19⟩) (hr_23_19 ρ) dX12_as_32 ?_
            refine WW.iload_n (pc := 35) (j := 1) rfl dX12_as_35 ?_
            refine WW.siald (pc := 36) (one_le h3_31) (sh_31 ρ) dX12_as_36 ?_
            refine WW.icmp_eq (pc := 37) 55 dX12_as_37 (by decide) (fun _ => ?_) (fun _ => ?_)
            · refine WW.sub [1] rfl ?_
              exact hk6 ()
            · refine WW.iload_n (pc := 40) (j := 2) rfl dX12_as_40 ?_
              refine WW.iconst (pc := 41) 1 dX12_as_41 rfl ?_
              refine WW.join (pj := 59) (Lj := fun (x7 : Unit) => [(1, .int a1)]) (sj := fun (x7 : Unit) => []) (hj := fun (x7 : Unit) => full d ρ) (fun x7 => ?_) (fun k8 hk8 => ?_)
              · refine WW.iconst (pc := 59) 0 dX12_as_59 rfl ?_
                exact hk4 false
              · refine WW.icmp_ne (pc := 42) 59 dX12_as_42 (by decide) (fun _ => ?_) (fun _ => ?_)
                · refine WW.aload_n (pc := 45) (j := 0) rfl dX12_as_45 ?_
                  refine WW.sgr (pc := 46) fl_X12_31_12 h3_23 (sh_23 ρ) (Or.inr ⟨_, gt_12_19⟩) (hr_23_19 ρ) dX12_as_46 ?_
                  refine WW.iload_n (pc := 49) (j := 1) rfl dX12_as_49 ?_
                  refine WW.siald (pc := 50) (one_le h3_31) (sh_31 ρ) dX12_as_50 ?_
                  refine WW.iconst (pc := 51) 2 dX12_as_51 rfl ?_
                  refine WW.icmp_le (pc := 52) 59 dX12_as_52 (by decide) (fun _ => ?_) (fun _ => ?_)
                  · refine WW.sub [1] rfl ?_
                    exact hk8 ()
                  · refine WW.sub [1] rfl ?_
                    exact hk6 ()
                · refine WW.sub [1] rfl ?_
                  exact hk8 ()
    · refine WW.bipush (pc := 23) (-102) dX12_as_23 rfl ?_
      exact WW.ret rfl rfl (show RetI M_X12_as 25 from dX12_as_25) ⟨Nat.le_refl _, Nat.le_refl _⟩ rfl
  · refine WW.bipush (pc := 8) (-101) dX12_as_8 rfl ?_
    exact WW.ret rfl rfl (show RetI M_X12_as 10 from dX12_as_10) ⟨Nat.le_refl _, Nat.le_refl _⟩ rfl
def fX12_others (ρ : Rh) (d : Dd) : Option Int32 :=
  if (d_i d 23 4) ≤ 1 then
    (some 1)
  else
    (some ((d_i d 23 4) - 1))
set_option maxHeartbeats 4000000 in
set_option maxRecDepth 100000 in
theorem okX12_others (g : Gx) (ρ : Rh) (hρ : Hr ρ) (d : Dd)  : CallR g M_X12_others (eIp ρ d) [.ref 23] (full d ρ) (fX12_others ρ d) := by
  refine CallR.intro rfl rfl (Nat.le_of_ble_eq_true rfl) (fun a ha => ⟨_, rfl⟩) ?_
  show WW g _ _ 0 [(0, .ref 23)] [] (full d ρ) 0 0 _
  unfold fX12_others
  refine WW.aload_n (pc := 0) (j := 0) rfl dX12_others_0 ?_
  refine WW.sgi (pc := 1) fl_X12_44_12 h3_23 (sh_23 ρ) (Or.inl gt_12_4) dX12_others_1 ?_
  refine WW.iconst (pc := 4) 1 dX12_others_4 rfl ?_
  refine WW.icmp_le (pc := 5) 17 dX12_others_5 (by decide) (fun _ => ?_) (fun _ => ?_)
  · refine WW.iconst (pc := 17) 1 dX12_others_17 rfl ?_
    exact WW.ret rfl rfl (show RetI M_X12_others 18 from dX12_others_18) ⟨Nat.le_refl _, Nat.le_refl _⟩ rfl
  · refine WW.aload_n (pc := 8) (j := 0) rfl dX12_others_8 ?_
    refine WW.sgi (pc := 9) fl_X12_44_12 h3_23 (sh_23 ρ) (Or.inl gt_12_4) dX12_others_9 ?_
    refine WW.iconst (pc := 12) 1 dX12_others_12 rfl ?_
    refine WW.isub (pc := 13) dX12_others_13 ?_
    refine WW.goto (pc := 14) 18 dX12_others_14 (by decide) ?_
    exact WW.ret rfl rfl (show RetI M_X12_others 18 from dX12_others_18) ⟨Nat.le_refl _, Nat.le_refl _⟩ rfl
def fX12_unit (ρ : Rh) (d : Dd) : Option Int32 :=
  (fX12_others ρ d).bind fun r1 =>
  some (100 * r1)
set_option maxHeartbeats 4000000 in
set_option maxRecDepth 100000 in
theorem okX12_unit (g : Gx) (ρ : Rh) (hρ : Hr ρ) (d : Dd)  : CallR g M_X12_unit (eIp ρ d) [.ref 23] (full d ρ) (fX12_unit ρ d) := by
  refine CallR.intro rfl rfl (Nat.le_of_ble_eq_true rfl) (fun a ha => ⟨_, rfl⟩) ?_
  show WW g _ _ 0 [(0, .ref 23)] [] (full d ρ) 0 0 _
  unfold fX12_unit
  refine WW.bipush (pc := 0) 100 dX12_unit_0 rfl ?_
  refine WW.aload_n (pc := 2) (j := 0) rfl dX12_unit_2 ?_
  refine WW.callV (pc := 3) (As := []) (st := [.int 100]) lk_X12_130 (okX12_others g ρ hρ d ) h3_23 (sh_23 ρ) ⟨_, _, clk12⟩ rfl (Nat.le_of_ble_eq_true rfl) ⟨Nat.le_of_ble_eq_true rfl, Nat.le_of_ble_eq_true rfl, Nat.le_of_ble_eq_true rfl, Nat.le_of_ble_eq_true rfl⟩ dX12_unit_3 rfl (fun r1 hr1 => ?_)
  show WW _ _ _ 6 _ [.int r1, .int 100] (full d ρ) 0 0 _
  refine WW.imul (pc := 6) dX12_unit_6 ?_
  exact WW.ret rfl rfl (show RetI M_X12_unit 7 from dX12_unit_7) ⟨Nat.le_refl _, Nat.le_refl _⟩ rfl
def fX12_allWeights (ρ : Rh) (d : Dd) : Option Int32 :=
  lp (fun self2 (x1 : Int32 × Int32) =>
    if (d_i d 23 4) ≤ x1.2 then
      (some x1.1)
    else
      (if inB x1.2 4 = true then
        (bnd ((x1.1 + (d_i d 25 (ix x1.2))) : Int32) fun v3 =>
        self2 (v3, (x1.2 + 1)))
      else none)
    ) 6000 (0, 0)
set_option maxHeartbeats 4000000 in
set_option maxRecDepth 100000 in
theorem okX12_allWeights (g : Gx) (ρ : Rh) (hρ : Hr ρ) (d : Dd)  : CallR g M_X12_allWeights (eIp ρ d) [.ref 23] (full d ρ) (fX12_allWeights ρ d) := by
  refine CallR.intro rfl rfl (Nat.le_of_ble_eq_true rfl) (fun a ha => ⟨_, rfl⟩) ?_
  show WW g _ _ 0 [(0, .ref 23)] [] (full d ρ) 0 0 _
  unfold fX12_allWeights
  refine WW.iconst (pc := 0) 0 dX12_allWeights_0 rfl ?_
  refine WW.istore_n (pc := 1) [(1, .int 0), (0, .ref 23)] rfl (by decide) dX12_allWeights_1 ?_
  refine WW.iconst (pc := 2) 0 dX12_allWeights_2 rfl ?_
  refine WW.istore_n (pc := 3) [(2, .int 0), (1, .int 0), (0, .ref 23)] rfl (by decide) dX12_allWeights_3 ?_
  refine WW.sub [2, 1, 0] rfl ?_
  refine WW.loop (pc := 4) (Lj := fun (x1 : Int32 × Int32) => [(0, .ref 23), (1, .int x1.1), (2, .int x1.2)]) (hj := fun (x1 : Int32 × Int32) => full d ρ) (fun self2 hself2 x1 => ?_) 6000 (0, 0)
  refine WW.iload_n (pc := 4) (j := 2) rfl dX12_allWeights_4 ?_
  refine WW.aload_n (pc := 5) (j := 0) rfl dX12_allWeights_5 ?_
  refine WW.sgi (pc := 6) fl_X12_44_12 h3_23 (sh_23 ρ) (Or.inl gt_12_4) dX12_allWeights_6 ?_
  refine WW.icmp_ge (pc := 9) 27 dX12_allWeights_9 (by decide) (fun _ => ?_) (fun _ => ?_)
  · refine WW.iload_n (pc := 27) (j := 1) rfl dX12_allWeights_27 ?_
    exact WW.ret rfl rfl (show RetI M_X12_allWeights 28 from dX12_allWeights_28) ⟨Nat.le_refl _, Nat.le_refl _⟩ rfl
  · refine WW.iload_n (pc := 12) (j := 1) rfl dX12_allWeights_12 ?_
    refine WW.aload_n (pc := 13) (j := 0) rfl dX12_allWeights_13 ?_
    refine WW.sgr (pc := 14) fl_X12_13_12 h3_23 (sh_23 ρ) (Or.inr ⟨_, gt_12_5⟩) (hr_23_5 ρ) dX12_allWeights_14 ?_
    refine WW.iload_n (pc := 17) (j := 2) rfl dX12_allWeights_17 ?_
    refine WW.siald (pc := 18) (one_le h3_25) (sh_25 ρ) dX12_allWeights_18 ?_
    refine WW.iadd (pc := 19) dX12_allWeights_19 ?_
    refine WW.nmi (fun v3 => ?_)
    refine WW.istore_n (pc := 20) [(1, .int v3), (0, .ref 23), (2, .int x1.2)] rfl (by decide) dX12_allWeights_20 ?_
    refine WW.iinc (pc := 21) (j := 2) (x1.2 + 1) [(2, .int (x1.2 + 1)), (1, .int v3), (0, .ref 23)] rfl rfl rfl (by decide) dX12_allWeights_21 ?_
    refine WW.goto (pc := 24) 4 dX12_allWeights_24 (by decide) ?_
    refine WW.sub [2, 1, 0] rfl ?_
    exact hself2 (v3, (x1.2 + 1))
def fX12_often (ρ : Rh) (d : Dd) (a1 : Int32) (a2 : Int32) (a3 : Int32) : Option Int32 :=
  if inB a1 8 = true then
    (bnd ((d_i d 31 (ix a1)) : Int32) fun v1 =>
    jn (fun (x2 : Unit) =>
      jn (fun (x4 : Int32) =>
        if x4 = a3 then
          ((fX12_unit ρ d).bind fun r6 =>
          some r6)
        else
          (some 0)
        ) fun k5 =>
      if v1 = 0 then
        (k5 0)
      else
        (if v1 = 2 then
          (if inB a1 8 = true then
            (k5 ((jshr (d_i d 32 (ix a1)) (2 * a2)) &&& 3))
          else none)
        else
          (k5 a2))
      ) fun k3 =>
    if v1 = 3 then
      (if (d_i d 23 4) ≤ 1 then
        (k3 ())
      else
        (if a3 = a2 then
          (if inB a1 8 = true then
            ((fX12_others ρ d).bind fun r7 =>
            some ((100 - (d_i d 32 (ix a1))) * r7))
          else none)
        else
          (if (d_i d 23 4) ≤ a3 then
            (some 0)
          else
            (if inB a1 8 = true then
              (some (d_i d 32 (ix a1)))
            else none))))
    else
      (k3 ()))
  else none
set_option maxHeartbeats 4000000 in
set_option maxRecDepth 100000 in
theorem okX12_often (g : Gx) (ρ : Rh) (hρ : Hr ρ) (d : Dd) (a1 : Int32) (a2 : Int32) (a3 : Int32) : CallR g M_X12_often (eIp ρ d) [.ref 23, .int a1, .int a2, .int a3] (full d ρ) (fX12_often ρ d a1 a2 a3) := by
  refine CallR.intro rfl rfl (Nat.le_of_ble_eq_true rfl) (fun a ha => ⟨_, rfl⟩) ?_
  show WW g _ _ 0 [(0, .ref 23), (1, .int a1), (2, .int a2), (3, .int a3)] [] (full d ρ) 0 0 _
  unfold fX12_often
  refine WW.aload_n (pc := 0) (j := 0) rfl dX12_often_0 ?_
  refine WW.sgr (pc := 1) fl_X12_31_12 h3_23 (sh_23 ρ) (Or.inr ⟨_, gt_12_19⟩) (hr_23_19 ρ) dX12_often_1 ?_
  refine WW.iload_n (pc := 4) (j := 1) rfl dX12_often_4 ?_
  refine WW.siald (pc := 5) (one_le h3_31) (sh_31 ρ) dX12_often_5 ?_
  refine WW.nmi (fun v1 => ?_)
  refine WW.istore (pc := 6) [(4, .int v1), (0, .ref 23), (1, .int a1), (2, .int a2), (3, .int a3)] rfl (by decide) dX12_often_6 ?_
  refine WW.iload (pc := 8) (j := 0) rfl dX12_often_8 ?_
  refine WW.iconst (pc := 10) 3 dX12_often_10 rfl ?_
  refine WW.join (pj := 63) (Lj := fun (x2 : Unit) => [(0, .ref 23), (1, .int a1), (2, .int a2), (3, .int a3), (4, .int v1)]) (sj := fun (x2 : Unit) => []) (hj := fun (x2 : Unit) => full d ρ) (fun x2 => ?_) (fun k3 hk3 => ?_)
  · refine WW.iload (pc := 63) (j := 4) rfl dX12_often_63 ?_
    refine WW.join (pj := 94) (Lj := fun (x4 : Int32) => [(0, .ref 23), (3, .int a3)]) (sj := fun (x4 : Int32) => [.int x4]) (hj := fun (x4 : Int32) => full d ρ) (fun x4 => ?_) (fun k5 hk5 => ?_)
    · refine WW.istore (pc := 94) [(5, .int x4), (0, .ref 23), (3, .int a3)] rfl (by decide) dX12_often_94 ?_
      refine WW.iload (pc := 96) (j := 0) rfl dX12_often_96 ?_
      refine WW.iload_n (pc := 98) (j := 2) rfl dX12_often_98 ?_
      refine WW.icmp_ne (pc := 99) 109 dX12_often_99 (by decide) (fun _ => ?_) (fun _ => ?_)
      · refine WW.aload_n (pc := 102) (j := 1) rfl dX12_often_102 ?_
        refine WW.callV (pc := 103) (As := []) (st := []) lk_X12_133 (okX12_unit g ρ hρ d ) h3_23 (sh_23 ρ) ⟨_, _, clk12⟩ rfl (Nat.le_of_ble_eq_true rfl) ⟨Nat.le_of_ble_eq_true rfl, Nat.le_of_ble_eq_true rfl, Nat.le_of_ble_eq_true rfl, Nat.le_of_ble_eq_true rfl⟩ dX12_often_103 rfl (fun r6 hr6 => ?_)
        show WW _ _ _ 106 _ [.int r6] (full d ρ) 0 0 _
        refine WW.goto (pc := 106) 110 dX12_often_106 (by decide) ?_
        exact WW.ret rfl rfl (show RetI M_X12_often 110 from dX12_often_110) ⟨Nat.le_refl _, Nat.le_refl _⟩ rfl
      · refine WW.iconst (pc := 109) 0 dX12_often_109 rfl ?_
        exact WW.ret rfl rfl (show RetI M_X12_often 110 from dX12_often_110) ⟨Nat.le_refl _, Nat.le_refl _⟩ rfl
    · refine WW.if_ne (pc := 65) 72 dX12_often_65 (by decide) (fun _ => ?_) (fun _ => ?_)
      · refine WW.iconst (pc := 68) 0 dX12_often_68 rfl ?_
        refine WW.goto (pc := 69) 94 dX12_often_69 (by decide) ?_
        refine WW.sub [0, 3] rfl ?_
        exact hk5 0
      · refine WW.iload (pc := 72) (j := 4) rfl dX12_often_72 ?_
        refine WW.iconst (pc := 74) 2 dX12_often_74 rfl ?_
        refine WW.icmp_ne (pc := 75) 93 dX12_often_75 (by decide) (fun _ => ?_) (fun _ => ?_)
        · refine WW.aload_n (pc := 78) (j := 0) rfl dX12_often_78 ?_
          refine WW.sgr (pc := 79) fl_X12_34_12 h3_23 (sh_23 ρ) (Or.inr ⟨_, gt_12_20⟩) (hr_23_20 ρ) dX12_often_79 ?_
          refine WW.iload_n (pc := 82) (j := 1) rfl dX12_often_82 ?_
          refine WW.siald (pc := 83) (one_le h3_32) (sh_32 ρ) dX12_often_83 ?_
          refine WW.iconst (pc := 84) 2 dX12_often_84 rfl ?_
          refine WW.iload_n (pc := 85) (j := 2) rfl dX12_often_85 ?_
          refine WW.imul (pc := 86) dX12_often_86 ?_
          refine WW.ishr (pc := 87) dX12_often_87 ?_
          refine WW.iconst (pc := 88) 3 dX12_often_88 rfl ?_
          refine WW.iand (pc := 89) dX12_often_89 ?_
          refine WW.goto (pc := 90) 94 dX12_often_90 (by decide) ?_
          refine WW.sub [0, 3] rfl ?_
          exact hk5 ((jshr (d_i d 32 (ix a1)) (2 * a2)) &&& 3)
        · refine WW.iload_n (pc := 93) (j := 2) rfl dX12_often_93 ?_
          refine WW.sub [0, 3] rfl ?_
          exact hk5 a2
  · refine WW.icmp_ne (pc := 11) 63 dX12_often_11 (by decide) (fun _ => ?_) (fun _ => ?_)
    · refine WW.aload_n (pc := 14) (j := 1) rfl dX12_often_14 ?_
      refine WW.sgi (pc := 15) fl_X12_44_12 h3_23 (sh_23 ρ) (Or.inl gt_12_4) dX12_often_15 ?_
      refine WW.iconst (pc := 18) 1 dX12_often_18 rfl ?_
      refine WW.icmp_le (pc := 19) 63 dX12_often_19 (by decide) (fun _ => ?_) (fun _ => ?_)
      · refine WW.sub [1, 2, 3, 4, 0] rfl ?_
        exact hk3 ()
      · refine WW.iload_n (pc := 22) (j := 4) rfl dX12_often_22 ?_
        refine WW.iload_n (pc := 23) (j := 3) rfl dX12_often_23 ?_
        refine WW.icmp_ne (pc := 24) 44 dX12_often_24 (by decide) (fun _ => ?_) (fun _ => ?_)
        · refine WW.bipush (pc := 27) 100 dX12_often_27 rfl ?_
          refine WW.aload_n (pc := 29) (j := 1) rfl dX12_often_29 ?_
          refine WW.sgr (pc := 30) fl_X12_34_12 h3_23 (sh_23 ρ) (Or.inr ⟨_, gt_12_20⟩) (hr_23_20 ρ) dX12_often_30 ?_
          refine WW.iload_n (pc := 33) (j := 2) rfl dX12_often_33 ?_
          refine WW.siald (pc := 34) (one_le h3_32) (sh_32 ρ) dX12_often_34 ?_
          refine WW.isub (pc := 35) dX12_often_35 ?_
          refine WW.aload_n (pc := 36) (j := 1) rfl dX12_often_36 ?_
          refine WW.callV (pc := 37) (As := []) (st := [.int (100 - (d_i d 32 (ix a1)))]) lk_X12_130 (okX12_others g ρ hρ d ) h3_23 (sh_23 ρ) ⟨_, _, clk12⟩ rfl (Nat.le_of_ble_eq_true rfl) ⟨Nat.le_of_ble_eq_true rfl, Nat.le_of_ble_eq_true rfl, Nat.le_of_ble_eq_true rfl, Nat.le_of_ble_eq_true rfl⟩ dX12_often_37 rfl (fun r7 hr7 => ?_)
          show WW _ _ _ 40 _ [.int r7, .int (100 - (d_i d 32 (ix a1)))] (full d ρ) 0 0 _
          refine WW.imul (pc := 40) dX12_often_40 ?_
          refine WW.goto (pc := 41) 62 dX12_often_41 (by decide) ?_
          exact WW.ret rfl rfl (show RetI M_X12_often 62 from dX12_often_62) ⟨Nat.le_refl _, Nat.le_refl _⟩ rfl
        · refine WW.iload_n (pc := 44) (j := 4) rfl dX12_often_44 ?_
          refine WW.aload_n (pc := 45) (j := 1) rfl dX12_often_45 ?_
          refine WW.sgi (pc := 46) fl_X12_44_12 h3_23 (sh_23 ρ) (Or.inl gt_12_4) dX12_often_46 ?_
          refine WW.icmp_ge (pc := 49) 61 dX12_often_49 (by decide) (fun _ => ?_) (fun _ => ?_)
          · refine WW.iconst (pc := 61) 0 dX12_often_61 rfl ?_
            exact WW.ret rfl rfl (show RetI M_X12_often 62 from dX12_often_62) ⟨Nat.le_refl _, Nat.le_refl _⟩ rfl
          · refine WW.aload_n (pc := 52) (j := 1) rfl dX12_often_52 ?_
            refine WW.sgr (pc := 53) fl_X12_34_12 h3_23 (sh_23 ρ) (Or.inr ⟨_, gt_12_20⟩) (hr_23_20 ρ) dX12_often_53 ?_
            refine WW.iload_n (pc := 56) (j := 2) rfl dX12_often_56 ?_
            refine WW.siald (pc := 57) (one_le h3_32) (sh_32 ρ) dX12_often_57 ?_
            refine WW.goto (pc := 58) 62 dX12_often_58 (by decide) ?_
            exact WW.ret rfl rfl (show RetI M_X12_often 62 from dX12_often_62) ⟨Nat.le_refl _, Nat.le_refl _⟩ rfl
    · refine WW.sub [1, 2, 3, 4, 0] rfl ?_
      exact hk3 ()
def fX12_heardOf (ρ : Rh) (d : Dd) (a1 : Int32) (a2 : Int32) : Option Int32 :=
  lp (fun self2 (x1 : Int32 × Int32) =>
    if (d_i d 23 4) ≤ x1.2 then
      (some x1.1)
    else
      (if inB x1.2 4 = true then
        ((fX12_often ρ d a1 x1.2 a2).bind fun r3 =>
        bnd ((x1.1 + ((d_i d 25 (ix x1.2)) * r3)) : Int32) fun v4 =>
        self2 (v4, (x1.2 + 1)))
      else none)
    ) 6000 (0, 0)
set_option maxHeartbeats 4000000 in
set_option maxRecDepth 100000 in
theorem okX12_heardOf (g : Gx) (ρ : Rh) (hρ : Hr ρ) (d : Dd) (a1 : Int32) (a2 : Int32) : CallR g M_X12_heardOf (eIp ρ d) [.ref 23, .int a1, .int a2] (full d ρ) (fX12_heardOf ρ d a1 a2) := by
  refine CallR.intro rfl rfl (Nat.le_of_ble_eq_true rfl) (fun a ha => ⟨_, rfl⟩) ?_
  show WW g _ _ 0 [(0, .ref 23), (1, .int a1), (2, .int a2)] [] (full d ρ) 0 0 _
  unfold fX12_heardOf
  refine WW.iconst (pc := 0) 0 dX12_heardOf_0 rfl ?_
  refine WW.istore_n (pc := 1) [(3, .int 0), (0, .ref 23), (1, .int a1), (2, .int a2)] rfl (by decide) dX12_heardOf_1 ?_
  refine WW.iconst (pc := 2) 0 dX12_heardOf_2 rfl ?_
  refine WW.istore (pc := 3) [(4, .int 0), (3, .int 0), (0, .ref 23), (1, .int a1), (2, .int a2)] rfl (by decide) dX12_heardOf_3 ?_
  refine WW.sub [2, 3, 4, 1, 0] rfl ?_
  refine WW.loop (pc := 5) (Lj := fun (x1 : Int32 × Int32) => [(0, .ref 23), (1, .int a1), (2, .int a2), (3, .int x1.1), (4, .int x1.2)]) (hj := fun (x1 : Int32 × Int32) => full d ρ) (fun self2 hself2 x1 => ?_) 6000 (0, 0)
  refine WW.iload (pc := 5) (j := 4) rfl dX12_heardOf_5 ?_
  refine WW.aload_n (pc := 7) (j := 0) rfl dX12_heardOf_7 ?_
  refine WW.sgi (pc := 8) fl_X12_44_12 h3_23 (sh_23 ρ) (Or.inl gt_12_4) dX12_heardOf_8 ?_
  refine WW.icmp_ge (pc := 11) 39 dX12_heardOf_11 (by decide) (fun _ => ?_) (fun _ => ?_)
  · refine WW.iload_n (pc := 39) (j := 3) rfl dX12_heardOf_39 ?_
    exact WW.ret rfl rfl (show RetI M_X12_heardOf 40 from dX12_heardOf_40) ⟨Nat.le_refl _, Nat.le_refl _⟩ rfl
  · refine WW.iload_n (pc := 14) (j := 3) rfl dX12_heardOf_14 ?_
    refine WW.aload_n (pc := 15) (j := 0) rfl dX12_heardOf_15 ?_
    refine WW.sgr (pc := 16) fl_X12_13_12 h3_23 (sh_23 ρ) (Or.inr ⟨_, gt_12_5⟩) (hr_23_5 ρ) dX12_heardOf_16 ?_
    refine WW.iload (pc := 19) (j := 4) rfl dX12_heardOf_19 ?_
    refine WW.siald (pc := 21) (one_le h3_25) (sh_25 ρ) dX12_heardOf_21 ?_
    refine WW.aload_n (pc := 22) (j := 0) rfl dX12_heardOf_22 ?_
    refine WW.iload_n (pc := 23) (j := 1) rfl dX12_heardOf_23 ?_
    refine WW.iload (pc := 24) (j := 4) rfl dX12_heardOf_24 ?_
    refine WW.iload_n (pc := 26) (j := 2) rfl dX12_heardOf_26 ?_
    refine WW.callV (pc := 27) (As := [.int a1, .int x1.2, .int a2]) (st := [.int (d_i d 25 (ix x1.2)), .int x1.1]) lk_X12_136 (okX12_often g ρ hρ d a1 x1.2 a2) h3_23 (sh_23 ρ) ⟨_, _, clk12⟩ rfl (Nat.le_of_ble_eq_true rfl) ⟨Nat.le_of_ble_eq_true rfl, Nat.le_of_ble_eq_true rfl, Nat.le_of_ble_eq_true rfl, Nat.le_of_ble_eq_true rfl⟩ dX12_heardOf_27 rfl (fun r3 hr3 => ?_)
    show WW _ _ _ 30 _ [.int r3, .int (d_i d 25 (ix x1.2)), .int x1.1] (full d ρ) 0 0 _
    refine WW.imul (pc := 30) dX12_heardOf_30 ?_
    refine WW.iadd (pc := 31) dX12_heardOf_31 ?_
    refine WW.nmi (fun v4 => ?_)
    refine WW.istore_n (pc := 32) [(3, .int v4), (0, .ref 23), (1, .int a1), (2, .int a2), (4, .int x1.2)] rfl (by decide) dX12_heardOf_32 ?_
    refine WW.iinc (pc := 33) (j := 4) (x1.2 + 1) [(4, .int (x1.2 + 1)), (3, .int v4), (0, .ref 23), (1, .int a1), (2, .int a2)] rfl rfl rfl (by decide) dX12_heardOf_33 ?_
    refine WW.goto (pc := 36) 5 dX12_heardOf_36 (by decide) ?_
    refine WW.sub [2, 3, 4, 1, 0] rfl ?_
    exact hself2 (v4, (x1.2 + 1))
def fX12_baseOf (ρ : Rh) (d : Dd) (a1 : Int32) (a2 : Int32) : Option Int32 :=
  if inB a1 8 = true then
    (if (d_i d 31 (ix a1)) = 4 then
      (if inB a1 8 = true then
        (if inB a2 4 = true then
          (some ((100 * (d_i d 23 2)) + ((d_i d 32 (ix a1)) * ((d_i d 26 (ix a2)) - (d_i d 23 2)))))
        else none)
      else none)
    else
      (some ((100 * (d_i d 23 2)) + 0)))
  else none
set_option maxHeartbeats 4000000 in
set_option maxRecDepth 100000 in
theorem okX12_baseOf (g : Gx) (ρ : Rh) (hρ : Hr ρ) (d : Dd) (a1 : Int32) (a2 : Int32) : CallR g M_X12_baseOf (eIp ρ d) [.ref 23, .int a1, .int a2] (full d ρ) (fX12_baseOf ρ d a1 a2) := by
  refine CallR.intro rfl rfl (Nat.le_of_ble_eq_true rfl) (fun a ha => ⟨_, rfl⟩) ?_
  show WW g _ _ 0 [(0, .ref 23), (1, .int a1), (2, .int a2)] [] (full d ρ) 0 0 _
  unfold fX12_baseOf
  refine WW.bipush (pc := 0) 100 dX12_baseOf_0 rfl ?_
  refine WW.aload_n (pc := 2) (j := 0) rfl dX12_baseOf_2 ?_
  refine WW.sgi (pc := 3) fl_X12_101_12 h3_23 (sh_23 ρ) (Or.inl gt_12_2) dX12_baseOf_3 ?_
  refine WW.imul (pc := 6) dX12_baseOf_6 ?_
  refine WW.aload_n (pc := 7) (j := 0) rfl dX12_baseOf_7 ?_
  refine WW.sgr (pc := 8) fl_X12_31_12 h3_23 (sh_23 ρ) (Or.inr ⟨_, gt_12_19⟩) (hr_23_19 ρ) dX12_baseOf_8 ?_
  refine WW.iload_n (pc := 11) (j := 1) rfl dX12_baseOf_11 ?_
  refine WW.siald (pc := 12) (one_le h3_31) (sh_31 ρ) dX12_baseOf_12 ?_
  refine WW.iconst (pc := 13) 4 dX12_baseOf_13 rfl ?_
  refine WW.icmp_ne (pc := 14) 38 dX12_baseOf_14 (by decide) (fun _ => ?_) (fun _ => ?_)
  · refine WW.aload_n (pc := 17) (j := 0) rfl dX12_baseOf_17 ?_
    refine WW.sgr (pc := 18) fl_X12_34_12 h3_23 (sh_23 ρ) (Or.inr ⟨_, gt_12_20⟩) (hr_23_20 ρ) dX12_baseOf_18 ?_
    refine WW.iload_n (pc := 21) (j := 1) rfl dX12_baseOf_21 ?_
    refine WW.siald (pc := 22) (one_le h3_32) (sh_32 ρ) dX12_baseOf_22 ?_
    refine WW.aload_n (pc := 23) (j := 0) rfl dX12_baseOf_23 ?_
    refine WW.sgr (pc := 24) fl_X12_16_12 h3_23 (sh_23 ρ) (Or.inr ⟨_, gt_12_6⟩) (hr_23_6 ρ) dX12_baseOf_24 ?_
    refine WW.iload_n (pc := 27) (j := 2) rfl dX12_baseOf_27 ?_
    refine WW.siald (pc := 28) (one_le h3_26) (sh_26 ρ) dX12_baseOf_28 ?_
    refine WW.aload_n (pc := 29) (j := 0) rfl dX12_baseOf_29 ?_
    refine WW.sgi (pc := 30) fl_X12_101_12 h3_23 (sh_23 ρ) (Or.inl gt_12_2) dX12_baseOf_30 ?_
    refine WW.isub (pc := 33) dX12_baseOf_33 ?_
    refine WW.imul (pc := 34) dX12_baseOf_34 ?_
    refine WW.goto (pc := 35) 39 dX12_baseOf_35 (by decide) ?_
    refine WW.iadd (pc := 39) dX12_baseOf_39 ?_
    exact WW.ret rfl rfl (show RetI M_X12_baseOf 40 from dX12_baseOf_40) ⟨Nat.le_refl _, Nat.le_refl _⟩ rfl
  · refine WW.iconst (pc := 38) 0 dX12_baseOf_38 rfl ?_
    refine WW.iadd (pc := 39) dX12_baseOf_39 ?_
    exact WW.ret rfl rfl (show RetI M_X12_baseOf 40 from dX12_baseOf_40) ⟨Nat.le_refl _, Nat.le_refl _⟩ rfl
def fX12_edgeOf (ρ : Rh) (d : Dd) (a1 : Int32) (a2 : Int32) : Option Int64 :=
  lp (fun self2 (x1 : Int64 × Int32) =>
    if (d_i d 23 4) ≤ x1.2 then
      (some x1.1)
    else
      (if inB x1.2 4 = true then
        ((fX12_often ρ d a1 x1.2 a2).bind fun r3 =>
        if inB x1.2 4 = true then
          ((fX12_baseOf ρ d a1 x1.2).bind fun r4 =>
          bnd ((x1.1 + (((Int32.toInt64 (d_i d 25 (ix x1.2))) * (Int32.toInt64 r3)) * (Int32.toInt64 ((100 * (d_i d 26 (ix x1.2))) - r4)))) : Int64) fun v5 =>
          self2 (v5, (x1.2 + 1)))
        else none)
      else none)
    ) 6000 (0, 0)
set_option maxHeartbeats 4000000 in
set_option maxRecDepth 100000 in
theorem okX12_edgeOf (g : Gx) (ρ : Rh) (hρ : Hr ρ) (d : Dd) (a1 : Int32) (a2 : Int32) : CallR g M_X12_edgeOf (eLp ρ d) [.ref 23, .int a1, .int a2] (full d ρ) (fX12_edgeOf ρ d a1 a2) := by
  refine CallR.intro rfl rfl (Nat.le_of_ble_eq_true rfl) (fun a ha => ⟨_, rfl⟩) ?_
  show WW g _ _ 0 [(0, .ref 23), (1, .int a1), (2, .int a2)] [] (full d ρ) 0 0 _
  unfold fX12_edgeOf
  refine WW.lconst (pc := 0) 0 dX12_edgeOf_0 rfl ?_
  refine WW.lstore_n (pc := 1) [(3, .long 0), (0, .ref 23), (1, .int a1), (2, .int a2)] rfl (by decide) dX12_edgeOf_1 ?_
  refine WW.iconst (pc := 2) 0 dX12_edgeOf_2 rfl ?_
  refine WW.istore (pc := 3) [(5, .int 0), (3, .long 0), (0, .ref 23), (1, .int a1), (2, .int a2)] rfl (by decide) dX12_edgeOf_3 ?_
  refine WW.sub [2, 3, 4, 1, 0] rfl ?_
  refine WW.loop (pc := 5) (Lj := fun (x1 : Int64 × Int32) => [(0, .ref 23), (1, .int a1), (2, .int a2), (3, .long x1.1), (5, .int x1.2)]) (hj := fun (x1 : Int64 × Int32) => full d ρ) (fun self2 hself2 x1 => ?_) 6000 (0, 0)
  refine WW.iload (pc := 5) (j := 4) rfl dX12_edgeOf_5 ?_
  refine WW.aload_n (pc := 7) (j := 0) rfl dX12_edgeOf_7 ?_
  refine WW.sgi (pc := 8) fl_X12_44_12 h3_23 (sh_23 ρ) (Or.inl gt_12_4) dX12_edgeOf_8 ?_
  refine WW.icmp_ge (pc := 11) 61 dX12_edgeOf_11 (by decide) (fun _ => ?_) (fun _ => ?_)
  · refine WW.lload_n (pc := 61) (j := 3) rfl dX12_edgeOf_61 ?_
    exact WW.ret rfl rfl (show RetI M_X12_edgeOf 62 from dX12_edgeOf_62) ⟨Nat.le_refl _, Nat.le_refl _⟩ rfl
  · refine WW.lload_n (pc := 14) (j := 3) rfl dX12_edgeOf_14 ?_
    refine WW.aload_n (pc := 15) (j := 0) rfl dX12_edgeOf_15 ?_
    refine WW.sgr (pc := 16) fl_X12_13_12 h3_23 (sh_23 ρ) (Or.inr ⟨_, gt_12_5⟩) (hr_23_5 ρ) dX12_edgeOf_16 ?_
    refine WW.iload (pc := 19) (j := 4) rfl dX12_edgeOf_19 ?_
    refine WW.siald (pc := 21) (one_le h3_25) (sh_25 ρ) dX12_edgeOf_21 ?_
    refine WW.i2l (pc := 22) dX12_edgeOf_22 ?_
    refine WW.aload_n (pc := 23) (j := 0) rfl dX12_edgeOf_23 ?_
    refine WW.iload_n (pc := 24) (j := 1) rfl dX12_edgeOf_24 ?_
    refine WW.iload (pc := 25) (j := 4) rfl dX12_edgeOf_25 ?_
    refine WW.iload_n (pc := 27) (j := 2) rfl dX12_edgeOf_27 ?_
    refine WW.callV (pc := 28) (As := [.int a1, .int x1.2, .int a2]) (st := [.long (Int32.toInt64 (d_i d 25 (ix x1.2))), .long x1.1]) lk_X12_136 (okX12_often g ρ hρ d a1 x1.2 a2) h3_23 (sh_23 ρ) ⟨_, _, clk12⟩ rfl (Nat.le_of_ble_eq_true rfl) ⟨Nat.le_of_ble_eq_true rfl, Nat.le_of_ble_eq_true rfl, Nat.le_of_ble_eq_true rfl, Nat.le_of_ble_eq_true rfl⟩ dX12_edgeOf_28 rfl (fun r3 hr3 => ?_)
    show WW _ _ _ 31 _ [.int r3, .long (Int32.toInt64 (d_i d 25 (ix x1.2))), .long x1.1] (full d ρ) 0 0 _
    refine WW.i2l (pc := 31) dX12_edgeOf_31 ?_
    refine WW.lmul (pc := 32) dX12_edgeOf_32 ?_
    refine WW.bipush (pc := 33) 100 dX12_edgeOf_33 rfl ?_
    refine WW.aload_n (pc := 35) (j := 0) rfl dX12_edgeOf_35 ?_
    refine WW.sgr (pc := 36) fl_X12_16_12 h3_23 (sh_23 ρ) (Or.inr ⟨_, gt_12_6⟩) (hr_23_6 ρ) dX12_edgeOf_36 ?_
    refine WW.iload (pc := 39) (j := 4) rfl dX12_edgeOf_39 ?_
    refine WW.siald (pc := 41) (one_le h3_26) (sh_26 ρ) dX12_edgeOf_41 ?_
    refine WW.imul (pc := 42) dX12_edgeOf_42 ?_
    refine WW.aload_n (pc := 43) (j := 0) rfl dX12_edgeOf_43 ?_
    refine WW.iload_n (pc := 44) (j := 1) rfl dX12_edgeOf_44 ?_
    refine WW.iload (pc := 45) (j := 4) rfl dX12_edgeOf_45 ?_
    refine WW.callV (pc := 47) (As := [.int a1, .int x1.2]) (st := [.int (100 * (d_i d 26 (ix x1.2))), .long ((Int32.toInt64 (d_i d 25 (ix x1.2))) * (Int32.toInt64 r3)), .long x1.1]) lk_X12_140 (okX12_baseOf g ρ hρ d a1 x1.2) h3_23 (sh_23 ρ) ⟨_, _, clk12⟩ rfl (Nat.le_of_ble_eq_true rfl) ⟨Nat.le_of_ble_eq_true rfl, Nat.le_of_ble_eq_true rfl, Nat.le_of_ble_eq_true rfl, Nat.le_of_ble_eq_true rfl⟩ dX12_edgeOf_47 rfl (fun r4 hr4 => ?_)
    show WW _ _ _ 50 _ [.int r4, .int (100 * (d_i d 26 (ix x1.2))), .long ((Int32.toInt64 (d_i d 25 (ix x1.2))) * (Int32.toInt64 r3)), .long x1.1] (full d ρ) 0 0 _
    refine WW.isub (pc := 50) dX12_edgeOf_50 ?_
    refine WW.i2l (pc := 51) dX12_edgeOf_51 ?_
    refine WW.lmul (pc := 52) dX12_edgeOf_52 ?_
    refine WW.ladd (pc := 53) dX12_edgeOf_53 ?_
    refine WW.nml (fun v5 => ?_)
    refine WW.lstore_n (pc := 54) [(3, .long v5), (0, .ref 23), (1, .int a1), (2, .int a2), (5, .int x1.2)] rfl (by decide) dX12_edgeOf_54 ?_
    refine WW.iinc (pc := 55) (j := 4) (x1.2 + 1) [(5, .int (x1.2 + 1)), (3, .long v5), (0, .ref 23), (1, .int a1), (2, .int a2)] rfl rfl rfl (by decide) dX12_edgeOf_55 ?_
    refine WW.goto (pc := 58) 5 dX12_edgeOf_58 (by decide) ?_
    refine WW.sub [2, 3, 4, 1, 0] rfl ?_
    exact hself2 (v5, (x1.2 + 1))
def fX12_common (a0 : Int64) (a2 : Int64) : Option Int64 :=
  jn (fun (x1 : Int64) =>
    lp (fun self4 (x3 : Int64 × Int64) =>
      if x3.1 = 0 then
        (some x3.2)
      else
        (if x3.1 = 0 then none else
        bnd ((jlrem x3.2 x3.1) : Int64) fun v6 =>
        self4 (v6, x3.1))
      ) 6000 (x1, a2)
    ) fun k2 =>
  if 0 ≤ a0 then
    (k2 a0)
  else
    (k2 (-a0))
set_option maxHeartbeats 4000000 in
set_option maxRecDepth 100000 in
theorem okX12_common (g : Gx) (ρ : Rh) (hρ : Hr ρ) (d : Dd) (a0 : Int64) (a2 : Int64) : CallR g M_X12_common (eLp ρ d) [.long a0, .long a2] (full d ρ) (fX12_common a0 a2) := by
  refine CallR.intro rfl rfl (Nat.le_of_ble_eq_true rfl) (fun a ha => ⟨_, rfl⟩) ?_
  show WW g _ _ 0 [(0, .long a0), (2, .long a2)] [] (full d ρ) 0 0 _
  unfold fX12_common
  refine WW.lload_n (pc := 0) (j := 0) rfl dX12_common_0 ?_
  refine WW.lconst (pc := 1) 0 dX12_common_1 rfl ?_
  refine WW.join (pj := 12) (Lj := fun (x1 : Int64) => [(2, .long a2)]) (sj := fun (x1 : Int64) => [.long x1]) (hj := fun (x1 : Int64) => full d ρ) (fun x1 => ?_) (fun k2 hk2 => ?_)
  · refine WW.lstore (pc := 12) [(4, .long x1), (2, .long a2)] rfl (by decide) dX12_common_12 ?_
    refine WW.lload_n (pc := 14) (j := 1) rfl dX12_common_14 ?_
    refine WW.lstore (pc := 15) [(6, .long a2), (4, .long x1), (2, .long a2)] rfl (by decide) dX12_common_15 ?_
    refine WW.sub [1, 0] rfl ?_
    refine WW.loop (pc := 17) (Lj := fun (x3 : Int64 × Int64) => [(4, .long x3.1), (6, .long x3.2)]) (hj := fun (x3 : Int64 × Int64) => full d ρ) (fun self4 hself4 x3 => ?_) 6000 (x1, a2)
    refine WW.lload (pc := 17) (j := 0) rfl dX12_common_17 ?_
    refine WW.lconst (pc := 19) 0 dX12_common_19 rfl ?_
    refine WW.lcmp_eq (pc := 20) 42 dX12_common_20 dX12_common_21 (by decide) (fun _ => ?_) (fun _ => ?_)
    · refine WW.lload (pc := 42) (j := 1) rfl dX12_common_42 ?_
      exact WW.ret rfl rfl (show RetI M_X12_common 44 from dX12_common_44) ⟨Nat.le_refl _, Nat.le_refl _⟩ rfl
    · refine WW.lload (pc := 24) (j := 1) rfl dX12_common_24 ?_
      refine WW.lload (pc := 26) (j := 0) rfl dX12_common_26 ?_
      refine WW.ite (fun _ => WW.none) (fun hz5 => ?_)
      refine WW.lrem (pc := 28) hz5 dX12_common_28 ?_
      refine WW.nml (fun v6 => ?_)
      refine WW.lstore (pc := 29) [(8, .long v6), (4, .long x3.1), (6, .long x3.2)] rfl (by decide) dX12_common_29 ?_
      refine WW.lload (pc := 31) (j := 1) rfl dX12_common_31 ?_
      refine WW.lstore (pc := 33) [(6, .long x3.1), (8, .long v6), (4, .long x3.1)] rfl (by decide) dX12_common_33 ?_
      refine WW.lload (pc := 35) (j := 1) rfl dX12_common_35 ?_
      refine WW.lstore (pc := 37) [(4, .long v6), (6, .long x3.1), (8, .long v6)] rfl (by decide) dX12_common_37 ?_
      refine WW.goto (pc := 39) 17 dX12_common_39 (by decide) ?_
      refine WW.sub [0, 1] rfl ?_
      exact hself4 (v6, x3.1)
  · refine WW.lcmp_ge (pc := 2) 11 dX12_common_2 dX12_common_3 (by decide) (fun _ => ?_) (fun _ => ?_)
    · refine WW.lload_n (pc := 11) (j := 0) rfl dX12_common_11 ?_
      refine WW.sub [1] rfl ?_
      exact hk2 a0
    · refine WW.lload_n (pc := 6) (j := 0) rfl dX12_common_6 ?_
      refine WW.lneg (pc := 7) dX12_common_7 ?_
      refine WW.goto (pc := 8) 12 dX12_common_8 (by decide) ?_
      refine WW.sub [1] rfl ?_
      exact hk2 (-a0)
def fX12_term (a0 : Int64) (a2 : Int64) (a4 : Int32) : Option Int64 :=
  (fX12_common a0 a2).bind fun r1 =>
  if a4 = 0 then
    (if r1 = 0 then none else
    some (a0 / r1))
  else
    (if r1 = 0 then none else
    some (a2 / r1))
set_option maxHeartbeats 4000000 in
set_option maxRecDepth 100000 in
theorem okX12_term (g : Gx) (ρ : Rh) (hρ : Hr ρ) (d : Dd) (a0 : Int64) (a2 : Int64) (a4 : Int32) : CallR g M_X12_term (eLp ρ d) [.long a0, .long a2, .int a4] (full d ρ) (fX12_term a0 a2 a4) := by
  refine CallR.intro rfl rfl (Nat.le_of_ble_eq_true rfl) (fun a ha => ⟨_, rfl⟩) ?_
  show WW g _ _ 0 [(0, .long a0), (2, .long a2), (4, .int a4)] [] (full d ρ) 0 0 _
  unfold fX12_term
  refine WW.lload_n (pc := 0) (j := 0) rfl dX12_term_0 ?_
  refine WW.lload_n (pc := 1) (j := 1) rfl dX12_term_1 ?_
  refine WW.callS (pc := 2) (As := [.long a0, .long a2]) (st := []) lk_X12_144 (okX12_common g ρ hρ d a0 a2) rfl (Nat.le_of_ble_eq_true rfl) ⟨Nat.le_of_ble_eq_true rfl, Nat.le_of_ble_eq_true rfl, Nat.le_of_ble_eq_true rfl, Nat.le_of_ble_eq_true rfl⟩ dX12_term_2 rfl (fun r1 hr1 => ?_)
  show WW _ _ _ 5 _ [.long r1] (full d ρ) 0 0 _
  refine WW.lstore (pc := 5) [(5, .long r1), (0, .long a0), (2, .long a2), (4, .int a4)] rfl (by decide) dX12_term_5 ?_
  refine WW.iload (pc := 7) (j := 3) rfl dX12_term_7 ?_
  refine WW.if_ne (pc := 9) 19 dX12_term_9 (by decide) (fun _ => ?_) (fun _ => ?_)
  · refine WW.lload_n (pc := 12) (j := 1) rfl dX12_term_12 ?_
    refine WW.lload (pc := 13) (j := 0) rfl dX12_term_13 ?_
    refine WW.ite (fun _ => WW.none) (fun hz2 => ?_)
    refine WW.ldiv (pc := 15) hz2 dX12_term_15 ?_
    refine WW.goto (pc := 16) 23 dX12_term_16 (by decide) ?_
    exact WW.ret rfl rfl (show RetI M_X12_term 23 from dX12_term_23) ⟨Nat.le_refl _, Nat.le_refl _⟩ rfl
  · refine WW.lload_n (pc := 19) (j := 2) rfl dX12_term_19 ?_
    refine WW.lload (pc := 20) (j := 0) rfl dX12_term_20 ?_
    refine WW.ite (fun _ => WW.none) (fun hz3 => ?_)
    refine WW.ldiv (pc := 22) hz3 dX12_term_22 ?_
    exact WW.ret rfl rfl (show RetI M_X12_term 23 from dX12_term_23) ⟨Nat.le_refl _, Nat.le_refl _⟩ rfl
