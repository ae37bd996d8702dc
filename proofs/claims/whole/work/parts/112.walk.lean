def fX12_thought (ρ : Rh) (d : Dd) (a1 : Int32) (a2 : Int32) (a3 : Int32) (a4 : Int32) : Option (Int64 × Dd) :=
  (fX12_isSet ρ d a2).bind fun r1 =>
  jn (fun (x2 : Bool) =>
    (fX12_refusal ρ d a1 true x2).bind fun r4 =>
    if r4 = 0 then
      ((fX12_heardOf ρ d a1 a3).bind fun r5 =>
      if r5 = 0 then
        (some ((-1000000000000000004), d))
      else
        ((fX12_layStepsBySign ρ d a1 a2).bind fun r6 =>
        lp (fun self8 (x7 : Int64 × Int64 × Int32) =>
          if 4 ≤ x7.2.2 then
            ((fX12_term x7.1 x7.2.1 a4).bind fun r9 =>
            some (r9, r6))
          else
            (jn (fun (x10 : Int64 × Int64) =>
              self8 (x10.1, x10.2, (x7.2.2 + 1))
              ) fun k11 =>
            lp (fun self13 (x12 : Int64 × Int64 × Int32) =>
              if (d_i r6 23 4) ≤ x12.2.2 then
                (k11 (x12.1, x12.2.1))
              else
                (if inB x7.2.2 4 = true then
                  (if inB a3 4 = true then
                    (if (d_i r6 34 (ix x7.2.2)) = (d_i r6 34 (ix a3)) then
                      (if inB x12.2.2 4 = true then
                        ((fX12_often ρ r6 a1 x12.2.2 x7.2.2).bind fun r14 =>
                        bnd (((Int32.toInt64 (d_i r6 25 (ix x12.2.2))) * (Int32.toInt64 r14)) : Int64) fun v15 =>
                        if inB x12.2.2 4 = true then
                          (bnd ((x12.1 + (v15 * (Int32.toInt64 (d_i r6 26 (ix x12.2.2))))) : Int64) fun v16 =>
                          bnd ((x12.2.1 + v15) : Int64) fun v17 =>
                          self13 (v16, v17, (x12.2.2 + 1)))
                        else none)
                      else none)
                    else
                      (k11 (x12.1, x12.2.1)))
                  else none)
                else none)
              ) 6000 (x7.1, x7.2.1, 0))
          ) 6000 (0, 0, 0)))
    else
      ((fX12_asLong r4).bind fun r18 =>
      some (r18, d))
    ) fun k3 =>
  jn (fun (x19 : Unit) =>
    k3 false
    ) fun k20 =>
  if r1 = true then
    ((fX12_isSign a3).bind fun r21 =>
    if r21 = true then
      ((fX12_isPart a4).bind fun r22 =>
      if r22 = true then
        (k3 true)
      else
        (k20 ()))
    else
      (k20 ()))
  else
    (k20 ())
set_option maxHeartbeats 4000000 in
set_option maxRecDepth 100000 in
theorem okX12_thought (g : Gx) (ρ : Rh) (hρ : Hr ρ) (d : Dd) (a1 : Int32) (a2 : Int32) (a3 : Int32) (a4 : Int32) : CallR g M_X12_thought (eL ρ) [.ref 23, .int a1, .int a2, .int a3, .int a4] (full d ρ) (fX12_thought ρ d a1 a2 a3 a4) := by
  refine CallR.intro rfl rfl (Nat.le_of_ble_eq_true rfl) (fun a ha => ⟨_, rfl⟩) ?_
  show WW g _ _ 0 [(0, .ref 23), (1, .int a1), (2, .int a2), (3, .int a3), (4, .int a4)] [] (full d ρ) 0 0 _
  unfold fX12_thought
  refine WW.aload_n (pc := 0) (j := 0) rfl dX12_thought_0 ?_
  refine WW.iload_n (pc := 1) (j := 1) rfl dX12_thought_1 ?_
  refine WW.iconst (pc := 2) 1 dX12_thought_2 rfl ?_
  refine WW.aload_n (pc := 3) (j := 0) rfl dX12_thought_3 ?_
  refine WW.iload_n (pc := 4) (j := 2) rfl dX12_thought_4 ?_
  refine WW.callV (pc := 5) (As := [.int a2]) (st := [.int 1, .int a1, .ref 23]) lk_X12_227 (okX12_isSet g ρ hρ d a2) h3_23 (sh_23 ρ) ⟨_, _, clk12⟩ rfl (Nat.le_of_ble_eq_true rfl) ⟨Nat.le_of_ble_eq_true rfl, Nat.le_of_ble_eq_true rfl, Nat.le_of_ble_eq_true rfl, Nat.le_of_ble_eq_true rfl⟩ dX12_thought_5 rfl (fun r1 hr1 => ?_)
  show WW _ _ _ 8 _ [.int (b2i r1), .int 1, .int a1, .ref 23] (full d ρ) 0 0 _
  refine WW.join (pj := 31) (Lj := fun (x2 : Bool) => [(0, .ref 23), (1, .int a1), (2, .int a2), (3, .int a3), (4, .int a4)]) (sj := fun (x2 : Bool) => [.int (b2i x2), .int 1, .int a1, .ref 23]) (hj := fun (x2 : Bool) => full d ρ) (fun x2 => ?_) (fun k3 hk3 => ?_)
  · refine WW.callV (pc := 31) (As := [.int a1, .int (b2i true), .int (b2i x2)]) (st := []) lk_X12_160 (okX12_refusal g ρ hρ d a1 true x2) h3_23 (sh_23 ρ) ⟨_, _, clk12⟩ rfl (Nat.le_of_ble_eq_true rfl) ⟨Nat.le_of_ble_eq_true rfl, Nat.le_of_ble_eq_true rfl, Nat.le_of_ble_eq_true rfl, Nat.le_of_ble_eq_true rfl⟩ dX12_thought_31 rfl (fun r4 hr4 => ?_)
    show WW _ _ _ 34 _ [.int r4] (full d ρ) 0 0 _
    refine WW.istore (pc := 34) [(5, .int r4), (0, .ref 23), (1, .int a1), (2, .int a2), (3, .int a3), (4, .int a4)] rfl (by decide) dX12_thought_34 ?_
    refine WW.iload (pc := 36) (j := 0) rfl dX12_thought_36 ?_
    refine WW.if_eq (pc := 38) 47 dX12_thought_38 (by decide) (fun _ => ?_) (fun _ => ?_)
    · refine WW.aload_n (pc := 47) (j := 1) rfl dX12_thought_47 ?_
      refine WW.iload_n (pc := 48) (j := 2) rfl dX12_thought_48 ?_
      refine WW.iload_n (pc := 49) (j := 4) rfl dX12_thought_49 ?_
      refine WW.callV (pc := 50) (As := [.int a1, .int a3]) (st := []) lk_X12_168 (okX12_heardOf g ρ hρ d a1 a3) h3_23 (sh_23 ρ) ⟨_, _, clk12⟩ rfl (Nat.le_of_ble_eq_true rfl) ⟨Nat.le_of_ble_eq_true rfl, Nat.le_of_ble_eq_true rfl, Nat.le_of_ble_eq_true rfl, Nat.le_of_ble_eq_true rfl⟩ dX12_thought_50 rfl (fun r5 hr5 => ?_)
      show WW _ _ _ 53 _ [.int r5] (full d ρ) 0 0 _
      refine WW.if_ne (pc := 53) 60 dX12_thought_53 (by decide) (fun _ => ?_) (fun _ => ?_)
      · refine WW.ldc2 (pc := 56) wd_1048 dX12_thought_56 ?_
        exact WW.ret rfl rfl (show RetI M_X12_thought 59 from dX12_thought_59) ⟨Nat.le_refl _, Nat.le_refl _⟩ rfl
      · refine WW.aload_n (pc := 60) (j := 1) rfl dX12_thought_60 ?_
        refine WW.iload_n (pc := 61) (j := 2) rfl dX12_thought_61 ?_
        refine WW.iload_n (pc := 62) (j := 3) rfl dX12_thought_62 ?_
        refine WW.callV (pc := 63) (As := [.int a1, .int a2]) (st := []) lk_X12_264 (okX12_layStepsBySign g ρ hρ d a1 a2) h3_23 (sh_23 ρ) ⟨_, _, clk12⟩ rfl (Nat.le_of_ble_eq_true rfl) ⟨Nat.le_of_ble_eq_true rfl, Nat.le_of_ble_eq_true rfl, Nat.le_of_ble_eq_true rfl, Nat.le_of_ble_eq_true rfl⟩ dX12_thought_63 rfl (fun r6 hr6 => ?_)
        show WW _ _ _ 66 _ [] (full r6 ρ) 0 0 _
        refine WW.lconst (pc := 66) 0 dX12_thought_66 rfl ?_
        refine WW.lstore (pc := 67) [(6, .long 0), (5, .int r4), (0, .ref 23), (1, .int a1), (2, .int a2), (3, .int a3), (4, .int a4)] rfl (by decide) dX12_thought_67 ?_
        refine WW.lconst (pc := 69) 0 dX12_thought_69 rfl ?_
        refine WW.lstore (pc := 70) [(8, .long 0), (6, .long 0), (5, .int r4), (0, .ref 23), (1, .int a1), (2, .int a2), (3, .int a3), (4, .int a4)] rfl (by decide) dX12_thought_70 ?_
        refine WW.iconst (pc := 72) 0 dX12_thought_72 rfl ?_
        refine WW.istore (pc := 73) [(10, .int 0), (8, .long 0), (6, .long 0), (5, .int r4), (0, .ref 23), (1, .int a1), (2, .int a2), (3, .int a3), (4, .int a4)] rfl (by decide) dX12_thought_73 ?_
        refine WW.sub [4, 5, 7, 8, 2, 1, 0] rfl ?_
        refine WW.loop (pc := 75) (Lj := fun (x7 : Int64 × Int64 × Int32) => [(0, .ref 23), (1, .int a1), (3, .int a3), (4, .int a4), (6, .long x7.1), (8, .long x7.2.1), (10, .int x7.2.2)]) (hj := fun (x7 : Int64 × Int64 × Int32) => full r6 ρ) (fun self8 hself8 x7 => ?_) 6000 (0, 0, 0)
        refine WW.iload (pc := 75) (j := 6) rfl dX12_thought_75 ?_
        refine WW.iconst (pc := 77) 4 dX12_thought_77 rfl ?_
        refine WW.icmp_ge (pc := 78) 165 dX12_thought_78 (by decide) (fun _ => ?_) (fun _ => ?_)
        · refine WW.lload (pc := 165) (j := 4) rfl dX12_thought_165 ?_
          refine WW.lload (pc := 167) (j := 5) rfl dX12_thought_167 ?_
          refine WW.iload (pc := 169) (j := 3) rfl dX12_thought_169 ?_
          refine WW.callS (pc := 171) (As := [.long x7.1, .long x7.2.1, .int a4]) (st := []) lk_X12_174 (okX12_term g ρ hρ r6 x7.1 x7.2.1 a4) rfl (Nat.le_of_ble_eq_true rfl) ⟨Nat.le_of_ble_eq_true rfl, Nat.le_of_ble_eq_true rfl, Nat.le_of_ble_eq_true rfl, Nat.le_of_ble_eq_true rfl⟩ dX12_thought_171 rfl (fun r9 hr9 => ?_)
          show WW _ _ _ 174 _ [.long r9] (full r6 ρ) 0 0 _
          exact WW.ret rfl rfl (show RetI M_X12_thought 174 from dX12_thought_174) ⟨Nat.le_refl _, Nat.le_refl _⟩ rfl
        · refine WW.iconst (pc := 81) 0 dX12_thought_81 rfl ?_
          refine WW.istore (pc := 82) [(11, .int 0), (0, .ref 23), (1, .int a1), (3, .int a3), (4, .int a4), (6, .long x7.1), (8, .long x7.2.1), (10, .int x7.2.2)] rfl (by decide) dX12_thought_82 ?_
          refine WW.join (pj := 159) (Lj := fun (x10 : Int64 × Int64) => [(0, .ref 23), (1, .int a1), (3, .int a3), (4, .int a4), (6, .long x10.1), (8, .long x10.2), (10, .int x7.2.2)]) (sj := fun (x10 : Int64 × Int64) => []) (hj := fun (x10 : Int64 × Int64) => full r6 ρ) (fun x10 => ?_) (fun k11 hk11 => ?_)
          · refine WW.iinc (pc := 159) (j := 6) (x7.2.2 + 1) [(10, .int (x7.2.2 + 1)), (0, .ref 23), (1, .int a1), (3, .int a3), (4, .int a4), (6, .long x10.1), (8, .long x10.2)] rfl rfl rfl (by decide) dX12_thought_159 ?_
            refine WW.goto (pc := 162) 75 dX12_thought_162 (by decide) ?_
            refine WW.sub [1, 2, 3, 4, 5, 6, 0] rfl ?_
            exact hself8 (x10.1, x10.2, (x7.2.2 + 1))
          · refine WW.sub [1, 2, 3, 4, 5, 6, 7, 0] rfl ?_
            refine WW.loop (pc := 84) (Lj := fun (x12 : Int64 × Int64 × Int32) => [(0, .ref 23), (1, .int a1), (3, .int a3), (4, .int a4), (6, .long x12.1), (8, .long x12.2.1), (10, .int x7.2.2), (11, .int x12.2.2)]) (hj := fun (x12 : Int64 × Int64 × Int32) => full r6 ρ) (fun self13 hself13 x12 => ?_) 6000 (x7.1, x7.2.1, 0)
            refine WW.iload (pc := 84) (j := 7) rfl dX12_thought_84 ?_
            refine WW.aload_n (pc := 86) (j := 0) rfl dX12_thought_86 ?_
            refine WW.sgi (pc := 87) fl_X12_44_12 h3_23 (sh_23 ρ) (Or.inl gt_12_4) dX12_thought_87 ?_
            refine WW.icmp_ge (pc := 90) 159 dX12_thought_90 (by decide) (fun _ => ?_) (fun _ => ?_)
            · refine WW.sub [0, 1, 2, 3, 4, 5, 6] rfl ?_
              exact hk11 (x12.1, x12.2.1)
            · refine WW.aload_n (pc := 93) (j := 0) rfl dX12_thought_93 ?_
              refine WW.sgr (pc := 94) fl_X12_41_12 h3_23 (sh_23 ρ) (Or.inr ⟨_, gt_12_29⟩) (hr_23_29 ρ) dX12_thought_94 ?_
              refine WW.iload (pc := 97) (j := 6) rfl dX12_thought_97 ?_
              refine WW.siald (pc := 99) (one_le h3_34) (sh_34 ρ) dX12_thought_99 ?_
              refine WW.aload_n (pc := 100) (j := 0) rfl dX12_thought_100 ?_
              refine WW.sgr (pc := 101) fl_X12_41_12 h3_23 (sh_23 ρ) (Or.inr ⟨_, gt_12_29⟩) (hr_23_29 ρ) dX12_thought_101 ?_
              refine WW.iload_n (pc := 104) (j := 2) rfl dX12_thought_104 ?_
              refine WW.siald (pc := 105) (one_le h3_34) (sh_34 ρ) dX12_thought_105 ?_
              refine WW.icmp_ne (pc := 106) 159 dX12_thought_106 (by decide) (fun _ => ?_) (fun _ => ?_)
              · refine WW.aload_n (pc := 109) (j := 0) rfl dX12_thought_109 ?_
                refine WW.sgr (pc := 110) fl_X12_13_12 h3_23 (sh_23 ρ) (Or.inr ⟨_, gt_12_5⟩) (hr_23_5 ρ) dX12_thought_110 ?_
                refine WW.iload (pc := 113) (j := 7) rfl dX12_thought_113 ?_
                refine WW.siald (pc := 115) (one_le h3_25) (sh_25 ρ) dX12_thought_115 ?_
                refine WW.i2l (pc := 116) dX12_thought_116 ?_
                refine WW.aload_n (pc := 117) (j := 0) rfl dX12_thought_117 ?_
                refine WW.iload_n (pc := 118) (j := 1) rfl dX12_thought_118 ?_
                refine WW.iload (pc := 119) (j := 7) rfl dX12_thought_119 ?_
                refine WW.iload (pc := 121) (j := 6) rfl dX12_thought_121 ?_
                refine WW.callV (pc := 123) (As := [.int a1, .int x12.2.2, .int x7.2.2]) (st := [.long (Int32.toInt64 (d_i r6 25 (ix x12.2.2)))]) lk_X12_136 (okX12_often g ρ hρ r6 a1 x12.2.2 x7.2.2) h3_23 (sh_23 ρ) ⟨_, _, clk12⟩ rfl (Nat.le_of_ble_eq_true rfl) ⟨Nat.le_of_ble_eq_true rfl, Nat.le_of_ble_eq_true rfl, Nat.le_of_ble_eq_true rfl, Nat.le_of_ble_eq_true rfl⟩ dX12_thought_123 rfl (fun r14 hr14 => ?_)
                show WW _ _ _ 126 _ [.int r14, .long (Int32.toInt64 (d_i r6 25 (ix x12.2.2)))] (full r6 ρ) 0 0 _
                refine WW.i2l (pc := 126) dX12_thought_126 ?_
                refine WW.lmul (pc := 127) dX12_thought_127 ?_
                refine WW.nml (fun v15 => ?_)
                refine WW.lstore (pc := 128) [(12, .long v15), (0, .ref 23), (1, .int a1), (3, .int a3), (4, .int a4), (6, .long x12.1), (8, .long x12.2.1), (10, .int x7.2.2), (11, .int x12.2.2)] rfl (by decide) dX12_thought_128 ?_
                refine WW.lload (pc := 130) (j := 5) rfl dX12_thought_130 ?_
                refine WW.lload (pc := 132) (j := 0) rfl dX12_thought_132 ?_
                refine WW.aload_n (pc := 134) (j := 1) rfl dX12_thought_134 ?_
                refine WW.sgr (pc := 135) fl_X12_16_12 h3_23 (sh_23 ρ) (Or.inr ⟨_, gt_12_6⟩) (hr_23_6 ρ) dX12_thought_135 ?_
                refine WW.iload (pc := 138) (j := 8) rfl dX12_thought_138 ?_
                refine WW.siald (pc := 140) (one_le h3_26) (sh_26 ρ) dX12_thought_140 ?_
                refine WW.i2l (pc := 141) dX12_thought_141 ?_
                refine WW.lmul (pc := 142) dX12_thought_142 ?_
                refine WW.ladd (pc := 143) dX12_thought_143 ?_
                refine WW.nml (fun v16 => ?_)
                refine WW.lstore (pc := 144) [(6, .long v16), (12, .long v15), (0, .ref 23), (1, .int a1), (3, .int a3), (4, .int a4), (8, .long x12.2.1), (10, .int x7.2.2), (11, .int x12.2.2)] rfl (by decide) dX12_thought_144 ?_
                refine WW.lload (pc := 146) (j := 6) rfl dX12_thought_146 ?_
                refine WW.lload (pc := 148) (j := 1) rfl dX12_thought_148 ?_
                refine WW.ladd (pc := 150) dX12_thought_150 ?_
                refine WW.nml (fun v17 => ?_)
                refine WW.lstore (pc := 151) [(8, .long v17), (6, .long v16), (12, .long v15), (0, .ref 23), (1, .int a1), (3, .int a3), (4, .int a4), (10, .int x7.2.2), (11, .int x12.2.2)] rfl (by decide) dX12_thought_151 ?_
                refine WW.iinc (pc := 153) (j := 8) (x12.2.2 + 1) [(11, .int (x12.2.2 + 1)), (8, .long v17), (6, .long v16), (12, .long v15), (0, .ref 23), (1, .int a1), (3, .int a3), (4, .int a4), (10, .int x7.2.2)] rfl rfl rfl (by decide) dX12_thought_153 ?_
                refine WW.goto (pc := 156) 84 dX12_thought_156 (by decide) ?_
                refine WW.sub [4, 5, 6, 7, 2, 1, 8, 0] rfl ?_
                exact hself13 (v16, v17, (x12.2.2 + 1))
              · refine WW.sub [0, 1, 2, 3, 4, 5, 6] rfl ?_
                exact hk11 (x12.1, x12.2.1)
    · refine WW.iload (pc := 41) (j := 0) rfl dX12_thought_41 ?_
      refine WW.callS (pc := 43) (As := [.int r4]) (st := []) lk_X12_164 (okX12_asLong g ρ hρ d r4) rfl (Nat.le_of_ble_eq_true rfl) ⟨Nat.le_of_ble_eq_true rfl, Nat.le_of_ble_eq_true rfl, Nat.le_of_ble_eq_true rfl, Nat.le_of_ble_eq_true rfl⟩ dX12_thought_43 rfl (fun r18 hr18 => ?_)
      show WW _ _ _ 46 _ [.long r18] (full d ρ) 0 0 _
      exact WW.ret rfl rfl (show RetI M_X12_thought 46 from dX12_thought_46) ⟨Nat.le_refl _, Nat.le_refl _⟩ rfl
  · refine WW.join (pj := 30) (Lj := fun (x19 : Unit) => [(0, .ref 23), (1, .int a1), (2, .int a2), (3, .int a3), (4, .int a4)]) (sj := fun (x19 : Unit) => [.int 1, .int a1, .ref 23]) (hj := fun (x19 : Unit) => full d ρ) (fun x19 => ?_) (fun k20 hk20 => ?_)
    · refine WW.iconst (pc := 30) 0 dX12_thought_30 rfl ?_
      exact hk3 false
    · refine WW.if_eqB (pc := 8) 30 dX12_thought_8 (by decide) (fun _ => ?_) (fun _ => ?_)
      · refine WW.iload_n (pc := 11) (j := 3) rfl dX12_thought_11 ?_
        refine WW.callS (pc := 12) (As := [.int a3]) (st := [.int 1, .int a1, .ref 23]) lk_X12_154 (okX12_isSign g ρ hρ d a3) rfl (Nat.le_of_ble_eq_true rfl) ⟨Nat.le_of_ble_eq_true rfl, Nat.le_of_ble_eq_true rfl, Nat.le_of_ble_eq_true rfl, Nat.le_of_ble_eq_true rfl⟩ dX12_thought_12 rfl (fun r21 hr21 => ?_)
        show WW _ _ _ 15 _ [.int (b2i r21), .int 1, .int a1, .ref 23] (full d ρ) 0 0 _
        refine WW.if_eqB (pc := 15) 30 dX12_thought_15 (by decide) (fun _ => ?_) (fun _ => ?_)
        · refine WW.iload (pc := 18) (j := 4) rfl dX12_thought_18 ?_
          refine WW.callS (pc := 20) (As := [.int a4]) (st := [.int 1, .int a1, .ref 23]) lk_X12_157 (okX12_isPart g ρ hρ d a4) rfl (Nat.le_of_ble_eq_true rfl) ⟨Nat.le_of_ble_eq_true rfl, Nat.le_of_ble_eq_true rfl, Nat.le_of_ble_eq_true rfl, Nat.le_of_ble_eq_true rfl⟩ dX12_thought_20 rfl (fun r22 hr22 => ?_)
          show WW _ _ _ 23 _ [.int (b2i r22), .int 1, .int a1, .ref 23] (full d ρ) 0 0 _
          refine WW.if_eqB (pc := 23) 30 dX12_thought_23 (by decide) (fun _ => ?_) (fun _ => ?_)
          · refine WW.iconst (pc := 26) 1 dX12_thought_26 rfl ?_
            refine WW.goto (pc := 27) 31 dX12_thought_27 (by decide) ?_
            exact hk3 true
          · exact hk20 ()
        · exact hk20 ()
      · exact hk20 ()
def fX12_boundOf (ρ : Rh) (d : Dd) : Option Int64 :=
  lp (fun self2 (x1 : Int32 × Int32) =>
    if (d_i d 23 15) ≤ x1.2 then
      (lp (fun self4 (x3 : Int64 × Int32) =>
        if (d_i d 23 4) ≤ x3.2 then
          (some x3.1)
        else
          (bnd ((-x1.1) : Int32) fun v5 =>
          lp (fun self7 (x6 : Int32 × Int32) =>
            if x1.1 < x6.2 then
              (if inB x3.2 4 = true then
                (bnd ((x3.1 + ((Int32.toInt64 (d_i d 25 (ix x3.2))) * (Int32.toInt64 x6.1))) : Int64) fun v8 =>
                self4 (v8, (x3.2 + 1)))
              else none)
            else
              (if inB x3.2 4 = true then
                (bnd ((x6.2 * (((d_i d 26 (ix x3.2)) - (d_i d 23 2)) - ((d_i d 23 3) * x6.2))) : Int32) fun v9 =>
                jn (fun (x10 : Int32) =>
                  self7 (x10, (x6.2 + 1))
                  ) fun k11 =>
                if v9 ≤ x6.1 then
                  (k11 x6.1)
                else
                  (k11 v9))
              else none)
            ) 6000 (0, v5))
        ) 6000 (0, 0))
    else
      (if inB x1.2 4 = true then
        (bnd ((x1.1 + (d_i d 29 (ix x1.2))) : Int32) fun v12 =>
        self2 (v12, (x1.2 + 1)))
      else none)
    ) 6000 (0, 0)
set_option maxHeartbeats 4000000 in
set_option maxRecDepth 100000 in
theorem okX12_boundOf (g : Gx) (ρ : Rh) (hρ : Hr ρ) (d : Dd)  : CallR g M_X12_boundOf (eLp ρ d) [.ref 23] (full d ρ) (fX12_boundOf ρ d) := by
  refine CallR.intro rfl rfl (Nat.le_of_ble_eq_true rfl) (fun a ha => ⟨_, rfl⟩) ?_
  show WW g _ _ 0 [(0, .ref 23)] [] (full d ρ) 0 0 _
  unfold fX12_boundOf
  refine WW.iconst (pc := 0) 0 dX12_boundOf_0 rfl ?_
  refine WW.istore_n (pc := 1) [(1, .int 0), (0, .ref 23)] rfl (by decide) dX12_boundOf_1 ?_
  refine WW.iconst (pc := 2) 0 dX12_boundOf_2 rfl ?_
  refine WW.istore_n (pc := 3) [(2, .int 0), (1, .int 0), (0, .ref 23)] rfl (by decide) dX12_boundOf_3 ?_
  refine WW.sub [2, 1, 0] rfl ?_
  refine WW.loop (pc := 4) (Lj := fun (x1 : Int32 × Int32) => [(0, .ref 23), (1, .int x1.1), (2, .int x1.2)]) (hj := fun (x1 : Int32 × Int32) => full d ρ) (fun self2 hself2 x1 => ?_) 6000 (0, 0)
  refine WW.iload_n (pc := 4) (j := 2) rfl dX12_boundOf_4 ?_
  refine WW.aload_n (pc := 5) (j := 0) rfl dX12_boundOf_5 ?_
  refine WW.sgi (pc := 6) fl_X12_114_12 h3_23 (sh_23 ρ) (Or.inl gt_12_15) dX12_boundOf_6 ?_
  refine WW.icmp_ge (pc := 9) 27 dX12_boundOf_9 (by decide) (fun _ => ?_) (fun _ => ?_)
  · refine WW.lconst (pc := 27) 0 dX12_boundOf_27 rfl ?_
    refine WW.lstore_n (pc := 28) [(2, .long 0), (0, .ref 23), (1, .int x1.1)] rfl (by decide) dX12_boundOf_28 ?_
    refine WW.iconst (pc := 29) 0 dX12_boundOf_29 rfl ?_
    refine WW.istore (pc := 30) [(4, .int 0), (2, .long 0), (0, .ref 23), (1, .int x1.1)] rfl (by decide) dX12_boundOf_30 ?_
    refine WW.sub [2, 3, 1, 0] rfl ?_
    refine WW.loop (pc := 32) (Lj := fun (x3 : Int64 × Int32) => [(0, .ref 23), (1, .int x1.1), (2, .long x3.1), (4, .int x3.2)]) (hj := fun (x3 : Int64 × Int32) => full d ρ) (fun self4 hself4 x3 => ?_) 6000 (0, 0)
    refine WW.iload (pc := 32) (j := 3) rfl dX12_boundOf_32 ?_
    refine WW.aload_n (pc := 34) (j := 0) rfl dX12_boundOf_34 ?_
    refine WW.sgi (pc := 35) fl_X12_44_12 h3_23 (sh_23 ρ) (Or.inl gt_12_4) dX12_boundOf_35 ?_
    refine WW.icmp_ge (pc := 38) 122 dX12_boundOf_38 (by decide) (fun _ => ?_) (fun _ => ?_)
    · refine WW.lload_n (pc := 122) (j := 2) rfl dX12_boundOf_122 ?_
      exact WW.ret rfl rfl (show RetI M_X12_boundOf 123 from dX12_boundOf_123) ⟨Nat.le_refl _, Nat.le_refl _⟩ rfl
    · refine WW.iconst (pc := 41) 0 dX12_boundOf_41 rfl ?_
      refine WW.istore (pc := 42) [(5, .int 0), (0, .ref 23), (1, .int x1.1), (2, .long x3.1), (4, .int x3.2)] rfl (by decide) dX12_boundOf_42 ?_
      refine WW.iload_n (pc := 44) (j := 2) rfl dX12_boundOf_44 ?_
      refine WW.ineg (pc := 45) dX12_boundOf_45 ?_
      refine WW.nmi (fun v5 => ?_)
      refine WW.istore (pc := 46) [(6, .int v5), (5, .int 0), (0, .ref 23), (1, .int x1.1), (2, .long x3.1), (4, .int x3.2)] rfl (by decide) dX12_boundOf_46 ?_
      refine WW.sub [2, 3, 4, 5, 1, 0] rfl ?_
      refine WW.loop (pc := 48) (Lj := fun (x6 : Int32 × Int32) => [(0, .ref 23), (1, .int x1.1), (2, .long x3.1), (4, .int x3.2), (5, .int x6.1), (6, .int x6.2)]) (hj := fun (x6 : Int32 × Int32) => full d ρ) (fun self7 hself7 x6 => ?_) 6000 (0, v5)
      refine WW.iload (pc := 48) (j := 5) rfl dX12_boundOf_48 ?_
      refine WW.iload_n (pc := 50) (j := 1) rfl dX12_boundOf_50 ?_
      refine WW.icmp_gt (pc := 51) 101 dX12_boundOf_51 (by decide) (fun _ => ?_) (fun _ => ?_)
      · refine WW.lload_n (pc := 101) (j := 2) rfl dX12_boundOf_101 ?_
        refine WW.aload_n (pc := 102) (j := 0) rfl dX12_boundOf_102 ?_
        refine WW.sgr (pc := 103) fl_X12_13_12 h3_23 (sh_23 ρ) (Or.inr ⟨_, gt_12_5⟩) (hr_23_5 ρ) dX12_boundOf_103 ?_
        refine WW.iload (pc := 106) (j := 3) rfl dX12_boundOf_106 ?_
        refine WW.siald (pc := 108) (one_le h3_25) (sh_25 ρ) dX12_boundOf_108 ?_
        refine WW.i2l (pc := 109) dX12_boundOf_109 ?_
        refine WW.iload (pc := 110) (j := 4) rfl dX12_boundOf_110 ?_
        refine WW.i2l (pc := 112) dX12_boundOf_112 ?_
        refine WW.lmul (pc := 113) dX12_boundOf_113 ?_
        refine WW.ladd (pc := 114) dX12_boundOf_114 ?_
        refine WW.nml (fun v8 => ?_)
        refine WW.lstore_n (pc := 115) [(2, .long v8), (0, .ref 23), (1, .int x1.1), (4, .int x3.2), (5, .int x6.1), (6, .int x6.2)] rfl (by decide) dX12_boundOf_115 ?_
        refine WW.iinc (pc := 116) (j := 3) (x3.2 + 1) [(4, .int (x3.2 + 1)), (2, .long v8), (0, .ref 23), (1, .int x1.1), (5, .int x6.1), (6, .int x6.2)] rfl rfl rfl (by decide) dX12_boundOf_116 ?_
        refine WW.goto (pc := 119) 32 dX12_boundOf_119 (by decide) ?_
        refine WW.sub [2, 3, 1, 0] rfl ?_
        exact hself4 (v8, (x3.2 + 1))
      · refine WW.iload (pc := 54) (j := 5) rfl dX12_boundOf_54 ?_
        refine WW.aload_n (pc := 56) (j := 0) rfl dX12_boundOf_56 ?_
        refine WW.sgr (pc := 57) fl_X12_16_12 h3_23 (sh_23 ρ) (Or.inr ⟨_, gt_12_6⟩) (hr_23_6 ρ) dX12_boundOf_57 ?_
        refine WW.iload (pc := 60) (j := 3) rfl dX12_boundOf_60 ?_
        refine WW.siald (pc := 62) (one_le h3_26) (sh_26 ρ) dX12_boundOf_62 ?_
        refine WW.aload_n (pc := 63) (j := 0) rfl dX12_boundOf_63 ?_
        refine WW.sgi (pc := 64) fl_X12_101_12 h3_23 (sh_23 ρ) (Or.inl gt_12_2) dX12_boundOf_64 ?_
        refine WW.isub (pc := 67) dX12_boundOf_67 ?_
        refine WW.aload_n (pc := 68) (j := 0) rfl dX12_boundOf_68 ?_
        refine WW.sgi (pc := 69) fl_X12_104_12 h3_23 (sh_23 ρ) (Or.inl gt_12_3) dX12_boundOf_69 ?_
        refine WW.iload (pc := 72) (j := 5) rfl dX12_boundOf_72 ?_
        refine WW.imul (pc := 74) dX12_boundOf_74 ?_
        refine WW.isub (pc := 75) dX12_boundOf_75 ?_
        refine WW.imul (pc := 76) dX12_boundOf_76 ?_
        refine WW.nmi (fun v9 => ?_)
        refine WW.istore (pc := 77) [(7, .int v9), (0, .ref 23), (1, .int x1.1), (2, .long x3.1), (4, .int x3.2), (5, .int x6.1), (6, .int x6.2)] rfl (by decide) dX12_boundOf_77 ?_
        refine WW.iload (pc := 79) (j := 0) rfl dX12_boundOf_79 ?_
        refine WW.iload (pc := 81) (j := 5) rfl dX12_boundOf_81 ?_
        refine WW.join (pj := 93) (Lj := fun (x10 : Int32) => [(0, .ref 23), (1, .int x1.1), (2, .long x3.1), (4, .int x3.2), (6, .int x6.2)]) (sj := fun (x10 : Int32) => [.int x10]) (hj := fun (x10 : Int32) => full d ρ) (fun x10 => ?_) (fun k11 hk11 => ?_)
        · refine WW.istore (pc := 93) [(5, .int x10), (0, .ref 23), (1, .int x1.1), (2, .long x3.1), (4, .int x3.2), (6, .int x6.2)] rfl (by decide) dX12_boundOf_93 ?_
          refine WW.iinc (pc := 95) (j := 5) (x6.2 + 1) [(6, .int (x6.2 + 1)), (5, .int x10), (0, .ref 23), (1, .int x1.1), (2, .long x3.1), (4, .int x3.2)] rfl rfl rfl (by decide) dX12_boundOf_95 ?_
          refine WW.goto (pc := 98) 48 dX12_boundOf_98 (by decide) ?_
          refine WW.sub [2, 3, 4, 5, 1, 0] rfl ?_
          exact hself7 (x10, (x6.2 + 1))
        · refine WW.icmp_le (pc := 83) 91 dX12_boundOf_83 (by decide) (fun _ => ?_) (fun _ => ?_)
          · refine WW.iload (pc := 91) (j := 5) rfl dX12_boundOf_91 ?_
            refine WW.sub [1, 2, 3, 4, 6] rfl ?_
            exact hk11 x6.1
          · refine WW.iload (pc := 86) (j := 0) rfl dX12_boundOf_86 ?_
            refine WW.goto (pc := 88) 93 dX12_boundOf_88 (by decide) ?_
            refine WW.sub [1, 2, 3, 4, 6] rfl ?_
            exact hk11 v9
  · refine WW.iload_n (pc := 12) (j := 1) rfl dX12_boundOf_12 ?_
    refine WW.aload_n (pc := 13) (j := 0) rfl dX12_boundOf_13 ?_
    refine WW.sgr (pc := 14) fl_X12_25_12 h3_23 (sh_23 ρ) (Or.inr ⟨_, gt_12_16⟩) (hr_23_16 ρ) dX12_boundOf_14 ?_
    refine WW.iload_n (pc := 17) (j := 2) rfl dX12_boundOf_17 ?_
    refine WW.siald (pc := 18) (one_le h3_29) (sh_29 ρ) dX12_boundOf_18 ?_
    refine WW.iadd (pc := 19) dX12_boundOf_19 ?_
    refine WW.nmi (fun v12 => ?_)
    refine WW.istore_n (pc := 20) [(1, .int v12), (0, .ref 23), (2, .int x1.2)] rfl (by decide) dX12_boundOf_20 ?_
    refine WW.iinc (pc := 21) (j := 2) (x1.2 + 1) [(2, .int (x1.2 + 1)), (1, .int v12), (0, .ref 23)] rfl rfl rfl (by decide) dX12_boundOf_21 ?_
    refine WW.goto (pc := 24) 4 dX12_boundOf_24 (by decide) ?_
    refine WW.sub [2, 1, 0] rfl ?_
    exact hself2 (v12, (x1.2 + 1))
def fX12_bound (ρ : Rh) (d : Dd) (a1 : Int32) : Option Int64 :=
  if (d_i d 23 4) = 0 then
    (some (-1000000000000000003))
  else
    ((fX12_isPart a1).bind fun r1 =>
    if r1 = true then
      ((fX12_boundOf ρ d).bind fun r2 =>
      (fX12_allWeights ρ d).bind fun r3 =>
      (fX12_term r2 (Int32.toInt64 r3) a1).bind fun r4 =>
      some r4)
    else
      (some (-1000000000000000002)))
set_option maxHeartbeats 4000000 in
set_option maxRecDepth 100000 in
theorem okX12_bound (g : Gx) (ρ : Rh) (hρ : Hr ρ) (d : Dd) (a1 : Int32) : CallR g M_X12_bound (eLp ρ d) [.ref 23, .int a1] (full d ρ) (fX12_bound ρ d a1) := by
  refine CallR.intro rfl rfl (Nat.le_of_ble_eq_true rfl) (fun a ha => ⟨_, rfl⟩) ?_
  show WW g _ _ 0 [(0, .ref 23), (1, .int a1)] [] (full d ρ) 0 0 _
  unfold fX12_bound
  refine WW.aload_n (pc := 0) (j := 0) rfl dX12_bound_0 ?_
  refine WW.sgi (pc := 1) fl_X12_44_12 h3_23 (sh_23 ρ) (Or.inl gt_12_4) dX12_bound_1 ?_
  refine WW.if_ne (pc := 4) 11 dX12_bound_4 (by decide) (fun _ => ?_) (fun _ => ?_)
  · refine WW.ldc2 (pc := 7) wd_1017 dX12_bound_7 ?_
    exact WW.ret rfl rfl (show RetI M_X12_bound 10 from dX12_bound_10) ⟨Nat.le_refl _, Nat.le_refl _⟩ rfl
  · refine WW.iload_n (pc := 11) (j := 1) rfl dX12_bound_11 ?_
    refine WW.callS (pc := 12) (As := [.int a1]) (st := []) lk_X12_157 (okX12_isPart g ρ hρ d a1) rfl (Nat.le_of_ble_eq_true rfl) ⟨Nat.le_of_ble_eq_true rfl, Nat.le_of_ble_eq_true rfl, Nat.le_of_ble_eq_true rfl, Nat.le_of_ble_eq_true rfl⟩ dX12_bound_12 rfl (fun r1 hr1 => ?_)
    show WW _ _ _ 15 _ [.int (b2i r1)] (full d ρ) 0 0 _
    refine WW.if_eqB (pc := 15) 34 dX12_bound_15 (by decide) (fun _ => ?_) (fun _ => ?_)
    · refine WW.aload_n (pc := 18) (j := 0) rfl dX12_bound_18 ?_
      refine WW.callV (pc := 19) (As := []) (st := []) lk_X12_267 (okX12_boundOf g ρ hρ d ) h3_23 (sh_23 ρ) ⟨_, _, clk12⟩ rfl (Nat.le_of_ble_eq_true rfl) ⟨Nat.le_of_ble_eq_true rfl, Nat.le_of_ble_eq_true rfl, Nat.le_of_ble_eq_true rfl, Nat.le_of_ble_eq_true rfl⟩ dX12_bound_19 rfl (fun r2 hr2 => ?_)
      show WW _ _ _ 22 _ [.long r2] (full d ρ) 0 0 _
      refine WW.aload_n (pc := 22) (j := 0) rfl dX12_bound_22 ?_
      refine WW.callV (pc := 23) (As := []) (st := [.long r2]) lk_X12_171 (okX12_allWeights g ρ hρ d ) h3_23 (sh_23 ρ) ⟨_, _, clk12⟩ rfl (Nat.le_of_ble_eq_true rfl) ⟨Nat.le_of_ble_eq_true rfl, Nat.le_of_ble_eq_true rfl, Nat.le_of_ble_eq_true rfl, Nat.le_of_ble_eq_true rfl⟩ dX12_bound_23 rfl (fun r3 hr3 => ?_)
      show WW _ _ _ 26 _ [.int r3, .long r2] (full d ρ) 0 0 _
      refine WW.i2l (pc := 26) dX12_bound_26 ?_
      refine WW.iload_n (pc := 27) (j := 1) rfl dX12_bound_27 ?_
      refine WW.callS (pc := 28) (As := [.long r2, .long (Int32.toInt64 r3), .int a1]) (st := []) lk_X12_174 (okX12_term g ρ hρ d r2 (Int32.toInt64 r3) a1) rfl (Nat.le_of_ble_eq_true rfl) ⟨Nat.le_of_ble_eq_true rfl, Nat.le_of_ble_eq_true rfl, Nat.le_of_ble_eq_true rfl, Nat.le_of_ble_eq_true rfl⟩ dX12_bound_28 rfl (fun r4 hr4 => ?_)
      show WW _ _ _ 31 _ [.long r4] (full d ρ) 0 0 _
      refine WW.goto (pc := 31) 37 dX12_bound_31 (by decide) ?_
      exact WW.ret rfl rfl (show RetI M_X12_bound 37 from dX12_bound_37) ⟨Nat.le_refl _, Nat.le_refl _⟩ rfl
    · refine WW.ldc2 (pc := 34) wd_1016 dX12_bound_34 ?_
      exact WW.ret rfl rfl (show RetI M_X12_bound 37 from dX12_bound_37) ⟨Nat.le_refl _, Nat.le_refl _⟩ rfl
def fX12_draw (ρ : Rh) (d : Dd) (a1 : Int32) : Option (Int32 × Dd) :=
  bnd (dI d 23 30 (Int64.toInt32 (((1103515245 * (Int32.toInt64 (d_i d 23 30))) + 12345) &&& 2147483647))) fun d1 =>
  if a1 = 0 then none else
  some ((jrem ((d_i d1 23 30) / 65536) a1), d1)
set_option maxHeartbeats 4000000 in
set_option maxRecDepth 100000 in
theorem okX12_draw (g : Gx) (ρ : Rh) (hρ : Hr ρ) (d : Dd) (a1 : Int32) : CallR g M_X12_draw (eI ρ) [.ref 23, .int a1] (full d ρ) (fX12_draw ρ d a1) := by
  refine CallR.intro rfl rfl (Nat.le_of_ble_eq_true rfl) (fun a ha => ⟨_, rfl⟩) ?_
  show WW g _ _ 0 [(0, .ref 23), (1, .int a1)] [] (full d ρ) 0 0 _
  unfold fX12_draw
  refine WW.aload_n (pc := 0) (j := 0) rfl dX12_draw_0 ?_
  refine WW.ldc2 (pc := 1) wd_1205 dX12_draw_1 ?_
  refine WW.aload_n (pc := 4) (j := 0) rfl dX12_draw_4 ?_
  refine WW.sgi (pc := 5) fl_X12_272_12 h3_23 (sh_23 ρ) (Or.inl gt_12_30) dX12_draw_5 ?_
  refine WW.i2l (pc := 8) dX12_draw_8 ?_
  refine WW.lmul (pc := 9) dX12_draw_9 ?_
  refine WW.ldc2 (pc := 10) wd_1206 dX12_draw_10 ?_
  refine WW.ladd (pc := 13) dX12_draw_13 ?_
  refine WW.ldc2 (pc := 14) wd_1207 dX12_draw_14 ?_
  refine WW.land (pc := 17) dX12_draw_17 ?_
  refine WW.l2i (pc := 18) dX12_draw_18 ?_
  refine WW.spi (pc := 19) fp_X12_272_12 h3_23 (sh_23 ρ) gt_12_30 dX12_draw_19 (fun d1 => ?_)
  refine WW.aload_n (pc := 22) (j := 0) rfl dX12_draw_22 ?_
  refine WW.sgi (pc := 23) fl_X12_272_12 h3_23 (sh_23 ρ) (Or.inl gt_12_30) dX12_draw_23 ?_
  refine WW.ldcw (pc := 26) wd_1208 dX12_draw_26 ?_
  refine WW.idiv (pc := 29) (by decide) dX12_draw_29 ?_
  refine WW.iload_n (pc := 30) (j := 1) rfl dX12_draw_30 ?_
  refine WW.ite (fun _ => WW.none) (fun hz2 => ?_)
  refine WW.irem (pc := 31) hz2 dX12_draw_31 ?_
  exact WW.ret rfl rfl (show RetI M_X12_draw 32 from dX12_draw_32) ⟨Nat.le_refl _, Nat.le_refl _⟩ rfl
def fX12_drawCase (ρ : Rh) (d : Dd) : Option (Int32 × Dd) :=
  (fX12_allWeights ρ d).bind fun r1 =>
  (fX12_draw ρ d r1).bind fun r2 =>
  lp (fun self4 (x3 : Int32 × Int32) =>
    if inB x3.2 4 = true then
      (if x3.1 < (d_i r2.2 25 (ix x3.2)) then
        (some (x3.2, r2.2))
      else
        (if inB x3.2 4 = true then
          (bnd ((x3.1 - (d_i r2.2 25 (ix x3.2))) : Int32) fun v5 =>
          self4 (v5, (x3.2 + 1)))
        else none))
    else none
    ) 6000 (r2.1, 0)
set_option maxHeartbeats 4000000 in
set_option maxRecDepth 100000 in
theorem okX12_drawCase (g : Gx) (ρ : Rh) (hρ : Hr ρ) (d : Dd)  : CallR g M_X12_drawCase (eI ρ) [.ref 23] (full d ρ) (fX12_drawCase ρ d) := by
  refine CallR.intro rfl rfl (Nat.le_of_ble_eq_true rfl) (fun a ha => ⟨_, rfl⟩) ?_
  show WW g _ _ 0 [(0, .ref 23)] [] (full d ρ) 0 0 _
  unfold fX12_drawCase
  refine WW.aload_n (pc := 0) (j := 0) rfl dX12_drawCase_0 ?_
  refine WW.aload_n (pc := 1) (j := 0) rfl dX12_drawCase_1 ?_
  refine WW.callV (pc := 2) (As := []) (st := [.ref 23]) lk_X12_171 (okX12_allWeights g ρ hρ d ) h3_23 (sh_23 ρ) ⟨_, _, clk12⟩ rfl (Nat.le_of_ble_eq_true rfl) ⟨Nat.le_of_ble_eq_true rfl, Nat.le_of_ble_eq_true rfl, Nat.le_of_ble_eq_true rfl, Nat.le_of_ble_eq_true rfl⟩ dX12_drawCase_2 rfl (fun r1 hr1 => ?_)
  show WW _ _ _ 5 _ [.int r1, .ref 23] (full d ρ) 0 0 _
  refine WW.callV (pc := 5) (As := [.int r1]) (st := []) lk_X12_280 (okX12_draw g ρ hρ d r1) h3_23 (sh_23 ρ) ⟨_, _, clk12⟩ rfl (Nat.le_of_ble_eq_true rfl) ⟨Nat.le_of_ble_eq_true rfl, Nat.le_of_ble_eq_true rfl, Nat.le_of_ble_eq_true rfl, Nat.le_of_ble_eq_true rfl⟩ dX12_drawCase_5 rfl (fun r2 hr2 => ?_)
  show WW _ _ _ 8 _ [.int r2.1] (full r2.2 ρ) 0 0 _
  refine WW.istore_n (pc := 8) [(1, .int r2.1), (0, .ref 23)] rfl (by decide) dX12_drawCase_8 ?_
  refine WW.iconst (pc := 9) 0 dX12_drawCase_9 rfl ?_
  refine WW.istore_n (pc := 10) [(2, .int 0), (1, .int r2.1), (0, .ref 23)] rfl (by decide) dX12_drawCase_10 ?_
  refine WW.sub [2, 1, 0] rfl ?_
  refine WW.loop (pc := 11) (Lj := fun (x3 : Int32 × Int32) => [(0, .ref 23), (1, .int x3.1), (2, .int x3.2)]) (hj := fun (x3 : Int32 × Int32) => full r2.2 ρ) (fun self4 hself4 x3 => ?_) 6000 (r2.1, 0)
  refine WW.iload_n (pc := 11) (j := 1) rfl dX12_drawCase_11 ?_
  refine WW.aload_n (pc := 12) (j := 0) rfl dX12_drawCase_12 ?_
  refine WW.sgr (pc := 13) fl_X12_13_12 h3_23 (sh_23 ρ) (Or.inr ⟨_, gt_12_5⟩) (hr_23_5 ρ) dX12_drawCase_13 ?_
  refine WW.iload_n (pc := 16) (j := 2) rfl dX12_drawCase_16 ?_
  refine WW.siald (pc := 17) (one_le h3_25) (sh_25 ρ) dX12_drawCase_17 ?_
  refine WW.icmp_lt (pc := 18) 36 dX12_drawCase_18 (by decide) (fun _ => ?_) (fun _ => ?_)
  · refine WW.iload_n (pc := 36) (j := 2) rfl dX12_drawCase_36 ?_
    exact WW.ret rfl rfl (show RetI M_X12_drawCase 37 from dX12_drawCase_37) ⟨Nat.le_refl _, Nat.le_refl _⟩ rfl
  · refine WW.iload_n (pc := 21) (j := 1) rfl dX12_drawCase_21 ?_
    refine WW.aload_n (pc := 22) (j := 0) rfl dX12_drawCase_22 ?_
    refine WW.sgr (pc := 23) fl_X12_13_12 h3_23 (sh_23 ρ) (Or.inr ⟨_, gt_12_5⟩) (hr_23_5 ρ) dX12_drawCase_23 ?_
    refine WW.iload_n (pc := 26) (j := 2) rfl dX12_drawCase_26 ?_
    refine WW.siald (pc := 27) (one_le h3_25) (sh_25 ρ) dX12_drawCase_27 ?_
    refine WW.isub (pc := 28) dX12_drawCase_28 ?_
    refine WW.nmi (fun v5 => ?_)
    refine WW.istore_n (pc := 29) [(1, .int v5), (0, .ref 23), (2, .int x3.2)] rfl (by decide) dX12_drawCase_29 ?_
    refine WW.iinc (pc := 30) (j := 2) (x3.2 + 1) [(2, .int (x3.2 + 1)), (1, .int v5), (0, .ref 23)] rfl rfl rfl (by decide) dX12_drawCase_30 ?_
    refine WW.goto (pc := 33) 11 dX12_drawCase_33 (by decide) ?_
    refine WW.sub [2, 1, 0] rfl ?_
    exact hself4 (v5, (x3.2 + 1))
def fX12_drawSign (ρ : Rh) (d : Dd) (a1 : Int32) : Option (Int32 × Dd) :=
  (fX12_drawCase ρ d).bind fun r1 =>
  if inB a1 8 = true then
    (jn (fun (x2 : Unit) =>
      if inB a1 8 = true then
        (if (d_i r1.2 31 (ix a1)) = 0 then
          (some (0, r1.2))
        else
          (if inB a1 8 = true then
            (if (d_i r1.2 31 (ix a1)) = 2 then
              (if inB a1 8 = true then
                (some (((jshr (d_i r1.2 32 (ix a1)) (2 * r1.1)) &&& 3), r1.2))
              else none)
            else
              (some (r1.1, r1.2)))
          else none))
      else none
      ) fun k3 =>
    if (d_i r1.2 31 (ix a1)) = 3 then
      (if (d_i r1.2 23 4) ≤ 1 then
        (k3 ())
      else
        ((fX12_draw ρ r1.2 100).bind fun r4 =>
        if inB a1 8 = true then
          (if (d_i r4.2 32 (ix a1)) ≤ r4.1 then
            (some (r1.1, r4.2))
          else
            ((fX12_draw ρ r4.2 ((d_i r4.2 23 4) - 1)).bind fun r5 =>
            if r1.1 ≤ r5.1 then
              (some ((r5.1 + 1), r5.2))
            else
              (some (r5.1, r5.2))))
        else none))
    else
      (k3 ()))
  else none
set_option maxHeartbeats 4000000 in
set_option maxRecDepth 100000 in
theorem okX12_drawSign (g : Gx) (ρ : Rh) (hρ : Hr ρ) (d : Dd) (a1 : Int32) : CallR g M_X12_drawSign (eI ρ) [.ref 23, .int a1] (full d ρ) (fX12_drawSign ρ d a1) := by
  refine CallR.intro rfl rfl (Nat.le_of_ble_eq_true rfl) (fun a ha => ⟨_, rfl⟩) ?_
  show WW g _ _ 0 [(0, .ref 23), (1, .int a1)] [] (full d ρ) 0 0 _
  unfold fX12_drawSign
  refine WW.aload_n (pc := 0) (j := 0) rfl dX12_drawSign_0 ?_
  refine WW.callV (pc := 1) (As := []) (st := []) lk_X12_283 (okX12_drawCase g ρ hρ d ) h3_23 (sh_23 ρ) ⟨_, _, clk12⟩ rfl (Nat.le_of_ble_eq_true rfl) ⟨Nat.le_of_ble_eq_true rfl, Nat.le_of_ble_eq_true rfl, Nat.le_of_ble_eq_true rfl, Nat.le_of_ble_eq_true rfl⟩ dX12_drawSign_1 rfl (fun r1 hr1 => ?_)
  show WW _ _ _ 4 _ [.int r1.1] (full r1.2 ρ) 0 0 _
  refine WW.istore_n (pc := 4) [(2, .int r1.1), (0, .ref 23), (1, .int a1)] rfl (by decide) dX12_drawSign_4 ?_
  refine WW.aload_n (pc := 5) (j := 1) rfl dX12_drawSign_5 ?_
  refine WW.sgr (pc := 6) fl_X12_31_12 h3_23 (sh_23 ρ) (Or.inr ⟨_, gt_12_19⟩) (hr_23_19 ρ) dX12_drawSign_6 ?_
  refine WW.iload_n (pc := 9) (j := 2) rfl dX12_drawSign_9 ?_
  refine WW.siald (pc := 10) (one_le h3_31) (sh_31 ρ) dX12_drawSign_10 ?_
  refine WW.iconst (pc := 11) 3 dX12_drawSign_11 rfl ?_
  refine WW.join (pj := 64) (Lj := fun (x2 : Unit) => [(0, .ref 23), (1, .int a1), (2, .int r1.1)]) (sj := fun (x2 : Unit) => []) (hj := fun (x2 : Unit) => full r1.2 ρ) (fun x2 => ?_) (fun k3 hk3 => ?_)
  · refine WW.aload_n (pc := 64) (j := 0) rfl dX12_drawSign_64 ?_
    refine WW.sgr (pc := 65) fl_X12_31_12 h3_23 (sh_23 ρ) (Or.inr ⟨_, gt_12_19⟩) (hr_23_19 ρ) dX12_drawSign_65 ?_
    refine WW.iload_n (pc := 68) (j := 1) rfl dX12_drawSign_68 ?_
    refine WW.siald (pc := 69) (one_le h3_31) (sh_31 ρ) dX12_drawSign_69 ?_
    refine WW.if_ne (pc := 70) 77 dX12_drawSign_70 (by decide) (fun _ => ?_) (fun _ => ?_)
    · refine WW.iconst (pc := 73) 0 dX12_drawSign_73 rfl ?_
      refine WW.goto (pc := 74) 103 dX12_drawSign_74 (by decide) ?_
      exact WW.ret rfl rfl (show RetI M_X12_drawSign 103 from dX12_drawSign_103) ⟨Nat.le_refl _, Nat.le_refl _⟩ rfl
    · refine WW.aload_n (pc := 77) (j := 0) rfl dX12_drawSign_77 ?_
      refine WW.sgr (pc := 78) fl_X12_31_12 h3_23 (sh_23 ρ) (Or.inr ⟨_, gt_12_19⟩) (hr_23_19 ρ) dX12_drawSign_78 ?_
      refine WW.iload_n (pc := 81) (j := 1) rfl dX12_drawSign_81 ?_
      refine WW.siald (pc := 82) (one_le h3_31) (sh_31 ρ) dX12_drawSign_82 ?_
      refine WW.iconst (pc := 83) 2 dX12_drawSign_83 rfl ?_
      refine WW.icmp_ne (pc := 84) 102 dX12_drawSign_84 (by decide) (fun _ => ?_) (fun _ => ?_)
      · refine WW.aload_n (pc := 87) (j := 0) rfl dX12_drawSign_87 ?_
        refine WW.sgr (pc := 88) fl_X12_34_12 h3_23 (sh_23 ρ) (Or.inr ⟨_, gt_12_20⟩) (hr_23_20 ρ) dX12_drawSign_88 ?_
        refine WW.iload_n (pc := 91) (j := 1) rfl dX12_drawSign_91 ?_
        refine WW.siald (pc := 92) (one_le h3_32) (sh_32 ρ) dX12_drawSign_92 ?_
        refine WW.iconst (pc := 93) 2 dX12_drawSign_93 rfl ?_
        refine WW.iload_n (pc := 94) (j := 2) rfl dX12_drawSign_94 ?_
        refine WW.imul (pc := 95) dX12_drawSign_95 ?_
        refine WW.ishr (pc := 96) dX12_drawSign_96 ?_
        refine WW.iconst (pc := 97) 3 dX12_drawSign_97 rfl ?_
        refine WW.iand (pc := 98) dX12_drawSign_98 ?_
        refine WW.goto (pc := 99) 103 dX12_drawSign_99 (by decide) ?_
        exact WW.ret rfl rfl (show RetI M_X12_drawSign 103 from dX12_drawSign_103) ⟨Nat.le_refl _, Nat.le_refl _⟩ rfl
      · refine WW.iload_n (pc := 102) (j := 2) rfl dX12_drawSign_102 ?_
        exact WW.ret rfl rfl (show RetI M_X12_drawSign 103 from dX12_drawSign_103) ⟨Nat.le_refl _, Nat.le_refl _⟩ rfl
  · refine WW.icmp_ne (pc := 12) 64 dX12_drawSign_12 (by decide) (fun _ => ?_) (fun _ => ?_)
    · refine WW.aload_n (pc := 15) (j := 1) rfl dX12_drawSign_15 ?_
      refine WW.sgi (pc := 16) fl_X12_44_12 h3_23 (sh_23 ρ) (Or.inl gt_12_4) dX12_drawSign_16 ?_
      refine WW.iconst (pc := 19) 1 dX12_drawSign_19 rfl ?_
      refine WW.icmp_le (pc := 20) 64 dX12_drawSign_20 (by decide) (fun _ => ?_) (fun _ => ?_)
      · refine WW.sub [1, 2, 0] rfl ?_
        exact hk3 ()
      · refine WW.aload_n (pc := 23) (j := 1) rfl dX12_drawSign_23 ?_
        refine WW.bipush (pc := 24) 100 dX12_drawSign_24 rfl ?_
        refine WW.callV (pc := 26) (As := [.int 100]) (st := []) lk_X12_280 (okX12_draw g ρ hρ r1.2 100) h3_23 (sh_23 ρ) ⟨_, _, clk12⟩ rfl (Nat.le_of_ble_eq_true rfl) ⟨Nat.le_of_ble_eq_true rfl, Nat.le_of_ble_eq_true rfl, Nat.le_of_ble_eq_true rfl, Nat.le_of_ble_eq_true rfl⟩ dX12_drawSign_26 rfl (fun r4 hr4 => ?_)
        show WW _ _ _ 29 _ [.int r4.1] (full r4.2 ρ) 0 0 _
        refine WW.aload_n (pc := 29) (j := 1) rfl dX12_drawSign_29 ?_
        refine WW.sgr (pc := 30) fl_X12_34_12 h3_23 (sh_23 ρ) (Or.inr ⟨_, gt_12_20⟩) (hr_23_20 ρ) dX12_drawSign_30 ?_
        refine WW.iload_n (pc := 33) (j := 2) rfl dX12_drawSign_33 ?_
        refine WW.siald (pc := 34) (one_le h3_32) (sh_32 ρ) dX12_drawSign_34 ?_
        refine WW.icmp_ge (pc := 35) 62 dX12_drawSign_35 (by decide) (fun _ => ?_) (fun _ => ?_)
        · refine WW.iload_n (pc := 62) (j := 0) rfl dX12_drawSign_62 ?_
          exact WW.ret rfl rfl (show RetI M_X12_drawSign 63 from dX12_drawSign_63) ⟨Nat.le_refl _, Nat.le_refl _⟩ rfl
        · refine WW.aload_n (pc := 38) (j := 1) rfl dX12_drawSign_38 ?_
          refine WW.aload_n (pc := 39) (j := 1) rfl dX12_drawSign_39 ?_
          refine WW.sgi (pc := 40) fl_X12_44_12 h3_23 (sh_23 ρ) (Or.inl gt_12_4) dX12_drawSign_40 ?_
          refine WW.iconst (pc := 43) 1 dX12_drawSign_43 rfl ?_
          refine WW.isub (pc := 44) dX12_drawSign_44 ?_
          refine WW.callV (pc := 45) (As := [.int ((d_i r4.2 23 4) - 1)]) (st := []) lk_X12_280 (okX12_draw g ρ hρ r4.2 ((d_i r4.2 23 4) - 1)) h3_23 (sh_23 ρ) ⟨_, _, clk12⟩ rfl (Nat.le_of_ble_eq_true rfl) ⟨Nat.le_of_ble_eq_true rfl, Nat.le_of_ble_eq_true rfl, Nat.le_of_ble_eq_true rfl, Nat.le_of_ble_eq_true rfl⟩ dX12_drawSign_45 rfl (fun r5 hr5 => ?_)
          show WW _ _ _ 48 _ [.int r5.1] (full r5.2 ρ) 0 0 _
          refine WW.istore_n (pc := 48) [(3, .int r5.1), (2, .int r1.1), (0, .ref 23), (1, .int a1)] rfl (by decide) dX12_drawSign_48 ?_
          refine WW.iload_n (pc := 49) (j := 0) rfl dX12_drawSign_49 ?_
          refine WW.iload_n (pc := 50) (j := 1) rfl dX12_drawSign_50 ?_
          refine WW.icmp_ge (pc := 51) 58 dX12_drawSign_51 (by decide) (fun _ => ?_) (fun _ => ?_)
          · refine WW.iload_n (pc := 58) (j := 0) rfl dX12_drawSign_58 ?_
            refine WW.iconst (pc := 59) 1 dX12_drawSign_59 rfl ?_
            refine WW.iadd (pc := 60) dX12_drawSign_60 ?_
            exact WW.ret rfl rfl (show RetI M_X12_drawSign 61 from dX12_drawSign_61) ⟨Nat.le_refl _, Nat.le_refl _⟩ rfl
          · refine WW.iload_n (pc := 54) (j := 0) rfl dX12_drawSign_54 ?_
            refine WW.goto (pc := 55) 61 dX12_drawSign_55 (by decide) ?_
            exact WW.ret rfl rfl (show RetI M_X12_drawSign 61 from dX12_drawSign_61) ⟨Nat.le_refl _, Nat.le_refl _⟩ rfl
    · refine WW.sub [1, 2, 0] rfl ?_
      exact hk3 ()
def fX12_layDealtBySign (ρ : Rh) (d : Dd) (a1 : Int32) (a2 : Int32) : Option Dd :=
  lp (fun self2 (x1 : Int32 × Dd) =>
    if 4 ≤ x1.1 then
      (some x1.2)
    else
      ((fX12_heardOf ρ x1.2 a1 x1.1).bind fun r3 =>
      jn (fun (x4 : Int32 × Dd) =>
        if inB x1.1 4 = true then
          (bnd (dI x4.2 34 (ix x1.1) x4.1) fun d6 =>
          self2 ((x1.1 + 1), d6))
        else none
        ) fun k5 =>
      if r3 = 0 then
        (k5 (0, x1.2))
      else
        ((fX12_dealtFor ρ x1.2 a1 a2 x1.1 (-1)).bind fun r7 =>
        k5 (r7.1, r7.2)))
    ) 6000 (0, d)
set_option maxHeartbeats 4000000 in
set_option maxRecDepth 100000 in
theorem okX12_layDealtBySign (g : Gx) (ρ : Rh) (hρ : Hr ρ) (d : Dd) (a1 : Int32) (a2 : Int32) : CallR g M_X12_layDealtBySign (eV ρ) [.ref 23, .int a1, .int a2] (full d ρ) (fX12_layDealtBySign ρ d a1 a2) := by
  refine CallR.intro rfl rfl (Nat.le_of_ble_eq_true rfl) (fun a ha => rfl) ?_
  show WW g _ _ 0 [(0, .ref 23), (1, .int a1), (2, .int a2)] [] (full d ρ) 0 0 _
  unfold fX12_layDealtBySign
  refine WW.iconst (pc := 0) 0 dX12_layDealtBySign_0 rfl ?_
  refine WW.istore_n (pc := 1) [(3, .int 0), (0, .ref 23), (1, .int a1), (2, .int a2)] rfl (by decide) dX12_layDealtBySign_1 ?_
  refine WW.sub [1, 2, 3, 0] rfl ?_
  refine WW.loop (pc := 2) (Lj := fun (x1 : Int32 × Dd) => [(0, .ref 23), (1, .int a1), (2, .int a2), (3, .int x1.1)]) (hj := fun (x1 : Int32 × Dd) => full x1.2 ρ) (fun self2 hself2 x1 => ?_) 6000 (0, d)
  refine WW.iload_n (pc := 2) (j := 3) rfl dX12_layDealtBySign_2 ?_
  refine WW.iconst (pc := 3) 4 dX12_layDealtBySign_3 rfl ?_
  refine WW.icmp_ge (pc := 4) 40 dX12_layDealtBySign_4 (by decide) (fun _ => ?_) (fun _ => ?_)
  · exact WW.ret rfl rfl (show RetI M_X12_layDealtBySign 40 from dX12_layDealtBySign_40) ⟨Nat.le_refl _, Nat.le_refl _⟩ rfl
  · refine WW.aload_n (pc := 7) (j := 0) rfl dX12_layDealtBySign_7 ?_
    refine WW.sgr (pc := 8) fl_X12_41_12 h3_23 (sh_23 ρ) (Or.inr ⟨_, gt_12_29⟩) (hr_23_29 ρ) dX12_layDealtBySign_8 ?_
    refine WW.iload_n (pc := 11) (j := 3) rfl dX12_layDealtBySign_11 ?_
    refine WW.aload_n (pc := 12) (j := 0) rfl dX12_layDealtBySign_12 ?_
    refine WW.iload_n (pc := 13) (j := 1) rfl dX12_layDealtBySign_13 ?_
    refine WW.iload_n (pc := 14) (j := 3) rfl dX12_layDealtBySign_14 ?_
    refine WW.callV (pc := 15) (As := [.int a1, .int x1.1]) (st := [.int x1.1, .ref 34]) lk_X12_168 (okX12_heardOf g ρ hρ x1.2 a1 x1.1) h3_23 (sh_23 ρ) ⟨_, _, clk12⟩ rfl (Nat.le_of_ble_eq_true rfl) ⟨Nat.le_of_ble_eq_true rfl, Nat.le_of_ble_eq_true rfl, Nat.le_of_ble_eq_true rfl, Nat.le_of_ble_eq_true rfl⟩ dX12_layDealtBySign_15 rfl (fun r3 hr3 => ?_)
    show WW _ _ _ 18 _ [.int r3, .int x1.1, .ref 34] (full x1.2 ρ) 0 0 _
    refine WW.join (pj := 33) (Lj := fun (x4 : Int32 × Dd) => [(0, .ref 23), (1, .int a1), (2, .int a2), (3, .int x1.1)]) (sj := fun (x4 : Int32 × Dd) => [.int x4.1, .int x1.1, .ref 34]) (hj := fun (x4 : Int32 × Dd) => full x4.2 ρ) (fun x4 => ?_) (fun k5 hk5 => ?_)
    · refine WW.siast (pc := 33) h3_34 (sh_34 ρ) dX12_layDealtBySign_33 (fun d6 => ?_)
      refine WW.iinc (pc := 34) (j := 3) (x1.1 + 1) [(3, .int (x1.1 + 1)), (0, .ref 23), (1, .int a1), (2, .int a2)] rfl rfl rfl (by decide) dX12_layDealtBySign_34 ?_
      refine WW.goto (pc := 37) 2 dX12_layDealtBySign_37 (by decide) ?_
      refine WW.sub [1, 2, 3, 0] rfl ?_
      exact hself2 ((x1.1 + 1), d6)
    · refine WW.if_ne (pc := 18) 25 dX12_layDealtBySign_18 (by decide) (fun _ => ?_) (fun _ => ?_)
      · refine WW.iconst (pc := 21) 0 dX12_layDealtBySign_21 rfl ?_
        refine WW.goto (pc := 22) 33 dX12_layDealtBySign_22 (by decide) ?_
        exact hk5 (0, x1.2)
      · refine WW.aload_n (pc := 25) (j := 0) rfl dX12_layDealtBySign_25 ?_
        refine WW.iload_n (pc := 26) (j := 1) rfl dX12_layDealtBySign_26 ?_
        refine WW.iload_n (pc := 27) (j := 2) rfl dX12_layDealtBySign_27 ?_
        refine WW.iload_n (pc := 28) (j := 3) rfl dX12_layDealtBySign_28 ?_
        refine WW.iconst (pc := 29) (-1) dX12_layDealtBySign_29 rfl ?_
        refine WW.callV (pc := 30) (As := [.int a1, .int a2, .int x1.1, .int (-1)]) (st := [.int x1.1, .ref 34]) lk_X12_232 (okX12_dealtFor g ρ hρ x1.2 a1 a2 x1.1 (-1)) h3_23 (sh_23 ρ) ⟨_, _, clk12⟩ rfl (Nat.le_of_ble_eq_true rfl) ⟨Nat.le_of_ble_eq_true rfl, Nat.le_of_ble_eq_true rfl, Nat.le_of_ble_eq_true rfl, Nat.le_of_ble_eq_true rfl⟩ dX12_layDealtBySign_30 rfl (fun r7 hr7 => ?_)
        show WW _ _ _ 33 _ [.int r7.1, .int x1.1, .ref 34] (full r7.2 ρ) 0 0 _
        exact hk5 (r7.1, r7.2)
def fX12_run (ρ : Rh) (d : Dd) (a1 : Int32) (a2 : Int32) (a3 : Int32) (a4 : Int32) (a5 : Int32) : Option (Int32 × Dd) :=
  (fX12_isSet ρ d a2).bind fun r1 =>
  jn (fun (x2 : Bool) =>
    (fX12_refusal ρ d a1 true x2).bind fun r4 =>
    if r4 = 0 then
      (lp (fun self6 (x5 : Int32 × Int32) =>
        if (d_i d 23 15) ≤ x5.2 then
          ((fX12_layDealtBySign ρ d a1 a2).bind fun r7 =>
          bnd (dI r7 23 30 a3) fun d8 =>
          lp (fun self10 (x9 : Int32 × Int32 × Int32 × Dd) =>
            if a4 ≤ x9.2.2.1 then
              (if a5 = 0 then
                (some ((d_i x9.2.2.2 23 30), x9.2.2.2))
              else
                (if a5 = 1 then
                  (some (x9.1, x9.2.2.2))
                else
                  (some (x9.2.1, x9.2.2.2))))
            else
              ((fX12_drawSign ρ x9.2.2.2 a1).bind fun r11 =>
              if inB r11.1 4 = true then
                (bnd ((d_i r11.2 34 (ix r11.1)) : Int32) fun v12 =>
                lp (fun self14 (x13 : Int32 × Int32) =>
                  if (d_i r11.2 23 15) ≤ x13.2 then
                    (jn (fun (x15 : Bool) =>
                      bnd ((x9.2.1 + (b2i x15)) : Int32) fun v17 =>
                      self10 (x13.1, v17, (x9.2.2.1 + 1), r11.2)
                      ) fun k16 =>
                    if v12 = x5.1 then
                      (k16 true)
                    else
                      (k16 false))
                  else
                    ((fX12_stepsOf v12 x13.2).bind fun r18 =>
                    jn (fun (x19 : Int32) =>
                      bnd ((x13.1 + x19) : Int32) fun v21 =>
                      self14 (v21, (x13.2 + 1))
                      ) fun k20 =>
                    if 0 ≤ r18 then
                      (k20 r18)
                    else
                      (k20 (-r18)))
                  ) 6000 (x9.1, 0))
              else none)
            ) 6000 (0, 0, 0, d8))
        else
          ((fX12_power x5.2).bind fun r22 =>
          bnd ((x5.1 + (3 * r22)) : Int32) fun v23 =>
          self6 (v23, (x5.2 + 1)))
        ) 6000 (0, 0))
    else
      (some (r4, d))
    ) fun k3 =>
  jn (fun (x24 : Unit) =>
    k3 false
    ) fun k25 =>
  if r1 = true then
    (if a3 < 0 then
      (k25 ())
    else
      ((fX12_in (Int32.toInt64 a4) 1 100).bind fun r26 =>
      if r26 = true then
        ((fX12_in (Int32.toInt64 a5) 0 2).bind fun r27 =>
        if r27 = true then
          (k3 true)
        else
          (k25 ()))
      else
        (k25 ())))
  else
    (k25 ())
set_option maxHeartbeats 4000000 in
set_option maxRecDepth 100000 in
theorem okX12_run (g : Gx) (ρ : Rh) (hρ : Hr ρ) (d : Dd) (a1 : Int32) (a2 : Int32) (a3 : Int32) (a4 : Int32) (a5 : Int32) : CallR g M_X12_run (eI ρ) [.ref 23, .int a1, .int a2, .int a3, .int a4, .int a5] (full d ρ) (fX12_run ρ d a1 a2 a3 a4 a5) := by
  refine CallR.intro rfl rfl (Nat.le_of_ble_eq_true rfl) (fun a ha => ⟨_, rfl⟩) ?_
  show WW g _ _ 0 [(0, .ref 23), (1, .int a1), (2, .int a2), (3, .int a3), (4, .int a4), (5, .int a5)] [] (full d ρ) 0 0 _
  unfold fX12_run
  refine WW.aload_n (pc := 0) (j := 0) rfl dX12_run_0 ?_
  refine WW.iload_n (pc := 1) (j := 1) rfl dX12_run_1 ?_
  refine WW.iconst (pc := 2) 1 dX12_run_2 rfl ?_
  refine WW.aload_n (pc := 3) (j := 0) rfl dX12_run_3 ?_
  refine WW.iload_n (pc := 4) (j := 2) rfl dX12_run_4 ?_
  refine WW.callV (pc := 5) (As := [.int a2]) (st := [.int 1, .int a1, .ref 23]) lk_X12_227 (okX12_isSet g ρ hρ d a2) h3_23 (sh_23 ρ) ⟨_, _, clk12⟩ rfl (Nat.le_of_ble_eq_true rfl) ⟨Nat.le_of_ble_eq_true rfl, Nat.le_of_ble_eq_true rfl, Nat.le_of_ble_eq_true rfl, Nat.le_of_ble_eq_true rfl⟩ dX12_run_5 rfl (fun r1 hr1 => ?_)
  show WW _ _ _ 8 _ [.int (b2i r1), .int 1, .int a1, .ref 23] (full d ρ) 0 0 _
  refine WW.join (pj := 46) (Lj := fun (x2 : Bool) => [(0, .ref 23), (1, .int a1), (2, .int a2), (3, .int a3), (4, .int a4), (5, .int a5)]) (sj := fun (x2 : Bool) => [.int (b2i x2), .int 1, .int a1, .ref 23]) (hj := fun (x2 : Bool) => full d ρ) (fun x2 => ?_) (fun k3 hk3 => ?_)
  · refine WW.callV (pc := 46) (As := [.int a1, .int (b2i true), .int (b2i x2)]) (st := []) lk_X12_160 (okX12_refusal g ρ hρ d a1 true x2) h3_23 (sh_23 ρ) ⟨_, _, clk12⟩ rfl (Nat.le_of_ble_eq_true rfl) ⟨Nat.le_of_ble_eq_true rfl, Nat.le_of_ble_eq_true rfl, Nat.le_of_ble_eq_true rfl, Nat.le_of_ble_eq_true rfl⟩ dX12_run_46 rfl (fun r4 hr4 => ?_)
    show WW _ _ _ 49 _ [.int r4] (full d ρ) 0 0 _
    refine WW.istore (pc := 49) [(6, .int r4), (0, .ref 23), (1, .int a1), (2, .int a2), (3, .int a3), (4, .int a4), (5, .int a5)] rfl (by decide) dX12_run_49 ?_
    refine WW.iload (pc := 51) (j := 0) rfl dX12_run_51 ?_
    refine WW.if_eq (pc := 53) 59 dX12_run_53 (by decide) (fun _ => ?_) (fun _ => ?_)
    · refine WW.iconst (pc := 59) 0 dX12_run_59 rfl ?_
      refine WW.istore (pc := 60) [(7, .int 0), (6, .int r4), (0, .ref 23), (1, .int a1), (2, .int a2), (3, .int a3), (4, .int a4), (5, .int a5)] rfl (by decide) dX12_run_60 ?_
      refine WW.iconst (pc := 62) 0 dX12_run_62 rfl ?_
      refine WW.istore (pc := 63) [(8, .int 0), (7, .int 0), (6, .int r4), (0, .ref 23), (1, .int a1), (2, .int a2), (3, .int a3), (4, .int a4), (5, .int a5)] rfl (by decide) dX12_run_63 ?_
      refine WW.sub [3, 4, 5, 6, 7, 8, 1, 0] rfl ?_
      refine WW.loop (pc := 65) (Lj := fun (x5 : Int32 × Int32) => [(0, .ref 23), (1, .int a1), (2, .int a2), (3, .int a3), (4, .int a4), (5, .int a5), (7, .int x5.1), (8, .int x5.2)]) (hj := fun (x5 : Int32 × Int32) => full d ρ) (fun self6 hself6 x5 => ?_) 6000 (0, 0)
      refine WW.iload (pc := 65) (j := 7) rfl dX12_run_65 ?_
      refine WW.aload_n (pc := 67) (j := 0) rfl dX12_run_67 ?_
      refine WW.sgi (pc := 68) fl_X12_114_12 h3_23 (sh_23 ρ) (Or.inl gt_12_15) dX12_run_68 ?_
      refine WW.icmp_ge (pc := 71) 92 dX12_run_71 (by decide) (fun _ => ?_) (fun _ => ?_)
      · refine WW.aload_n (pc := 92) (j := 0) rfl dX12_run_92 ?_
        refine WW.iload_n (pc := 93) (j := 1) rfl dX12_run_93 ?_
        refine WW.iload_n (pc := 94) (j := 2) rfl dX12_run_94 ?_
        refine WW.callV (pc := 95) (As := [.int a1, .int a2]) (st := []) lk_X12_288 (okX12_layDealtBySign g ρ hρ d a1 a2) h3_23 (sh_23 ρ) ⟨_, _, clk12⟩ rfl (Nat.le_of_ble_eq_true rfl) ⟨Nat.le_of_ble_eq_true rfl, Nat.le_of_ble_eq_true rfl, Nat.le_of_ble_eq_true rfl, Nat.le_of_ble_eq_true rfl⟩ dX12_run_95 rfl (fun r7 hr7 => ?_)
        show WW _ _ _ 98 _ [] (full r7 ρ) 0 0 _
        refine WW.aload_n (pc := 98) (j := 0) rfl dX12_run_98 ?_
        refine WW.iload_n (pc := 99) (j := 3) rfl dX12_run_99 ?_
        refine WW.spi (pc := 100) fp_X12_272_12 h3_23 (sh_23 ρ) gt_12_30 dX12_run_100 (fun d8 => ?_)
        refine WW.iconst (pc := 103) 0 dX12_run_103 rfl ?_
        refine WW.istore (pc := 104) [(8, .int 0), (0, .ref 23), (1, .int a1), (2, .int a2), (3, .int a3), (4, .int a4), (5, .int a5), (7, .int x5.1)] rfl (by decide) dX12_run_104 ?_
        refine WW.iconst (pc := 106) 0 dX12_run_106 rfl ?_
        refine WW.istore (pc := 107) [(9, .int 0), (8, .int 0), (0, .ref 23), (1, .int a1), (2, .int a2), (3, .int a3), (4, .int a4), (5, .int a5), (7, .int x5.1)] rfl (by decide) dX12_run_107 ?_
        refine WW.iconst (pc := 109) 0 dX12_run_109 rfl ?_
        refine WW.istore (pc := 110) [(10, .int 0), (9, .int 0), (8, .int 0), (0, .ref 23), (1, .int a1), (2, .int a2), (3, .int a3), (4, .int a4), (5, .int a5), (7, .int x5.1)] rfl (by decide) dX12_run_110 ?_
        refine WW.sub [3, 4, 7, 8, 9, 2, 1, 0] rfl ?_
        refine WW.loop (pc := 112) (Lj := fun (x9 : Int32 × Int32 × Int32 × Dd) => [(0, .ref 23), (1, .int a1), (4, .int a4), (5, .int a5), (7, .int x5.1), (8, .int x9.1), (9, .int x9.2.1), (10, .int x9.2.2.1)]) (hj := fun (x9 : Int32 × Int32 × Int32 × Dd) => full x9.2.2.2 ρ) (fun self10 hself10 x9 => ?_) 6000 (0, 0, 0, d8)
        refine WW.iload (pc := 112) (j := 7) rfl dX12_run_112 ?_
        refine WW.iload (pc := 114) (j := 2) rfl dX12_run_114 ?_
        refine WW.icmp_ge (pc := 116) 199 dX12_run_116 (by decide) (fun _ => ?_) (fun _ => ?_)
        · refine WW.iload (pc := 199) (j := 3) rfl dX12_run_199 ?_
          refine WW.if_ne (pc := 201) 211 dX12_run_201 (by decide) (fun _ => ?_) (fun _ => ?_)
          · refine WW.aload_n (pc := 204) (j := 0) rfl dX12_run_204 ?_
            refine WW.sgi (pc := 205) fl_X12_272_12 h3_23 (sh_23 ρ) (Or.inl gt_12_30) dX12_run_205 ?_
            refine WW.goto (pc := 208) 224 dX12_run_208 (by decide) ?_
            exact WW.ret rfl rfl (show RetI M_X12_run 224 from dX12_run_224) ⟨Nat.le_refl _, Nat.le_refl _⟩ rfl
          · refine WW.iload (pc := 211) (j := 3) rfl dX12_run_211 ?_
            refine WW.iconst (pc := 213) 1 dX12_run_213 rfl ?_
            refine WW.icmp_ne (pc := 214) 222 dX12_run_214 (by decide) (fun _ => ?_) (fun _ => ?_)
            · refine WW.iload (pc := 217) (j := 5) rfl dX12_run_217 ?_
              refine WW.goto (pc := 219) 224 dX12_run_219 (by decide) ?_
              exact WW.ret rfl rfl (show RetI M_X12_run 224 from dX12_run_224) ⟨Nat.le_refl _, Nat.le_refl _⟩ rfl
            · refine WW.iload (pc := 222) (j := 6) rfl dX12_run_222 ?_
              exact WW.ret rfl rfl (show RetI M_X12_run 224 from dX12_run_224) ⟨Nat.le_refl _, Nat.le_refl _⟩ rfl
        · refine WW.aload_n (pc := 119) (j := 0) rfl dX12_run_119 ?_
          refine WW.sgr (pc := 120) fl_X12_41_12 h3_23 (sh_23 ρ) (Or.inr ⟨_, gt_12_29⟩) (hr_23_29 ρ) dX12_run_120 ?_
          refine WW.aload_n (pc := 123) (j := 0) rfl dX12_run_123 ?_
          refine WW.iload_n (pc := 124) (j := 1) rfl dX12_run_124 ?_
          refine WW.callV (pc := 125) (As := [.int a1]) (st := [.ref 34]) lk_X12_291 (okX12_drawSign g ρ hρ x9.2.2.2 a1) h3_23 (sh_23 ρ) ⟨_, _, clk12⟩ rfl (Nat.le_of_ble_eq_true rfl) ⟨Nat.le_of_ble_eq_true rfl, Nat.le_of_ble_eq_true rfl, Nat.le_of_ble_eq_true rfl, Nat.le_of_ble_eq_true rfl⟩ dX12_run_125 rfl (fun r11 hr11 => ?_)
          show WW _ _ _ 128 _ [.int r11.1, .ref 34] (full r11.2 ρ) 0 0 _
          refine WW.siald (pc := 128) (one_le h3_34) (sh_34 ρ) dX12_run_128 ?_
          refine WW.nmi (fun v12 => ?_)
          refine WW.istore (pc := 129) [(11, .int v12), (0, .ref 23), (1, .int a1), (4, .int a4), (5, .int a5), (7, .int x5.1), (8, .int x9.1), (9, .int x9.2.1), (10, .int x9.2.2.1)] rfl (by decide) dX12_run_129 ?_
          refine WW.iconst (pc := 131) 0 dX12_run_131 rfl ?_
          refine WW.istore (pc := 132) [(12, .int 0), (11, .int v12), (0, .ref 23), (1, .int a1), (4, .int a4), (5, .int a5), (7, .int x5.1), (8, .int x9.1), (9, .int x9.2.1), (10, .int x9.2.2.1)] rfl (by decide) dX12_run_132 ?_
          refine WW.sub [2, 3, 4, 5, 6, 7, 8, 9, 1, 0] rfl ?_
          refine WW.loop (pc := 134) (Lj := fun (x13 : Int32 × Int32) => [(0, .ref 23), (1, .int a1), (4, .int a4), (5, .int a5), (7, .int x5.1), (8, .int x13.1), (9, .int x9.2.1), (10, .int x9.2.2.1), (11, .int v12), (12, .int x13.2)]) (hj := fun (x13 : Int32 × Int32) => full r11.2 ρ) (fun self14 hself14 x13 => ?_) 6000 (x9.1, 0)
          refine WW.iload (pc := 134) (j := 9) rfl dX12_run_134 ?_
          refine WW.aload_n (pc := 136) (j := 0) rfl dX12_run_136 ?_
          refine WW.sgi (pc := 137) fl_X12_114_12 h3_23 (sh_23 ρ) (Or.inl gt_12_15) dX12_run_137 ?_
          refine WW.icmp_ge (pc := 140) 176 dX12_run_140 (by decide) (fun _ => ?_) (fun _ => ?_)
          · refine WW.iload (pc := 176) (j := 6) rfl dX12_run_176 ?_
            refine WW.iload (pc := 178) (j := 8) rfl dX12_run_178 ?_
            refine WW.iload (pc := 180) (j := 4) rfl dX12_run_180 ?_
            refine WW.join (pj := 190) (Lj := fun (x15 : Bool) => [(0, .ref 23), (1, .int a1), (4, .int a4), (5, .int a5), (7, .int x5.1), (8, .int x13.1), (10, .int x9.2.2.1)]) (sj := fun (x15 : Bool) => [.int (b2i x15), .int x9.2.1]) (hj := fun (x15 : Bool) => full r11.2 ρ) (fun x15 => ?_) (fun k16 hk16 => ?_)
            · refine WW.iadd (pc := 190) dX12_run_190 ?_
              refine WW.nmi (fun v17 => ?_)
              refine WW.istore (pc := 191) [(9, .int v17), (0, .ref 23), (1, .int a1), (4, .int a4), (5, .int a5), (7, .int x5.1), (8, .int x13.1), (10, .int x9.2.2.1)] rfl (by decide) dX12_run_191 ?_
              refine WW.iinc (pc := 193) (j := 7) (x9.2.2.1 + 1) [(10, .int (x9.2.2.1 + 1)), (9, .int v17), (0, .ref 23), (1, .int a1), (4, .int a4), (5, .int a5), (7, .int x5.1), (8, .int x13.1)] rfl rfl rfl (by decide) dX12_run_193 ?_
              refine WW.goto (pc := 196) 112 dX12_run_196 (by decide) ?_
              refine WW.sub [2, 3, 4, 5, 6, 7, 1, 0] rfl ?_
              exact hself10 (x13.1, v17, (x9.2.2.1 + 1), r11.2)
            · refine WW.icmp_ne (pc := 182) 189 dX12_run_182 (by decide) (fun _ => ?_) (fun _ => ?_)
              · refine WW.iconst (pc := 185) 1 dX12_run_185 rfl ?_
                refine WW.goto (pc := 186) 190 dX12_run_186 (by decide) ?_
                refine WW.sub [0, 1, 2, 3, 4, 5, 7] rfl ?_
                exact hk16 true
              · refine WW.iconst (pc := 189) 0 dX12_run_189 rfl ?_
                refine WW.sub [0, 1, 2, 3, 4, 5, 7] rfl ?_
                exact hk16 false
          · refine WW.iload (pc := 143) (j := 8) rfl dX12_run_143 ?_
            refine WW.iload (pc := 145) (j := 9) rfl dX12_run_145 ?_
            refine WW.callS (pc := 147) (As := [.int v12, .int x13.2]) (st := []) lk_X12_188 (okX12_stepsOf g ρ hρ r11.2 v12 x13.2) rfl (Nat.le_of_ble_eq_true rfl) ⟨Nat.le_of_ble_eq_true rfl, Nat.le_of_ble_eq_true rfl, Nat.le_of_ble_eq_true rfl, Nat.le_of_ble_eq_true rfl⟩ dX12_run_147 rfl (fun r18 hr18 => ?_)
            show WW _ _ _ 150 _ [.int r18] (full r11.2 ρ) 0 0 _
            refine WW.istore (pc := 150) [(13, .int r18), (0, .ref 23), (1, .int a1), (4, .int a4), (5, .int a5), (7, .int x5.1), (8, .int x13.1), (9, .int x9.2.1), (10, .int x9.2.2.1), (11, .int v12), (12, .int x13.2)] rfl (by decide) dX12_run_150 ?_
            refine WW.iload (pc := 152) (j := 6) rfl dX12_run_152 ?_
            refine WW.iload (pc := 154) (j := 0) rfl dX12_run_154 ?_
            refine WW.join (pj := 167) (Lj := fun (x19 : Int32) => [(0, .ref 23), (1, .int a1), (4, .int a4), (5, .int a5), (7, .int x5.1), (9, .int x9.2.1), (10, .int x9.2.2.1), (11, .int v12), (12, .int x13.2)]) (sj := fun (x19 : Int32) => [.int x19, .int x13.1]) (hj := fun (x19 : Int32) => full r11.2 ρ) (fun x19 => ?_) (fun k20 hk20 => ?_)
            · refine WW.iadd (pc := 167) dX12_run_167 ?_
              refine WW.nmi (fun v21 => ?_)
              refine WW.istore (pc := 168) [(8, .int v21), (0, .ref 23), (1, .int a1), (4, .int a4), (5, .int a5), (7, .int x5.1), (9, .int x9.2.1), (10, .int x9.2.2.1), (11, .int v12), (12, .int x13.2)] rfl (by decide) dX12_run_168 ?_
              refine WW.iinc (pc := 170) (j := 9) (x13.2 + 1) [(12, .int (x13.2 + 1)), (8, .int v21), (0, .ref 23), (1, .int a1), (4, .int a4), (5, .int a5), (7, .int x5.1), (9, .int x9.2.1), (10, .int x9.2.2.1), (11, .int v12)] rfl rfl rfl (by decide) dX12_run_170 ?_
              refine WW.goto (pc := 173) 134 dX12_run_173 (by decide) ?_
              refine WW.sub [2, 3, 4, 5, 6, 1, 7, 8, 9, 0] rfl ?_
              exact hself14 (v21, (x13.2 + 1))
            · refine WW.if_ge (pc := 156) 165 dX12_run_156 (by decide) (fun _ => ?_) (fun _ => ?_)
              · refine WW.iload (pc := 165) (j := 0) rfl dX12_run_165 ?_
                refine WW.sub [1, 2, 3, 4, 5, 7, 8, 9, 10] rfl ?_
                exact hk20 r18
              · refine WW.iload (pc := 159) (j := 0) rfl dX12_run_159 ?_
                refine WW.ineg (pc := 161) dX12_run_161 ?_
                refine WW.goto (pc := 162) 167 dX12_run_162 (by decide) ?_
                refine WW.sub [1, 2, 3, 4, 5, 7, 8, 9, 10] rfl ?_
                exact hk20 (-r18)
      · refine WW.iload (pc := 74) (j := 6) rfl dX12_run_74 ?_
        refine WW.iconst (pc := 76) 3 dX12_run_76 rfl ?_
        refine WW.iload (pc := 77) (j := 7) rfl dX12_run_77 ?_
        refine WW.callS (pc := 79) (As := [.int x5.2]) (st := [.int 3, .int x5.1]) lk_X12_184 (okX12_power g ρ hρ d x5.2) rfl (Nat.le_of_ble_eq_true rfl) ⟨Nat.le_of_ble_eq_true rfl, Nat.le_of_ble_eq_true rfl, Nat.le_of_ble_eq_true rfl, Nat.le_of_ble_eq_true rfl⟩ dX12_run_79 rfl (fun r22 hr22 => ?_)
        show WW _ _ _ 82 _ [.int r22, .int 3, .int x5.1] (full d ρ) 0 0 _
        refine WW.imul (pc := 82) dX12_run_82 ?_
        refine WW.iadd (pc := 83) dX12_run_83 ?_
        refine WW.nmi (fun v23 => ?_)
        refine WW.istore (pc := 84) [(7, .int v23), (0, .ref 23), (1, .int a1), (2, .int a2), (3, .int a3), (4, .int a4), (5, .int a5), (8, .int x5.2)] rfl (by decide) dX12_run_84 ?_
        refine WW.iinc (pc := 86) (j := 7) (x5.2 + 1) [(8, .int (x5.2 + 1)), (7, .int v23), (0, .ref 23), (1, .int a1), (2, .int a2), (3, .int a3), (4, .int a4), (5, .int a5)] rfl rfl rfl (by decide) dX12_run_86 ?_
        refine WW.goto (pc := 89) 65 dX12_run_89 (by decide) ?_
        refine WW.sub [2, 3, 4, 5, 6, 7, 1, 0] rfl ?_
        exact hself6 (v23, (x5.2 + 1))
    · refine WW.iload (pc := 56) (j := 0) rfl dX12_run_56 ?_
      exact WW.ret rfl rfl (show RetI M_X12_run 58 from dX12_run_58) ⟨Nat.le_refl _, Nat.le_refl _⟩ rfl
  · refine WW.join (pj := 45) (Lj := fun (x24 : Unit) => [(0, .ref 23), (1, .int a1), (2, .int a2), (3, .int a3), (4, .int a4), (5, .int a5)]) (sj := fun (x24 : Unit) => [.int 1, .int a1, .ref 23]) (hj := fun (x24 : Unit) => full d ρ) (fun x24 => ?_) (fun k25 hk25 => ?_)
    · refine WW.iconst (pc := 45) 0 dX12_run_45 rfl ?_
      exact hk3 false
    · refine WW.if_eqB (pc := 8) 45 dX12_run_8 (by decide) (fun _ => ?_) (fun _ => ?_)
      · refine WW.iload_n (pc := 11) (j := 3) rfl dX12_run_11 ?_
        refine WW.if_lt (pc := 12) 45 dX12_run_12 (by decide) (fun _ => ?_) (fun _ => ?_)
        · exact hk25 ()
        · refine WW.iload (pc := 15) (j := 4) rfl dX12_run_15 ?_
          refine WW.i2l (pc := 17) dX12_run_17 ?_
          refine WW.lconst (pc := 18) 1 dX12_run_18 rfl ?_
          refine WW.ldc2 (pc := 19) wd_989 dX12_run_19 ?_
          refine WW.callS (pc := 22) (As := [.long (Int32.toInt64 a4), .long 1, .long 100]) (st := [.int 1, .int a1, .ref 23]) lk_X12_73 (okX12_in g ρ hρ d (Int32.toInt64 a4) 1 100) rfl (Nat.le_of_ble_eq_true rfl) ⟨Nat.le_of_ble_eq_true rfl, Nat.le_of_ble_eq_true rfl, Nat.le_of_ble_eq_true rfl, Nat.le_of_ble_eq_true rfl⟩ dX12_run_22 rfl (fun r26 hr26 => ?_)
          show WW _ _ _ 25 _ [.int (b2i r26), .int 1, .int a1, .ref 23] (full d ρ) 0 0 _
          refine WW.if_eqB (pc := 25) 45 dX12_run_25 (by decide) (fun _ => ?_) (fun _ => ?_)
          · refine WW.iload (pc := 28) (j := 5) rfl dX12_run_28 ?_
            refine WW.i2l (pc := 30) dX12_run_30 ?_
            refine WW.lconst (pc := 31) 0 dX12_run_31 rfl ?_
            refine WW.ldc2 (pc := 32) wd_1188 dX12_run_32 ?_
            refine WW.callS (pc := 35) (As := [.long (Int32.toInt64 a5), .long 0, .long 2]) (st := [.int 1, .int a1, .ref 23]) lk_X12_73 (okX12_in g ρ hρ d (Int32.toInt64 a5) 0 2) rfl (Nat.le_of_ble_eq_true rfl) ⟨Nat.le_of_ble_eq_true rfl, Nat.le_of_ble_eq_true rfl, Nat.le_of_ble_eq_true rfl, Nat.le_of_ble_eq_true rfl⟩ dX12_run_35 rfl (fun r27 hr27 => ?_)
            show WW _ _ _ 38 _ [.int (b2i r27), .int 1, .int a1, .ref 23] (full d ρ) 0 0 _
            refine WW.if_eqB (pc := 38) 45 dX12_run_38 (by decide) (fun _ => ?_) (fun _ => ?_)
            · refine WW.iconst (pc := 41) 1 dX12_run_41 rfl ?_
              refine WW.goto (pc := 42) 46 dX12_run_42 (by decide) ?_
              exact hk3 true
            · exact hk25 ()
          · exact hk25 ()
      · exact hk25 ()
def fX12_count (ρ : Rh) (d : Dd) (a1 : Int32) : Option Int32 :=
  if a1 = 0 then
    (some (d_i d 23 4))
  else
    (if a1 = 1 then
      (some (d_i d 23 15))
    else
      (if a1 = 2 then
        (some (d_i d 23 18))
      else
        (if a1 = 3 then
          (some (d_i d 23 1))
        else
          (if a1 = 4 then
            (some (d_i d 23 26))
          else
            (some (-102))))))
set_option maxHeartbeats 4000000 in
set_option maxRecDepth 100000 in
theorem okX12_count (g : Gx) (ρ : Rh) (hρ : Hr ρ) (d : Dd) (a1 : Int32) : CallR g M_X12_count (eIp ρ d) [.ref 23, .int a1] (full d ρ) (fX12_count ρ d a1) := by
  refine CallR.intro rfl rfl (Nat.le_of_ble_eq_true rfl) (fun a ha => ⟨_, rfl⟩) ?_
  show WW g _ _ 0 [(0, .ref 23), (1, .int a1)] [] (full d ρ) 0 0 _
  unfold fX12_count
  refine WW.iload_n (pc := 0) (j := 1) rfl dX12_count_0 ?_
  refine WW.if_ne (pc := 1) 11 dX12_count_1 (by decide) (fun _ => ?_) (fun _ => ?_)
  · refine WW.aload_n (pc := 4) (j := 0) rfl dX12_count_4 ?_
    refine WW.sgi (pc := 5) fl_X12_44_12 h3_23 (sh_23 ρ) (Or.inl gt_12_4) dX12_count_5 ?_
    refine WW.goto (pc := 8) 61 dX12_count_8 (by decide) ?_
    exact WW.ret rfl rfl (show RetI M_X12_count 61 from dX12_count_61) ⟨Nat.le_refl _, Nat.le_refl _⟩ rfl
  · refine WW.iload_n (pc := 11) (j := 1) rfl dX12_count_11 ?_
    refine WW.iconst (pc := 12) 1 dX12_count_12 rfl ?_
    refine WW.icmp_ne (pc := 13) 23 dX12_count_13 (by decide) (fun _ => ?_) (fun _ => ?_)
    · refine WW.aload_n (pc := 16) (j := 0) rfl dX12_count_16 ?_
      refine WW.sgi (pc := 17) fl_X12_114_12 h3_23 (sh_23 ρ) (Or.inl gt_12_15) dX12_count_17 ?_
      refine WW.goto (pc := 20) 61 dX12_count_20 (by decide) ?_
      exact WW.ret rfl rfl (show RetI M_X12_count 61 from dX12_count_61) ⟨Nat.le_refl _, Nat.le_refl _⟩ rfl
    · refine WW.iload_n (pc := 23) (j := 1) rfl dX12_count_23 ?_
      refine WW.iconst (pc := 24) 2 dX12_count_24 rfl ?_
      refine WW.icmp_ne (pc := 25) 35 dX12_count_25 (by decide) (fun _ => ?_) (fun _ => ?_)
      · refine WW.aload_n (pc := 28) (j := 0) rfl dX12_count_28 ?_
        refine WW.sgi (pc := 29) fl_X12_124_12 h3_23 (sh_23 ρ) (Or.inl gt_12_18) dX12_count_29 ?_
        refine WW.goto (pc := 32) 61 dX12_count_32 (by decide) ?_
        exact WW.ret rfl rfl (show RetI M_X12_count 61 from dX12_count_61) ⟨Nat.le_refl _, Nat.le_refl _⟩ rfl
      · refine WW.iload_n (pc := 35) (j := 1) rfl dX12_count_35 ?_
        refine WW.iconst (pc := 36) 3 dX12_count_36 rfl ?_
        refine WW.icmp_ne (pc := 37) 47 dX12_count_37 (by decide) (fun _ => ?_) (fun _ => ?_)
        · refine WW.aload_n (pc := 40) (j := 0) rfl dX12_count_40 ?_
          refine WW.sgi (pc := 41) fl_X12_50_12 h3_23 (sh_23 ρ) (Or.inl gt_12_1) dX12_count_41 ?_
          refine WW.goto (pc := 44) 61 dX12_count_44 (by decide) ?_
          exact WW.ret rfl rfl (show RetI M_X12_count 61 from dX12_count_61) ⟨Nat.le_refl _, Nat.le_refl _⟩ rfl
        · refine WW.iload_n (pc := 47) (j := 1) rfl dX12_count_47 ?_
          refine WW.iconst (pc := 48) 4 dX12_count_48 rfl ?_
          refine WW.icmp_ne (pc := 49) 59 dX12_count_49 (by decide) (fun _ => ?_) (fun _ => ?_)
          · refine WW.aload_n (pc := 52) (j := 0) rfl dX12_count_52 ?_
            refine WW.sgi (pc := 53) fl_X12_252_12 h3_23 (sh_23 ρ) (Or.inl gt_12_26) dX12_count_53 ?_
            refine WW.goto (pc := 56) 61 dX12_count_56 (by decide) ?_
            exact WW.ret rfl rfl (show RetI M_X12_count 61 from dX12_count_61) ⟨Nat.le_refl _, Nat.le_refl _⟩ rfl
          · refine WW.bipush (pc := 59) (-102) dX12_count_59 rfl ?_
            exact WW.ret rfl rfl (show RetI M_X12_count 61 from dX12_count_61) ⟨Nat.le_refl _, Nat.le_refl _⟩ rfl
