def fX12_tell (ρ : Rh) (d : Dd) (a1 : Int64) : Option Dd :=
  bnd (dL d 23 31 ((31 * (d_l d 23 31)) + a1)) fun d1 =>
  some d1
set_option maxHeartbeats 4000000 in
set_option maxRecDepth 100000 in
theorem okX12_tell (g : Gx) (ρ : Rh) (hρ : Hr ρ) (d : Dd) (a1 : Int64) : CallR g M_X12_tell (eV ρ) [.ref 23, .long a1] (full d ρ) (fX12_tell ρ d a1) := by
  refine CallR.intro rfl rfl (Nat.le_of_ble_eq_true rfl) (fun a ha => rfl) ?_
  show WW g _ _ 0 [(0, .ref 23), (1, .long a1)] [] (full d ρ) 0 0 _
  unfold fX12_tell
  refine WW.aload_n (pc := 0) (j := 0) rfl dX12_tell_0 ?_
  refine WW.ldc2 (pc := 1) wd_1222 dX12_tell_1 ?_
  refine WW.aload_n (pc := 4) (j := 0) rfl dX12_tell_4 ?_
  refine WW.sgl (pc := 5) fl_X12_296_12 h3_23 (sh_23 ρ) gt_12_31 dX12_tell_5 ?_
  refine WW.lmul (pc := 8) dX12_tell_8 ?_
  refine WW.lload_n (pc := 9) (j := 1) rfl dX12_tell_9 ?_
  refine WW.ladd (pc := 10) dX12_tell_10 ?_
  refine WW.spl (pc := 11) fp_X12_296_12 h3_23 (sh_23 ρ) gt_12_31 dX12_tell_11 (fun d1 => ?_)
  exact WW.ret rfl rfl (show RetI M_X12_tell 14 from dX12_tell_14) ⟨Nat.le_refl _, Nat.le_refl _⟩ rfl
def fX12_tellNews (ρ : Rh) (d : Dd) (a1 : Int32) : Option Dd :=
  if inB a1 8 = true then
    ((fX12_tell ρ d (Int32.toInt64 (d_i d 31 (ix a1)))).bind fun r1 =>
    if inB a1 8 = true then
      ((fX12_tell ρ r1 (Int32.toInt64 (d_i r1 32 (ix a1)))).bind fun r2 =>
      lp (fun self4 (x3 : Int32 × Dd) =>
        if 4 ≤ x3.1 then
          (some x3.2)
        else
          (if (d_i x3.2 23 4) ≤ 0 then
            (some x3.2)
          else
            ((fX12_heardOf ρ x3.2 a1 x3.1).bind fun r5 =>
            jn (fun (x6 : Int64 × Dd) =>
              (fX12_tell ρ x6.2 x6.1).bind fun r8 =>
              self4 ((x3.1 + 1), r8)
              ) fun k7 =>
            if r5 = 0 then
              (k7 ((-1), x3.2))
            else
              ((fX12_dealtFor ρ x3.2 a1 ((jshl 1 (d_i x3.2 23 15)) - 1) x3.1 (-1)).bind fun r9 =>
              k7 ((Int32.toInt64 r9.1), r9.2))))
        ) 6000 (0, r2))
    else none)
  else none
set_option maxHeartbeats 4000000 in
set_option maxRecDepth 100000 in
theorem okX12_tellNews (g : Gx) (ρ : Rh) (hρ : Hr ρ) (d : Dd) (a1 : Int32) : CallR g M_X12_tellNews (eV ρ) [.ref 23, .int a1] (full d ρ) (fX12_tellNews ρ d a1) := by
  refine CallR.intro rfl rfl (Nat.le_of_ble_eq_true rfl) (fun a ha => rfl) ?_
  show WW g _ _ 0 [(0, .ref 23), (1, .int a1)] [] (full d ρ) 0 0 _
  unfold fX12_tellNews
  refine WW.aload_n (pc := 0) (j := 0) rfl dX12_tellNews_0 ?_
  refine WW.aload_n (pc := 1) (j := 0) rfl dX12_tellNews_1 ?_
  refine WW.sgr (pc := 2) fl_X12_31_12 h3_23 (sh_23 ρ) (Or.inr ⟨_, gt_12_19⟩) (hr_23_19 ρ) dX12_tellNews_2 ?_
  refine WW.iload_n (pc := 5) (j := 1) rfl dX12_tellNews_5 ?_
  refine WW.siald (pc := 6) (one_le h3_31) (sh_31 ρ) dX12_tellNews_6 ?_
  refine WW.i2l (pc := 7) dX12_tellNews_7 ?_
  refine WW.callV (pc := 8) (As := [.long (Int32.toInt64 (d_i d 31 (ix a1)))]) (st := []) lk_X12_299 (okX12_tell g ρ hρ d (Int32.toInt64 (d_i d 31 (ix a1)))) h3_23 (sh_23 ρ) ⟨_, _, clk12⟩ rfl (Nat.le_of_ble_eq_true rfl) ⟨Nat.le_of_ble_eq_true rfl, Nat.le_of_ble_eq_true rfl, Nat.le_of_ble_eq_true rfl, Nat.le_of_ble_eq_true rfl⟩ dX12_tellNews_8 rfl (fun r1 hr1 => ?_)
  show WW _ _ _ 11 _ [] (full r1 ρ) 0 0 _
  refine WW.aload_n (pc := 11) (j := 0) rfl dX12_tellNews_11 ?_
  refine WW.aload_n (pc := 12) (j := 0) rfl dX12_tellNews_12 ?_
  refine WW.sgr (pc := 13) fl_X12_34_12 h3_23 (sh_23 ρ) (Or.inr ⟨_, gt_12_20⟩) (hr_23_20 ρ) dX12_tellNews_13 ?_
  refine WW.iload_n (pc := 16) (j := 1) rfl dX12_tellNews_16 ?_
  refine WW.siald (pc := 17) (one_le h3_32) (sh_32 ρ) dX12_tellNews_17 ?_
  refine WW.i2l (pc := 18) dX12_tellNews_18 ?_
  refine WW.callV (pc := 19) (As := [.long (Int32.toInt64 (d_i r1 32 (ix a1)))]) (st := []) lk_X12_299 (okX12_tell g ρ hρ r1 (Int32.toInt64 (d_i r1 32 (ix a1)))) h3_23 (sh_23 ρ) ⟨_, _, clk12⟩ rfl (Nat.le_of_ble_eq_true rfl) ⟨Nat.le_of_ble_eq_true rfl, Nat.le_of_ble_eq_true rfl, Nat.le_of_ble_eq_true rfl, Nat.le_of_ble_eq_true rfl⟩ dX12_tellNews_19 rfl (fun r2 hr2 => ?_)
  show WW _ _ _ 22 _ [] (full r2 ρ) 0 0 _
  refine WW.iconst (pc := 22) 0 dX12_tellNews_22 rfl ?_
  refine WW.istore_n (pc := 23) [(2, .int 0), (0, .ref 23), (1, .int a1)] rfl (by decide) dX12_tellNews_23 ?_
  refine WW.sub [1, 2, 0] rfl ?_
  refine WW.loop (pc := 24) (Lj := fun (x3 : Int32 × Dd) => [(0, .ref 23), (1, .int a1), (2, .int x3.1)]) (hj := fun (x3 : Int32 × Dd) => full x3.2 ρ) (fun self4 hself4 x3 => ?_) 6000 (0, r2)
  refine WW.iload_n (pc := 24) (j := 2) rfl dX12_tellNews_24 ?_
  refine WW.iconst (pc := 25) 4 dX12_tellNews_25 rfl ?_
  refine WW.icmp_ge (pc := 26) 77 dX12_tellNews_26 (by decide) (fun _ => ?_) (fun _ => ?_)
  · exact WW.ret rfl rfl (show RetI M_X12_tellNews 77 from dX12_tellNews_77) ⟨Nat.le_refl _, Nat.le_refl _⟩ rfl
  · refine WW.aload_n (pc := 29) (j := 0) rfl dX12_tellNews_29 ?_
    refine WW.sgi (pc := 30) fl_X12_44_12 h3_23 (sh_23 ρ) (Or.inl gt_12_4) dX12_tellNews_30 ?_
    refine WW.if_le (pc := 33) 77 dX12_tellNews_33 (by decide) (fun _ => ?_) (fun _ => ?_)
    · exact WW.ret rfl rfl (show RetI M_X12_tellNews 77 from dX12_tellNews_77) ⟨Nat.le_refl _, Nat.le_refl _⟩ rfl
    · refine WW.aload_n (pc := 36) (j := 0) rfl dX12_tellNews_36 ?_
      refine WW.aload_n (pc := 37) (j := 0) rfl dX12_tellNews_37 ?_
      refine WW.iload_n (pc := 38) (j := 1) rfl dX12_tellNews_38 ?_
      refine WW.iload_n (pc := 39) (j := 2) rfl dX12_tellNews_39 ?_
      refine WW.callV (pc := 40) (As := [.int a1, .int x3.1]) (st := [.ref 23]) lk_X12_168 (okX12_heardOf g ρ hρ x3.2 a1 x3.1) h3_23 (sh_23 ρ) ⟨_, _, clk12⟩ rfl (Nat.le_of_ble_eq_true rfl) ⟨Nat.le_of_ble_eq_true rfl, Nat.le_of_ble_eq_true rfl, Nat.le_of_ble_eq_true rfl, Nat.le_of_ble_eq_true rfl⟩ dX12_tellNews_40 rfl (fun r5 hr5 => ?_)
      show WW _ _ _ 43 _ [.int r5, .ref 23] (full x3.2 ρ) 0 0 _
      refine WW.join (pj := 68) (Lj := fun (x6 : Int64 × Dd) => [(0, .ref 23), (1, .int a1), (2, .int x3.1)]) (sj := fun (x6 : Int64 × Dd) => [.long x6.1, .ref 23]) (hj := fun (x6 : Int64 × Dd) => full x6.2 ρ) (fun x6 => ?_) (fun k7 hk7 => ?_)
      · refine WW.callV (pc := 68) (As := [.long x6.1]) (st := []) lk_X12_299 (okX12_tell g ρ hρ x6.2 x6.1) h3_23 (sh_23 ρ) ⟨_, _, clk12⟩ rfl (Nat.le_of_ble_eq_true rfl) ⟨Nat.le_of_ble_eq_true rfl, Nat.le_of_ble_eq_true rfl, Nat.le_of_ble_eq_true rfl, Nat.le_of_ble_eq_true rfl⟩ dX12_tellNews_68 rfl (fun r8 hr8 => ?_)
        show WW _ _ _ 71 _ [] (full r8 ρ) 0 0 _
        refine WW.iinc (pc := 71) (j := 2) (x3.1 + 1) [(2, .int (x3.1 + 1)), (0, .ref 23), (1, .int a1)] rfl rfl rfl (by decide) dX12_tellNews_71 ?_
        refine WW.goto (pc := 74) 24 dX12_tellNews_74 (by decide) ?_
        refine WW.sub [1, 2, 0] rfl ?_
        exact hself4 ((x3.1 + 1), r8)
      · refine WW.if_ne (pc := 43) 52 dX12_tellNews_43 (by decide) (fun _ => ?_) (fun _ => ?_)
        · refine WW.ldc2 (pc := 46) wd_1227 dX12_tellNews_46 ?_
          refine WW.goto (pc := 49) 68 dX12_tellNews_49 (by decide) ?_
          exact hk7 ((-1), x3.2)
        · refine WW.aload_n (pc := 52) (j := 0) rfl dX12_tellNews_52 ?_
          refine WW.iload_n (pc := 53) (j := 1) rfl dX12_tellNews_53 ?_
          refine WW.iconst (pc := 54) 1 dX12_tellNews_54 rfl ?_
          refine WW.aload_n (pc := 55) (j := 0) rfl dX12_tellNews_55 ?_
          refine WW.sgi (pc := 56) fl_X12_114_12 h3_23 (sh_23 ρ) (Or.inl gt_12_15) dX12_tellNews_56 ?_
          refine WW.ishl (pc := 59) dX12_tellNews_59 ?_
          refine WW.iconst (pc := 60) 1 dX12_tellNews_60 rfl ?_
          refine WW.isub (pc := 61) dX12_tellNews_61 ?_
          refine WW.iload_n (pc := 62) (j := 2) rfl dX12_tellNews_62 ?_
          refine WW.iconst (pc := 63) (-1) dX12_tellNews_63 rfl ?_
          refine WW.callV (pc := 64) (As := [.int a1, .int ((jshl 1 (d_i x3.2 23 15)) - 1), .int x3.1, .int (-1)]) (st := [.ref 23]) lk_X12_232 (okX12_dealtFor g ρ hρ x3.2 a1 ((jshl 1 (d_i x3.2 23 15)) - 1) x3.1 (-1)) h3_23 (sh_23 ρ) ⟨_, _, clk12⟩ rfl (Nat.le_of_ble_eq_true rfl) ⟨Nat.le_of_ble_eq_true rfl, Nat.le_of_ble_eq_true rfl, Nat.le_of_ble_eq_true rfl, Nat.le_of_ble_eq_true rfl⟩ dX12_tellNews_64 rfl (fun r9 hr9 => ?_)
          show WW _ _ _ 67 _ [.int r9.1, .ref 23] (full r9.2 ρ) 0 0 _
          refine WW.i2l (pc := 67) dX12_tellNews_67 ?_
          exact hk7 ((Int32.toInt64 r9.1), r9.2)
def fX12_digest (ρ : Rh) (d : Dd) : Option (Int64 × Dd) :=
  bnd (dL d 23 31 359) fun d1 =>
  jn (fun (x2 : Dd) =>
    lp (fun self5 (x4 : Int32 × Dd) =>
      if (d_i x4.2 23 4) ≤ x4.1 then
        (lp (fun self7 (x6 : Int32 × Dd) =>
          if (d_i x6.2 23 15) ≤ x6.1 then
            (lp (fun self9 (x8 : Int32 × Dd) =>
              if (d_i x8.2 23 18) ≤ x8.1 then
                (jn (fun (x10 : Dd) =>
                  lp (fun self13 (x12 : Int32 × Dd) =>
                    if (d_i x12.2 23 1) ≤ x12.1 then
                      (lp (fun self15 (x14 : Int32 × Dd) =>
                        if 5 ≤ x14.1 then
                          (some ((d_l x14.2 23 31), x14.2))
                        else
                          ((fX12_count ρ x14.2 x14.1).bind fun r16 =>
                          (fX12_tell ρ x14.2 (Int32.toInt64 r16)).bind fun r17 =>
                          self15 ((x14.1 + 1), r17))
                        ) 6000 (0, x12.2))
                    else
                      (if inB x12.1 60 = true then
                        ((fX12_tell ρ x12.2 (Int32.toInt64 (d_i x12.2 24 (ix x12.1)))).bind fun r18 =>
                        self13 ((x12.1 + 1), r18))
                      else none)
                    ) 6000 (0, x10)
                  ) fun k11 =>
                if (d_i x8.2 23 4) ≤ 0 then
                  (k11 x8.2)
                else
                  ((fX12_boundOf ρ x8.2).bind fun r19 =>
                  (fX12_allWeights ρ x8.2).bind fun r20 =>
                  (fX12_term r19 (Int32.toInt64 r20) 0).bind fun r21 =>
                  (fX12_tell ρ x8.2 r21).bind fun r22 =>
                  (fX12_boundOf ρ r22).bind fun r23 =>
                  (fX12_allWeights ρ r22).bind fun r24 =>
                  (fX12_term r23 (Int32.toInt64 r24) 1).bind fun r25 =>
                  (fX12_tell ρ r22 r25).bind fun r26 =>
                  k11 r26))
              else
                ((fX12_tellNews ρ x8.2 x8.1).bind fun r27 =>
                self9 ((x8.1 + 1), r27))
              ) 6000 (0, x6.2))
          else
            (if inB x6.1 4 = true then
              ((fX12_tell ρ x6.2 (Int32.toInt64 (d_i x6.2 29 (ix x6.1)))).bind fun r28 =>
              if inB x6.1 4 = true then
                ((fX12_tell ρ r28 (Int32.toInt64 (d_i r28 30 (ix x6.1)))).bind fun r29 =>
                self7 ((x6.1 + 1), r29))
              else none)
            else none)
          ) 6000 (0, x4.2))
      else
        (if inB x4.1 4 = true then
          ((fX12_tell ρ x4.2 (Int32.toInt64 (d_i x4.2 25 (ix x4.1)))).bind fun r30 =>
          if inB x4.1 4 = true then
            ((fX12_tell ρ r30 (Int32.toInt64 (d_i r30 26 (ix x4.1)))).bind fun r31 =>
            self5 ((x4.1 + 1), r31))
          else none)
        else none)
      ) 6000 (0, x2)
    ) fun k3 =>
  if (d_i d1 23 4) ≤ 0 then
    (k3 d1)
  else
    ((fX12_tell ρ d1 (Int32.toInt64 (d_i d1 23 2))).bind fun r32 =>
    (fX12_tell ρ r32 (Int32.toInt64 (d_i r32 23 3))).bind fun r33 =>
    k3 r33)
set_option maxHeartbeats 4000000 in
set_option maxRecDepth 100000 in
theorem okX12_digest (g : Gx) (ρ : Rh) (hρ : Hr ρ) (d : Dd)  : CallR g M_X12_digest (eL ρ) [.ref 23] (full d ρ) (fX12_digest ρ d) := by
  refine CallR.intro rfl rfl (Nat.le_of_ble_eq_true rfl) (fun a ha => ⟨_, rfl⟩) ?_
  show WW g _ _ 0 [(0, .ref 23)] [] (full d ρ) 0 0 _
  unfold fX12_digest
  refine WW.aload_n (pc := 0) (j := 0) rfl dX12_digest_0 ?_
  refine WW.ldc2 (pc := 1) wd_1217 dX12_digest_1 ?_
  refine WW.spl (pc := 4) fp_X12_296_12 h3_23 (sh_23 ρ) gt_12_31 dX12_digest_4 (fun d1 => ?_)
  refine WW.aload_n (pc := 7) (j := 0) rfl dX12_digest_7 ?_
  refine WW.sgi (pc := 8) fl_X12_44_12 h3_23 (sh_23 ρ) (Or.inl gt_12_4) dX12_digest_8 ?_
  refine WW.join (pj := 32) (Lj := fun (x2 : Dd) => [(0, .ref 23)]) (sj := fun (x2 : Dd) => []) (hj := fun (x2 : Dd) => full x2 ρ) (fun x2 => ?_) (fun k3 hk3 => ?_)
  · refine WW.iconst (pc := 32) 0 dX12_digest_32 rfl ?_
    refine WW.istore_n (pc := 33) [(1, .int 0), (0, .ref 23)] rfl (by decide) dX12_digest_33 ?_
    refine WW.sub [1, 0] rfl ?_
    refine WW.loop (pc := 34) (Lj := fun (x4 : Int32 × Dd) => [(0, .ref 23), (1, .int x4.1)]) (hj := fun (x4 : Int32 × Dd) => full x4.2 ρ) (fun self5 hself5 x4 => ?_) 6000 (0, x2)
    refine WW.iload_n (pc := 34) (j := 1) rfl dX12_digest_34 ?_
    refine WW.aload_n (pc := 35) (j := 0) rfl dX12_digest_35 ?_
    refine WW.sgi (pc := 36) fl_X12_44_12 h3_23 (sh_23 ρ) (Or.inl gt_12_4) dX12_digest_36 ?_
    refine WW.icmp_ge (pc := 39) 70 dX12_digest_39 (by decide) (fun _ => ?_) (fun _ => ?_)
    · refine WW.iconst (pc := 70) 0 dX12_digest_70 rfl ?_
      refine WW.istore_n (pc := 71) [(1, .int 0), (0, .ref 23)] rfl (by decide) dX12_digest_71 ?_
      refine WW.sub [1, 0] rfl ?_
      refine WW.loop (pc := 72) (Lj := fun (x6 : Int32 × Dd) => [(0, .ref 23), (1, .int x6.1)]) (hj := fun (x6 : Int32 × Dd) => full x6.2 ρ) (fun self7 hself7 x6 => ?_) 6000 (0, x4.2)
      refine WW.iload_n (pc := 72) (j := 1) rfl dX12_digest_72 ?_
      refine WW.aload_n (pc := 73) (j := 0) rfl dX12_digest_73 ?_
      refine WW.sgi (pc := 74) fl_X12_114_12 h3_23 (sh_23 ρ) (Or.inl gt_12_15) dX12_digest_74 ?_
      refine WW.icmp_ge (pc := 77) 108 dX12_digest_77 (by decide) (fun _ => ?_) (fun _ => ?_)
      · refine WW.iconst (pc := 108) 0 dX12_digest_108 rfl ?_
        refine WW.istore_n (pc := 109) [(1, .int 0), (0, .ref 23)] rfl (by decide) dX12_digest_109 ?_
        refine WW.sub [1, 0] rfl ?_
        refine WW.loop (pc := 110) (Lj := fun (x8 : Int32 × Dd) => [(0, .ref 23), (1, .int x8.1)]) (hj := fun (x8 : Int32 × Dd) => full x8.2 ρ) (fun self9 hself9 x8 => ?_) 6000 (0, x6.2)
        refine WW.iload_n (pc := 110) (j := 1) rfl dX12_digest_110 ?_
        refine WW.aload_n (pc := 111) (j := 0) rfl dX12_digest_111 ?_
        refine WW.sgi (pc := 112) fl_X12_124_12 h3_23 (sh_23 ρ) (Or.inl gt_12_18) dX12_digest_112 ?_
        refine WW.icmp_ge (pc := 115) 129 dX12_digest_115 (by decide) (fun _ => ?_) (fun _ => ?_)
        · refine WW.aload_n (pc := 129) (j := 0) rfl dX12_digest_129 ?_
          refine WW.sgi (pc := 130) fl_X12_44_12 h3_23 (sh_23 ρ) (Or.inl gt_12_4) dX12_digest_130 ?_
          refine WW.join (pj := 170) (Lj := fun (x10 : Dd) => [(0, .ref 23)]) (sj := fun (x10 : Dd) => []) (hj := fun (x10 : Dd) => full x10 ρ) (fun x10 => ?_) (fun k11 hk11 => ?_)
          · refine WW.iconst (pc := 170) 0 dX12_digest_170 rfl ?_
            refine WW.istore_n (pc := 171) [(1, .int 0), (0, .ref 23)] rfl (by decide) dX12_digest_171 ?_
            refine WW.sub [1, 0] rfl ?_
            refine WW.loop (pc := 172) (Lj := fun (x12 : Int32 × Dd) => [(0, .ref 23), (1, .int x12.1)]) (hj := fun (x12 : Int32 × Dd) => full x12.2 ρ) (fun self13 hself13 x12 => ?_) 6000 (0, x10)
            refine WW.iload_n (pc := 172) (j := 1) rfl dX12_digest_172 ?_
            refine WW.aload_n (pc := 173) (j := 0) rfl dX12_digest_173 ?_
            refine WW.sgi (pc := 174) fl_X12_50_12 h3_23 (sh_23 ρ) (Or.inl gt_12_1) dX12_digest_174 ?_
            refine WW.icmp_ge (pc := 177) 197 dX12_digest_177 (by decide) (fun _ => ?_) (fun _ => ?_)
            · refine WW.iconst (pc := 197) 0 dX12_digest_197 rfl ?_
              refine WW.istore_n (pc := 198) [(1, .int 0), (0, .ref 23)] rfl (by decide) dX12_digest_198 ?_
              refine WW.sub [1, 0] rfl ?_
              refine WW.loop (pc := 199) (Lj := fun (x14 : Int32 × Dd) => [(0, .ref 23), (1, .int x14.1)]) (hj := fun (x14 : Int32 × Dd) => full x14.2 ρ) (fun self15 hself15 x14 => ?_) 6000 (0, x12.2)
              refine WW.iload_n (pc := 199) (j := 1) rfl dX12_digest_199 ?_
              refine WW.iconst (pc := 200) 5 dX12_digest_200 rfl ?_
              refine WW.icmp_ge (pc := 201) 220 dX12_digest_201 (by decide) (fun _ => ?_) (fun _ => ?_)
              · refine WW.aload_n (pc := 220) (j := 0) rfl dX12_digest_220 ?_
                refine WW.sgl (pc := 221) fl_X12_296_12 h3_23 (sh_23 ρ) gt_12_31 dX12_digest_221 ?_
                exact WW.ret rfl rfl (show RetI M_X12_digest 224 from dX12_digest_224) ⟨Nat.le_refl _, Nat.le_refl _⟩ rfl
              · refine WW.aload_n (pc := 204) (j := 0) rfl dX12_digest_204 ?_
                refine WW.aload_n (pc := 205) (j := 0) rfl dX12_digest_205 ?_
                refine WW.iload_n (pc := 206) (j := 1) rfl dX12_digest_206 ?_
                refine WW.callV (pc := 207) (As := [.int x14.1]) (st := [.ref 23]) lk_X12_310 (okX12_count g ρ hρ x14.2 x14.1) h3_23 (sh_23 ρ) ⟨_, _, clk12⟩ rfl (Nat.le_of_ble_eq_true rfl) ⟨Nat.le_of_ble_eq_true rfl, Nat.le_of_ble_eq_true rfl, Nat.le_of_ble_eq_true rfl, Nat.le_of_ble_eq_true rfl⟩ dX12_digest_207 rfl (fun r16 hr16 => ?_)
                show WW _ _ _ 210 _ [.int r16, .ref 23] (full x14.2 ρ) 0 0 _
                refine WW.i2l (pc := 210) dX12_digest_210 ?_
                refine WW.callV (pc := 211) (As := [.long (Int32.toInt64 r16)]) (st := []) lk_X12_299 (okX12_tell g ρ hρ x14.2 (Int32.toInt64 r16)) h3_23 (sh_23 ρ) ⟨_, _, clk12⟩ rfl (Nat.le_of_ble_eq_true rfl) ⟨Nat.le_of_ble_eq_true rfl, Nat.le_of_ble_eq_true rfl, Nat.le_of_ble_eq_true rfl, Nat.le_of_ble_eq_true rfl⟩ dX12_digest_211 rfl (fun r17 hr17 => ?_)
                show WW _ _ _ 214 _ [] (full r17 ρ) 0 0 _
                refine WW.iinc (pc := 214) (j := 1) (x14.1 + 1) [(1, .int (x14.1 + 1)), (0, .ref 23)] rfl rfl rfl (by decide) dX12_digest_214 ?_
                refine WW.goto (pc := 217) 199 dX12_digest_217 (by decide) ?_
                refine WW.sub [1, 0] rfl ?_
                exact hself15 ((x14.1 + 1), r17)
            · refine WW.aload_n (pc := 180) (j := 0) rfl dX12_digest_180 ?_
              refine WW.aload_n (pc := 181) (j := 0) rfl dX12_digest_181 ?_
              refine WW.sgr (pc := 182) fl_X12_7_12 h3_23 (sh_23 ρ) (Or.inr ⟨_, gt_12_0⟩) (hr_23_0 ρ) dX12_digest_182 ?_
              refine WW.iload_n (pc := 185) (j := 1) rfl dX12_digest_185 ?_
              refine WW.siald (pc := 186) (one_le h3_24) (sh_24 ρ) dX12_digest_186 ?_
              refine WW.i2l (pc := 187) dX12_digest_187 ?_
              refine WW.callV (pc := 188) (As := [.long (Int32.toInt64 (d_i x12.2 24 (ix x12.1)))]) (st := []) lk_X12_299 (okX12_tell g ρ hρ x12.2 (Int32.toInt64 (d_i x12.2 24 (ix x12.1)))) h3_23 (sh_23 ρ) ⟨_, _, clk12⟩ rfl (Nat.le_of_ble_eq_true rfl) ⟨Nat.le_of_ble_eq_true rfl, Nat.le_of_ble_eq_true rfl, Nat.le_of_ble_eq_true rfl, Nat.le_of_ble_eq_true rfl⟩ dX12_digest_188 rfl (fun r18 hr18 => ?_)
              show WW _ _ _ 191 _ [] (full r18 ρ) 0 0 _
              refine WW.iinc (pc := 191) (j := 1) (x12.1 + 1) [(1, .int (x12.1 + 1)), (0, .ref 23)] rfl rfl rfl (by decide) dX12_digest_191 ?_
              refine WW.goto (pc := 194) 172 dX12_digest_194 (by decide) ?_
              refine WW.sub [1, 0] rfl ?_
              exact hself13 ((x12.1 + 1), r18)
          · refine WW.if_le (pc := 133) 170 dX12_digest_133 (by decide) (fun _ => ?_) (fun _ => ?_)
            · refine WW.sub [0] rfl ?_
              exact hk11 x8.2
            · refine WW.aload_n (pc := 136) (j := 0) rfl dX12_digest_136 ?_
              refine WW.aload_n (pc := 137) (j := 0) rfl dX12_digest_137 ?_
              refine WW.callV (pc := 138) (As := []) (st := [.ref 23]) lk_X12_267 (okX12_boundOf g ρ hρ x8.2 ) h3_23 (sh_23 ρ) ⟨_, _, clk12⟩ rfl (Nat.le_of_ble_eq_true rfl) ⟨Nat.le_of_ble_eq_true rfl, Nat.le_of_ble_eq_true rfl, Nat.le_of_ble_eq_true rfl, Nat.le_of_ble_eq_true rfl⟩ dX12_digest_138 rfl (fun r19 hr19 => ?_)
              show WW _ _ _ 141 _ [.long r19, .ref 23] (full x8.2 ρ) 0 0 _
              refine WW.aload_n (pc := 141) (j := 0) rfl dX12_digest_141 ?_
              refine WW.callV (pc := 142) (As := []) (st := [.long r19, .ref 23]) lk_X12_171 (okX12_allWeights g ρ hρ x8.2 ) h3_23 (sh_23 ρ) ⟨_, _, clk12⟩ rfl (Nat.le_of_ble_eq_true rfl) ⟨Nat.le_of_ble_eq_true rfl, Nat.le_of_ble_eq_true rfl, Nat.le_of_ble_eq_true rfl, Nat.le_of_ble_eq_true rfl⟩ dX12_digest_142 rfl (fun r20 hr20 => ?_)
              show WW _ _ _ 145 _ [.int r20, .long r19, .ref 23] (full x8.2 ρ) 0 0 _
              refine WW.i2l (pc := 145) dX12_digest_145 ?_
              refine WW.iconst (pc := 146) 0 dX12_digest_146 rfl ?_
              refine WW.callS (pc := 147) (As := [.long r19, .long (Int32.toInt64 r20), .int 0]) (st := [.ref 23]) lk_X12_174 (okX12_term g ρ hρ x8.2 r19 (Int32.toInt64 r20) 0) rfl (Nat.le_of_ble_eq_true rfl) ⟨Nat.le_of_ble_eq_true rfl, Nat.le_of_ble_eq_true rfl, Nat.le_of_ble_eq_true rfl, Nat.le_of_ble_eq_true rfl⟩ dX12_digest_147 rfl (fun r21 hr21 => ?_)
              show WW _ _ _ 150 _ [.long r21, .ref 23] (full x8.2 ρ) 0 0 _
              refine WW.callV (pc := 150) (As := [.long r21]) (st := []) lk_X12_299 (okX12_tell g ρ hρ x8.2 r21) h3_23 (sh_23 ρ) ⟨_, _, clk12⟩ rfl (Nat.le_of_ble_eq_true rfl) ⟨Nat.le_of_ble_eq_true rfl, Nat.le_of_ble_eq_true rfl, Nat.le_of_ble_eq_true rfl, Nat.le_of_ble_eq_true rfl⟩ dX12_digest_150 rfl (fun r22 hr22 => ?_)
              show WW _ _ _ 153 _ [] (full r22 ρ) 0 0 _
              refine WW.aload_n (pc := 153) (j := 0) rfl dX12_digest_153 ?_
              refine WW.aload_n (pc := 154) (j := 0) rfl dX12_digest_154 ?_
              refine WW.callV (pc := 155) (As := []) (st := [.ref 23]) lk_X12_267 (okX12_boundOf g ρ hρ r22 ) h3_23 (sh_23 ρ) ⟨_, _, clk12⟩ rfl (Nat.le_of_ble_eq_true rfl) ⟨Nat.le_of_ble_eq_true rfl, Nat.le_of_ble_eq_true rfl, Nat.le_of_ble_eq_true rfl, Nat.le_of_ble_eq_true rfl⟩ dX12_digest_155 rfl (fun r23 hr23 => ?_)
              show WW _ _ _ 158 _ [.long r23, .ref 23] (full r22 ρ) 0 0 _
              refine WW.aload_n (pc := 158) (j := 0) rfl dX12_digest_158 ?_
              refine WW.callV (pc := 159) (As := []) (st := [.long r23, .ref 23]) lk_X12_171 (okX12_allWeights g ρ hρ r22 ) h3_23 (sh_23 ρ) ⟨_, _, clk12⟩ rfl (Nat.le_of_ble_eq_true rfl) ⟨Nat.le_of_ble_eq_true rfl, Nat.le_of_ble_eq_true rfl, Nat.le_of_ble_eq_true rfl, Nat.le_of_ble_eq_true rfl⟩ dX12_digest_159 rfl (fun r24 hr24 => ?_)
              show WW _ _ _ 162 _ [.int r24, .long r23, .ref 23] (full r22 ρ) 0 0 _
              refine WW.i2l (pc := 162) dX12_digest_162 ?_
              refine WW.iconst (pc := 163) 1 dX12_digest_163 rfl ?_
              refine WW.callS (pc := 164) (As := [.long r23, .long (Int32.toInt64 r24), .int 1]) (st := [.ref 23]) lk_X12_174 (okX12_term g ρ hρ r22 r23 (Int32.toInt64 r24) 1) rfl (Nat.le_of_ble_eq_true rfl) ⟨Nat.le_of_ble_eq_true rfl, Nat.le_of_ble_eq_true rfl, Nat.le_of_ble_eq_true rfl, Nat.le_of_ble_eq_true rfl⟩ dX12_digest_164 rfl (fun r25 hr25 => ?_)
              show WW _ _ _ 167 _ [.long r25, .ref 23] (full r22 ρ) 0 0 _
              refine WW.callV (pc := 167) (As := [.long r25]) (st := []) lk_X12_299 (okX12_tell g ρ hρ r22 r25) h3_23 (sh_23 ρ) ⟨_, _, clk12⟩ rfl (Nat.le_of_ble_eq_true rfl) ⟨Nat.le_of_ble_eq_true rfl, Nat.le_of_ble_eq_true rfl, Nat.le_of_ble_eq_true rfl, Nat.le_of_ble_eq_true rfl⟩ dX12_digest_167 rfl (fun r26 hr26 => ?_)
              show WW _ _ _ 170 _ [] (full r26 ρ) 0 0 _
              refine WW.sub [0] rfl ?_
              exact hk11 r26
        · refine WW.aload_n (pc := 118) (j := 0) rfl dX12_digest_118 ?_
          refine WW.iload_n (pc := 119) (j := 1) rfl dX12_digest_119 ?_
          refine WW.callV (pc := 120) (As := [.int x8.1]) (st := []) lk_X12_307 (okX12_tellNews g ρ hρ x8.2 x8.1) h3_23 (sh_23 ρ) ⟨_, _, clk12⟩ rfl (Nat.le_of_ble_eq_true rfl) ⟨Nat.le_of_ble_eq_true rfl, Nat.le_of_ble_eq_true rfl, Nat.le_of_ble_eq_true rfl, Nat.le_of_ble_eq_true rfl⟩ dX12_digest_120 rfl (fun r27 hr27 => ?_)
          show WW _ _ _ 123 _ [] (full r27 ρ) 0 0 _
          refine WW.iinc (pc := 123) (j := 1) (x8.1 + 1) [(1, .int (x8.1 + 1)), (0, .ref 23)] rfl rfl rfl (by decide) dX12_digest_123 ?_
          refine WW.goto (pc := 126) 110 dX12_digest_126 (by decide) ?_
          refine WW.sub [1, 0] rfl ?_
          exact hself9 ((x8.1 + 1), r27)
      · refine WW.aload_n (pc := 80) (j := 0) rfl dX12_digest_80 ?_
        refine WW.aload_n (pc := 81) (j := 0) rfl dX12_digest_81 ?_
        refine WW.sgr (pc := 82) fl_X12_25_12 h3_23 (sh_23 ρ) (Or.inr ⟨_, gt_12_16⟩) (hr_23_16 ρ) dX12_digest_82 ?_
        refine WW.iload_n (pc := 85) (j := 1) rfl dX12_digest_85 ?_
        refine WW.siald (pc := 86) (one_le h3_29) (sh_29 ρ) dX12_digest_86 ?_
        refine WW.i2l (pc := 87) dX12_digest_87 ?_
        refine WW.callV (pc := 88) (As := [.long (Int32.toInt64 (d_i x6.2 29 (ix x6.1)))]) (st := []) lk_X12_299 (okX12_tell g ρ hρ x6.2 (Int32.toInt64 (d_i x6.2 29 (ix x6.1)))) h3_23 (sh_23 ρ) ⟨_, _, clk12⟩ rfl (Nat.le_of_ble_eq_true rfl) ⟨Nat.le_of_ble_eq_true rfl, Nat.le_of_ble_eq_true rfl, Nat.le_of_ble_eq_true rfl, Nat.le_of_ble_eq_true rfl⟩ dX12_digest_88 rfl (fun r28 hr28 => ?_)
        show WW _ _ _ 91 _ [] (full r28 ρ) 0 0 _
        refine WW.aload_n (pc := 91) (j := 0) rfl dX12_digest_91 ?_
        refine WW.aload_n (pc := 92) (j := 0) rfl dX12_digest_92 ?_
        refine WW.sgr (pc := 93) fl_X12_28_12 h3_23 (sh_23 ρ) (Or.inr ⟨_, gt_12_17⟩) (hr_23_17 ρ) dX12_digest_93 ?_
        refine WW.iload_n (pc := 96) (j := 1) rfl dX12_digest_96 ?_
        refine WW.siald (pc := 97) (one_le h3_30) (sh_30 ρ) dX12_digest_97 ?_
        refine WW.i2l (pc := 98) dX12_digest_98 ?_
        refine WW.callV (pc := 99) (As := [.long (Int32.toInt64 (d_i r28 30 (ix x6.1)))]) (st := []) lk_X12_299 (okX12_tell g ρ hρ r28 (Int32.toInt64 (d_i r28 30 (ix x6.1)))) h3_23 (sh_23 ρ) ⟨_, _, clk12⟩ rfl (Nat.le_of_ble_eq_true rfl) ⟨Nat.le_of_ble_eq_true rfl, Nat.le_of_ble_eq_true rfl, Nat.le_of_ble_eq_true rfl, Nat.le_of_ble_eq_true rfl⟩ dX12_digest_99 rfl (fun r29 hr29 => ?_)
        show WW _ _ _ 102 _ [] (full r29 ρ) 0 0 _
        refine WW.iinc (pc := 102) (j := 1) (x6.1 + 1) [(1, .int (x6.1 + 1)), (0, .ref 23)] rfl rfl rfl (by decide) dX12_digest_102 ?_
        refine WW.goto (pc := 105) 72 dX12_digest_105 (by decide) ?_
        refine WW.sub [1, 0] rfl ?_
        exact hself7 ((x6.1 + 1), r29)
    · refine WW.aload_n (pc := 42) (j := 0) rfl dX12_digest_42 ?_
      refine WW.aload_n (pc := 43) (j := 0) rfl dX12_digest_43 ?_
      refine WW.sgr (pc := 44) fl_X12_13_12 h3_23 (sh_23 ρ) (Or.inr ⟨_, gt_12_5⟩) (hr_23_5 ρ) dX12_digest_44 ?_
      refine WW.iload_n (pc := 47) (j := 1) rfl dX12_digest_47 ?_
      refine WW.siald (pc := 48) (one_le h3_25) (sh_25 ρ) dX12_digest_48 ?_
      refine WW.i2l (pc := 49) dX12_digest_49 ?_
      refine WW.callV (pc := 50) (As := [.long (Int32.toInt64 (d_i x4.2 25 (ix x4.1)))]) (st := []) lk_X12_299 (okX12_tell g ρ hρ x4.2 (Int32.toInt64 (d_i x4.2 25 (ix x4.1)))) h3_23 (sh_23 ρ) ⟨_, _, clk12⟩ rfl (Nat.le_of_ble_eq_true rfl) ⟨Nat.le_of_ble_eq_true rfl, Nat.le_of_ble_eq_true rfl, Nat.le_of_ble_eq_true rfl, Nat.le_of_ble_eq_true rfl⟩ dX12_digest_50 rfl (fun r30 hr30 => ?_)
      show WW _ _ _ 53 _ [] (full r30 ρ) 0 0 _
      refine WW.aload_n (pc := 53) (j := 0) rfl dX12_digest_53 ?_
      refine WW.aload_n (pc := 54) (j := 0) rfl dX12_digest_54 ?_
      refine WW.sgr (pc := 55) fl_X12_16_12 h3_23 (sh_23 ρ) (Or.inr ⟨_, gt_12_6⟩) (hr_23_6 ρ) dX12_digest_55 ?_
      refine WW.iload_n (pc := 58) (j := 1) rfl dX12_digest_58 ?_
      refine WW.siald (pc := 59) (one_le h3_26) (sh_26 ρ) dX12_digest_59 ?_
      refine WW.i2l (pc := 60) dX12_digest_60 ?_
      refine WW.callV (pc := 61) (As := [.long (Int32.toInt64 (d_i r30 26 (ix x4.1)))]) (st := []) lk_X12_299 (okX12_tell g ρ hρ r30 (Int32.toInt64 (d_i r30 26 (ix x4.1)))) h3_23 (sh_23 ρ) ⟨_, _, clk12⟩ rfl (Nat.le_of_ble_eq_true rfl) ⟨Nat.le_of_ble_eq_true rfl, Nat.le_of_ble_eq_true rfl, Nat.le_of_ble_eq_true rfl, Nat.le_of_ble_eq_true rfl⟩ dX12_digest_61 rfl (fun r31 hr31 => ?_)
      show WW _ _ _ 64 _ [] (full r31 ρ) 0 0 _
      refine WW.iinc (pc := 64) (j := 1) (x4.1 + 1) [(1, .int (x4.1 + 1)), (0, .ref 23)] rfl rfl rfl (by decide) dX12_digest_64 ?_
      refine WW.goto (pc := 67) 34 dX12_digest_67 (by decide) ?_
      refine WW.sub [1, 0] rfl ?_
      exact hself5 ((x4.1 + 1), r31)
  · refine WW.if_le (pc := 11) 32 dX12_digest_11 (by decide) (fun _ => ?_) (fun _ => ?_)
    · exact hk3 d1
    · refine WW.aload_n (pc := 14) (j := 0) rfl dX12_digest_14 ?_
      refine WW.aload_n (pc := 15) (j := 0) rfl dX12_digest_15 ?_
      refine WW.sgi (pc := 16) fl_X12_101_12 h3_23 (sh_23 ρ) (Or.inl gt_12_2) dX12_digest_16 ?_
      refine WW.i2l (pc := 19) dX12_digest_19 ?_
      refine WW.callV (pc := 20) (As := [.long (Int32.toInt64 (d_i d1 23 2))]) (st := []) lk_X12_299 (okX12_tell g ρ hρ d1 (Int32.toInt64 (d_i d1 23 2))) h3_23 (sh_23 ρ) ⟨_, _, clk12⟩ rfl (Nat.le_of_ble_eq_true rfl) ⟨Nat.le_of_ble_eq_true rfl, Nat.le_of_ble_eq_true rfl, Nat.le_of_ble_eq_true rfl, Nat.le_of_ble_eq_true rfl⟩ dX12_digest_20 rfl (fun r32 hr32 => ?_)
      show WW _ _ _ 23 _ [] (full r32 ρ) 0 0 _
      refine WW.aload_n (pc := 23) (j := 0) rfl dX12_digest_23 ?_
      refine WW.aload_n (pc := 24) (j := 0) rfl dX12_digest_24 ?_
      refine WW.sgi (pc := 25) fl_X12_104_12 h3_23 (sh_23 ρ) (Or.inl gt_12_3) dX12_digest_25 ?_
      refine WW.i2l (pc := 28) dX12_digest_28 ?_
      refine WW.callV (pc := 29) (As := [.long (Int32.toInt64 (d_i r32 23 3))]) (st := []) lk_X12_299 (okX12_tell g ρ hρ r32 (Int32.toInt64 (d_i r32 23 3))) h3_23 (sh_23 ρ) ⟨_, _, clk12⟩ rfl (Nat.le_of_ble_eq_true rfl) ⟨Nat.le_of_ble_eq_true rfl, Nat.le_of_ble_eq_true rfl, Nat.le_of_ble_eq_true rfl, Nat.le_of_ble_eq_true rfl⟩ dX12_digest_29 rfl (fun r33 hr33 => ?_)
      show WW _ _ _ 32 _ [] (full r33 ρ) 0 0 _
      exact hk3 r33
