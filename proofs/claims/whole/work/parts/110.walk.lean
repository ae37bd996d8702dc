def fX12_rests (ρ : Rh) (d : Dd) (a1 : Int32) (a2 : Int32) (a3 : Int32) (a4 : Int32) : Option (Int32 × Dd) :=
  (fX12_isSet ρ d a2).bind fun r1 =>
  jn (fun (x2 : Bool) =>
    (fX12_refusal ρ d a1 true x2).bind fun r4 =>
    if r4 = 0 then
      ((fX12_heardOf ρ d a1 a3).bind fun r5 =>
      if r5 = 0 then
        (some ((-1), d))
      else
        ((fX12_dealtFor ρ d a1 a2 a3 (a4 - 10)).bind fun r6 =>
        if a4 = 0 then
          (some ((d_i r6.2 23 23), r6.2))
        else
          (if a4 = 1 then
            (some (r6.1, r6.2))
          else
            (some ((d_i r6.2 23 24), r6.2)))))
    else
      (some (r4, d))
    ) fun k3 =>
  jn (fun (x7 : Unit) =>
    k3 false
    ) fun k8 =>
  if r1 = true then
    ((fX12_isSign a3).bind fun r9 =>
    if r9 = true then
      ((fX12_in (Int32.toInt64 a4) 0 1).bind fun r10 =>
      jn (fun (x11 : Unit) =>
        k3 true
        ) fun k12 =>
      if r10 = true then
        (k12 ())
      else
        ((fX12_in (Int32.toInt64 a4) 10 99).bind fun r13 =>
        if r13 = true then
          (k12 ())
        else
          (k8 ())))
    else
      (k8 ()))
  else
    (k8 ())
set_option maxHeartbeats 4000000 in
set_option maxRecDepth 100000 in
theorem okX12_rests (g : Gx) (ρ : Rh) (hρ : Hr ρ) (d : Dd) (a1 : Int32) (a2 : Int32) (a3 : Int32) (a4 : Int32) : CallR g M_X12_rests (eI ρ) [.ref 23, .int a1, .int a2, .int a3, .int a4] (full d ρ) (fX12_rests ρ d a1 a2 a3 a4) := by
  refine CallR.intro rfl rfl (Nat.le_of_ble_eq_true rfl) (fun a ha => ⟨_, rfl⟩) ?_
  show WW g _ _ 0 [(0, .ref 23), (1, .int a1), (2, .int a2), (3, .int a3), (4, .int a4)] [] (full d ρ) 0 0 _
  unfold fX12_rests
  refine WW.aload_n (pc := 0) (j := 0) rfl dX12_rests_0 ?_
  refine WW.iload_n (pc := 1) (j := 1) rfl dX12_rests_1 ?_
  refine WW.iconst (pc := 2) 1 dX12_rests_2 rfl ?_
  refine WW.aload_n (pc := 3) (j := 0) rfl dX12_rests_3 ?_
  refine WW.iload_n (pc := 4) (j := 2) rfl dX12_rests_4 ?_
  refine WW.callV (pc := 5) (As := [.int a2]) (st := [.int 1, .int a1, .ref 23]) lk_X12_227 (okX12_isSet g ρ hρ d a2) h3_23 (sh_23 ρ) ⟨_, _, clk12⟩ rfl (Nat.le_of_ble_eq_true rfl) ⟨Nat.le_of_ble_eq_true rfl, Nat.le_of_ble_eq_true rfl, Nat.le_of_ble_eq_true rfl, Nat.le_of_ble_eq_true rfl⟩ dX12_rests_5 rfl (fun r1 hr1 => ?_)
  show WW _ _ _ 8 _ [.int (b2i r1), .int 1, .int a1, .ref 23] (full d ρ) 0 0 _
  refine WW.join (pj := 49) (Lj := fun (x2 : Bool) => [(0, .ref 23), (1, .int a1), (2, .int a2), (3, .int a3), (4, .int a4)]) (sj := fun (x2 : Bool) => [.int (b2i x2), .int 1, .int a1, .ref 23]) (hj := fun (x2 : Bool) => full d ρ) (fun x2 => ?_) (fun k3 hk3 => ?_)
  · refine WW.callV (pc := 49) (As := [.int a1, .int (b2i true), .int (b2i x2)]) (st := []) lk_X12_160 (okX12_refusal g ρ hρ d a1 true x2) h3_23 (sh_23 ρ) ⟨_, _, clk12⟩ rfl (Nat.le_of_ble_eq_true rfl) ⟨Nat.le_of_ble_eq_true rfl, Nat.le_of_ble_eq_true rfl, Nat.le_of_ble_eq_true rfl, Nat.le_of_ble_eq_true rfl⟩ dX12_rests_49 rfl (fun r4 hr4 => ?_)
    show WW _ _ _ 52 _ [.int r4] (full d ρ) 0 0 _
    refine WW.istore (pc := 52) [(5, .int r4), (0, .ref 23), (1, .int a1), (2, .int a2), (3, .int a3), (4, .int a4)] rfl (by decide) dX12_rests_52 ?_
    refine WW.iload (pc := 54) (j := 0) rfl dX12_rests_54 ?_
    refine WW.if_eq (pc := 56) 62 dX12_rests_56 (by decide) (fun _ => ?_) (fun _ => ?_)
    · refine WW.aload_n (pc := 62) (j := 1) rfl dX12_rests_62 ?_
      refine WW.iload_n (pc := 63) (j := 2) rfl dX12_rests_63 ?_
      refine WW.iload_n (pc := 64) (j := 4) rfl dX12_rests_64 ?_
      refine WW.callV (pc := 65) (As := [.int a1, .int a3]) (st := []) lk_X12_168 (okX12_heardOf g ρ hρ d a1 a3) h3_23 (sh_23 ρ) ⟨_, _, clk12⟩ rfl (Nat.le_of_ble_eq_true rfl) ⟨Nat.le_of_ble_eq_true rfl, Nat.le_of_ble_eq_true rfl, Nat.le_of_ble_eq_true rfl, Nat.le_of_ble_eq_true rfl⟩ dX12_rests_65 rfl (fun r5 hr5 => ?_)
      show WW _ _ _ 68 _ [.int r5] (full d ρ) 0 0 _
      refine WW.if_ne (pc := 68) 73 dX12_rests_68 (by decide) (fun _ => ?_) (fun _ => ?_)
      · refine WW.iconst (pc := 71) (-1) dX12_rests_71 rfl ?_
        exact WW.ret rfl rfl (show RetI M_X12_rests 72 from dX12_rests_72) ⟨Nat.le_refl _, Nat.le_refl _⟩ rfl
      · refine WW.aload_n (pc := 73) (j := 1) rfl dX12_rests_73 ?_
        refine WW.iload_n (pc := 74) (j := 2) rfl dX12_rests_74 ?_
        refine WW.iload_n (pc := 75) (j := 3) rfl dX12_rests_75 ?_
        refine WW.iload_n (pc := 76) (j := 4) rfl dX12_rests_76 ?_
        refine WW.iload (pc := 77) (j := 5) rfl dX12_rests_77 ?_
        refine WW.bipush (pc := 79) 10 dX12_rests_79 rfl ?_
        refine WW.isub (pc := 81) dX12_rests_81 ?_
        refine WW.callV (pc := 82) (As := [.int a1, .int a2, .int a3, .int (a4 - 10)]) (st := []) lk_X12_232 (okX12_dealtFor g ρ hρ d a1 a2 a3 (a4 - 10)) h3_23 (sh_23 ρ) ⟨_, _, clk12⟩ rfl (Nat.le_of_ble_eq_true rfl) ⟨Nat.le_of_ble_eq_true rfl, Nat.le_of_ble_eq_true rfl, Nat.le_of_ble_eq_true rfl, Nat.le_of_ble_eq_true rfl⟩ dX12_rests_82 rfl (fun r6 hr6 => ?_)
        show WW _ _ _ 85 _ [.int r6.1] (full r6.2 ρ) 0 0 _
        refine WW.istore (pc := 85) [(6, .int r6.1), (5, .int r4), (0, .ref 23), (1, .int a1), (2, .int a2), (3, .int a3), (4, .int a4)] rfl (by decide) dX12_rests_85 ?_
        refine WW.iload (pc := 87) (j := 6) rfl dX12_rests_87 ?_
        refine WW.if_ne (pc := 89) 99 dX12_rests_89 (by decide) (fun _ => ?_) (fun _ => ?_)
        · refine WW.aload_n (pc := 92) (j := 2) rfl dX12_rests_92 ?_
          refine WW.sgi (pc := 93) fl_X12_209_12 h3_23 (sh_23 ρ) (Or.inl gt_12_23) dX12_rests_93 ?_
          refine WW.goto (pc := 96) 114 dX12_rests_96 (by decide) ?_
          exact WW.ret rfl rfl (show RetI M_X12_rests 114 from dX12_rests_114) ⟨Nat.le_refl _, Nat.le_refl _⟩ rfl
        · refine WW.iload (pc := 99) (j := 6) rfl dX12_rests_99 ?_
          refine WW.iconst (pc := 101) 1 dX12_rests_101 rfl ?_
          refine WW.icmp_ne (pc := 102) 110 dX12_rests_102 (by decide) (fun _ => ?_) (fun _ => ?_)
          · refine WW.iload (pc := 105) (j := 0) rfl dX12_rests_105 ?_
            refine WW.goto (pc := 107) 114 dX12_rests_107 (by decide) ?_
            exact WW.ret rfl rfl (show RetI M_X12_rests 114 from dX12_rests_114) ⟨Nat.le_refl _, Nat.le_refl _⟩ rfl
          · refine WW.aload_n (pc := 110) (j := 2) rfl dX12_rests_110 ?_
            refine WW.sgi (pc := 111) fl_X12_212_12 h3_23 (sh_23 ρ) (Or.inl gt_12_24) dX12_rests_111 ?_
            exact WW.ret rfl rfl (show RetI M_X12_rests 114 from dX12_rests_114) ⟨Nat.le_refl _, Nat.le_refl _⟩ rfl
    · refine WW.iload (pc := 59) (j := 0) rfl dX12_rests_59 ?_
      exact WW.ret rfl rfl (show RetI M_X12_rests 61 from dX12_rests_61) ⟨Nat.le_refl _, Nat.le_refl _⟩ rfl
  · refine WW.join (pj := 48) (Lj := fun (x7 : Unit) => [(0, .ref 23), (1, .int a1), (2, .int a2), (3, .int a3), (4, .int a4)]) (sj := fun (x7 : Unit) => [.int 1, .int a1, .ref 23]) (hj := fun (x7 : Unit) => full d ρ) (fun x7 => ?_) (fun k8 hk8 => ?_)
    · refine WW.iconst (pc := 48) 0 dX12_rests_48 rfl ?_
      exact hk3 false
    · refine WW.if_eqB (pc := 8) 48 dX12_rests_8 (by decide) (fun _ => ?_) (fun _ => ?_)
      · refine WW.iload_n (pc := 11) (j := 3) rfl dX12_rests_11 ?_
        refine WW.callS (pc := 12) (As := [.int a3]) (st := [.int 1, .int a1, .ref 23]) lk_X12_154 (okX12_isSign g ρ hρ d a3) rfl (Nat.le_of_ble_eq_true rfl) ⟨Nat.le_of_ble_eq_true rfl, Nat.le_of_ble_eq_true rfl, Nat.le_of_ble_eq_true rfl, Nat.le_of_ble_eq_true rfl⟩ dX12_rests_12 rfl (fun r9 hr9 => ?_)
        show WW _ _ _ 15 _ [.int (b2i r9), .int 1, .int a1, .ref 23] (full d ρ) 0 0 _
        refine WW.if_eqB (pc := 15) 48 dX12_rests_15 (by decide) (fun _ => ?_) (fun _ => ?_)
        · refine WW.iload (pc := 18) (j := 4) rfl dX12_rests_18 ?_
          refine WW.i2l (pc := 20) dX12_rests_20 ?_
          refine WW.lconst (pc := 21) 0 dX12_rests_21 rfl ?_
          refine WW.lconst (pc := 22) 1 dX12_rests_22 rfl ?_
          refine WW.callS (pc := 23) (As := [.long (Int32.toInt64 a4), .long 0, .long 1]) (st := [.int 1, .int a1, .ref 23]) lk_X12_73 (okX12_in g ρ hρ d (Int32.toInt64 a4) 0 1) rfl (Nat.le_of_ble_eq_true rfl) ⟨Nat.le_of_ble_eq_true rfl, Nat.le_of_ble_eq_true rfl, Nat.le_of_ble_eq_true rfl, Nat.le_of_ble_eq_true rfl⟩ dX12_rests_23 rfl (fun r10 hr10 => ?_)
          show WW _ _ _ 26 _ [.int (b2i r10), .int 1, .int a1, .ref 23] (full d ρ) 0 0 _
          refine WW.join (pj := 44) (Lj := fun (x11 : Unit) => [(0, .ref 23), (1, .int a1), (2, .int a2), (3, .int a3), (4, .int a4)]) (sj := fun (x11 : Unit) => [.int 1, .int a1, .ref 23]) (hj := fun (x11 : Unit) => full d ρ) (fun x11 => ?_) (fun k12 hk12 => ?_)
          · refine WW.iconst (pc := 44) 1 dX12_rests_44 rfl ?_
            refine WW.goto (pc := 45) 49 dX12_rests_45 (by decide) ?_
            exact hk3 true
          · refine WW.if_neB (pc := 26) 44 dX12_rests_26 (by decide) (fun _ => ?_) (fun _ => ?_)
            · exact hk12 ()
            · refine WW.iload (pc := 29) (j := 4) rfl dX12_rests_29 ?_
              refine WW.i2l (pc := 31) dX12_rests_31 ?_
              refine WW.ldc2 (pc := 32) wd_1065 dX12_rests_32 ?_
              refine WW.ldc2 (pc := 35) wd_975 dX12_rests_35 ?_
              refine WW.callS (pc := 38) (As := [.long (Int32.toInt64 a4), .long 10, .long 99]) (st := [.int 1, .int a1, .ref 23]) lk_X12_73 (okX12_in g ρ hρ d (Int32.toInt64 a4) 10 99) rfl (Nat.le_of_ble_eq_true rfl) ⟨Nat.le_of_ble_eq_true rfl, Nat.le_of_ble_eq_true rfl, Nat.le_of_ble_eq_true rfl, Nat.le_of_ble_eq_true rfl⟩ dX12_rests_38 rfl (fun r13 hr13 => ?_)
              show WW _ _ _ 41 _ [.int (b2i r13), .int 1, .int a1, .ref 23] (full d ρ) 0 0 _
              refine WW.if_eqB (pc := 41) 48 dX12_rests_41 (by decide) (fun _ => ?_) (fun _ => ?_)
              · exact hk12 ()
              · exact hk8 ()
        · exact hk8 ()
      · exact hk8 ()
def fX12_isDealt (ρ : Rh) (d : Dd) (a1 : Int32) : Option Bool :=
  (fX12_dealings ρ d).bind fun r1 =>
  (fX12_in (Int32.toInt64 a1) 0 (Int32.toInt64 (r1 - 1))).bind fun r2 =>
  if r2 = true then
    ((fX12_isOf ρ d a1 ((jshl 1 (d_i d 23 15)) - 1)).bind fun r3 =>
    if r3 = true then
      (some true)
    else
      (some false))
  else
    (some false)
set_option maxHeartbeats 4000000 in
set_option maxRecDepth 100000 in
theorem okX12_isDealt (g : Gx) (ρ : Rh) (hρ : Hr ρ) (d : Dd) (a1 : Int32) : CallR g M_X12_isDealt (eZp ρ d) [.ref 23, .int a1] (full d ρ) (fX12_isDealt ρ d a1) := by
  refine CallR.intro rfl rfl (Nat.le_of_ble_eq_true rfl) (fun a ha => ⟨_, rfl⟩) ?_
  show WW g _ _ 0 [(0, .ref 23), (1, .int a1)] [] (full d ρ) 0 0 _
  unfold fX12_isDealt
  refine WW.iload_n (pc := 0) (j := 1) rfl dX12_isDealt_0 ?_
  refine WW.i2l (pc := 1) dX12_isDealt_1 ?_
  refine WW.lconst (pc := 2) 0 dX12_isDealt_2 rfl ?_
  refine WW.aload_n (pc := 3) (j := 0) rfl dX12_isDealt_3 ?_
  refine WW.callV (pc := 4) (As := []) (st := [.long 0, .long (Int32.toInt64 a1)]) lk_X12_215 (okX12_dealings g ρ hρ d ) h3_23 (sh_23 ρ) ⟨_, _, clk12⟩ rfl (Nat.le_of_ble_eq_true rfl) ⟨Nat.le_of_ble_eq_true rfl, Nat.le_of_ble_eq_true rfl, Nat.le_of_ble_eq_true rfl, Nat.le_of_ble_eq_true rfl⟩ dX12_isDealt_4 rfl (fun r1 hr1 => ?_)
  show WW _ _ _ 7 _ [.int r1, .long 0, .long (Int32.toInt64 a1)] (full d ρ) 0 0 _
  refine WW.iconst (pc := 7) 1 dX12_isDealt_7 rfl ?_
  refine WW.isub (pc := 8) dX12_isDealt_8 ?_
  refine WW.i2l (pc := 9) dX12_isDealt_9 ?_
  refine WW.callS (pc := 10) (As := [.long (Int32.toInt64 a1), .long 0, .long (Int32.toInt64 (r1 - 1))]) (st := []) lk_X12_73 (okX12_in g ρ hρ d (Int32.toInt64 a1) 0 (Int32.toInt64 (r1 - 1))) rfl (Nat.le_of_ble_eq_true rfl) ⟨Nat.le_of_ble_eq_true rfl, Nat.le_of_ble_eq_true rfl, Nat.le_of_ble_eq_true rfl, Nat.le_of_ble_eq_true rfl⟩ dX12_isDealt_10 rfl (fun r2 hr2 => ?_)
  show WW _ _ _ 13 _ [.int (b2i r2)] (full d ρ) 0 0 _
  refine WW.if_eqB (pc := 13) 36 dX12_isDealt_13 (by decide) (fun _ => ?_) (fun _ => ?_)
  · refine WW.aload_n (pc := 16) (j := 0) rfl dX12_isDealt_16 ?_
    refine WW.iload_n (pc := 17) (j := 1) rfl dX12_isDealt_17 ?_
    refine WW.iconst (pc := 18) 1 dX12_isDealt_18 rfl ?_
    refine WW.aload_n (pc := 19) (j := 0) rfl dX12_isDealt_19 ?_
    refine WW.sgi (pc := 20) fl_X12_114_12 h3_23 (sh_23 ρ) (Or.inl gt_12_15) dX12_isDealt_20 ?_
    refine WW.ishl (pc := 23) dX12_isDealt_23 ?_
    refine WW.iconst (pc := 24) 1 dX12_isDealt_24 rfl ?_
    refine WW.isub (pc := 25) dX12_isDealt_25 ?_
    refine WW.callV (pc := 26) (As := [.int a1, .int ((jshl 1 (d_i d 23 15)) - 1)]) (st := []) lk_X12_218 (okX12_isOf g ρ hρ d a1 ((jshl 1 (d_i d 23 15)) - 1)) h3_23 (sh_23 ρ) ⟨_, _, clk12⟩ rfl (Nat.le_of_ble_eq_true rfl) ⟨Nat.le_of_ble_eq_true rfl, Nat.le_of_ble_eq_true rfl, Nat.le_of_ble_eq_true rfl, Nat.le_of_ble_eq_true rfl⟩ dX12_isDealt_26 rfl (fun r3 hr3 => ?_)
    show WW _ _ _ 29 _ [.int (b2i r3)] (full d ρ) 0 0 _
    refine WW.if_eqB (pc := 29) 36 dX12_isDealt_29 (by decide) (fun _ => ?_) (fun _ => ?_)
    · refine WW.iconst (pc := 32) 1 dX12_isDealt_32 rfl ?_
      refine WW.goto (pc := 33) 37 dX12_isDealt_33 (by decide) ?_
      exact WW.ret rfl rfl (show RetI M_X12_isDealt 37 from dX12_isDealt_37) ⟨Nat.le_refl _, Nat.le_refl _⟩ rfl
    · refine WW.iconst (pc := 36) 0 dX12_isDealt_36 rfl ?_
      exact WW.ret rfl rfl (show RetI M_X12_isDealt 37 from dX12_isDealt_37) ⟨Nat.le_refl _, Nat.le_refl _⟩ rfl
  · refine WW.iconst (pc := 36) 0 dX12_isDealt_36 rfl ?_
    exact WW.ret rfl rfl (show RetI M_X12_isDealt 37 from dX12_isDealt_37) ⟨Nat.le_refl _, Nat.le_refl _⟩ rfl
def fX12_makes (ρ : Rh) (d : Dd) (a1 : Int32) (a2 : Int32) (a3 : Int32) (a4 : Int32) (a5 : Int32) : Option (Int64 × Dd) :=
  (fX12_isNews ρ d a1).bind fun r1 =>
  if r1 = true then
    (jn (fun (x2 : Unit) =>
      (fX12_isBuyer ρ d a4).bind fun r4 =>
      (fX12_isSign a2).bind fun r5 =>
      jn (fun (x6 : Bool) =>
        (fX12_refusal ρ d a1 r4 x6).bind fun r8 =>
        if r8 = 0 then
          ((fX12_take ρ d a1 a2).bind fun r9 =>
          if (d_l r9 23 22) = 0 then
            (some ((-1000000000000000004), r9))
          else
            ((fX12_stepsOf a3 a4).bind fun r10 =>
            (fX12_together ρ r9 a3).bind fun r11 =>
            (fX12_made ρ r9 a4 r10 r11).bind fun r12 =>
            (fX12_term r12 (100 * (d_l r9 23 22)) a5).bind fun r13 =>
            some (r13, r9)))
        else
          ((fX12_asLong r8).bind fun r14 =>
          some (r14, d))
        ) fun k7 =>
      jn (fun (x15 : Unit) =>
        k7 false
        ) fun k16 =>
      if r5 = true then
        ((fX12_isDealt ρ d a3).bind fun r17 =>
        if r17 = true then
          ((fX12_isPart a5).bind fun r18 =>
          if r18 = true then
            (k7 true)
          else
            (k16 ()))
        else
          (k16 ()))
      else
        (k16 ())
      ) fun k3 =>
    if (d_i d 23 4) ≤ 0 then
      (k3 ())
    else
      ((fX12_isBuyer ρ d a4).bind fun r19 =>
      if r19 = true then
        (k3 ())
      else
        (some ((-1000000000000000001), d))))
  else
    (some ((-1000000000000000001), d))
set_option maxHeartbeats 4000000 in
set_option maxRecDepth 100000 in
theorem okX12_makes (g : Gx) (ρ : Rh) (hρ : Hr ρ) (d : Dd) (a1 : Int32) (a2 : Int32) (a3 : Int32) (a4 : Int32) (a5 : Int32) : CallR g M_X12_makes (eL ρ) [.ref 23, .int a1, .int a2, .int a3, .int a4, .int a5] (full d ρ) (fX12_makes ρ d a1 a2 a3 a4 a5) := by
  refine CallR.intro rfl rfl (Nat.le_of_ble_eq_true rfl) (fun a ha => ⟨_, rfl⟩) ?_
  show WW g _ _ 0 [(0, .ref 23), (1, .int a1), (2, .int a2), (3, .int a3), (4, .int a4), (5, .int a5)] [] (full d ρ) 0 0 _
  unfold fX12_makes
  refine WW.aload_n (pc := 0) (j := 0) rfl dX12_makes_0 ?_
  refine WW.iload_n (pc := 1) (j := 1) rfl dX12_makes_1 ?_
  refine WW.callV (pc := 2) (As := [.int a1]) (st := []) lk_X12_127 (okX12_isNews g ρ hρ d a1) h3_23 (sh_23 ρ) ⟨_, _, clk12⟩ rfl (Nat.le_of_ble_eq_true rfl) ⟨Nat.le_of_ble_eq_true rfl, Nat.le_of_ble_eq_true rfl, Nat.le_of_ble_eq_true rfl, Nat.le_of_ble_eq_true rfl⟩ dX12_makes_2 rfl (fun r1 hr1 => ?_)
  show WW _ _ _ 5 _ [.int (b2i r1)] (full d ρ) 0 0 _
  refine WW.if_eqB (pc := 5) 24 dX12_makes_5 (by decide) (fun _ => ?_) (fun _ => ?_)
  · refine WW.aload_n (pc := 8) (j := 0) rfl dX12_makes_8 ?_
    refine WW.sgi (pc := 9) fl_X12_44_12 h3_23 (sh_23 ρ) (Or.inl gt_12_4) dX12_makes_9 ?_
    refine WW.join (pj := 28) (Lj := fun (x2 : Unit) => [(0, .ref 23), (1, .int a1), (2, .int a2), (3, .int a3), (4, .int a4), (5, .int a5)]) (sj := fun (x2 : Unit) => []) (hj := fun (x2 : Unit) => full d ρ) (fun x2 => ?_) (fun k3 hk3 => ?_)
    · refine WW.aload_n (pc := 28) (j := 0) rfl dX12_makes_28 ?_
      refine WW.iload_n (pc := 29) (j := 1) rfl dX12_makes_29 ?_
      refine WW.aload_n (pc := 30) (j := 0) rfl dX12_makes_30 ?_
      refine WW.iload (pc := 31) (j := 4) rfl dX12_makes_31 ?_
      refine WW.callV (pc := 33) (As := [.int a4]) (st := [.int a1, .ref 23]) lk_X12_117 (okX12_isBuyer g ρ hρ d a4) h3_23 (sh_23 ρ) ⟨_, _, clk12⟩ rfl (Nat.le_of_ble_eq_true rfl) ⟨Nat.le_of_ble_eq_true rfl, Nat.le_of_ble_eq_true rfl, Nat.le_of_ble_eq_true rfl, Nat.le_of_ble_eq_true rfl⟩ dX12_makes_33 rfl (fun r4 hr4 => ?_)
      show WW _ _ _ 36 _ [.int (b2i r4), .int a1, .ref 23] (full d ρ) 0 0 _
      refine WW.iload_n (pc := 36) (j := 2) rfl dX12_makes_36 ?_
      refine WW.callS (pc := 37) (As := [.int a2]) (st := [.int (b2i r4), .int a1, .ref 23]) lk_X12_154 (okX12_isSign g ρ hρ d a2) rfl (Nat.le_of_ble_eq_true rfl) ⟨Nat.le_of_ble_eq_true rfl, Nat.le_of_ble_eq_true rfl, Nat.le_of_ble_eq_true rfl, Nat.le_of_ble_eq_true rfl⟩ dX12_makes_37 rfl (fun r5 hr5 => ?_)
      show WW _ _ _ 40 _ [.int (b2i r5), .int (b2i r4), .int a1, .ref 23] (full d ρ) 0 0 _
      refine WW.join (pj := 64) (Lj := fun (x6 : Bool) => [(0, .ref 23), (1, .int a1), (2, .int a2), (3, .int a3), (4, .int a4), (5, .int a5)]) (sj := fun (x6 : Bool) => [.int (b2i x6), .int (b2i r4), .int a1, .ref 23]) (hj := fun (x6 : Bool) => full d ρ) (fun x6 => ?_) (fun k7 hk7 => ?_)
      · refine WW.callV (pc := 64) (As := [.int a1, .int (b2i r4), .int (b2i x6)]) (st := []) lk_X12_160 (okX12_refusal g ρ hρ d a1 r4 x6) h3_23 (sh_23 ρ) ⟨_, _, clk12⟩ rfl (Nat.le_of_ble_eq_true rfl) ⟨Nat.le_of_ble_eq_true rfl, Nat.le_of_ble_eq_true rfl, Nat.le_of_ble_eq_true rfl, Nat.le_of_ble_eq_true rfl⟩ dX12_makes_64 rfl (fun r8 hr8 => ?_)
        show WW _ _ _ 67 _ [.int r8] (full d ρ) 0 0 _
        refine WW.istore (pc := 67) [(6, .int r8), (0, .ref 23), (1, .int a1), (2, .int a2), (3, .int a3), (4, .int a4), (5, .int a5)] rfl (by decide) dX12_makes_67 ?_
        refine WW.iload (pc := 69) (j := 0) rfl dX12_makes_69 ?_
        refine WW.if_eq (pc := 71) 80 dX12_makes_71 (by decide) (fun _ => ?_) (fun _ => ?_)
        · refine WW.aload_n (pc := 80) (j := 1) rfl dX12_makes_80 ?_
          refine WW.iload_n (pc := 81) (j := 2) rfl dX12_makes_81 ?_
          refine WW.iload_n (pc := 82) (j := 3) rfl dX12_makes_82 ?_
          refine WW.callV (pc := 83) (As := [.int a1, .int a2]) (st := []) lk_X12_205 (okX12_take g ρ hρ d a1 a2) h3_23 (sh_23 ρ) ⟨_, _, clk12⟩ rfl (Nat.le_of_ble_eq_true rfl) ⟨Nat.le_of_ble_eq_true rfl, Nat.le_of_ble_eq_true rfl, Nat.le_of_ble_eq_true rfl, Nat.le_of_ble_eq_true rfl⟩ dX12_makes_83 rfl (fun r9 hr9 => ?_)
          show WW _ _ _ 86 _ [] (full r9 ρ) 0 0 _
          refine WW.aload_n (pc := 86) (j := 1) rfl dX12_makes_86 ?_
          refine WW.sgl (pc := 87) fl_X12_195_12 h3_23 (sh_23 ρ) gt_12_22 dX12_makes_87 ?_
          refine WW.lconst (pc := 90) 0 dX12_makes_90 rfl ?_
          refine WW.lcmp_ne (pc := 91) 101 dX12_makes_91 dX12_makes_92 (by decide) (fun _ => ?_) (fun _ => ?_)
          · refine WW.ldc2 (pc := 95) wd_1048 dX12_makes_95 ?_
            refine WW.goto (pc := 98) 131 dX12_makes_98 (by decide) ?_
            exact WW.ret rfl rfl (show RetI M_X12_makes 131 from dX12_makes_131) ⟨Nat.le_refl _, Nat.le_refl _⟩ rfl
          · refine WW.aload_n (pc := 101) (j := 1) rfl dX12_makes_101 ?_
            refine WW.iload (pc := 102) (j := 5) rfl dX12_makes_102 ?_
            refine WW.iload_n (pc := 104) (j := 4) rfl dX12_makes_104 ?_
            refine WW.iload (pc := 105) (j := 5) rfl dX12_makes_105 ?_
            refine WW.callS (pc := 107) (As := [.int a3, .int a4]) (st := [.int a4, .ref 23]) lk_X12_188 (okX12_stepsOf g ρ hρ r9 a3 a4) rfl (Nat.le_of_ble_eq_true rfl) ⟨Nat.le_of_ble_eq_true rfl, Nat.le_of_ble_eq_true rfl, Nat.le_of_ble_eq_true rfl, Nat.le_of_ble_eq_true rfl⟩ dX12_makes_107 rfl (fun r10 hr10 => ?_)
            show WW _ _ _ 110 _ [.int r10, .int a4, .ref 23] (full r9 ρ) 0 0 _
            refine WW.aload_n (pc := 110) (j := 1) rfl dX12_makes_110 ?_
            refine WW.iload_n (pc := 111) (j := 4) rfl dX12_makes_111 ?_
            refine WW.callV (pc := 112) (As := [.int a3]) (st := [.int r10, .int a4, .ref 23]) lk_X12_198 (okX12_together g ρ hρ r9 a3) h3_23 (sh_23 ρ) ⟨_, _, clk12⟩ rfl (Nat.le_of_ble_eq_true rfl) ⟨Nat.le_of_ble_eq_true rfl, Nat.le_of_ble_eq_true rfl, Nat.le_of_ble_eq_true rfl, Nat.le_of_ble_eq_true rfl⟩ dX12_makes_112 rfl (fun r11 hr11 => ?_)
            show WW _ _ _ 115 _ [.int r11, .int r10, .int a4, .ref 23] (full r9 ρ) 0 0 _
            refine WW.callV (pc := 115) (As := [.int a4, .int r10, .int r11]) (st := []) lk_X12_201 (okX12_made g ρ hρ r9 a4 r10 r11) h3_23 (sh_23 ρ) ⟨_, _, clk12⟩ rfl (Nat.le_of_ble_eq_true rfl) ⟨Nat.le_of_ble_eq_true rfl, Nat.le_of_ble_eq_true rfl, Nat.le_of_ble_eq_true rfl, Nat.le_of_ble_eq_true rfl⟩ dX12_makes_115 rfl (fun r12 hr12 => ?_)
            show WW _ _ _ 118 _ [.long r12] (full r9 ρ) 0 0 _
            refine WW.ldc2 (pc := 118) wd_989 dX12_makes_118 ?_
            refine WW.aload_n (pc := 121) (j := 1) rfl dX12_makes_121 ?_
            refine WW.sgl (pc := 122) fl_X12_195_12 h3_23 (sh_23 ρ) gt_12_22 dX12_makes_122 ?_
            refine WW.lmul (pc := 125) dX12_makes_125 ?_
            refine WW.iload (pc := 126) (j := 6) rfl dX12_makes_126 ?_
            refine WW.callS (pc := 128) (As := [.long r12, .long (100 * (d_l r9 23 22)), .int a5]) (st := []) lk_X12_174 (okX12_term g ρ hρ r9 r12 (100 * (d_l r9 23 22)) a5) rfl (Nat.le_of_ble_eq_true rfl) ⟨Nat.le_of_ble_eq_true rfl, Nat.le_of_ble_eq_true rfl, Nat.le_of_ble_eq_true rfl, Nat.le_of_ble_eq_true rfl⟩ dX12_makes_128 rfl (fun r13 hr13 => ?_)
            show WW _ _ _ 131 _ [.long r13] (full r9 ρ) 0 0 _
            exact WW.ret rfl rfl (show RetI M_X12_makes 131 from dX12_makes_131) ⟨Nat.le_refl _, Nat.le_refl _⟩ rfl
        · refine WW.iload (pc := 74) (j := 0) rfl dX12_makes_74 ?_
          refine WW.callS (pc := 76) (As := [.int r8]) (st := []) lk_X12_164 (okX12_asLong g ρ hρ d r8) rfl (Nat.le_of_ble_eq_true rfl) ⟨Nat.le_of_ble_eq_true rfl, Nat.le_of_ble_eq_true rfl, Nat.le_of_ble_eq_true rfl, Nat.le_of_ble_eq_true rfl⟩ dX12_makes_76 rfl (fun r14 hr14 => ?_)
          show WW _ _ _ 79 _ [.long r14] (full d ρ) 0 0 _
          exact WW.ret rfl rfl (show RetI M_X12_makes 79 from dX12_makes_79) ⟨Nat.le_refl _, Nat.le_refl _⟩ rfl
      · refine WW.join (pj := 63) (Lj := fun (x15 : Unit) => [(0, .ref 23), (1, .int a1), (2, .int a2), (3, .int a3), (4, .int a4), (5, .int a5)]) (sj := fun (x15 : Unit) => [.int (b2i r4), .int a1, .ref 23]) (hj := fun (x15 : Unit) => full d ρ) (fun x15 => ?_) (fun k16 hk16 => ?_)
        · refine WW.iconst (pc := 63) 0 dX12_makes_63 rfl ?_
          exact hk7 false
        · refine WW.if_eqB (pc := 40) 63 dX12_makes_40 (by decide) (fun _ => ?_) (fun _ => ?_)
          · refine WW.aload_n (pc := 43) (j := 0) rfl dX12_makes_43 ?_
            refine WW.iload_n (pc := 44) (j := 3) rfl dX12_makes_44 ?_
            refine WW.callV (pc := 45) (As := [.int a3]) (st := [.int (b2i r4), .int a1, .ref 23]) lk_X12_236 (okX12_isDealt g ρ hρ d a3) h3_23 (sh_23 ρ) ⟨_, _, clk12⟩ rfl (Nat.le_of_ble_eq_true rfl) ⟨Nat.le_of_ble_eq_true rfl, Nat.le_of_ble_eq_true rfl, Nat.le_of_ble_eq_true rfl, Nat.le_of_ble_eq_true rfl⟩ dX12_makes_45 rfl (fun r17 hr17 => ?_)
            show WW _ _ _ 48 _ [.int (b2i r17), .int (b2i r4), .int a1, .ref 23] (full d ρ) 0 0 _
            refine WW.if_eqB (pc := 48) 63 dX12_makes_48 (by decide) (fun _ => ?_) (fun _ => ?_)
            · refine WW.iload (pc := 51) (j := 5) rfl dX12_makes_51 ?_
              refine WW.callS (pc := 53) (As := [.int a5]) (st := [.int (b2i r4), .int a1, .ref 23]) lk_X12_157 (okX12_isPart g ρ hρ d a5) rfl (Nat.le_of_ble_eq_true rfl) ⟨Nat.le_of_ble_eq_true rfl, Nat.le_of_ble_eq_true rfl, Nat.le_of_ble_eq_true rfl, Nat.le_of_ble_eq_true rfl⟩ dX12_makes_53 rfl (fun r18 hr18 => ?_)
              show WW _ _ _ 56 _ [.int (b2i r18), .int (b2i r4), .int a1, .ref 23] (full d ρ) 0 0 _
              refine WW.if_eqB (pc := 56) 63 dX12_makes_56 (by decide) (fun _ => ?_) (fun _ => ?_)
              · refine WW.iconst (pc := 59) 1 dX12_makes_59 rfl ?_
                refine WW.goto (pc := 60) 64 dX12_makes_60 (by decide) ?_
                exact hk7 true
              · exact hk16 ()
            · exact hk16 ()
          · exact hk16 ()
    · refine WW.if_le (pc := 12) 28 dX12_makes_12 (by decide) (fun _ => ?_) (fun _ => ?_)
      · exact hk3 ()
      · refine WW.aload_n (pc := 15) (j := 0) rfl dX12_makes_15 ?_
        refine WW.iload (pc := 16) (j := 4) rfl dX12_makes_16 ?_
        refine WW.callV (pc := 18) (As := [.int a4]) (st := []) lk_X12_117 (okX12_isBuyer g ρ hρ d a4) h3_23 (sh_23 ρ) ⟨_, _, clk12⟩ rfl (Nat.le_of_ble_eq_true rfl) ⟨Nat.le_of_ble_eq_true rfl, Nat.le_of_ble_eq_true rfl, Nat.le_of_ble_eq_true rfl, Nat.le_of_ble_eq_true rfl⟩ dX12_makes_18 rfl (fun r19 hr19 => ?_)
        show WW _ _ _ 21 _ [.int (b2i r19)] (full d ρ) 0 0 _
        refine WW.if_neB (pc := 21) 28 dX12_makes_21 (by decide) (fun _ => ?_) (fun _ => ?_)
        · exact hk3 ()
        · refine WW.ldc2 (pc := 24) wd_1015 dX12_makes_24 ?_
          exact WW.ret rfl rfl (show RetI M_X12_makes 27 from dX12_makes_27) ⟨Nat.le_refl _, Nat.le_refl _⟩ rfl
  · refine WW.ldc2 (pc := 24) wd_1015 dX12_makes_24 ?_
    exact WW.ret rfl rfl (show RetI M_X12_makes 27 from dX12_makes_27) ⟨Nat.le_refl _, Nat.le_refl _⟩ rfl
def fX12_below (ρ : Rh) (d : Dd) : Option Int64 :=
  (fX12_unit ρ d).bind fun r1 =>
  (fX12_allWeights ρ d).bind fun r2 =>
  some ((100 * (Int32.toInt64 r1)) * (Int32.toInt64 r2))
set_option maxHeartbeats 4000000 in
set_option maxRecDepth 100000 in
theorem okX12_below (g : Gx) (ρ : Rh) (hρ : Hr ρ) (d : Dd)  : CallR g M_X12_below (eLp ρ d) [.ref 23] (full d ρ) (fX12_below ρ d) := by
  refine CallR.intro rfl rfl (Nat.le_of_ble_eq_true rfl) (fun a ha => ⟨_, rfl⟩) ?_
  show WW g _ _ 0 [(0, .ref 23)] [] (full d ρ) 0 0 _
  unfold fX12_below
  refine WW.ldc2 (pc := 0) wd_989 dX12_below_0 ?_
  refine WW.aload_n (pc := 3) (j := 0) rfl dX12_below_3 ?_
  refine WW.callV (pc := 4) (As := []) (st := [.long 100]) lk_X12_133 (okX12_unit g ρ hρ d ) h3_23 (sh_23 ρ) ⟨_, _, clk12⟩ rfl (Nat.le_of_ble_eq_true rfl) ⟨Nat.le_of_ble_eq_true rfl, Nat.le_of_ble_eq_true rfl, Nat.le_of_ble_eq_true rfl, Nat.le_of_ble_eq_true rfl⟩ dX12_below_4 rfl (fun r1 hr1 => ?_)
  show WW _ _ _ 7 _ [.int r1, .long 100] (full d ρ) 0 0 _
  refine WW.i2l (pc := 7) dX12_below_7 ?_
  refine WW.lmul (pc := 8) dX12_below_8 ?_
  refine WW.aload_n (pc := 9) (j := 0) rfl dX12_below_9 ?_
  refine WW.callV (pc := 10) (As := []) (st := [.long (100 * (Int32.toInt64 r1))]) lk_X12_171 (okX12_allWeights g ρ hρ d ) h3_23 (sh_23 ρ) ⟨_, _, clk12⟩ rfl (Nat.le_of_ble_eq_true rfl) ⟨Nat.le_of_ble_eq_true rfl, Nat.le_of_ble_eq_true rfl, Nat.le_of_ble_eq_true rfl, Nat.le_of_ble_eq_true rfl⟩ dX12_below_10 rfl (fun r2 hr2 => ?_)
  show WW _ _ _ 13 _ [.int r2, .long (100 * (Int32.toInt64 r1))] (full d ρ) 0 0 _
  refine WW.i2l (pc := 13) dX12_below_13 ?_
  refine WW.lmul (pc := 14) dX12_below_14 ?_
  exact WW.ret rfl rfl (show RetI M_X12_below 15 from dX12_below_15) ⟨Nat.le_refl _, Nat.le_refl _⟩ rfl
def fX12_layWorth (ρ : Rh) (d : Dd) (a1 : Int32) (a2 : Int32) : Option Dd :=
  lp (fun self2 (x1 : Int32 × Dd) =>
    if 4 ≤ x1.1 then
      (lp (fun self4 (x3 : Int32 × Dd) =>
        if 4 ≤ x3.1 then
          (some x3.2)
        else
          ((fX12_heardOf ρ x3.2 a1 x3.1).bind fun r5 =>
          jn (fun (x6 : Dd) =>
            self4 ((x3.1 + 1), x6)
            ) fun k7 =>
          if r5 ≤ 0 then
            (k7 x3.2)
          else
            ((fX12_dealtFor ρ x3.2 a1 a2 x3.1 (-1)).bind fun r8 =>
            lp (fun self10 (x9 : Int32 × Dd) =>
              if (d_i x9.2 23 15) ≤ x9.1 then
                (k7 x9.2)
              else
                (if inB ((4 * a2) + x9.1) 64 = true then
                  ((fX12_stepsOf r8.1 x9.1).bind fun r11 =>
                  (fX12_together ρ x9.2 r8.1).bind fun r12 =>
                  (fX12_made ρ x9.2 x9.1 r11 r12).bind fun r13 =>
                  if inB ((4 * a2) + x9.1) 64 = true then
                    (bnd (dL x9.2 33 (ix ((4 * a2) + x9.1)) ((d_l x9.2 33 (ix ((4 * a2) + x9.1))) + r13)) fun d14 =>
                    self10 ((x9.1 + 1), d14))
                  else none)
                else none)
              ) 6000 (0, r8.2)))
        ) 6000 (0, x1.2))
    else
      (if inB ((4 * a2) + x1.1) 64 = true then
        (bnd (dL x1.2 33 (ix ((4 * a2) + x1.1)) 0) fun d15 =>
        self2 ((x1.1 + 1), d15))
      else none)
    ) 6000 (0, d)
set_option maxHeartbeats 4000000 in
set_option maxRecDepth 100000 in
theorem okX12_layWorth (g : Gx) (ρ : Rh) (hρ : Hr ρ) (d : Dd) (a1 : Int32) (a2 : Int32) : CallR g M_X12_layWorth (eV ρ) [.ref 23, .int a1, .int a2] (full d ρ) (fX12_layWorth ρ d a1 a2) := by
  refine CallR.intro rfl rfl (Nat.le_of_ble_eq_true rfl) (fun a ha => rfl) ?_
  show WW g _ _ 0 [(0, .ref 23), (1, .int a1), (2, .int a2)] [] (full d ρ) 0 0 _
  unfold fX12_layWorth
  refine WW.iconst (pc := 0) 0 dX12_layWorth_0 rfl ?_
  refine WW.istore_n (pc := 1) [(3, .int 0), (0, .ref 23), (1, .int a1), (2, .int a2)] rfl (by decide) dX12_layWorth_1 ?_
  refine WW.sub [1, 2, 3, 0] rfl ?_
  refine WW.loop (pc := 2) (Lj := fun (x1 : Int32 × Dd) => [(0, .ref 23), (1, .int a1), (2, .int a2), (3, .int x1.1)]) (hj := fun (x1 : Int32 × Dd) => full x1.2 ρ) (fun self2 hself2 x1 => ?_) 6000 (0, d)
  refine WW.iload_n (pc := 2) (j := 3) rfl dX12_layWorth_2 ?_
  refine WW.iconst (pc := 3) 4 dX12_layWorth_3 rfl ?_
  refine WW.icmp_ge (pc := 4) 24 dX12_layWorth_4 (by decide) (fun _ => ?_) (fun _ => ?_)
  · refine WW.iconst (pc := 24) 0 dX12_layWorth_24 rfl ?_
    refine WW.istore_n (pc := 25) [(3, .int 0), (0, .ref 23), (1, .int a1), (2, .int a2)] rfl (by decide) dX12_layWorth_25 ?_
    refine WW.sub [1, 2, 3, 0] rfl ?_
    refine WW.loop (pc := 26) (Lj := fun (x3 : Int32 × Dd) => [(0, .ref 23), (1, .int a1), (2, .int a2), (3, .int x3.1)]) (hj := fun (x3 : Int32 × Dd) => full x3.2 ρ) (fun self4 hself4 x3 => ?_) 6000 (0, x1.2)
    refine WW.iload_n (pc := 26) (j := 3) rfl dX12_layWorth_26 ?_
    refine WW.iconst (pc := 27) 4 dX12_layWorth_27 rfl ?_
    refine WW.icmp_ge (pc := 28) 107 dX12_layWorth_28 (by decide) (fun _ => ?_) (fun _ => ?_)
    · exact WW.ret rfl rfl (show RetI M_X12_layWorth 107 from dX12_layWorth_107) ⟨Nat.le_refl _, Nat.le_refl _⟩ rfl
    · refine WW.aload_n (pc := 31) (j := 0) rfl dX12_layWorth_31 ?_
      refine WW.iload_n (pc := 32) (j := 1) rfl dX12_layWorth_32 ?_
      refine WW.iload_n (pc := 33) (j := 3) rfl dX12_layWorth_33 ?_
      refine WW.callV (pc := 34) (As := [.int a1, .int x3.1]) (st := []) lk_X12_168 (okX12_heardOf g ρ hρ x3.2 a1 x3.1) h3_23 (sh_23 ρ) ⟨_, _, clk12⟩ rfl (Nat.le_of_ble_eq_true rfl) ⟨Nat.le_of_ble_eq_true rfl, Nat.le_of_ble_eq_true rfl, Nat.le_of_ble_eq_true rfl, Nat.le_of_ble_eq_true rfl⟩ dX12_layWorth_34 rfl (fun r5 hr5 => ?_)
      show WW _ _ _ 37 _ [.int r5] (full x3.2 ρ) 0 0 _
      refine WW.join (pj := 101) (Lj := fun (x6 : Dd) => [(0, .ref 23), (1, .int a1), (2, .int a2), (3, .int x3.1)]) (sj := fun (x6 : Dd) => []) (hj := fun (x6 : Dd) => full x6 ρ) (fun x6 => ?_) (fun k7 hk7 => ?_)
      · refine WW.iinc (pc := 101) (j := 3) (x3.1 + 1) [(3, .int (x3.1 + 1)), (0, .ref 23), (1, .int a1), (2, .int a2)] rfl rfl rfl (by decide) dX12_layWorth_101 ?_
        refine WW.goto (pc := 104) 26 dX12_layWorth_104 (by decide) ?_
        refine WW.sub [1, 2, 3, 0] rfl ?_
        exact hself4 ((x3.1 + 1), x6)
      · refine WW.if_le (pc := 37) 101 dX12_layWorth_37 (by decide) (fun _ => ?_) (fun _ => ?_)
        · exact hk7 x3.2
        · refine WW.aload_n (pc := 40) (j := 0) rfl dX12_layWorth_40 ?_
          refine WW.iload_n (pc := 41) (j := 1) rfl dX12_layWorth_41 ?_
          refine WW.iload_n (pc := 42) (j := 2) rfl dX12_layWorth_42 ?_
          refine WW.iload_n (pc := 43) (j := 3) rfl dX12_layWorth_43 ?_
          refine WW.iconst (pc := 44) (-1) dX12_layWorth_44 rfl ?_
          refine WW.callV (pc := 45) (As := [.int a1, .int a2, .int x3.1, .int (-1)]) (st := []) lk_X12_232 (okX12_dealtFor g ρ hρ x3.2 a1 a2 x3.1 (-1)) h3_23 (sh_23 ρ) ⟨_, _, clk12⟩ rfl (Nat.le_of_ble_eq_true rfl) ⟨Nat.le_of_ble_eq_true rfl, Nat.le_of_ble_eq_true rfl, Nat.le_of_ble_eq_true rfl, Nat.le_of_ble_eq_true rfl⟩ dX12_layWorth_45 rfl (fun r8 hr8 => ?_)
          show WW _ _ _ 48 _ [.int r8.1] (full r8.2 ρ) 0 0 _
          refine WW.istore (pc := 48) [(4, .int r8.1), (0, .ref 23), (1, .int a1), (2, .int a2), (3, .int x3.1)] rfl (by decide) dX12_layWorth_48 ?_
          refine WW.iconst (pc := 50) 0 dX12_layWorth_50 rfl ?_
          refine WW.istore (pc := 51) [(5, .int 0), (4, .int r8.1), (0, .ref 23), (1, .int a1), (2, .int a2), (3, .int x3.1)] rfl (by decide) dX12_layWorth_51 ?_
          refine WW.sub [2, 3, 4, 5, 1, 0] rfl ?_
          refine WW.loop (pc := 53) (Lj := fun (x9 : Int32 × Dd) => [(0, .ref 23), (1, .int a1), (2, .int a2), (3, .int x3.1), (4, .int r8.1), (5, .int x9.1)]) (hj := fun (x9 : Int32 × Dd) => full x9.2 ρ) (fun self10 hself10 x9 => ?_) 6000 (0, r8.2)
          refine WW.iload (pc := 53) (j := 5) rfl dX12_layWorth_53 ?_
          refine WW.aload_n (pc := 55) (j := 0) rfl dX12_layWorth_55 ?_
          refine WW.sgi (pc := 56) fl_X12_114_12 h3_23 (sh_23 ρ) (Or.inl gt_12_15) dX12_layWorth_56 ?_
          refine WW.icmp_ge (pc := 59) 101 dX12_layWorth_59 (by decide) (fun _ => ?_) (fun _ => ?_)
          · refine WW.sub [0, 1, 2, 3] rfl ?_
            exact hk7 x9.2
          · refine WW.aload_n (pc := 62) (j := 0) rfl dX12_layWorth_62 ?_
            refine WW.sgr (pc := 63) fl_X12_37_12 h3_23 (sh_23 ρ) (Or.inr ⟨_, gt_12_25⟩) (hr_23_25 ρ) dX12_layWorth_63 ?_
            refine WW.iconst (pc := 66) 4 dX12_layWorth_66 rfl ?_
            refine WW.iload_n (pc := 67) (j := 2) rfl dX12_layWorth_67 ?_
            refine WW.imul (pc := 68) dX12_layWorth_68 ?_
            refine WW.iload (pc := 69) (j := 5) rfl dX12_layWorth_69 ?_
            refine WW.iadd (pc := 71) dX12_layWorth_71 ?_
            refine WW.dup2 (pc := 72) rfl rfl dX12_layWorth_72 ?_
            refine WW.slald (pc := 73) h3_33 (sh_33 ρ) dX12_layWorth_73 ?_
            refine WW.aload_n (pc := 74) (j := 0) rfl dX12_layWorth_74 ?_
            refine WW.iload (pc := 75) (j := 5) rfl dX12_layWorth_75 ?_
            refine WW.iload (pc := 77) (j := 4) rfl dX12_layWorth_77 ?_
            refine WW.iload (pc := 79) (j := 5) rfl dX12_layWorth_79 ?_
            refine WW.callS (pc := 81) (As := [.int r8.1, .int x9.1]) (st := [.int x9.1, .ref 23, .long (d_l x9.2 33 (ix ((4 * a2) + x9.1))), .int ((4 * a2) + x9.1), .ref 33]) lk_X12_188 (okX12_stepsOf g ρ hρ x9.2 r8.1 x9.1) rfl (Nat.le_of_ble_eq_true rfl) ⟨Nat.le_of_ble_eq_true rfl, Nat.le_of_ble_eq_true rfl, Nat.le_of_ble_eq_true rfl, Nat.le_of_ble_eq_true rfl⟩ dX12_layWorth_81 rfl (fun r11 hr11 => ?_)
            show WW _ _ _ 84 _ [.int r11, .int x9.1, .ref 23, .long (d_l x9.2 33 (ix ((4 * a2) + x9.1))), .int ((4 * a2) + x9.1), .ref 33] (full x9.2 ρ) 0 0 _
            refine WW.aload_n (pc := 84) (j := 0) rfl dX12_layWorth_84 ?_
            refine WW.iload (pc := 85) (j := 4) rfl dX12_layWorth_85 ?_
            refine WW.callV (pc := 87) (As := [.int r8.1]) (st := [.int r11, .int x9.1, .ref 23, .long (d_l x9.2 33 (ix ((4 * a2) + x9.1))), .int ((4 * a2) + x9.1), .ref 33]) lk_X12_198 (okX12_together g ρ hρ x9.2 r8.1) h3_23 (sh_23 ρ) ⟨_, _, clk12⟩ rfl (Nat.le_of_ble_eq_true rfl) ⟨Nat.le_of_ble_eq_true rfl, Nat.le_of_ble_eq_true rfl, Nat.le_of_ble_eq_true rfl, Nat.le_of_ble_eq_true rfl⟩ dX12_layWorth_87 rfl (fun r12 hr12 => ?_)
            show WW _ _ _ 90 _ [.int r12, .int r11, .int x9.1, .ref 23, .long (d_l x9.2 33 (ix ((4 * a2) + x9.1))), .int ((4 * a2) + x9.1), .ref 33] (full x9.2 ρ) 0 0 _
            refine WW.callV (pc := 90) (As := [.int x9.1, .int r11, .int r12]) (st := [.long (d_l x9.2 33 (ix ((4 * a2) + x9.1))), .int ((4 * a2) + x9.1), .ref 33]) lk_X12_201 (okX12_made g ρ hρ x9.2 x9.1 r11 r12) h3_23 (sh_23 ρ) ⟨_, _, clk12⟩ rfl (Nat.le_of_ble_eq_true rfl) ⟨Nat.le_of_ble_eq_true rfl, Nat.le_of_ble_eq_true rfl, Nat.le_of_ble_eq_true rfl, Nat.le_of_ble_eq_true rfl⟩ dX12_layWorth_90 rfl (fun r13 hr13 => ?_)
            show WW _ _ _ 93 _ [.long r13, .long (d_l x9.2 33 (ix ((4 * a2) + x9.1))), .int ((4 * a2) + x9.1), .ref 33] (full x9.2 ρ) 0 0 _
            refine WW.ladd (pc := 93) dX12_layWorth_93 ?_
            refine WW.slast (pc := 94) h3_33 (sh_33 ρ) dX12_layWorth_94 (fun d14 => ?_)
            refine WW.iinc (pc := 95) (j := 5) (x9.1 + 1) [(5, .int (x9.1 + 1)), (0, .ref 23), (1, .int a1), (2, .int a2), (3, .int x3.1), (4, .int r8.1)] rfl rfl rfl (by decide) dX12_layWorth_95 ?_
            refine WW.goto (pc := 98) 53 dX12_layWorth_98 (by decide) ?_
            refine WW.sub [1, 2, 3, 4, 5, 0] rfl ?_
            exact hself10 ((x9.1 + 1), d14)
  · refine WW.aload_n (pc := 7) (j := 0) rfl dX12_layWorth_7 ?_
    refine WW.sgr (pc := 8) fl_X12_37_12 h3_23 (sh_23 ρ) (Or.inr ⟨_, gt_12_25⟩) (hr_23_25 ρ) dX12_layWorth_8 ?_
    refine WW.iconst (pc := 11) 4 dX12_layWorth_11 rfl ?_
    refine WW.iload_n (pc := 12) (j := 2) rfl dX12_layWorth_12 ?_
    refine WW.imul (pc := 13) dX12_layWorth_13 ?_
    refine WW.iload_n (pc := 14) (j := 3) rfl dX12_layWorth_14 ?_
    refine WW.iadd (pc := 15) dX12_layWorth_15 ?_
    refine WW.lconst (pc := 16) 0 dX12_layWorth_16 rfl ?_
    refine WW.slast (pc := 17) h3_33 (sh_33 ρ) dX12_layWorth_17 (fun d15 => ?_)
    refine WW.iinc (pc := 18) (j := 3) (x1.1 + 1) [(3, .int (x1.1 + 1)), (0, .ref 23), (1, .int a1), (2, .int a2)] rfl rfl rfl (by decide) dX12_layWorth_18 ?_
    refine WW.goto (pc := 21) 2 dX12_layWorth_21 (by decide) ?_
    refine WW.sub [1, 2, 3, 0] rfl ?_
    exact hself2 ((x1.1 + 1), d15)
def fX12_worthOf (ρ : Rh) (d : Dd) (a1 : Int32) (a2 : Int32) (a3 : Int32) : Option (Int64 × Dd) :=
  (fX12_layWorth ρ d a1 a2).bind fun r1 =>
  if inB ((4 * a2) + a3) 64 = true then
    (some ((d_l r1 33 (ix ((4 * a2) + a3))), r1))
  else none
set_option maxHeartbeats 4000000 in
set_option maxRecDepth 100000 in
theorem okX12_worthOf (g : Gx) (ρ : Rh) (hρ : Hr ρ) (d : Dd) (a1 : Int32) (a2 : Int32) (a3 : Int32) : CallR g M_X12_worthOf (eL ρ) [.ref 23, .int a1, .int a2, .int a3] (full d ρ) (fX12_worthOf ρ d a1 a2 a3) := by
  refine CallR.intro rfl rfl (Nat.le_of_ble_eq_true rfl) (fun a ha => ⟨_, rfl⟩) ?_
  show WW g _ _ 0 [(0, .ref 23), (1, .int a1), (2, .int a2), (3, .int a3)] [] (full d ρ) 0 0 _
  unfold fX12_worthOf
  refine WW.aload_n (pc := 0) (j := 0) rfl dX12_worthOf_0 ?_
  refine WW.iload_n (pc := 1) (j := 1) rfl dX12_worthOf_1 ?_
  refine WW.iload_n (pc := 2) (j := 2) rfl dX12_worthOf_2 ?_
  refine WW.callV (pc := 3) (As := [.int a1, .int a2]) (st := []) lk_X12_239 (okX12_layWorth g ρ hρ d a1 a2) h3_23 (sh_23 ρ) ⟨_, _, clk12⟩ rfl (Nat.le_of_ble_eq_true rfl) ⟨Nat.le_of_ble_eq_true rfl, Nat.le_of_ble_eq_true rfl, Nat.le_of_ble_eq_true rfl, Nat.le_of_ble_eq_true rfl⟩ dX12_worthOf_3 rfl (fun r1 hr1 => ?_)
  show WW _ _ _ 6 _ [] (full r1 ρ) 0 0 _
  refine WW.aload_n (pc := 6) (j := 0) rfl dX12_worthOf_6 ?_
  refine WW.sgr (pc := 7) fl_X12_37_12 h3_23 (sh_23 ρ) (Or.inr ⟨_, gt_12_25⟩) (hr_23_25 ρ) dX12_worthOf_7 ?_
  refine WW.iconst (pc := 10) 4 dX12_worthOf_10 rfl ?_
  refine WW.iload_n (pc := 11) (j := 2) rfl dX12_worthOf_11 ?_
  refine WW.imul (pc := 12) dX12_worthOf_12 ?_
  refine WW.iload_n (pc := 13) (j := 3) rfl dX12_worthOf_13 ?_
  refine WW.iadd (pc := 14) dX12_worthOf_14 ?_
  refine WW.slald (pc := 15) h3_33 (sh_33 ρ) dX12_worthOf_15 ?_
  exact WW.ret rfl rfl (show RetI M_X12_worthOf 16 from dX12_worthOf_16) ⟨Nat.le_refl _, Nat.le_refl _⟩ rfl
def fX12_worth (ρ : Rh) (d : Dd) (a1 : Int32) (a2 : Int32) (a3 : Int32) (a4 : Int32) : Option (Int64 × Dd) :=
  (fX12_isBuyer ρ d a3).bind fun r1 =>
  (fX12_isSet ρ d a2).bind fun r2 =>
  jn (fun (x3 : Bool) =>
    (fX12_refusal ρ d a1 r1 x3).bind fun r5 =>
    if r5 = 0 then
      ((fX12_worthOf ρ d a1 a2 a3).bind fun r6 =>
      (fX12_below ρ r6.2).bind fun r7 =>
      (fX12_term r6.1 r7 a4).bind fun r8 =>
      some (r8, r6.2))
    else
      ((fX12_asLong r5).bind fun r9 =>
      some (r9, d))
    ) fun k4 =>
  jn (fun (x10 : Unit) =>
    k4 false
    ) fun k11 =>
  if r2 = true then
    ((fX12_isPart a4).bind fun r12 =>
    if r12 = true then
      (k4 true)
    else
      (k11 ()))
  else
    (k11 ())
set_option maxHeartbeats 4000000 in
set_option maxRecDepth 100000 in
theorem okX12_worth (g : Gx) (ρ : Rh) (hρ : Hr ρ) (d : Dd) (a1 : Int32) (a2 : Int32) (a3 : Int32) (a4 : Int32) : CallR g M_X12_worth (eL ρ) [.ref 23, .int a1, .int a2, .int a3, .int a4] (full d ρ) (fX12_worth ρ d a1 a2 a3 a4) := by
  refine CallR.intro rfl rfl (Nat.le_of_ble_eq_true rfl) (fun a ha => ⟨_, rfl⟩) ?_
  show WW g _ _ 0 [(0, .ref 23), (1, .int a1), (2, .int a2), (3, .int a3), (4, .int a4)] [] (full d ρ) 0 0 _
  unfold fX12_worth
  refine WW.aload_n (pc := 0) (j := 0) rfl dX12_worth_0 ?_
  refine WW.iload_n (pc := 1) (j := 1) rfl dX12_worth_1 ?_
  refine WW.aload_n (pc := 2) (j := 0) rfl dX12_worth_2 ?_
  refine WW.iload_n (pc := 3) (j := 3) rfl dX12_worth_3 ?_
  refine WW.callV (pc := 4) (As := [.int a3]) (st := [.int a1, .ref 23]) lk_X12_117 (okX12_isBuyer g ρ hρ d a3) h3_23 (sh_23 ρ) ⟨_, _, clk12⟩ rfl (Nat.le_of_ble_eq_true rfl) ⟨Nat.le_of_ble_eq_true rfl, Nat.le_of_ble_eq_true rfl, Nat.le_of_ble_eq_true rfl, Nat.le_of_ble_eq_true rfl⟩ dX12_worth_4 rfl (fun r1 hr1 => ?_)
  show WW _ _ _ 7 _ [.int (b2i r1), .int a1, .ref 23] (full d ρ) 0 0 _
  refine WW.aload_n (pc := 7) (j := 0) rfl dX12_worth_7 ?_
  refine WW.iload_n (pc := 8) (j := 2) rfl dX12_worth_8 ?_
  refine WW.callV (pc := 9) (As := [.int a2]) (st := [.int (b2i r1), .int a1, .ref 23]) lk_X12_227 (okX12_isSet g ρ hρ d a2) h3_23 (sh_23 ρ) ⟨_, _, clk12⟩ rfl (Nat.le_of_ble_eq_true rfl) ⟨Nat.le_of_ble_eq_true rfl, Nat.le_of_ble_eq_true rfl, Nat.le_of_ble_eq_true rfl, Nat.le_of_ble_eq_true rfl⟩ dX12_worth_9 rfl (fun r2 hr2 => ?_)
  show WW _ _ _ 12 _ [.int (b2i r2), .int (b2i r1), .int a1, .ref 23] (full d ρ) 0 0 _
  refine WW.join (pj := 28) (Lj := fun (x3 : Bool) => [(0, .ref 23), (1, .int a1), (2, .int a2), (3, .int a3), (4, .int a4)]) (sj := fun (x3 : Bool) => [.int (b2i x3), .int (b2i r1), .int a1, .ref 23]) (hj := fun (x3 : Bool) => full d ρ) (fun x3 => ?_) (fun k4 hk4 => ?_)
  · refine WW.callV (pc := 28) (As := [.int a1, .int (b2i r1), .int (b2i x3)]) (st := []) lk_X12_160 (okX12_refusal g ρ hρ d a1 r1 x3) h3_23 (sh_23 ρ) ⟨_, _, clk12⟩ rfl (Nat.le_of_ble_eq_true rfl) ⟨Nat.le_of_ble_eq_true rfl, Nat.le_of_ble_eq_true rfl, Nat.le_of_ble_eq_true rfl, Nat.le_of_ble_eq_true rfl⟩ dX12_worth_28 rfl (fun r5 hr5 => ?_)
    show WW _ _ _ 31 _ [.int r5] (full d ρ) 0 0 _
    refine WW.istore (pc := 31) [(5, .int r5), (0, .ref 23), (1, .int a1), (2, .int a2), (3, .int a3), (4, .int a4)] rfl (by decide) dX12_worth_31 ?_
    refine WW.iload (pc := 33) (j := 0) rfl dX12_worth_33 ?_
    refine WW.if_eq (pc := 35) 46 dX12_worth_35 (by decide) (fun _ => ?_) (fun _ => ?_)
    · refine WW.aload_n (pc := 46) (j := 1) rfl dX12_worth_46 ?_
      refine WW.iload_n (pc := 47) (j := 2) rfl dX12_worth_47 ?_
      refine WW.iload_n (pc := 48) (j := 3) rfl dX12_worth_48 ?_
      refine WW.iload_n (pc := 49) (j := 4) rfl dX12_worth_49 ?_
      refine WW.callV (pc := 50) (As := [.int a1, .int a2, .int a3]) (st := []) lk_X12_242 (okX12_worthOf g ρ hρ d a1 a2 a3) h3_23 (sh_23 ρ) ⟨_, _, clk12⟩ rfl (Nat.le_of_ble_eq_true rfl) ⟨Nat.le_of_ble_eq_true rfl, Nat.le_of_ble_eq_true rfl, Nat.le_of_ble_eq_true rfl, Nat.le_of_ble_eq_true rfl⟩ dX12_worth_50 rfl (fun r6 hr6 => ?_)
      show WW _ _ _ 53 _ [.long r6.1] (full r6.2 ρ) 0 0 _
      refine WW.aload_n (pc := 53) (j := 1) rfl dX12_worth_53 ?_
      refine WW.callV (pc := 54) (As := []) (st := [.long r6.1]) lk_X12_245 (okX12_below g ρ hρ r6.2 ) h3_23 (sh_23 ρ) ⟨_, _, clk12⟩ rfl (Nat.le_of_ble_eq_true rfl) ⟨Nat.le_of_ble_eq_true rfl, Nat.le_of_ble_eq_true rfl, Nat.le_of_ble_eq_true rfl, Nat.le_of_ble_eq_true rfl⟩ dX12_worth_54 rfl (fun r7 hr7 => ?_)
      show WW _ _ _ 57 _ [.long r7, .long r6.1] (full r6.2 ρ) 0 0 _
      refine WW.iload (pc := 57) (j := 5) rfl dX12_worth_57 ?_
      refine WW.callS (pc := 59) (As := [.long r6.1, .long r7, .int a4]) (st := []) lk_X12_174 (okX12_term g ρ hρ r6.2 r6.1 r7 a4) rfl (Nat.le_of_ble_eq_true rfl) ⟨Nat.le_of_ble_eq_true rfl, Nat.le_of_ble_eq_true rfl, Nat.le_of_ble_eq_true rfl, Nat.le_of_ble_eq_true rfl⟩ dX12_worth_59 rfl (fun r8 hr8 => ?_)
      show WW _ _ _ 62 _ [.long r8] (full r6.2 ρ) 0 0 _
      exact WW.ret rfl rfl (show RetI M_X12_worth 62 from dX12_worth_62) ⟨Nat.le_refl _, Nat.le_refl _⟩ rfl
    · refine WW.iload (pc := 38) (j := 0) rfl dX12_worth_38 ?_
      refine WW.callS (pc := 40) (As := [.int r5]) (st := []) lk_X12_164 (okX12_asLong g ρ hρ d r5) rfl (Nat.le_of_ble_eq_true rfl) ⟨Nat.le_of_ble_eq_true rfl, Nat.le_of_ble_eq_true rfl, Nat.le_of_ble_eq_true rfl, Nat.le_of_ble_eq_true rfl⟩ dX12_worth_40 rfl (fun r9 hr9 => ?_)
      show WW _ _ _ 43 _ [.long r9] (full d ρ) 0 0 _
      refine WW.goto (pc := 43) 62 dX12_worth_43 (by decide) ?_
      exact WW.ret rfl rfl (show RetI M_X12_worth 62 from dX12_worth_62) ⟨Nat.le_refl _, Nat.le_refl _⟩ rfl
  · refine WW.join (pj := 27) (Lj := fun (x10 : Unit) => [(0, .ref 23), (1, .int a1), (2, .int a2), (3, .int a3), (4, .int a4)]) (sj := fun (x10 : Unit) => [.int (b2i r1), .int a1, .ref 23]) (hj := fun (x10 : Unit) => full d ρ) (fun x10 => ?_) (fun k11 hk11 => ?_)
    · refine WW.iconst (pc := 27) 0 dX12_worth_27 rfl ?_
      exact hk4 false
    · refine WW.if_eqB (pc := 12) 27 dX12_worth_12 (by decide) (fun _ => ?_) (fun _ => ?_)
      · refine WW.iload (pc := 15) (j := 4) rfl dX12_worth_15 ?_
        refine WW.callS (pc := 17) (As := [.int a4]) (st := [.int (b2i r1), .int a1, .ref 23]) lk_X12_157 (okX12_isPart g ρ hρ d a4) rfl (Nat.le_of_ble_eq_true rfl) ⟨Nat.le_of_ble_eq_true rfl, Nat.le_of_ble_eq_true rfl, Nat.le_of_ble_eq_true rfl, Nat.le_of_ble_eq_true rfl⟩ dX12_worth_17 rfl (fun r12 hr12 => ?_)
        show WW _ _ _ 20 _ [.int (b2i r12), .int (b2i r1), .int a1, .ref 23] (full d ρ) 0 0 _
        refine WW.if_eqB (pc := 20) 27 dX12_worth_20 (by decide) (fun _ => ?_) (fun _ => ?_)
        · refine WW.iconst (pc := 23) 1 dX12_worth_23 rfl ?_
          refine WW.goto (pc := 24) 28 dX12_worth_24 (by decide) ?_
          exact hk4 true
        · exact hk11 ()
      · exact hk11 ()
def fX12_mostAsked (ρ : Rh) (d : Dd) (a1 : Int32) (a2 : Int32) : Option (Int64 × Dd) :=
  bnd (dI d 23 27 0) fun d1 =>
  lp (fun self3 (x2 : Int64 × Int32 × Dd) =>
    if (jshl 1 (d_i x2.2.2 23 15)) ≤ x2.2.1 then
      (some (x2.1, x2.2.2))
    else
      ((fX12_layWorth ρ x2.2.2 a1 x2.2.1).bind fun r4 =>
      lp (fun self6 (x5 : Int64 × Int64 × Int32 × Int32) =>
        if (d_i r4 23 15) ≤ x5.2.2.2 then
          (jn (fun (x7 : Int64) =>
            jn (fun (x9 : Int32) =>
              bnd (dI r4 23 27 x9) fun d11 =>
              jn (fun (x12 : Int64) =>
                self3 (x12, (x2.2.1 + 1), d11)
                ) fun k13 =>
              if x7 ≤ x2.1 then
                (k13 x2.1)
              else
                (k13 x7)
              ) fun k10 =>
            if x7 ≤ x2.1 then
              (k10 (d_i r4 23 27))
            else
              (k10 x2.2.1)
            ) fun k8 =>
          if a2 = 0 then
            (k8 x5.1)
          else
            (k8 (x5.2.1 * (Int32.toInt64 x5.2.2.1))))
        else
          (jn (fun (x14 : Int64 × Int64 × Int32) =>
            self6 (x14.1, x14.2.1, x14.2.2, (x5.2.2.2 + 1))
            ) fun k15 =>
          if ((jshr x2.2.1 x5.2.2.2) &&& 1) = 1 then
            (if inB ((4 * x2.2.1) + x5.2.2.2) 64 = true then
              (bnd ((d_l r4 33 (ix ((4 * x2.2.1) + x5.2.2.2))) : Int64) fun v16 =>
              bnd ((x5.1 + v16) : Int64) fun v17 =>
              jn (fun (x18 : Int64) =>
                k15 (v17, x18, (x5.2.2.1 + 1))
                ) fun k19 =>
              jn (fun (x20 : Unit) =>
                k19 v16
                ) fun k21 =>
              if x5.2.2.1 = 0 then
                (k21 ())
              else
                (if x5.2.1 ≤ v16 then
                  (k19 x5.2.1)
                else
                  (k21 ())))
            else none)
          else
            (k15 (x5.1, x5.2.1, x5.2.2.1)))
        ) 6000 (0, 0, 0, 0))
    ) 6000 (0, 1, d1)
set_option maxHeartbeats 4000000 in
set_option maxRecDepth 100000 in
theorem okX12_mostAsked (g : Gx) (ρ : Rh) (hρ : Hr ρ) (d : Dd) (a1 : Int32) (a2 : Int32) : CallR g M_X12_mostAsked (eL ρ) [.ref 23, .int a1, .int a2] (full d ρ) (fX12_mostAsked ρ d a1 a2) := by
  refine CallR.intro rfl rfl (Nat.le_of_ble_eq_true rfl) (fun a ha => ⟨_, rfl⟩) ?_
  show WW g _ _ 0 [(0, .ref 23), (1, .int a1), (2, .int a2)] [] (full d ρ) 0 0 _
  unfold fX12_mostAsked
  refine WW.lconst (pc := 0) 0 dX12_mostAsked_0 rfl ?_
  refine WW.lstore_n (pc := 1) [(3, .long 0), (0, .ref 23), (1, .int a1), (2, .int a2)] rfl (by decide) dX12_mostAsked_1 ?_
  refine WW.aload_n (pc := 2) (j := 1) rfl dX12_mostAsked_2 ?_
  refine WW.iconst (pc := 3) 0 dX12_mostAsked_3 rfl ?_
  refine WW.spi (pc := 4) fp_X12_249_12 h3_23 (sh_23 ρ) gt_12_27 dX12_mostAsked_4 (fun d1 => ?_)
  refine WW.iconst (pc := 7) 1 dX12_mostAsked_7 rfl ?_
  refine WW.istore (pc := 8) [(5, .int 1), (3, .long 0), (0, .ref 23), (1, .int a1), (2, .int a2)] rfl (by decide) dX12_mostAsked_8 ?_
  refine WW.sub [2, 3, 4, 1, 0] rfl ?_
  refine WW.loop (pc := 10) (Lj := fun (x2 : Int64 × Int32 × Dd) => [(0, .ref 23), (1, .int a1), (2, .int a2), (3, .long x2.1), (5, .int x2.2.1)]) (hj := fun (x2 : Int64 × Int32 × Dd) => full x2.2.2 ρ) (fun self3 hself3 x2 => ?_) 6000 (0, 1, d1)
  refine WW.iload (pc := 10) (j := 4) rfl dX12_mostAsked_10 ?_
  refine WW.iconst (pc := 12) 1 dX12_mostAsked_12 rfl ?_
  refine WW.aload_n (pc := 13) (j := 0) rfl dX12_mostAsked_13 ?_
  refine WW.sgi (pc := 14) fl_X12_114_12 h3_23 (sh_23 ρ) (Or.inl gt_12_15) dX12_mostAsked_14 ?_
  refine WW.ishl (pc := 17) dX12_mostAsked_17 ?_
  refine WW.icmp_ge (pc := 18) 169 dX12_mostAsked_18 (by decide) (fun _ => ?_) (fun _ => ?_)
  · refine WW.lload_n (pc := 169) (j := 3) rfl dX12_mostAsked_169 ?_
    exact WW.ret rfl rfl (show RetI M_X12_mostAsked 170 from dX12_mostAsked_170) ⟨Nat.le_refl _, Nat.le_refl _⟩ rfl
  · refine WW.aload_n (pc := 21) (j := 0) rfl dX12_mostAsked_21 ?_
    refine WW.iload_n (pc := 22) (j := 1) rfl dX12_mostAsked_22 ?_
    refine WW.iload (pc := 23) (j := 4) rfl dX12_mostAsked_23 ?_
    refine WW.callV (pc := 25) (As := [.int a1, .int x2.2.1]) (st := []) lk_X12_239 (okX12_layWorth g ρ hρ x2.2.2 a1 x2.2.1) h3_23 (sh_23 ρ) ⟨_, _, clk12⟩ rfl (Nat.le_of_ble_eq_true rfl) ⟨Nat.le_of_ble_eq_true rfl, Nat.le_of_ble_eq_true rfl, Nat.le_of_ble_eq_true rfl, Nat.le_of_ble_eq_true rfl⟩ dX12_mostAsked_25 rfl (fun r4 hr4 => ?_)
    show WW _ _ _ 28 _ [] (full r4 ρ) 0 0 _
    refine WW.lconst (pc := 28) 0 dX12_mostAsked_28 rfl ?_
    refine WW.lstore (pc := 29) [(6, .long 0), (0, .ref 23), (1, .int a1), (2, .int a2), (3, .long x2.1), (5, .int x2.2.1)] rfl (by decide) dX12_mostAsked_29 ?_
    refine WW.lconst (pc := 31) 0 dX12_mostAsked_31 rfl ?_
    refine WW.lstore (pc := 32) [(8, .long 0), (6, .long 0), (0, .ref 23), (1, .int a1), (2, .int a2), (3, .long x2.1), (5, .int x2.2.1)] rfl (by decide) dX12_mostAsked_32 ?_
    refine WW.iconst (pc := 34) 0 dX12_mostAsked_34 rfl ?_
    refine WW.istore (pc := 35) [(10, .int 0), (8, .long 0), (6, .long 0), (0, .ref 23), (1, .int a1), (2, .int a2), (3, .long x2.1), (5, .int x2.2.1)] rfl (by decide) dX12_mostAsked_35 ?_
    refine WW.iconst (pc := 37) 0 dX12_mostAsked_37 rfl ?_
    refine WW.istore (pc := 38) [(11, .int 0), (10, .int 0), (8, .long 0), (6, .long 0), (0, .ref 23), (1, .int a1), (2, .int a2), (3, .long x2.1), (5, .int x2.2.1)] rfl (by decide) dX12_mostAsked_38 ?_
    refine WW.sub [4, 5, 6, 7, 8, 3, 2, 1, 0] rfl ?_
    refine WW.loop (pc := 40) (Lj := fun (x5 : Int64 × Int64 × Int32 × Int32) => [(0, .ref 23), (1, .int a1), (2, .int a2), (3, .long x2.1), (5, .int x2.2.1), (6, .long x5.1), (8, .long x5.2.1), (10, .int x5.2.2.1), (11, .int x5.2.2.2)]) (hj := fun (x5 : Int64 × Int64 × Int32 × Int32) => full r4 ρ) (fun self6 hself6 x5 => ?_) 6000 (0, 0, 0, 0)
    refine WW.iload (pc := 40) (j := 8) rfl dX12_mostAsked_40 ?_
    refine WW.aload_n (pc := 42) (j := 0) rfl dX12_mostAsked_42 ?_
    refine WW.sgi (pc := 43) fl_X12_114_12 h3_23 (sh_23 ρ) (Or.inl gt_12_15) dX12_mostAsked_43 ?_
    refine WW.icmp_ge (pc := 46) 112 dX12_mostAsked_46 (by decide) (fun _ => ?_) (fun _ => ?_)
    · refine WW.iload_n (pc := 112) (j := 2) rfl dX12_mostAsked_112 ?_
      refine WW.join (pj := 127) (Lj := fun (x7 : Int64) => [(0, .ref 23), (1, .int a1), (2, .int a2), (3, .long x2.1), (5, .int x2.2.1)]) (sj := fun (x7 : Int64) => [.long x7]) (hj := fun (x7 : Int64) => full r4 ρ) (fun x7 => ?_) (fun k8 hk8 => ?_)
      · refine WW.lstore (pc := 127) [(11, .long x7), (0, .ref 23), (1, .int a1), (2, .int a2), (3, .long x2.1), (5, .int x2.2.1)] rfl (by decide) dX12_mostAsked_127 ?_
        refine WW.aload_n (pc := 129) (j := 1) rfl dX12_mostAsked_129 ?_
        refine WW.lload (pc := 130) (j := 0) rfl dX12_mostAsked_130 ?_
        refine WW.lload_n (pc := 132) (j := 4) rfl dX12_mostAsked_132 ?_
        refine WW.join (pj := 146) (Lj := fun (x9 : Int32) => [(0, .ref 23), (1, .int a1), (2, .int a2), (3, .long x2.1), (5, .int x2.2.1), (11, .long x7)]) (sj := fun (x9 : Int32) => [.int x9, .ref 23]) (hj := fun (x9 : Int32) => full r4 ρ) (fun x9 => ?_) (fun k10 hk10 => ?_)
        · refine WW.spi (pc := 146) fp_X12_249_12 h3_23 (sh_23 ρ) gt_12_27 dX12_mostAsked_146 (fun d11 => ?_)
          refine WW.lload (pc := 149) (j := 5) rfl dX12_mostAsked_149 ?_
          refine WW.lload_n (pc := 151) (j := 3) rfl dX12_mostAsked_151 ?_
          refine WW.join (pj := 162) (Lj := fun (x12 : Int64) => [(0, .ref 23), (1, .int a1), (2, .int a2), (5, .int x2.2.1)]) (sj := fun (x12 : Int64) => [.long x12]) (hj := fun (x12 : Int64) => full d11 ρ) (fun x12 => ?_) (fun k13 hk13 => ?_)
          · refine WW.lstore_n (pc := 162) [(3, .long x12), (0, .ref 23), (1, .int a1), (2, .int a2), (5, .int x2.2.1)] rfl (by decide) dX12_mostAsked_162 ?_
            refine WW.iinc (pc := 163) (j := 4) (x2.2.1 + 1) [(5, .int (x2.2.1 + 1)), (3, .long x12), (0, .ref 23), (1, .int a1), (2, .int a2)] rfl rfl rfl (by decide) dX12_mostAsked_163 ?_
            refine WW.goto (pc := 166) 10 dX12_mostAsked_166 (by decide) ?_
            refine WW.sub [2, 3, 4, 1, 0] rfl ?_
            exact hself3 (x12, (x2.2.1 + 1), d11)
          · refine WW.lcmp_le (pc := 152) 161 dX12_mostAsked_152 dX12_mostAsked_153 (by decide) (fun _ => ?_) (fun _ => ?_)
            · refine WW.lload_n (pc := 161) (j := 3) rfl dX12_mostAsked_161 ?_
              refine WW.sub [0, 1, 2, 4] rfl ?_
              exact hk13 x2.1
            · refine WW.lload (pc := 156) (j := 5) rfl dX12_mostAsked_156 ?_
              refine WW.goto (pc := 158) 162 dX12_mostAsked_158 (by decide) ?_
              refine WW.sub [0, 1, 2, 4] rfl ?_
              exact hk13 x7
        · refine WW.lcmp_le (pc := 133) 142 dX12_mostAsked_133 dX12_mostAsked_134 (by decide) (fun _ => ?_) (fun _ => ?_)
          · refine WW.aload_n (pc := 142) (j := 1) rfl dX12_mostAsked_142 ?_
            refine WW.sgi (pc := 143) fl_X12_249_12 h3_23 (sh_23 ρ) (Or.inl gt_12_27) dX12_mostAsked_143 ?_
            refine WW.sub [1, 2, 3, 4, 5, 0] rfl ?_
            exact hk10 (d_i r4 23 27)
          · refine WW.iload (pc := 137) (j := 5) rfl dX12_mostAsked_137 ?_
            refine WW.goto (pc := 139) 146 dX12_mostAsked_139 (by decide) ?_
            refine WW.sub [1, 2, 3, 4, 5, 0] rfl ?_
            exact hk10 x2.2.1
      · refine WW.if_ne (pc := 113) 121 dX12_mostAsked_113 (by decide) (fun _ => ?_) (fun _ => ?_)
        · refine WW.lload (pc := 116) (j := 5) rfl dX12_mostAsked_116 ?_
          refine WW.goto (pc := 118) 127 dX12_mostAsked_118 (by decide) ?_
          refine WW.sub [0, 1, 2, 3, 4] rfl ?_
          exact hk8 x5.1
        · refine WW.lload (pc := 121) (j := 6) rfl dX12_mostAsked_121 ?_
          refine WW.iload (pc := 123) (j := 7) rfl dX12_mostAsked_123 ?_
          refine WW.i2l (pc := 125) dX12_mostAsked_125 ?_
          refine WW.lmul (pc := 126) dX12_mostAsked_126 ?_
          refine WW.sub [0, 1, 2, 3, 4] rfl ?_
          exact hk8 (x5.2.1 * (Int32.toInt64 x5.2.2.1))
    · refine WW.iload (pc := 49) (j := 4) rfl dX12_mostAsked_49 ?_
      refine WW.iload (pc := 51) (j := 8) rfl dX12_mostAsked_51 ?_
      refine WW.ishr (pc := 53) dX12_mostAsked_53 ?_
      refine WW.iconst (pc := 54) 1 dX12_mostAsked_54 rfl ?_
      refine WW.iand (pc := 55) dX12_mostAsked_55 ?_
      refine WW.iconst (pc := 56) 1 dX12_mostAsked_56 rfl ?_
      refine WW.join (pj := 106) (Lj := fun (x14 : Int64 × Int64 × Int32) => [(0, .ref 23), (1, .int a1), (2, .int a2), (3, .long x2.1), (5, .int x2.2.1), (6, .long x14.1), (8, .long x14.2.1), (10, .int x14.2.2), (11, .int x5.2.2.2)]) (sj := fun (x14 : Int64 × Int64 × Int32) => []) (hj := fun (x14 : Int64 × Int64 × Int32) => full r4 ρ) (fun x14 => ?_) (fun k15 hk15 => ?_)
      · refine WW.iinc (pc := 106) (j := 8) (x5.2.2.2 + 1) [(11, .int (x5.2.2.2 + 1)), (0, .ref 23), (1, .int a1), (2, .int a2), (3, .long x2.1), (5, .int x2.2.1), (6, .long x14.1), (8, .long x14.2.1), (10, .int x14.2.2)] rfl rfl rfl (by decide) dX12_mostAsked_106 ?_
        refine WW.goto (pc := 109) 40 dX12_mostAsked_109 (by decide) ?_
        refine WW.sub [1, 2, 3, 4, 5, 6, 7, 8, 0] rfl ?_
        exact hself6 (x14.1, x14.2.1, x14.2.2, (x5.2.2.2 + 1))
      · refine WW.icmp_ne (pc := 57) 106 dX12_mostAsked_57 (by decide) (fun _ => ?_) (fun _ => ?_)
        · refine WW.aload_n (pc := 60) (j := 0) rfl dX12_mostAsked_60 ?_
          refine WW.sgr (pc := 61) fl_X12_37_12 h3_23 (sh_23 ρ) (Or.inr ⟨_, gt_12_25⟩) (hr_23_25 ρ) dX12_mostAsked_61 ?_
          refine WW.iconst (pc := 64) 4 dX12_mostAsked_64 rfl ?_
          refine WW.iload (pc := 65) (j := 4) rfl dX12_mostAsked_65 ?_
          refine WW.imul (pc := 67) dX12_mostAsked_67 ?_
          refine WW.iload (pc := 68) (j := 8) rfl dX12_mostAsked_68 ?_
          refine WW.iadd (pc := 70) dX12_mostAsked_70 ?_
          refine WW.slald (pc := 71) h3_33 (sh_33 ρ) dX12_mostAsked_71 ?_
          refine WW.nml (fun v16 => ?_)
          refine WW.lstore (pc := 72) [(12, .long v16), (0, .ref 23), (1, .int a1), (2, .int a2), (3, .long x2.1), (5, .int x2.2.1), (6, .long x5.1), (8, .long x5.2.1), (10, .int x5.2.2.1), (11, .int x5.2.2.2)] rfl (by decide) dX12_mostAsked_72 ?_
          refine WW.lload (pc := 74) (j := 6) rfl dX12_mostAsked_74 ?_
          refine WW.lload (pc := 76) (j := 0) rfl dX12_mostAsked_76 ?_
          refine WW.ladd (pc := 78) dX12_mostAsked_78 ?_
          refine WW.nml (fun v17 => ?_)
          refine WW.lstore (pc := 79) [(6, .long v17), (12, .long v16), (0, .ref 23), (1, .int a1), (2, .int a2), (3, .long x2.1), (5, .int x2.2.1), (8, .long x5.2.1), (10, .int x5.2.2.1), (11, .int x5.2.2.2)] rfl (by decide) dX12_mostAsked_79 ?_
          refine WW.iload (pc := 81) (j := 8) rfl dX12_mostAsked_81 ?_
          refine WW.join (pj := 101) (Lj := fun (x18 : Int64) => [(0, .ref 23), (1, .int a1), (2, .int a2), (3, .long x2.1), (5, .int x2.2.1), (6, .long v17), (10, .int x5.2.2.1), (11, .int x5.2.2.2)]) (sj := fun (x18 : Int64) => [.long x18]) (hj := fun (x18 : Int64) => full r4 ρ) (fun x18 => ?_) (fun k19 hk19 => ?_)
          · refine WW.lstore (pc := 101) [(8, .long x18), (0, .ref 23), (1, .int a1), (2, .int a2), (3, .long x2.1), (5, .int x2.2.1), (6, .long v17), (10, .int x5.2.2.1), (11, .int x5.2.2.2)] rfl (by decide) dX12_mostAsked_101 ?_
            refine WW.iinc (pc := 103) (j := 7) (x5.2.2.1 + 1) [(10, .int (x5.2.2.1 + 1)), (8, .long x18), (0, .ref 23), (1, .int a1), (2, .int a2), (3, .long x2.1), (5, .int x2.2.1), (6, .long v17), (11, .int x5.2.2.2)] rfl rfl rfl (by decide) dX12_mostAsked_103 ?_
            refine WW.sub [2, 3, 4, 5, 6, 7, 1, 0, 8] rfl ?_
            exact hk15 (v17, x18, (x5.2.2.1 + 1))
          · refine WW.join (pj := 94) (Lj := fun (x20 : Unit) => [(0, .ref 23), (1, .int a1), (2, .int a2), (3, .long x2.1), (5, .int x2.2.1), (6, .long v17), (10, .int x5.2.2.1), (11, .int x5.2.2.2), (12, .long v16)]) (sj := fun (x20 : Unit) => []) (hj := fun (x20 : Unit) => full r4 ρ) (fun x20 => ?_) (fun k21 hk21 => ?_)
            · refine WW.lload (pc := 94) (j := 8) rfl dX12_mostAsked_94 ?_
              refine WW.goto (pc := 96) 101 dX12_mostAsked_96 (by decide) ?_
              refine WW.sub [0, 1, 2, 3, 4, 5, 6, 7] rfl ?_
              exact hk19 v16
            · refine WW.if_eq (pc := 83) 94 dX12_mostAsked_83 (by decide) (fun _ => ?_) (fun _ => ?_)
              · refine WW.sub [2, 3, 4, 5, 6, 0, 8, 9, 1] rfl ?_
                exact hk21 ()
              · refine WW.lload (pc := 86) (j := 1) rfl dX12_mostAsked_86 ?_
                refine WW.lload (pc := 88) (j := 7) rfl dX12_mostAsked_88 ?_
                refine WW.lcmp_ge (pc := 90) 99 dX12_mostAsked_90 dX12_mostAsked_91 (by decide) (fun _ => ?_) (fun _ => ?_)
                · refine WW.lload (pc := 99) (j := 7) rfl dX12_mostAsked_99 ?_
                  refine WW.sub [2, 3, 4, 5, 6, 0, 8, 9] rfl ?_
                  exact hk19 x5.2.1
                · refine WW.sub [2, 3, 4, 5, 6, 0, 8, 9, 1] rfl ?_
                  exact hk21 ()
        · exact hk15 (x5.1, x5.2.1, x5.2.2.1)
def fX12_whom (ρ : Rh) (d : Dd) (a1 : Int32) (a2 : Int32) : Option (Int32 × Dd) :=
  (fX12_in (Int32.toInt64 a2) 0 1).bind fun r1 =>
  (fX12_refusal ρ d a1 true r1).bind fun r2 =>
  if r2 = 0 then
    (if (d_i d 23 26) = 40 then
      (some ((-103), d))
    else
      (bnd (dI d 23 26 ((d_i d 23 26) + 1)) fun d3 =>
      (fX12_mostAsked ρ d3 a1 a2).bind fun r4 =>
      some ((d_i r4.2 23 27), r4.2)))
  else
    (some (r2, d))
set_option maxHeartbeats 4000000 in
set_option maxRecDepth 100000 in
theorem okX12_whom (g : Gx) (ρ : Rh) (hρ : Hr ρ) (d : Dd) (a1 : Int32) (a2 : Int32) : CallR g M_X12_whom (eI ρ) [.ref 23, .int a1, .int a2] (full d ρ) (fX12_whom ρ d a1 a2) := by
  refine CallR.intro rfl rfl (Nat.le_of_ble_eq_true rfl) (fun a ha => ⟨_, rfl⟩) ?_
  show WW g _ _ 0 [(0, .ref 23), (1, .int a1), (2, .int a2)] [] (full d ρ) 0 0 _
  unfold fX12_whom
  refine WW.aload_n (pc := 0) (j := 0) rfl dX12_whom_0 ?_
  refine WW.iload_n (pc := 1) (j := 1) rfl dX12_whom_1 ?_
  refine WW.iconst (pc := 2) 1 dX12_whom_2 rfl ?_
  refine WW.iload_n (pc := 3) (j := 2) rfl dX12_whom_3 ?_
  refine WW.i2l (pc := 4) dX12_whom_4 ?_
  refine WW.lconst (pc := 5) 0 dX12_whom_5 rfl ?_
  refine WW.lconst (pc := 6) 1 dX12_whom_6 rfl ?_
  refine WW.callS (pc := 7) (As := [.long (Int32.toInt64 a2), .long 0, .long 1]) (st := [.int 1, .int a1, .ref 23]) lk_X12_73 (okX12_in g ρ hρ d (Int32.toInt64 a2) 0 1) rfl (Nat.le_of_ble_eq_true rfl) ⟨Nat.le_of_ble_eq_true rfl, Nat.le_of_ble_eq_true rfl, Nat.le_of_ble_eq_true rfl, Nat.le_of_ble_eq_true rfl⟩ dX12_whom_7 rfl (fun r1 hr1 => ?_)
  show WW _ _ _ 10 _ [.int (b2i r1), .int 1, .int a1, .ref 23] (full d ρ) 0 0 _
  refine WW.callV (pc := 10) (As := [.int a1, .int (b2i true), .int (b2i r1)]) (st := []) lk_X12_160 (okX12_refusal g ρ hρ d a1 true r1) h3_23 (sh_23 ρ) ⟨_, _, clk12⟩ rfl (Nat.le_of_ble_eq_true rfl) ⟨Nat.le_of_ble_eq_true rfl, Nat.le_of_ble_eq_true rfl, Nat.le_of_ble_eq_true rfl, Nat.le_of_ble_eq_true rfl⟩ dX12_whom_10 rfl (fun r2 hr2 => ?_)
  show WW _ _ _ 13 _ [.int r2] (full d ρ) 0 0 _
  refine WW.istore_n (pc := 13) [(3, .int r2), (0, .ref 23), (1, .int a1), (2, .int a2)] rfl (by decide) dX12_whom_13 ?_
  refine WW.iload_n (pc := 14) (j := 0) rfl dX12_whom_14 ?_
  refine WW.if_eq (pc := 15) 20 dX12_whom_15 (by decide) (fun _ => ?_) (fun _ => ?_)
  · refine WW.aload_n (pc := 20) (j := 1) rfl dX12_whom_20 ?_
    refine WW.sgi (pc := 21) fl_X12_252_12 h3_23 (sh_23 ρ) (Or.inl gt_12_26) dX12_whom_21 ?_
    refine WW.bipush (pc := 24) 40 dX12_whom_24 rfl ?_
    refine WW.icmp_ne (pc := 26) 32 dX12_whom_26 (by decide) (fun _ => ?_) (fun _ => ?_)
    · refine WW.bipush (pc := 29) (-103) dX12_whom_29 rfl ?_
      exact WW.ret rfl rfl (show RetI M_X12_whom 31 from dX12_whom_31) ⟨Nat.le_refl _, Nat.le_refl _⟩ rfl
    · refine WW.aload_n (pc := 32) (j := 1) rfl dX12_whom_32 ?_
      refine WW.dup (pc := 33) rfl dX12_whom_33 ?_
      refine WW.sgi (pc := 34) fl_X12_252_12 h3_23 (sh_23 ρ) (Or.inl gt_12_26) dX12_whom_34 ?_
      refine WW.iconst (pc := 37) 1 dX12_whom_37 rfl ?_
      refine WW.iadd (pc := 38) dX12_whom_38 ?_
      refine WW.spi (pc := 39) fp_X12_252_12 h3_23 (sh_23 ρ) gt_12_26 dX12_whom_39 (fun d3 => ?_)
      refine WW.aload_n (pc := 42) (j := 1) rfl dX12_whom_42 ?_
      refine WW.iload_n (pc := 43) (j := 2) rfl dX12_whom_43 ?_
      refine WW.iload_n (pc := 44) (j := 3) rfl dX12_whom_44 ?_
      refine WW.callV (pc := 45) (As := [.int a1, .int a2]) (st := []) lk_X12_255 (okX12_mostAsked g ρ hρ d3 a1 a2) h3_23 (sh_23 ρ) ⟨_, _, clk12⟩ rfl (Nat.le_of_ble_eq_true rfl) ⟨Nat.le_of_ble_eq_true rfl, Nat.le_of_ble_eq_true rfl, Nat.le_of_ble_eq_true rfl, Nat.le_of_ble_eq_true rfl⟩ dX12_whom_45 rfl (fun r4 hr4 => ?_)
      show WW _ _ _ 48 _ [.long r4.1] (full r4.2 ρ) 0 0 _
      refine WW.pop2 (pc := 48) rfl dX12_whom_48 ?_
      refine WW.aload_n (pc := 49) (j := 1) rfl dX12_whom_49 ?_
      refine WW.sgi (pc := 50) fl_X12_249_12 h3_23 (sh_23 ρ) (Or.inl gt_12_27) dX12_whom_50 ?_
      exact WW.ret rfl rfl (show RetI M_X12_whom 53 from dX12_whom_53) ⟨Nat.le_refl _, Nat.le_refl _⟩ rfl
  · refine WW.iload_n (pc := 18) (j := 0) rfl dX12_whom_18 ?_
    exact WW.ret rfl rfl (show RetI M_X12_whom 19 from dX12_whom_19) ⟨Nat.le_refl _, Nat.le_refl _⟩ rfl
def fX12_plainly (ρ : Rh) (d : Dd) (a1 : Int32) : Option (Int32 × Dd) :=
  if (d_i d 23 4) = 0 then
    (some ((-103), d))
  else
    ((fX12_in (Int32.toInt64 a1) 0 1).bind fun r1 =>
    if r1 = true then
      (if (d_i d 23 26) = 40 then
        (some ((-103), d))
      else
        (bnd (dI d 23 26 ((d_i d 23 26) + 1)) fun d2 =>
        lp (fun self4 (x3 : Int32 × Int64 × Int32 × Dd) =>
          if (d_i x3.2.2.2 23 18) ≤ x3.2.2.1 then
            (some (x3.1, x3.2.2.2))
          else
            ((fX12_mostAsked ρ x3.2.2.2 x3.2.2.1 a1).bind fun r5 =>
            jn (fun (x6 : Int32) =>
              jn (fun (x8 : Int64) =>
                self4 (x6, x8, (x3.2.2.1 + 1), r5.2)
                ) fun k9 =>
              if x6 = x3.2.2.1 then
                (k9 r5.1)
              else
                (k9 x3.2.1)
              ) fun k7 =>
            jn (fun (x10 : Unit) =>
              k7 x3.2.2.1
              ) fun k11 =>
            if x3.1 = (-1) then
              (k11 ())
            else
              (if r5.1 ≤ x3.2.1 then
                (k7 x3.1)
              else
                (k11 ())))
          ) 6000 ((-1), 0, 0, d2)))
    else
      (some ((-102), d)))
set_option maxHeartbeats 4000000 in
set_option maxRecDepth 100000 in
theorem okX12_plainly (g : Gx) (ρ : Rh) (hρ : Hr ρ) (d : Dd) (a1 : Int32) : CallR g M_X12_plainly (eI ρ) [.ref 23, .int a1] (full d ρ) (fX12_plainly ρ d a1) := by
  refine CallR.intro rfl rfl (Nat.le_of_ble_eq_true rfl) (fun a ha => ⟨_, rfl⟩) ?_
  show WW g _ _ 0 [(0, .ref 23), (1, .int a1)] [] (full d ρ) 0 0 _
  unfold fX12_plainly
  refine WW.aload_n (pc := 0) (j := 0) rfl dX12_plainly_0 ?_
  refine WW.sgi (pc := 1) fl_X12_44_12 h3_23 (sh_23 ρ) (Or.inl gt_12_4) dX12_plainly_1 ?_
  refine WW.if_ne (pc := 4) 10 dX12_plainly_4 (by decide) (fun _ => ?_) (fun _ => ?_)
  · refine WW.bipush (pc := 7) (-103) dX12_plainly_7 rfl ?_
    exact WW.ret rfl rfl (show RetI M_X12_plainly 9 from dX12_plainly_9) ⟨Nat.le_refl _, Nat.le_refl _⟩ rfl
  · refine WW.iload_n (pc := 10) (j := 1) rfl dX12_plainly_10 ?_
    refine WW.i2l (pc := 11) dX12_plainly_11 ?_
    refine WW.lconst (pc := 12) 0 dX12_plainly_12 rfl ?_
    refine WW.lconst (pc := 13) 1 dX12_plainly_13 rfl ?_
    refine WW.callS (pc := 14) (As := [.long (Int32.toInt64 a1), .long 0, .long 1]) (st := []) lk_X12_73 (okX12_in g ρ hρ d (Int32.toInt64 a1) 0 1) rfl (Nat.le_of_ble_eq_true rfl) ⟨Nat.le_of_ble_eq_true rfl, Nat.le_of_ble_eq_true rfl, Nat.le_of_ble_eq_true rfl, Nat.le_of_ble_eq_true rfl⟩ dX12_plainly_14 rfl (fun r1 hr1 => ?_)
    show WW _ _ _ 17 _ [.int (b2i r1)] (full d ρ) 0 0 _
    refine WW.if_neB (pc := 17) 23 dX12_plainly_17 (by decide) (fun _ => ?_) (fun _ => ?_)
    · refine WW.aload_n (pc := 23) (j := 0) rfl dX12_plainly_23 ?_
      refine WW.sgi (pc := 24) fl_X12_252_12 h3_23 (sh_23 ρ) (Or.inl gt_12_26) dX12_plainly_24 ?_
      refine WW.bipush (pc := 27) 40 dX12_plainly_27 rfl ?_
      refine WW.icmp_ne (pc := 29) 35 dX12_plainly_29 (by decide) (fun _ => ?_) (fun _ => ?_)
      · refine WW.bipush (pc := 32) (-103) dX12_plainly_32 rfl ?_
        exact WW.ret rfl rfl (show RetI M_X12_plainly 34 from dX12_plainly_34) ⟨Nat.le_refl _, Nat.le_refl _⟩ rfl
      · refine WW.aload_n (pc := 35) (j := 0) rfl dX12_plainly_35 ?_
        refine WW.dup (pc := 36) rfl dX12_plainly_36 ?_
        refine WW.sgi (pc := 37) fl_X12_252_12 h3_23 (sh_23 ρ) (Or.inl gt_12_26) dX12_plainly_37 ?_
        refine WW.iconst (pc := 40) 1 dX12_plainly_40 rfl ?_
        refine WW.iadd (pc := 41) dX12_plainly_41 ?_
        refine WW.spi (pc := 42) fp_X12_252_12 h3_23 (sh_23 ρ) gt_12_26 dX12_plainly_42 (fun d2 => ?_)
        refine WW.iconst (pc := 45) (-1) dX12_plainly_45 rfl ?_
        refine WW.istore_n (pc := 46) [(2, .int (-1)), (0, .ref 23), (1, .int a1)] rfl (by decide) dX12_plainly_46 ?_
        refine WW.lconst (pc := 47) 0 dX12_plainly_47 rfl ?_
        refine WW.lstore_n (pc := 48) [(3, .long 0), (2, .int (-1)), (0, .ref 23), (1, .int a1)] rfl (by decide) dX12_plainly_48 ?_
        refine WW.iconst (pc := 49) 0 dX12_plainly_49 rfl ?_
        refine WW.istore (pc := 50) [(5, .int 0), (3, .long 0), (2, .int (-1)), (0, .ref 23), (1, .int a1)] rfl (by decide) dX12_plainly_50 ?_
        refine WW.sub [3, 4, 2, 1, 0] rfl ?_
        refine WW.loop (pc := 52) (Lj := fun (x3 : Int32 × Int64 × Int32 × Dd) => [(0, .ref 23), (1, .int a1), (2, .int x3.1), (3, .long x3.2.1), (5, .int x3.2.2.1)]) (hj := fun (x3 : Int32 × Int64 × Int32 × Dd) => full x3.2.2.2 ρ) (fun self4 hself4 x3 => ?_) 6000 ((-1), 0, 0, d2)
        refine WW.iload (pc := 52) (j := 4) rfl dX12_plainly_52 ?_
        refine WW.aload_n (pc := 54) (j := 0) rfl dX12_plainly_54 ?_
        refine WW.sgi (pc := 55) fl_X12_124_12 h3_23 (sh_23 ρ) (Or.inl gt_12_18) dX12_plainly_55 ?_
        refine WW.icmp_ge (pc := 58) 108 dX12_plainly_58 (by decide) (fun _ => ?_) (fun _ => ?_)
        · refine WW.iload_n (pc := 108) (j := 2) rfl dX12_plainly_108 ?_
          exact WW.ret rfl rfl (show RetI M_X12_plainly 109 from dX12_plainly_109) ⟨Nat.le_refl _, Nat.le_refl _⟩ rfl
        · refine WW.aload_n (pc := 61) (j := 0) rfl dX12_plainly_61 ?_
          refine WW.iload (pc := 62) (j := 4) rfl dX12_plainly_62 ?_
          refine WW.iload_n (pc := 64) (j := 1) rfl dX12_plainly_64 ?_
          refine WW.callV (pc := 65) (As := [.int x3.2.2.1, .int a1]) (st := []) lk_X12_255 (okX12_mostAsked g ρ hρ x3.2.2.2 x3.2.2.1 a1) h3_23 (sh_23 ρ) ⟨_, _, clk12⟩ rfl (Nat.le_of_ble_eq_true rfl) ⟨Nat.le_of_ble_eq_true rfl, Nat.le_of_ble_eq_true rfl, Nat.le_of_ble_eq_true rfl, Nat.le_of_ble_eq_true rfl⟩ dX12_plainly_65 rfl (fun r5 hr5 => ?_)
          show WW _ _ _ 68 _ [.long r5.1] (full r5.2 ρ) 0 0 _
          refine WW.lstore (pc := 68) [(6, .long r5.1), (0, .ref 23), (1, .int a1), (2, .int x3.1), (3, .long x3.2.1), (5, .int x3.2.2.1)] rfl (by decide) dX12_plainly_68 ?_
          refine WW.iload_n (pc := 70) (j := 3) rfl dX12_plainly_70 ?_
          refine WW.iconst (pc := 71) (-1) dX12_plainly_71 rfl ?_
          refine WW.join (pj := 88) (Lj := fun (x6 : Int32) => [(0, .ref 23), (1, .int a1), (3, .long x3.2.1), (5, .int x3.2.2.1), (6, .long r5.1)]) (sj := fun (x6 : Int32) => [.int x6]) (hj := fun (x6 : Int32) => full r5.2 ρ) (fun x6 => ?_) (fun k7 hk7 => ?_)
          · refine WW.istore_n (pc := 88) [(2, .int x6), (0, .ref 23), (1, .int a1), (3, .long x3.2.1), (5, .int x3.2.2.1), (6, .long r5.1)] rfl (by decide) dX12_plainly_88 ?_
            refine WW.iload_n (pc := 89) (j := 0) rfl dX12_plainly_89 ?_
            refine WW.iload (pc := 90) (j := 4) rfl dX12_plainly_90 ?_
            refine WW.join (pj := 101) (Lj := fun (x8 : Int64) => [(0, .ref 23), (1, .int a1), (2, .int x6), (5, .int x3.2.2.1)]) (sj := fun (x8 : Int64) => [.long x8]) (hj := fun (x8 : Int64) => full r5.2 ρ) (fun x8 => ?_) (fun k9 hk9 => ?_)
            · refine WW.lstore_n (pc := 101) [(3, .long x8), (0, .ref 23), (1, .int a1), (2, .int x6), (5, .int x3.2.2.1)] rfl (by decide) dX12_plainly_101 ?_
              refine WW.iinc (pc := 102) (j := 4) (x3.2.2.1 + 1) [(5, .int (x3.2.2.1 + 1)), (3, .long x8), (0, .ref 23), (1, .int a1), (2, .int x6)] rfl rfl rfl (by decide) dX12_plainly_102 ?_
              refine WW.goto (pc := 105) 52 dX12_plainly_105 (by decide) ?_
              refine WW.sub [2, 3, 4, 1, 0] rfl ?_
              exact hself4 (x6, x8, (x3.2.2.1 + 1), r5.2)
            · refine WW.icmp_ne (pc := 92) 100 dX12_plainly_92 (by decide) (fun _ => ?_) (fun _ => ?_)
              · refine WW.lload (pc := 95) (j := 5) rfl dX12_plainly_95 ?_
                refine WW.goto (pc := 97) 101 dX12_plainly_97 (by decide) ?_
                refine WW.sub [1, 2, 0, 4] rfl ?_
                exact hk9 r5.1
              · refine WW.lload_n (pc := 100) (j := 3) rfl dX12_plainly_100 ?_
                refine WW.sub [1, 2, 0, 4] rfl ?_
                exact hk9 x3.2.1
          · refine WW.join (pj := 82) (Lj := fun (x10 : Unit) => [(0, .ref 23), (1, .int a1), (3, .long x3.2.1), (5, .int x3.2.2.1), (6, .long r5.1)]) (sj := fun (x10 : Unit) => []) (hj := fun (x10 : Unit) => full r5.2 ρ) (fun x10 => ?_) (fun k11 hk11 => ?_)
            · refine WW.iload (pc := 82) (j := 3) rfl dX12_plainly_82 ?_
              refine WW.goto (pc := 84) 88 dX12_plainly_84 (by decide) ?_
              exact hk7 x3.2.2.1
            · refine WW.icmp_eq (pc := 72) 82 dX12_plainly_72 (by decide) (fun _ => ?_) (fun _ => ?_)
              · refine WW.sub [1, 2, 4, 5, 0] rfl ?_
                exact hk11 ()
              · refine WW.lload (pc := 75) (j := 0) rfl dX12_plainly_75 ?_
                refine WW.lload_n (pc := 77) (j := 4) rfl dX12_plainly_77 ?_
                refine WW.lcmp_le (pc := 78) 87 dX12_plainly_78 dX12_plainly_79 (by decide) (fun _ => ?_) (fun _ => ?_)
                · refine WW.iload_n (pc := 87) (j := 3) rfl dX12_plainly_87 ?_
                  refine WW.sub [1, 2, 4, 5, 0] rfl ?_
                  exact hk7 x3.1
                · refine WW.sub [1, 2, 4, 5, 0] rfl ?_
                  exact hk11 ()
    · refine WW.bipush (pc := 20) (-102) dX12_plainly_20 rfl ?_
      exact WW.ret rfl rfl (show RetI M_X12_plainly 22 from dX12_plainly_22) ⟨Nat.le_refl _, Nat.le_refl _⟩ rfl
