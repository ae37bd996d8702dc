def fX12_isSign (a0 : Int32) : Option Bool :=
  (fX12_in (Int32.toInt64 a0) 0 3).bind fun r1 =>
  some r1
set_option maxHeartbeats 4000000 in
set_option maxRecDepth 100000 in
theorem okX12_isSign (g : Gx) (ρ : Rh) (hρ : Hr ρ) (d : Dd) (a0 : Int32) : CallR g M_X12_isSign (eZp ρ d) [.int a0] (full d ρ) (fX12_isSign a0) := by
  refine CallR.intro rfl rfl (Nat.le_of_ble_eq_true rfl) (fun a ha => ⟨_, rfl⟩) ?_
  show WW g _ _ 0 [(0, .int a0)] [] (full d ρ) 0 0 _
  unfold fX12_isSign
  refine WW.iload_n (pc := 0) (j := 0) rfl dX12_isSign_0 ?_
  refine WW.i2l (pc := 1) dX12_isSign_1 ?_
  refine WW.lconst (pc := 2) 0 dX12_isSign_2 rfl ?_
  refine WW.ldc2 (pc := 3) wd_974 dX12_isSign_3 ?_
  refine WW.callS (pc := 6) (As := [.long (Int32.toInt64 a0), .long 0, .long 3]) (st := []) lk_X12_73 (okX12_in g ρ hρ d (Int32.toInt64 a0) 0 3) rfl (Nat.le_of_ble_eq_true rfl) ⟨Nat.le_of_ble_eq_true rfl, Nat.le_of_ble_eq_true rfl, Nat.le_of_ble_eq_true rfl, Nat.le_of_ble_eq_true rfl⟩ dX12_isSign_6 rfl (fun r1 hr1 => ?_)
  show WW _ _ _ 9 _ [.int (b2i r1)] (full d ρ) 0 0 _
  exact WW.ret rfl rfl (show RetI M_X12_isSign 9 from dX12_isSign_9) ⟨Nat.le_refl _, Nat.le_refl _⟩ rfl
def fX12_isPart (a0 : Int32) : Option Bool :=
  (fX12_in (Int32.toInt64 a0) 0 1).bind fun r1 =>
  some r1
set_option maxHeartbeats 4000000 in
set_option maxRecDepth 100000 in
theorem okX12_isPart (g : Gx) (ρ : Rh) (hρ : Hr ρ) (d : Dd) (a0 : Int32) : CallR g M_X12_isPart (eZp ρ d) [.int a0] (full d ρ) (fX12_isPart a0) := by
  refine CallR.intro rfl rfl (Nat.le_of_ble_eq_true rfl) (fun a ha => ⟨_, rfl⟩) ?_
  show WW g _ _ 0 [(0, .int a0)] [] (full d ρ) 0 0 _
  unfold fX12_isPart
  refine WW.iload_n (pc := 0) (j := 0) rfl dX12_isPart_0 ?_
  refine WW.i2l (pc := 1) dX12_isPart_1 ?_
  refine WW.lconst (pc := 2) 0 dX12_isPart_2 rfl ?_
  refine WW.lconst (pc := 3) 1 dX12_isPart_3 rfl ?_
  refine WW.callS (pc := 4) (As := [.long (Int32.toInt64 a0), .long 0, .long 1]) (st := []) lk_X12_73 (okX12_in g ρ hρ d (Int32.toInt64 a0) 0 1) rfl (Nat.le_of_ble_eq_true rfl) ⟨Nat.le_of_ble_eq_true rfl, Nat.le_of_ble_eq_true rfl, Nat.le_of_ble_eq_true rfl, Nat.le_of_ble_eq_true rfl⟩ dX12_isPart_4 rfl (fun r1 hr1 => ?_)
  show WW _ _ _ 7 _ [.int (b2i r1)] (full d ρ) 0 0 _
  exact WW.ret rfl rfl (show RetI M_X12_isPart 7 from dX12_isPart_7) ⟨Nat.le_refl _, Nat.le_refl _⟩ rfl
def fX12_refusal (ρ : Rh) (d : Dd) (a1 : Int32) (a2 : Bool) (a3 : Bool) : Option Int32 :=
  (fX12_isNews ρ d a1).bind fun r1 =>
  if r1 = true then
    (if (d_i d 23 4) = 0 then
      (some (-103))
    else
      (if a2 = true then
        (if a3 = true then
          (some 0)
        else
          (some (-102)))
      else
        (some (-101))))
  else
    (some (-101))
set_option maxHeartbeats 4000000 in
set_option maxRecDepth 100000 in
theorem okX12_refusal (g : Gx) (ρ : Rh) (hρ : Hr ρ) (d : Dd) (a1 : Int32) (a2 : Bool) (a3 : Bool) : CallR g M_X12_refusal (eIp ρ d) [.ref 23, .int a1, .int (b2i a2), .int (b2i a3)] (full d ρ) (fX12_refusal ρ d a1 a2 a3) := by
  refine CallR.intro rfl rfl (Nat.le_of_ble_eq_true rfl) (fun a ha => ⟨_, rfl⟩) ?_
  show WW g _ _ 0 [(0, .ref 23), (1, .int a1), (2, .int (b2i a2)), (3, .int (b2i a3))] [] (full d ρ) 0 0 _
  unfold fX12_refusal
  refine WW.aload_n (pc := 0) (j := 0) rfl dX12_refusal_0 ?_
  refine WW.iload_n (pc := 1) (j := 1) rfl dX12_refusal_1 ?_
  refine WW.callV (pc := 2) (As := [.int a1]) (st := []) lk_X12_127 (okX12_isNews g ρ hρ d a1) h3_23 (sh_23 ρ) ⟨_, _, clk12⟩ rfl (Nat.le_of_ble_eq_true rfl) ⟨Nat.le_of_ble_eq_true rfl, Nat.le_of_ble_eq_true rfl, Nat.le_of_ble_eq_true rfl, Nat.le_of_ble_eq_true rfl⟩ dX12_refusal_2 rfl (fun r1 hr1 => ?_)
  show WW _ _ _ 5 _ [.int (b2i r1)] (full d ρ) 0 0 _
  refine WW.if_neB (pc := 5) 13 dX12_refusal_5 (by decide) (fun _ => ?_) (fun _ => ?_)
  · refine WW.aload_n (pc := 13) (j := 0) rfl dX12_refusal_13 ?_
    refine WW.sgi (pc := 14) fl_X12_44_12 h3_23 (sh_23 ρ) (Or.inl gt_12_4) dX12_refusal_14 ?_
    refine WW.if_ne (pc := 17) 25 dX12_refusal_17 (by decide) (fun _ => ?_) (fun _ => ?_)
    · refine WW.bipush (pc := 20) (-103) dX12_refusal_20 rfl ?_
      refine WW.goto (pc := 22) 44 dX12_refusal_22 (by decide) ?_
      exact WW.ret rfl rfl (show RetI M_X12_refusal 44 from dX12_refusal_44) ⟨Nat.le_refl _, Nat.le_refl _⟩ rfl
    · refine WW.iload_n (pc := 25) (j := 2) rfl dX12_refusal_25 ?_
      refine WW.if_neB (pc := 26) 34 dX12_refusal_26 (by decide) (fun _ => ?_) (fun _ => ?_)
      · refine WW.iload_n (pc := 34) (j := 3) rfl dX12_refusal_34 ?_
        refine WW.if_neB (pc := 35) 43 dX12_refusal_35 (by decide) (fun _ => ?_) (fun _ => ?_)
        · refine WW.iconst (pc := 43) 0 dX12_refusal_43 rfl ?_
          exact WW.ret rfl rfl (show RetI M_X12_refusal 44 from dX12_refusal_44) ⟨Nat.le_refl _, Nat.le_refl _⟩ rfl
        · refine WW.bipush (pc := 38) (-102) dX12_refusal_38 rfl ?_
          refine WW.goto (pc := 40) 44 dX12_refusal_40 (by decide) ?_
          exact WW.ret rfl rfl (show RetI M_X12_refusal 44 from dX12_refusal_44) ⟨Nat.le_refl _, Nat.le_refl _⟩ rfl
      · refine WW.bipush (pc := 29) (-101) dX12_refusal_29 rfl ?_
        refine WW.goto (pc := 31) 44 dX12_refusal_31 (by decide) ?_
        exact WW.ret rfl rfl (show RetI M_X12_refusal 44 from dX12_refusal_44) ⟨Nat.le_refl _, Nat.le_refl _⟩ rfl
  · refine WW.bipush (pc := 8) (-101) dX12_refusal_8 rfl ?_
    refine WW.goto (pc := 10) 44 dX12_refusal_10 (by decide) ?_
    exact WW.ret rfl rfl (show RetI M_X12_refusal 44 from dX12_refusal_44) ⟨Nat.le_refl _, Nat.le_refl _⟩ rfl
def fX12_asLong (a0 : Int32) : Option Int64 :=
  if a0 = (-101) then
    (some (-1000000000000000001))
  else
    (if a0 = (-102) then
      (some (-1000000000000000002))
    else
      (some (-1000000000000000003)))
set_option maxHeartbeats 4000000 in
set_option maxRecDepth 100000 in
theorem okX12_asLong (g : Gx) (ρ : Rh) (hρ : Hr ρ) (d : Dd) (a0 : Int32) : CallR g M_X12_asLong (eLp ρ d) [.int a0] (full d ρ) (fX12_asLong a0) := by
  refine CallR.intro rfl rfl (Nat.le_of_ble_eq_true rfl) (fun a ha => ⟨_, rfl⟩) ?_
  show WW g _ _ 0 [(0, .int a0)] [] (full d ρ) 0 0 _
  unfold fX12_asLong
  refine WW.iload_n (pc := 0) (j := 0) rfl dX12_asLong_0 ?_
  refine WW.bipush (pc := 1) (-101) dX12_asLong_1 rfl ?_
  refine WW.icmp_ne (pc := 3) 12 dX12_asLong_3 (by decide) (fun _ => ?_) (fun _ => ?_)
  · refine WW.ldc2 (pc := 6) wd_1015 dX12_asLong_6 ?_
    refine WW.goto (pc := 9) 27 dX12_asLong_9 (by decide) ?_
    exact WW.ret rfl rfl (show RetI M_X12_asLong 27 from dX12_asLong_27) ⟨Nat.le_refl _, Nat.le_refl _⟩ rfl
  · refine WW.iload_n (pc := 12) (j := 0) rfl dX12_asLong_12 ?_
    refine WW.bipush (pc := 13) (-102) dX12_asLong_13 rfl ?_
    refine WW.icmp_ne (pc := 15) 24 dX12_asLong_15 (by decide) (fun _ => ?_) (fun _ => ?_)
    · refine WW.ldc2 (pc := 18) wd_1016 dX12_asLong_18 ?_
      refine WW.goto (pc := 21) 27 dX12_asLong_21 (by decide) ?_
      exact WW.ret rfl rfl (show RetI M_X12_asLong 27 from dX12_asLong_27) ⟨Nat.le_refl _, Nat.le_refl _⟩ rfl
    · refine WW.ldc2 (pc := 24) wd_1017 dX12_asLong_24 ?_
      exact WW.ret rfl rfl (show RetI M_X12_asLong 27 from dX12_asLong_27) ⟨Nat.le_refl _, Nat.le_refl _⟩ rfl
def fX12_heard (ρ : Rh) (d : Dd) (a1 : Int32) (a2 : Int32) (a3 : Int32) : Option Int64 :=
  (fX12_isSign a2).bind fun r1 =>
  jn (fun (x2 : Bool) =>
    (fX12_refusal ρ d a1 true x2).bind fun r4 =>
    if r4 = 0 then
      ((fX12_heardOf ρ d a1 a2).bind fun r5 =>
      (fX12_unit ρ d).bind fun r6 =>
      (fX12_allWeights ρ d).bind fun r7 =>
      (fX12_term (Int32.toInt64 r5) ((Int32.toInt64 r6) * (Int32.toInt64 r7)) a3).bind fun r8 =>
      some r8)
    else
      ((fX12_asLong r4).bind fun r9 =>
      some r9)
    ) fun k3 =>
  jn (fun (x10 : Unit) =>
    k3 false
    ) fun k11 =>
  if r1 = true then
    ((fX12_isPart a3).bind fun r12 =>
    if r12 = true then
      (k3 true)
    else
      (k11 ()))
  else
    (k11 ())
set_option maxHeartbeats 4000000 in
set_option maxRecDepth 100000 in
theorem okX12_heard (g : Gx) (ρ : Rh) (hρ : Hr ρ) (d : Dd) (a1 : Int32) (a2 : Int32) (a3 : Int32) : CallR g M_X12_heard (eLp ρ d) [.ref 23, .int a1, .int a2, .int a3] (full d ρ) (fX12_heard ρ d a1 a2 a3) := by
  refine CallR.intro rfl rfl (Nat.le_of_ble_eq_true rfl) (fun a ha => ⟨_, rfl⟩) ?_
  show WW g _ _ 0 [(0, .ref 23), (1, .int a1), (2, .int a2), (3, .int a3)] [] (full d ρ) 0 0 _
  unfold fX12_heard
  refine WW.aload_n (pc := 0) (j := 0) rfl dX12_heard_0 ?_
  refine WW.iload_n (pc := 1) (j := 1) rfl dX12_heard_1 ?_
  refine WW.iconst (pc := 2) 1 dX12_heard_2 rfl ?_
  refine WW.iload_n (pc := 3) (j := 2) rfl dX12_heard_3 ?_
  refine WW.callS (pc := 4) (As := [.int a2]) (st := [.int 1, .int a1, .ref 23]) lk_X12_154 (okX12_isSign g ρ hρ d a2) rfl (Nat.le_of_ble_eq_true rfl) ⟨Nat.le_of_ble_eq_true rfl, Nat.le_of_ble_eq_true rfl, Nat.le_of_ble_eq_true rfl, Nat.le_of_ble_eq_true rfl⟩ dX12_heard_4 rfl (fun r1 hr1 => ?_)
  show WW _ _ _ 7 _ [.int (b2i r1), .int 1, .int a1, .ref 23] (full d ρ) 0 0 _
  refine WW.join (pj := 22) (Lj := fun (x2 : Bool) => [(0, .ref 23), (1, .int a1), (2, .int a2), (3, .int a3)]) (sj := fun (x2 : Bool) => [.int (b2i x2), .int 1, .int a1, .ref 23]) (hj := fun (x2 : Bool) => full d ρ) (fun x2 => ?_) (fun k3 hk3 => ?_)
  · refine WW.callV (pc := 22) (As := [.int a1, .int (b2i true), .int (b2i x2)]) (st := []) lk_X12_160 (okX12_refusal g ρ hρ d a1 true x2) h3_23 (sh_23 ρ) ⟨_, _, clk12⟩ rfl (Nat.le_of_ble_eq_true rfl) ⟨Nat.le_of_ble_eq_true rfl, Nat.le_of_ble_eq_true rfl, Nat.le_of_ble_eq_true rfl, Nat.le_of_ble_eq_true rfl⟩ dX12_heard_22 rfl (fun r4 hr4 => ?_)
    show WW _ _ _ 25 _ [.int r4] (full d ρ) 0 0 _
    refine WW.istore (pc := 25) [(4, .int r4), (0, .ref 23), (1, .int a1), (2, .int a2), (3, .int a3)] rfl (by decide) dX12_heard_25 ?_
    refine WW.iload (pc := 27) (j := 0) rfl dX12_heard_27 ?_
    refine WW.if_eq (pc := 29) 40 dX12_heard_29 (by decide) (fun _ => ?_) (fun _ => ?_)
    · refine WW.aload_n (pc := 40) (j := 1) rfl dX12_heard_40 ?_
      refine WW.iload_n (pc := 41) (j := 2) rfl dX12_heard_41 ?_
      refine WW.iload_n (pc := 42) (j := 3) rfl dX12_heard_42 ?_
      refine WW.callV (pc := 43) (As := [.int a1, .int a2]) (st := []) lk_X12_168 (okX12_heardOf g ρ hρ d a1 a2) h3_23 (sh_23 ρ) ⟨_, _, clk12⟩ rfl (Nat.le_of_ble_eq_true rfl) ⟨Nat.le_of_ble_eq_true rfl, Nat.le_of_ble_eq_true rfl, Nat.le_of_ble_eq_true rfl, Nat.le_of_ble_eq_true rfl⟩ dX12_heard_43 rfl (fun r5 hr5 => ?_)
      show WW _ _ _ 46 _ [.int r5] (full d ρ) 0 0 _
      refine WW.i2l (pc := 46) dX12_heard_46 ?_
      refine WW.aload_n (pc := 47) (j := 1) rfl dX12_heard_47 ?_
      refine WW.callV (pc := 48) (As := []) (st := [.long (Int32.toInt64 r5)]) lk_X12_133 (okX12_unit g ρ hρ d ) h3_23 (sh_23 ρ) ⟨_, _, clk12⟩ rfl (Nat.le_of_ble_eq_true rfl) ⟨Nat.le_of_ble_eq_true rfl, Nat.le_of_ble_eq_true rfl, Nat.le_of_ble_eq_true rfl, Nat.le_of_ble_eq_true rfl⟩ dX12_heard_48 rfl (fun r6 hr6 => ?_)
      show WW _ _ _ 51 _ [.int r6, .long (Int32.toInt64 r5)] (full d ρ) 0 0 _
      refine WW.i2l (pc := 51) dX12_heard_51 ?_
      refine WW.aload_n (pc := 52) (j := 1) rfl dX12_heard_52 ?_
      refine WW.callV (pc := 53) (As := []) (st := [.long (Int32.toInt64 r6), .long (Int32.toInt64 r5)]) lk_X12_171 (okX12_allWeights g ρ hρ d ) h3_23 (sh_23 ρ) ⟨_, _, clk12⟩ rfl (Nat.le_of_ble_eq_true rfl) ⟨Nat.le_of_ble_eq_true rfl, Nat.le_of_ble_eq_true rfl, Nat.le_of_ble_eq_true rfl, Nat.le_of_ble_eq_true rfl⟩ dX12_heard_53 rfl (fun r7 hr7 => ?_)
      show WW _ _ _ 56 _ [.int r7, .long (Int32.toInt64 r6), .long (Int32.toInt64 r5)] (full d ρ) 0 0 _
      refine WW.i2l (pc := 56) dX12_heard_56 ?_
      refine WW.lmul (pc := 57) dX12_heard_57 ?_
      refine WW.iload_n (pc := 58) (j := 4) rfl dX12_heard_58 ?_
      refine WW.callS (pc := 59) (As := [.long (Int32.toInt64 r5), .long ((Int32.toInt64 r6) * (Int32.toInt64 r7)), .int a3]) (st := []) lk_X12_174 (okX12_term g ρ hρ d (Int32.toInt64 r5) ((Int32.toInt64 r6) * (Int32.toInt64 r7)) a3) rfl (Nat.le_of_ble_eq_true rfl) ⟨Nat.le_of_ble_eq_true rfl, Nat.le_of_ble_eq_true rfl, Nat.le_of_ble_eq_true rfl, Nat.le_of_ble_eq_true rfl⟩ dX12_heard_59 rfl (fun r8 hr8 => ?_)
      show WW _ _ _ 62 _ [.long r8] (full d ρ) 0 0 _
      exact WW.ret rfl rfl (show RetI M_X12_heard 62 from dX12_heard_62) ⟨Nat.le_refl _, Nat.le_refl _⟩ rfl
    · refine WW.iload (pc := 32) (j := 0) rfl dX12_heard_32 ?_
      refine WW.callS (pc := 34) (As := [.int r4]) (st := []) lk_X12_164 (okX12_asLong g ρ hρ d r4) rfl (Nat.le_of_ble_eq_true rfl) ⟨Nat.le_of_ble_eq_true rfl, Nat.le_of_ble_eq_true rfl, Nat.le_of_ble_eq_true rfl, Nat.le_of_ble_eq_true rfl⟩ dX12_heard_34 rfl (fun r9 hr9 => ?_)
      show WW _ _ _ 37 _ [.long r9] (full d ρ) 0 0 _
      refine WW.goto (pc := 37) 62 dX12_heard_37 (by decide) ?_
      exact WW.ret rfl rfl (show RetI M_X12_heard 62 from dX12_heard_62) ⟨Nat.le_refl _, Nat.le_refl _⟩ rfl
  · refine WW.join (pj := 21) (Lj := fun (x10 : Unit) => [(0, .ref 23), (1, .int a1), (2, .int a2), (3, .int a3)]) (sj := fun (x10 : Unit) => [.int 1, .int a1, .ref 23]) (hj := fun (x10 : Unit) => full d ρ) (fun x10 => ?_) (fun k11 hk11 => ?_)
    · refine WW.iconst (pc := 21) 0 dX12_heard_21 rfl ?_
      exact hk3 false
    · refine WW.if_eqB (pc := 7) 21 dX12_heard_7 (by decide) (fun _ => ?_) (fun _ => ?_)
      · refine WW.iload_n (pc := 10) (j := 3) rfl dX12_heard_10 ?_
        refine WW.callS (pc := 11) (As := [.int a3]) (st := [.int 1, .int a1, .ref 23]) lk_X12_157 (okX12_isPart g ρ hρ d a3) rfl (Nat.le_of_ble_eq_true rfl) ⟨Nat.le_of_ble_eq_true rfl, Nat.le_of_ble_eq_true rfl, Nat.le_of_ble_eq_true rfl, Nat.le_of_ble_eq_true rfl⟩ dX12_heard_11 rfl (fun r12 hr12 => ?_)
        show WW _ _ _ 14 _ [.int (b2i r12), .int 1, .int a1, .ref 23] (full d ρ) 0 0 _
        refine WW.if_eqB (pc := 14) 21 dX12_heard_14 (by decide) (fun _ => ?_) (fun _ => ?_)
        · refine WW.iconst (pc := 17) 1 dX12_heard_17 rfl ?_
          refine WW.goto (pc := 18) 22 dX12_heard_18 (by decide) ?_
          exact hk3 true
        · exact hk11 ()
      · exact hk11 ()
def fX12_edge (ρ : Rh) (d : Dd) (a1 : Int32) (a2 : Int32) (a3 : Int32) : Option Int64 :=
  (fX12_isSign a2).bind fun r1 =>
  jn (fun (x2 : Bool) =>
    (fX12_refusal ρ d a1 true x2).bind fun r4 =>
    if r4 = 0 then
      ((fX12_heardOf ρ d a1 a2).bind fun r5 =>
      if r5 = 0 then
        (some (-1000000000000000004))
      else
        ((fX12_edgeOf ρ d a1 a2).bind fun r6 =>
        (fX12_term r6 (100 * (Int32.toInt64 r5)) a3).bind fun r7 =>
        some r7))
    else
      ((fX12_asLong r4).bind fun r8 =>
      some r8)
    ) fun k3 =>
  jn (fun (x9 : Unit) =>
    k3 false
    ) fun k10 =>
  if r1 = true then
    ((fX12_isPart a3).bind fun r11 =>
    if r11 = true then
      (k3 true)
    else
      (k10 ()))
  else
    (k10 ())
set_option maxHeartbeats 4000000 in
set_option maxRecDepth 100000 in
theorem okX12_edge (g : Gx) (ρ : Rh) (hρ : Hr ρ) (d : Dd) (a1 : Int32) (a2 : Int32) (a3 : Int32) : CallR g M_X12_edge (eLp ρ d) [.ref 23, .int a1, .int a2, .int a3] (full d ρ) (fX12_edge ρ d a1 a2 a3) := by
  refine CallR.intro rfl rfl (Nat.le_of_ble_eq_true rfl) (fun a ha => ⟨_, rfl⟩) ?_
  show WW g _ _ 0 [(0, .ref 23), (1, .int a1), (2, .int a2), (3, .int a3)] [] (full d ρ) 0 0 _
  unfold fX12_edge
  refine WW.aload_n (pc := 0) (j := 0) rfl dX12_edge_0 ?_
  refine WW.iload_n (pc := 1) (j := 1) rfl dX12_edge_1 ?_
  refine WW.iconst (pc := 2) 1 dX12_edge_2 rfl ?_
  refine WW.iload_n (pc := 3) (j := 2) rfl dX12_edge_3 ?_
  refine WW.callS (pc := 4) (As := [.int a2]) (st := [.int 1, .int a1, .ref 23]) lk_X12_154 (okX12_isSign g ρ hρ d a2) rfl (Nat.le_of_ble_eq_true rfl) ⟨Nat.le_of_ble_eq_true rfl, Nat.le_of_ble_eq_true rfl, Nat.le_of_ble_eq_true rfl, Nat.le_of_ble_eq_true rfl⟩ dX12_edge_4 rfl (fun r1 hr1 => ?_)
  show WW _ _ _ 7 _ [.int (b2i r1), .int 1, .int a1, .ref 23] (full d ρ) 0 0 _
  refine WW.join (pj := 22) (Lj := fun (x2 : Bool) => [(0, .ref 23), (1, .int a1), (2, .int a2), (3, .int a3)]) (sj := fun (x2 : Bool) => [.int (b2i x2), .int 1, .int a1, .ref 23]) (hj := fun (x2 : Bool) => full d ρ) (fun x2 => ?_) (fun k3 hk3 => ?_)
  · refine WW.callV (pc := 22) (As := [.int a1, .int (b2i true), .int (b2i x2)]) (st := []) lk_X12_160 (okX12_refusal g ρ hρ d a1 true x2) h3_23 (sh_23 ρ) ⟨_, _, clk12⟩ rfl (Nat.le_of_ble_eq_true rfl) ⟨Nat.le_of_ble_eq_true rfl, Nat.le_of_ble_eq_true rfl, Nat.le_of_ble_eq_true rfl, Nat.le_of_ble_eq_true rfl⟩ dX12_edge_22 rfl (fun r4 hr4 => ?_)
    show WW _ _ _ 25 _ [.int r4] (full d ρ) 0 0 _
    refine WW.istore (pc := 25) [(4, .int r4), (0, .ref 23), (1, .int a1), (2, .int a2), (3, .int a3)] rfl (by decide) dX12_edge_25 ?_
    refine WW.iload (pc := 27) (j := 0) rfl dX12_edge_27 ?_
    refine WW.if_eq (pc := 29) 38 dX12_edge_29 (by decide) (fun _ => ?_) (fun _ => ?_)
    · refine WW.aload_n (pc := 38) (j := 1) rfl dX12_edge_38 ?_
      refine WW.iload_n (pc := 39) (j := 2) rfl dX12_edge_39 ?_
      refine WW.iload_n (pc := 40) (j := 3) rfl dX12_edge_40 ?_
      refine WW.callV (pc := 41) (As := [.int a1, .int a2]) (st := []) lk_X12_168 (okX12_heardOf g ρ hρ d a1 a2) h3_23 (sh_23 ρ) ⟨_, _, clk12⟩ rfl (Nat.le_of_ble_eq_true rfl) ⟨Nat.le_of_ble_eq_true rfl, Nat.le_of_ble_eq_true rfl, Nat.le_of_ble_eq_true rfl, Nat.le_of_ble_eq_true rfl⟩ dX12_edge_41 rfl (fun r5 hr5 => ?_)
      show WW _ _ _ 44 _ [.int r5] (full d ρ) 0 0 _
      refine WW.istore (pc := 44) [(5, .int r5), (4, .int r4), (0, .ref 23), (1, .int a1), (2, .int a2), (3, .int a3)] rfl (by decide) dX12_edge_44 ?_
      refine WW.iload (pc := 46) (j := 0) rfl dX12_edge_46 ?_
      refine WW.if_ne (pc := 48) 57 dX12_edge_48 (by decide) (fun _ => ?_) (fun _ => ?_)
      · refine WW.ldc2 (pc := 51) wd_1048 dX12_edge_51 ?_
        refine WW.goto (pc := 54) 74 dX12_edge_54 (by decide) ?_
        exact WW.ret rfl rfl (show RetI M_X12_edge 74 from dX12_edge_74) ⟨Nat.le_refl _, Nat.le_refl _⟩ rfl
      · refine WW.aload_n (pc := 57) (j := 2) rfl dX12_edge_57 ?_
        refine WW.iload_n (pc := 58) (j := 3) rfl dX12_edge_58 ?_
        refine WW.iload_n (pc := 59) (j := 4) rfl dX12_edge_59 ?_
        refine WW.callV (pc := 60) (As := [.int a1, .int a2]) (st := []) lk_X12_180 (okX12_edgeOf g ρ hρ d a1 a2) h3_23 (sh_23 ρ) ⟨_, _, clk12⟩ rfl (Nat.le_of_ble_eq_true rfl) ⟨Nat.le_of_ble_eq_true rfl, Nat.le_of_ble_eq_true rfl, Nat.le_of_ble_eq_true rfl, Nat.le_of_ble_eq_true rfl⟩ dX12_edge_60 rfl (fun r6 hr6 => ?_)
        show WW _ _ _ 63 _ [.long r6] (full d ρ) 0 0 _
        refine WW.ldc2 (pc := 63) wd_989 dX12_edge_63 ?_
        refine WW.iload (pc := 66) (j := 0) rfl dX12_edge_66 ?_
        refine WW.i2l (pc := 68) dX12_edge_68 ?_
        refine WW.lmul (pc := 69) dX12_edge_69 ?_
        refine WW.iload_n (pc := 70) (j := 5) rfl dX12_edge_70 ?_
        refine WW.callS (pc := 71) (As := [.long r6, .long (100 * (Int32.toInt64 r5)), .int a3]) (st := []) lk_X12_174 (okX12_term g ρ hρ d r6 (100 * (Int32.toInt64 r5)) a3) rfl (Nat.le_of_ble_eq_true rfl) ⟨Nat.le_of_ble_eq_true rfl, Nat.le_of_ble_eq_true rfl, Nat.le_of_ble_eq_true rfl, Nat.le_of_ble_eq_true rfl⟩ dX12_edge_71 rfl (fun r7 hr7 => ?_)
        show WW _ _ _ 74 _ [.long r7] (full d ρ) 0 0 _
        exact WW.ret rfl rfl (show RetI M_X12_edge 74 from dX12_edge_74) ⟨Nat.le_refl _, Nat.le_refl _⟩ rfl
    · refine WW.iload (pc := 32) (j := 0) rfl dX12_edge_32 ?_
      refine WW.callS (pc := 34) (As := [.int r4]) (st := []) lk_X12_164 (okX12_asLong g ρ hρ d r4) rfl (Nat.le_of_ble_eq_true rfl) ⟨Nat.le_of_ble_eq_true rfl, Nat.le_of_ble_eq_true rfl, Nat.le_of_ble_eq_true rfl, Nat.le_of_ble_eq_true rfl⟩ dX12_edge_34 rfl (fun r8 hr8 => ?_)
      show WW _ _ _ 37 _ [.long r8] (full d ρ) 0 0 _
      exact WW.ret rfl rfl (show RetI M_X12_edge 37 from dX12_edge_37) ⟨Nat.le_refl _, Nat.le_refl _⟩ rfl
  · refine WW.join (pj := 21) (Lj := fun (x9 : Unit) => [(0, .ref 23), (1, .int a1), (2, .int a2), (3, .int a3)]) (sj := fun (x9 : Unit) => [.int 1, .int a1, .ref 23]) (hj := fun (x9 : Unit) => full d ρ) (fun x9 => ?_) (fun k10 hk10 => ?_)
    · refine WW.iconst (pc := 21) 0 dX12_edge_21 rfl ?_
      exact hk3 false
    · refine WW.if_eqB (pc := 7) 21 dX12_edge_7 (by decide) (fun _ => ?_) (fun _ => ?_)
      · refine WW.iload_n (pc := 10) (j := 3) rfl dX12_edge_10 ?_
        refine WW.callS (pc := 11) (As := [.int a3]) (st := [.int 1, .int a1, .ref 23]) lk_X12_157 (okX12_isPart g ρ hρ d a3) rfl (Nat.le_of_ble_eq_true rfl) ⟨Nat.le_of_ble_eq_true rfl, Nat.le_of_ble_eq_true rfl, Nat.le_of_ble_eq_true rfl, Nat.le_of_ble_eq_true rfl⟩ dX12_edge_11 rfl (fun r11 hr11 => ?_)
        show WW _ _ _ 14 _ [.int (b2i r11), .int 1, .int a1, .ref 23] (full d ρ) 0 0 _
        refine WW.if_eqB (pc := 14) 21 dX12_edge_14 (by decide) (fun _ => ?_) (fun _ => ?_)
        · refine WW.iconst (pc := 17) 1 dX12_edge_17 rfl ?_
          refine WW.goto (pc := 18) 22 dX12_edge_18 (by decide) ?_
          exact hk3 true
        · exact hk10 ()
      · exact hk10 ()
def fX12_isSet (ρ : Rh) (d : Dd) (a1 : Int32) : Option Bool :=
  (fX12_in (Int32.toInt64 a1) 0 (Int32.toInt64 ((jshl 1 (d_i d 23 15)) - 1))).bind fun r1 =>
  some r1
set_option maxHeartbeats 4000000 in
set_option maxRecDepth 100000 in
theorem okX12_isSet (g : Gx) (ρ : Rh) (hρ : Hr ρ) (d : Dd) (a1 : Int32) : CallR g M_X12_isSet (eZp ρ d) [.ref 23, .int a1] (full d ρ) (fX12_isSet ρ d a1) := by
  refine CallR.intro rfl rfl (Nat.le_of_ble_eq_true rfl) (fun a ha => ⟨_, rfl⟩) ?_
  show WW g _ _ 0 [(0, .ref 23), (1, .int a1)] [] (full d ρ) 0 0 _
  unfold fX12_isSet
  refine WW.iload_n (pc := 0) (j := 1) rfl dX12_isSet_0 ?_
  refine WW.i2l (pc := 1) dX12_isSet_1 ?_
  refine WW.lconst (pc := 2) 0 dX12_isSet_2 rfl ?_
  refine WW.iconst (pc := 3) 1 dX12_isSet_3 rfl ?_
  refine WW.aload_n (pc := 4) (j := 0) rfl dX12_isSet_4 ?_
  refine WW.sgi (pc := 5) fl_X12_114_12 h3_23 (sh_23 ρ) (Or.inl gt_12_15) dX12_isSet_5 ?_
  refine WW.ishl (pc := 8) dX12_isSet_8 ?_
  refine WW.iconst (pc := 9) 1 dX12_isSet_9 rfl ?_
  refine WW.isub (pc := 10) dX12_isSet_10 ?_
  refine WW.i2l (pc := 11) dX12_isSet_11 ?_
  refine WW.callS (pc := 12) (As := [.long (Int32.toInt64 a1), .long 0, .long (Int32.toInt64 ((jshl 1 (d_i d 23 15)) - 1))]) (st := []) lk_X12_73 (okX12_in g ρ hρ d (Int32.toInt64 a1) 0 (Int32.toInt64 ((jshl 1 (d_i d 23 15)) - 1))) rfl (Nat.le_of_ble_eq_true rfl) ⟨Nat.le_of_ble_eq_true rfl, Nat.le_of_ble_eq_true rfl, Nat.le_of_ble_eq_true rfl, Nat.le_of_ble_eq_true rfl⟩ dX12_isSet_12 rfl (fun r1 hr1 => ?_)
  show WW _ _ _ 15 _ [.int (b2i r1)] (full d ρ) 0 0 _
  exact WW.ret rfl rfl (show RetI M_X12_isSet 15 from dX12_isSet_15) ⟨Nat.le_refl _, Nat.le_refl _⟩ rfl
def fX12_dealings (ρ : Rh) (d : Dd) : Option Int32 :=
  lp (fun self2 (x1 : Int32 × Int32) =>
    if (d_i d 23 15) ≤ x1.2 then
      (some x1.1)
    else
      (bnd ((x1.1 * 7) : Int32) fun v3 =>
      self2 (v3, (x1.2 + 1)))
    ) 6000 (1, 0)
set_option maxHeartbeats 4000000 in
set_option maxRecDepth 100000 in
theorem okX12_dealings (g : Gx) (ρ : Rh) (hρ : Hr ρ) (d : Dd)  : CallR g M_X12_dealings (eIp ρ d) [.ref 23] (full d ρ) (fX12_dealings ρ d) := by
  refine CallR.intro rfl rfl (Nat.le_of_ble_eq_true rfl) (fun a ha => ⟨_, rfl⟩) ?_
  show WW g _ _ 0 [(0, .ref 23)] [] (full d ρ) 0 0 _
  unfold fX12_dealings
  refine WW.iconst (pc := 0) 1 dX12_dealings_0 rfl ?_
  refine WW.istore_n (pc := 1) [(1, .int 1), (0, .ref 23)] rfl (by decide) dX12_dealings_1 ?_
  refine WW.iconst (pc := 2) 0 dX12_dealings_2 rfl ?_
  refine WW.istore_n (pc := 3) [(2, .int 0), (1, .int 1), (0, .ref 23)] rfl (by decide) dX12_dealings_3 ?_
  refine WW.sub [2, 1, 0] rfl ?_
  refine WW.loop (pc := 4) (Lj := fun (x1 : Int32 × Int32) => [(0, .ref 23), (1, .int x1.1), (2, .int x1.2)]) (hj := fun (x1 : Int32 × Int32) => full d ρ) (fun self2 hself2 x1 => ?_) 6000 (1, 0)
  refine WW.iload_n (pc := 4) (j := 2) rfl dX12_dealings_4 ?_
  refine WW.aload_n (pc := 5) (j := 0) rfl dX12_dealings_5 ?_
  refine WW.sgi (pc := 6) fl_X12_114_12 h3_23 (sh_23 ρ) (Or.inl gt_12_15) dX12_dealings_6 ?_
  refine WW.icmp_ge (pc := 9) 23 dX12_dealings_9 (by decide) (fun _ => ?_) (fun _ => ?_)
  · refine WW.iload_n (pc := 23) (j := 1) rfl dX12_dealings_23 ?_
    exact WW.ret rfl rfl (show RetI M_X12_dealings 24 from dX12_dealings_24) ⟨Nat.le_refl _, Nat.le_refl _⟩ rfl
  · refine WW.iload_n (pc := 12) (j := 1) rfl dX12_dealings_12 ?_
    refine WW.bipush (pc := 13) 7 dX12_dealings_13 rfl ?_
    refine WW.imul (pc := 15) dX12_dealings_15 ?_
    refine WW.nmi (fun v3 => ?_)
    refine WW.istore_n (pc := 16) [(1, .int v3), (0, .ref 23), (2, .int x1.2)] rfl (by decide) dX12_dealings_16 ?_
    refine WW.iinc (pc := 17) (j := 2) (x1.2 + 1) [(2, .int (x1.2 + 1)), (1, .int v3), (0, .ref 23)] rfl rfl rfl (by decide) dX12_dealings_17 ?_
    refine WW.goto (pc := 20) 4 dX12_dealings_20 (by decide) ?_
    refine WW.sub [2, 1, 0] rfl ?_
    exact hself2 (v3, (x1.2 + 1))
def fX12_power (a0 : Int32) : Option Int32 :=
  if a0 = 0 then
    (some 1)
  else
    (if a0 = 1 then
      (some 7)
    else
      (if a0 = 2 then
        (some 49)
      else
        (some 343)))
set_option maxHeartbeats 4000000 in
set_option maxRecDepth 100000 in
theorem okX12_power (g : Gx) (ρ : Rh) (hρ : Hr ρ) (d : Dd) (a0 : Int32) : CallR g M_X12_power (eIp ρ d) [.int a0] (full d ρ) (fX12_power a0) := by
  refine CallR.intro rfl rfl (Nat.le_of_ble_eq_true rfl) (fun a ha => ⟨_, rfl⟩) ?_
  show WW g _ _ 0 [(0, .int a0)] [] (full d ρ) 0 0 _
  unfold fX12_power
  refine WW.iload_n (pc := 0) (j := 0) rfl dX12_power_0 ?_
  refine WW.if_ne (pc := 1) 8 dX12_power_1 (by decide) (fun _ => ?_) (fun _ => ?_)
  · refine WW.iconst (pc := 4) 1 dX12_power_4 rfl ?_
    refine WW.goto (pc := 5) 31 dX12_power_5 (by decide) ?_
    exact WW.ret rfl rfl (show RetI M_X12_power 31 from dX12_power_31) ⟨Nat.le_refl _, Nat.le_refl _⟩ rfl
  · refine WW.iload_n (pc := 8) (j := 0) rfl dX12_power_8 ?_
    refine WW.iconst (pc := 9) 1 dX12_power_9 rfl ?_
    refine WW.icmp_ne (pc := 10) 18 dX12_power_10 (by decide) (fun _ => ?_) (fun _ => ?_)
    · refine WW.bipush (pc := 13) 7 dX12_power_13 rfl ?_
      refine WW.goto (pc := 15) 31 dX12_power_15 (by decide) ?_
      exact WW.ret rfl rfl (show RetI M_X12_power 31 from dX12_power_31) ⟨Nat.le_refl _, Nat.le_refl _⟩ rfl
    · refine WW.iload_n (pc := 18) (j := 0) rfl dX12_power_18 ?_
      refine WW.iconst (pc := 19) 2 dX12_power_19 rfl ?_
      refine WW.icmp_ne (pc := 20) 28 dX12_power_20 (by decide) (fun _ => ?_) (fun _ => ?_)
      · refine WW.bipush (pc := 23) 49 dX12_power_23 rfl ?_
        refine WW.goto (pc := 25) 31 dX12_power_25 (by decide) ?_
        exact WW.ret rfl rfl (show RetI M_X12_power 31 from dX12_power_31) ⟨Nat.le_refl _, Nat.le_refl _⟩ rfl
      · refine WW.sipush (pc := 28) 343 dX12_power_28 rfl ?_
        exact WW.ret rfl rfl (show RetI M_X12_power 31 from dX12_power_31) ⟨Nat.le_refl _, Nat.le_refl _⟩ rfl
def fX12_stepsOf (a0 : Int32) (a1 : Int32) : Option Int32 :=
  (fX12_power a1).bind fun r1 =>
  if r1 = 0 then none else
  some ((jrem (a0 / r1) 7) - 3)
set_option maxHeartbeats 4000000 in
set_option maxRecDepth 100000 in
theorem okX12_stepsOf (g : Gx) (ρ : Rh) (hρ : Hr ρ) (d : Dd) (a0 : Int32) (a1 : Int32) : CallR g M_X12_stepsOf (eIp ρ d) [.int a0, .int a1] (full d ρ) (fX12_stepsOf a0 a1) := by
  refine CallR.intro rfl rfl (Nat.le_of_ble_eq_true rfl) (fun a ha => ⟨_, rfl⟩) ?_
  show WW g _ _ 0 [(0, .int a0), (1, .int a1)] [] (full d ρ) 0 0 _
  unfold fX12_stepsOf
  refine WW.iload_n (pc := 0) (j := 0) rfl dX12_stepsOf_0 ?_
  refine WW.iload_n (pc := 1) (j := 1) rfl dX12_stepsOf_1 ?_
  refine WW.callS (pc := 2) (As := [.int a1]) (st := [.int a0]) lk_X12_184 (okX12_power g ρ hρ d a1) rfl (Nat.le_of_ble_eq_true rfl) ⟨Nat.le_of_ble_eq_true rfl, Nat.le_of_ble_eq_true rfl, Nat.le_of_ble_eq_true rfl, Nat.le_of_ble_eq_true rfl⟩ dX12_stepsOf_2 rfl (fun r1 hr1 => ?_)
  show WW _ _ _ 5 _ [.int r1, .int a0] (full d ρ) 0 0 _
  refine WW.ite (fun _ => WW.none) (fun hz2 => ?_)
  refine WW.idiv (pc := 5) hz2 dX12_stepsOf_5 ?_
  refine WW.bipush (pc := 6) 7 dX12_stepsOf_6 rfl ?_
  refine WW.irem (pc := 8) (by decide) dX12_stepsOf_8 ?_
  refine WW.iconst (pc := 9) 3 dX12_stepsOf_9 rfl ?_
  refine WW.isub (pc := 10) dX12_stepsOf_10 ?_
  exact WW.ret rfl rfl (show RetI M_X12_stepsOf 11 from dX12_stepsOf_11) ⟨Nat.le_refl _, Nat.le_refl _⟩ rfl
def fX12_together (ρ : Rh) (d : Dd) (a1 : Int32) : Option Int32 :=
  lp (fun self2 (x1 : Int32 × Int32) =>
    if (d_i d 23 15) ≤ x1.2 then
      (some x1.1)
    else
      ((fX12_stepsOf a1 x1.2).bind fun r3 =>
      bnd ((x1.1 + r3) : Int32) fun v4 =>
      self2 (v4, (x1.2 + 1)))
    ) 6000 (0, 0)
set_option maxHeartbeats 4000000 in
set_option maxRecDepth 100000 in
theorem okX12_together (g : Gx) (ρ : Rh) (hρ : Hr ρ) (d : Dd) (a1 : Int32) : CallR g M_X12_together (eIp ρ d) [.ref 23, .int a1] (full d ρ) (fX12_together ρ d a1) := by
  refine CallR.intro rfl rfl (Nat.le_of_ble_eq_true rfl) (fun a ha => ⟨_, rfl⟩) ?_
  show WW g _ _ 0 [(0, .ref 23), (1, .int a1)] [] (full d ρ) 0 0 _
  unfold fX12_together
  refine WW.iconst (pc := 0) 0 dX12_together_0 rfl ?_
  refine WW.istore_n (pc := 1) [(2, .int 0), (0, .ref 23), (1, .int a1)] rfl (by decide) dX12_together_1 ?_
  refine WW.iconst (pc := 2) 0 dX12_together_2 rfl ?_
  refine WW.istore_n (pc := 3) [(3, .int 0), (2, .int 0), (0, .ref 23), (1, .int a1)] rfl (by decide) dX12_together_3 ?_
  refine WW.sub [2, 3, 1, 0] rfl ?_
  refine WW.loop (pc := 4) (Lj := fun (x1 : Int32 × Int32) => [(0, .ref 23), (1, .int a1), (2, .int x1.1), (3, .int x1.2)]) (hj := fun (x1 : Int32 × Int32) => full d ρ) (fun self2 hself2 x1 => ?_) 6000 (0, 0)
  refine WW.iload_n (pc := 4) (j := 3) rfl dX12_together_4 ?_
  refine WW.aload_n (pc := 5) (j := 0) rfl dX12_together_5 ?_
  refine WW.sgi (pc := 6) fl_X12_114_12 h3_23 (sh_23 ρ) (Or.inl gt_12_15) dX12_together_6 ?_
  refine WW.icmp_ge (pc := 9) 26 dX12_together_9 (by decide) (fun _ => ?_) (fun _ => ?_)
  · refine WW.iload_n (pc := 26) (j := 2) rfl dX12_together_26 ?_
    exact WW.ret rfl rfl (show RetI M_X12_together 27 from dX12_together_27) ⟨Nat.le_refl _, Nat.le_refl _⟩ rfl
  · refine WW.iload_n (pc := 12) (j := 2) rfl dX12_together_12 ?_
    refine WW.iload_n (pc := 13) (j := 1) rfl dX12_together_13 ?_
    refine WW.iload_n (pc := 14) (j := 3) rfl dX12_together_14 ?_
    refine WW.callS (pc := 15) (As := [.int a1, .int x1.2]) (st := [.int x1.1]) lk_X12_188 (okX12_stepsOf g ρ hρ d a1 x1.2) rfl (Nat.le_of_ble_eq_true rfl) ⟨Nat.le_of_ble_eq_true rfl, Nat.le_of_ble_eq_true rfl, Nat.le_of_ble_eq_true rfl, Nat.le_of_ble_eq_true rfl⟩ dX12_together_15 rfl (fun r3 hr3 => ?_)
    show WW _ _ _ 18 _ [.int r3, .int x1.1] (full d ρ) 0 0 _
    refine WW.iadd (pc := 18) dX12_together_18 ?_
    refine WW.nmi (fun v4 => ?_)
    refine WW.istore_n (pc := 19) [(2, .int v4), (0, .ref 23), (1, .int a1), (3, .int x1.2)] rfl (by decide) dX12_together_19 ?_
    refine WW.iinc (pc := 20) (j := 3) (x1.2 + 1) [(3, .int (x1.2 + 1)), (2, .int v4), (0, .ref 23), (1, .int a1)] rfl rfl rfl (by decide) dX12_together_20 ?_
    refine WW.goto (pc := 23) 4 dX12_together_23 (by decide) ?_
    refine WW.sub [2, 3, 1, 0] rfl ?_
    exact hself2 (v4, (x1.2 + 1))
def fX12_isOf (ρ : Rh) (d : Dd) (a1 : Int32) (a2 : Int32) : Option Bool :=
  lp (fun self2 (x1 : Bool × Int32) =>
    if (d_i d 23 15) ≤ x1.2 then
      (some x1.1)
    else
      ((fX12_stepsOf a1 x1.2).bind fun r3 =>
      jn (fun (x4 : Bool) =>
        self2 (x4, (x1.2 + 1))
        ) fun k5 =>
      jn (fun (x6 : Unit) =>
        k5 false
        ) fun k7 =>
      if x1.1 = true then
        (jn (fun (x8 : Unit) =>
          k5 true
          ) fun k9 =>
        if ((jshr a2 x1.2) &&& 1) = 1 then
          (if inB x1.2 4 = true then
            (if inB x1.2 4 = true then
              ((fX12_in (Int32.toInt64 r3) (Int32.toInt64 (-(d_i d 29 (ix x1.2)))) (Int32.toInt64 (d_i d 29 (ix x1.2)))).bind fun r10 =>
              if r10 = true then
                (k9 ())
              else
                (k7 ()))
            else none)
          else none)
        else
          (if r3 = 0 then
            (k9 ())
          else
            (k7 ())))
      else
        (k7 ()))
    ) 6000 (true, 0)
set_option maxHeartbeats 4000000 in
set_option maxRecDepth 100000 in
theorem okX12_isOf (g : Gx) (ρ : Rh) (hρ : Hr ρ) (d : Dd) (a1 : Int32) (a2 : Int32) : CallR g M_X12_isOf (eZp ρ d) [.ref 23, .int a1, .int a2] (full d ρ) (fX12_isOf ρ d a1 a2) := by
  refine CallR.intro rfl rfl (Nat.le_of_ble_eq_true rfl) (fun a ha => ⟨_, rfl⟩) ?_
  show WW g _ _ 0 [(0, .ref 23), (1, .int a1), (2, .int a2)] [] (full d ρ) 0 0 _
  unfold fX12_isOf
  refine WW.iconst (pc := 0) 1 dX12_isOf_0 rfl ?_
  refine WW.istore_n (pc := 1) [(3, .int 1), (0, .ref 23), (1, .int a1), (2, .int a2)] rfl (by decide) dX12_isOf_1 ?_
  refine WW.iconst (pc := 2) 0 dX12_isOf_2 rfl ?_
  refine WW.istore (pc := 3) [(4, .int 0), (3, .int 1), (0, .ref 23), (1, .int a1), (2, .int a2)] rfl (by decide) dX12_isOf_3 ?_
  refine WW.sub [2, 3, 4, 1, 0] rfl ?_
  refine WW.loop (pc := 5) (Lj := fun (x1 : Bool × Int32) => [(0, .ref 23), (1, .int a1), (2, .int a2), (3, .int (b2i x1.1)), (4, .int x1.2)]) (hj := fun (x1 : Bool × Int32) => full d ρ) (fun self2 hself2 x1 => ?_) 6000 (true, 0)
  refine WW.iload (pc := 5) (j := 4) rfl dX12_isOf_5 ?_
  refine WW.aload_n (pc := 7) (j := 0) rfl dX12_isOf_7 ?_
  refine WW.sgi (pc := 8) fl_X12_114_12 h3_23 (sh_23 ρ) (Or.inl gt_12_15) dX12_isOf_8 ?_
  refine WW.icmp_ge (pc := 11) 82 dX12_isOf_11 (by decide) (fun _ => ?_) (fun _ => ?_)
  · refine WW.iload_n (pc := 82) (j := 3) rfl dX12_isOf_82 ?_
    exact WW.ret rfl rfl (show RetI M_X12_isOf 83 from dX12_isOf_83) ⟨Nat.le_refl _, Nat.le_refl _⟩ rfl
  · refine WW.iload_n (pc := 14) (j := 1) rfl dX12_isOf_14 ?_
    refine WW.iload (pc := 15) (j := 4) rfl dX12_isOf_15 ?_
    refine WW.callS (pc := 17) (As := [.int a1, .int x1.2]) (st := []) lk_X12_188 (okX12_stepsOf g ρ hρ d a1 x1.2) rfl (Nat.le_of_ble_eq_true rfl) ⟨Nat.le_of_ble_eq_true rfl, Nat.le_of_ble_eq_true rfl, Nat.le_of_ble_eq_true rfl, Nat.le_of_ble_eq_true rfl⟩ dX12_isOf_17 rfl (fun r3 hr3 => ?_)
    show WW _ _ _ 20 _ [.int r3] (full d ρ) 0 0 _
    refine WW.istore (pc := 20) [(5, .int r3), (0, .ref 23), (1, .int a1), (2, .int a2), (3, .int (b2i x1.1)), (4, .int x1.2)] rfl (by decide) dX12_isOf_20 ?_
    refine WW.iload_n (pc := 22) (j := 4) rfl dX12_isOf_22 ?_
    refine WW.join (pj := 75) (Lj := fun (x4 : Bool) => [(0, .ref 23), (1, .int a1), (2, .int a2), (4, .int x1.2)]) (sj := fun (x4 : Bool) => [.int (b2i x4)]) (hj := fun (x4 : Bool) => full d ρ) (fun x4 => ?_) (fun k5 hk5 => ?_)
    · refine WW.istore_n (pc := 75) [(3, .int (b2i x4)), (0, .ref 23), (1, .int a1), (2, .int a2), (4, .int x1.2)] rfl (by decide) dX12_isOf_75 ?_
      refine WW.iinc (pc := 76) (j := 4) (x1.2 + 1) [(4, .int (x1.2 + 1)), (3, .int (b2i x4)), (0, .ref 23), (1, .int a1), (2, .int a2)] rfl rfl rfl (by decide) dX12_isOf_76 ?_
      refine WW.goto (pc := 79) 5 dX12_isOf_79 (by decide) ?_
      refine WW.sub [2, 3, 4, 1, 0] rfl ?_
      exact hself2 (x4, (x1.2 + 1))
    · refine WW.join (pj := 74) (Lj := fun (x6 : Unit) => [(0, .ref 23), (1, .int a1), (2, .int a2), (4, .int x1.2)]) (sj := fun (x6 : Unit) => []) (hj := fun (x6 : Unit) => full d ρ) (fun x6 => ?_) (fun k7 hk7 => ?_)
      · refine WW.iconst (pc := 74) 0 dX12_isOf_74 rfl ?_
        exact hk5 false
      · refine WW.if_eqB (pc := 23) 74 dX12_isOf_23 (by decide) (fun _ => ?_) (fun _ => ?_)
        · refine WW.iload_n (pc := 26) (j := 3) rfl dX12_isOf_26 ?_
          refine WW.iload (pc := 27) (j := 5) rfl dX12_isOf_27 ?_
          refine WW.ishr (pc := 29) dX12_isOf_29 ?_
          refine WW.iconst (pc := 30) 1 dX12_isOf_30 rfl ?_
          refine WW.iand (pc := 31) dX12_isOf_31 ?_
          refine WW.iconst (pc := 32) 1 dX12_isOf_32 rfl ?_
          refine WW.join (pj := 70) (Lj := fun (x8 : Unit) => [(0, .ref 23), (1, .int a1), (2, .int a2), (4, .int x1.2)]) (sj := fun (x8 : Unit) => []) (hj := fun (x8 : Unit) => full d ρ) (fun x8 => ?_) (fun k9 hk9 => ?_)
          · refine WW.iconst (pc := 70) 1 dX12_isOf_70 rfl ?_
            refine WW.goto (pc := 71) 75 dX12_isOf_71 (by decide) ?_
            exact hk5 true
          · refine WW.icmp_ne (pc := 33) 65 dX12_isOf_33 (by decide) (fun _ => ?_) (fun _ => ?_)
            · refine WW.iload (pc := 36) (j := 0) rfl dX12_isOf_36 ?_
              refine WW.i2l (pc := 38) dX12_isOf_38 ?_
              refine WW.aload_n (pc := 39) (j := 1) rfl dX12_isOf_39 ?_
              refine WW.sgr (pc := 40) fl_X12_25_12 h3_23 (sh_23 ρ) (Or.inr ⟨_, gt_12_16⟩) (hr_23_16 ρ) dX12_isOf_40 ?_
              refine WW.iload (pc := 43) (j := 5) rfl dX12_isOf_43 ?_
              refine WW.siald (pc := 45) (one_le h3_29) (sh_29 ρ) dX12_isOf_45 ?_
              refine WW.ineg (pc := 46) dX12_isOf_46 ?_
              refine WW.i2l (pc := 47) dX12_isOf_47 ?_
              refine WW.aload_n (pc := 48) (j := 1) rfl dX12_isOf_48 ?_
              refine WW.sgr (pc := 49) fl_X12_25_12 h3_23 (sh_23 ρ) (Or.inr ⟨_, gt_12_16⟩) (hr_23_16 ρ) dX12_isOf_49 ?_
              refine WW.iload (pc := 52) (j := 5) rfl dX12_isOf_52 ?_
              refine WW.siald (pc := 54) (one_le h3_29) (sh_29 ρ) dX12_isOf_54 ?_
              refine WW.i2l (pc := 55) dX12_isOf_55 ?_
              refine WW.callS (pc := 56) (As := [.long (Int32.toInt64 r3), .long (Int32.toInt64 (-(d_i d 29 (ix x1.2)))), .long (Int32.toInt64 (d_i d 29 (ix x1.2)))]) (st := []) lk_X12_73 (okX12_in g ρ hρ d (Int32.toInt64 r3) (Int32.toInt64 (-(d_i d 29 (ix x1.2)))) (Int32.toInt64 (d_i d 29 (ix x1.2)))) rfl (Nat.le_of_ble_eq_true rfl) ⟨Nat.le_of_ble_eq_true rfl, Nat.le_of_ble_eq_true rfl, Nat.le_of_ble_eq_true rfl, Nat.le_of_ble_eq_true rfl⟩ dX12_isOf_56 rfl (fun r10 hr10 => ?_)
              show WW _ _ _ 59 _ [.int (b2i r10)] (full d ρ) 0 0 _
              refine WW.if_eqB (pc := 59) 74 dX12_isOf_59 (by decide) (fun _ => ?_) (fun _ => ?_)
              · refine WW.goto (pc := 62) 70 dX12_isOf_62 (by decide) ?_
                refine WW.sub [1, 2, 3, 5] rfl ?_
                exact hk9 ()
              · refine WW.sub [1, 2, 3, 5] rfl ?_
                exact hk7 ()
            · refine WW.iload (pc := 65) (j := 0) rfl dX12_isOf_65 ?_
              refine WW.if_ne (pc := 67) 74 dX12_isOf_67 (by decide) (fun _ => ?_) (fun _ => ?_)
              · refine WW.sub [1, 2, 3, 5] rfl ?_
                exact hk9 ()
              · refine WW.sub [1, 2, 3, 5] rfl ?_
                exact hk7 ()
        · refine WW.sub [1, 2, 3, 5] rfl ?_
          exact hk7 ()
def fX12_take (ρ : Rh) (d : Dd) (a1 : Int32) (a2 : Int32) : Option Dd :=
  (fX12_edgeOf ρ d a1 a2).bind fun r1 =>
  bnd (dL d 23 21 r1) fun d2 =>
  (fX12_heardOf ρ d2 a1 a2).bind fun r3 =>
  bnd (dL d2 23 22 (Int32.toInt64 r3)) fun d4 =>
  some d4
set_option maxHeartbeats 4000000 in
set_option maxRecDepth 100000 in
theorem okX12_take (g : Gx) (ρ : Rh) (hρ : Hr ρ) (d : Dd) (a1 : Int32) (a2 : Int32) : CallR g M_X12_take (eV ρ) [.ref 23, .int a1, .int a2] (full d ρ) (fX12_take ρ d a1 a2) := by
  refine CallR.intro rfl rfl (Nat.le_of_ble_eq_true rfl) (fun a ha => rfl) ?_
  show WW g _ _ 0 [(0, .ref 23), (1, .int a1), (2, .int a2)] [] (full d ρ) 0 0 _
  unfold fX12_take
  refine WW.aload_n (pc := 0) (j := 0) rfl dX12_take_0 ?_
  refine WW.aload_n (pc := 1) (j := 0) rfl dX12_take_1 ?_
  refine WW.iload_n (pc := 2) (j := 1) rfl dX12_take_2 ?_
  refine WW.iload_n (pc := 3) (j := 2) rfl dX12_take_3 ?_
  refine WW.callV (pc := 4) (As := [.int a1, .int a2]) (st := [.ref 23]) lk_X12_180 (okX12_edgeOf g ρ hρ d a1 a2) h3_23 (sh_23 ρ) ⟨_, _, clk12⟩ rfl (Nat.le_of_ble_eq_true rfl) ⟨Nat.le_of_ble_eq_true rfl, Nat.le_of_ble_eq_true rfl, Nat.le_of_ble_eq_true rfl, Nat.le_of_ble_eq_true rfl⟩ dX12_take_4 rfl (fun r1 hr1 => ?_)
  show WW _ _ _ 7 _ [.long r1, .ref 23] (full d ρ) 0 0 _
  refine WW.spl (pc := 7) fp_X12_191_12 h3_23 (sh_23 ρ) gt_12_21 dX12_take_7 (fun d2 => ?_)
  refine WW.aload_n (pc := 10) (j := 0) rfl dX12_take_10 ?_
  refine WW.aload_n (pc := 11) (j := 0) rfl dX12_take_11 ?_
  refine WW.iload_n (pc := 12) (j := 1) rfl dX12_take_12 ?_
  refine WW.iload_n (pc := 13) (j := 2) rfl dX12_take_13 ?_
  refine WW.callV (pc := 14) (As := [.int a1, .int a2]) (st := [.ref 23]) lk_X12_168 (okX12_heardOf g ρ hρ d2 a1 a2) h3_23 (sh_23 ρ) ⟨_, _, clk12⟩ rfl (Nat.le_of_ble_eq_true rfl) ⟨Nat.le_of_ble_eq_true rfl, Nat.le_of_ble_eq_true rfl, Nat.le_of_ble_eq_true rfl, Nat.le_of_ble_eq_true rfl⟩ dX12_take_14 rfl (fun r3 hr3 => ?_)
  show WW _ _ _ 17 _ [.int r3, .ref 23] (full d2 ρ) 0 0 _
  refine WW.i2l (pc := 17) dX12_take_17 ?_
  refine WW.spl (pc := 18) fp_X12_195_12 h3_23 (sh_23 ρ) gt_12_22 dX12_take_18 (fun d4 => ?_)
  exact WW.ret rfl rfl (show RetI M_X12_take 21 from dX12_take_21) ⟨Nat.le_refl _, Nat.le_refl _⟩ rfl
def fX12_made (ρ : Rh) (d : Dd) (a1 : Int32) (a2 : Int32) (a3 : Int32) : Option Int64 :=
  jn (fun (x1 : Int32) =>
    if inB a1 4 = true then
      (some (((Int32.toInt64 a2) * ((d_l d 23 21) - (((100 * (Int32.toInt64 (d_i d 23 3))) * (Int32.toInt64 a3)) * (d_l d 23 22)))) - (((100 * (Int32.toInt64 (d_i d 30 (ix a1)))) * (Int32.toInt64 x1)) * (d_l d 23 22))))
    else none
    ) fun k2 =>
  if 0 ≤ a2 then
    (k2 a2)
  else
    (k2 (-a2))
set_option maxHeartbeats 4000000 in
set_option maxRecDepth 100000 in
theorem okX12_made (g : Gx) (ρ : Rh) (hρ : Hr ρ) (d : Dd) (a1 : Int32) (a2 : Int32) (a3 : Int32) : CallR g M_X12_made (eLp ρ d) [.ref 23, .int a1, .int a2, .int a3] (full d ρ) (fX12_made ρ d a1 a2 a3) := by
  refine CallR.intro rfl rfl (Nat.le_of_ble_eq_true rfl) (fun a ha => ⟨_, rfl⟩) ?_
  show WW g _ _ 0 [(0, .ref 23), (1, .int a1), (2, .int a2), (3, .int a3)] [] (full d ρ) 0 0 _
  unfold fX12_made
  refine WW.iload_n (pc := 0) (j := 2) rfl dX12_made_0 ?_
  refine WW.join (pj := 10) (Lj := fun (x1 : Int32) => [(0, .ref 23), (1, .int a1), (2, .int a2), (3, .int a3)]) (sj := fun (x1 : Int32) => [.int x1]) (hj := fun (x1 : Int32) => full d ρ) (fun x1 => ?_) (fun k2 hk2 => ?_)
  · refine WW.istore (pc := 10) [(4, .int x1), (0, .ref 23), (1, .int a1), (2, .int a2), (3, .int a3)] rfl (by decide) dX12_made_10 ?_
    refine WW.iload_n (pc := 12) (j := 3) rfl dX12_made_12 ?_
    refine WW.i2l (pc := 13) dX12_made_13 ?_
    refine WW.aload_n (pc := 14) (j := 1) rfl dX12_made_14 ?_
    refine WW.sgl (pc := 15) fl_X12_191_12 h3_23 (sh_23 ρ) gt_12_21 dX12_made_15 ?_
    refine WW.ldc2 (pc := 18) wd_989 dX12_made_18 ?_
    refine WW.aload_n (pc := 21) (j := 1) rfl dX12_made_21 ?_
    refine WW.sgi (pc := 22) fl_X12_104_12 h3_23 (sh_23 ρ) (Or.inl gt_12_3) dX12_made_22 ?_
    refine WW.i2l (pc := 25) dX12_made_25 ?_
    refine WW.lmul (pc := 26) dX12_made_26 ?_
    refine WW.iload_n (pc := 27) (j := 4) rfl dX12_made_27 ?_
    refine WW.i2l (pc := 28) dX12_made_28 ?_
    refine WW.lmul (pc := 29) dX12_made_29 ?_
    refine WW.aload_n (pc := 30) (j := 1) rfl dX12_made_30 ?_
    refine WW.sgl (pc := 31) fl_X12_195_12 h3_23 (sh_23 ρ) gt_12_22 dX12_made_31 ?_
    refine WW.lmul (pc := 34) dX12_made_34 ?_
    refine WW.lsub (pc := 35) dX12_made_35 ?_
    refine WW.lmul (pc := 36) dX12_made_36 ?_
    refine WW.ldc2 (pc := 37) wd_989 dX12_made_37 ?_
    refine WW.aload_n (pc := 40) (j := 1) rfl dX12_made_40 ?_
    refine WW.sgr (pc := 41) fl_X12_28_12 h3_23 (sh_23 ρ) (Or.inr ⟨_, gt_12_17⟩) (hr_23_17 ρ) dX12_made_41 ?_
    refine WW.iload_n (pc := 44) (j := 2) rfl dX12_made_44 ?_
    refine WW.siald (pc := 45) (one_le h3_30) (sh_30 ρ) dX12_made_45 ?_
    refine WW.i2l (pc := 46) dX12_made_46 ?_
    refine WW.lmul (pc := 47) dX12_made_47 ?_
    refine WW.iload (pc := 48) (j := 0) rfl dX12_made_48 ?_
    refine WW.i2l (pc := 50) dX12_made_50 ?_
    refine WW.lmul (pc := 51) dX12_made_51 ?_
    refine WW.aload_n (pc := 52) (j := 1) rfl dX12_made_52 ?_
    refine WW.sgl (pc := 53) fl_X12_195_12 h3_23 (sh_23 ρ) gt_12_22 dX12_made_53 ?_
    refine WW.lmul (pc := 56) dX12_made_56 ?_
    refine WW.lsub (pc := 57) dX12_made_57 ?_
    exact WW.ret rfl rfl (show RetI M_X12_made 58 from dX12_made_58) ⟨Nat.le_refl _, Nat.le_refl _⟩ rfl
  · refine WW.if_ge (pc := 1) 9 dX12_made_1 (by decide) (fun _ => ?_) (fun _ => ?_)
    · refine WW.iload_n (pc := 9) (j := 2) rfl dX12_made_9 ?_
      exact hk2 a2
    · refine WW.iload_n (pc := 4) (j := 2) rfl dX12_made_4 ?_
      refine WW.ineg (pc := 5) dX12_made_5 ?_
      refine WW.goto (pc := 6) 10 dX12_made_6 (by decide) ?_
      exact hk2 (-a2)
def fX12_isAtRest (ρ : Rh) (d : Dd) (a1 : Int32) (a2 : Int32) : Option Bool :=
  (fX12_together ρ d a1).bind fun r1 =>
  lp (fun self3 (x2 : Bool × Int32) =>
    if (d_i d 23 15) ≤ x2.2 then
      (some x2.1)
    else
      (if x2.1 = true then
        ((fX12_stepsOf a1 x2.2).bind fun r4 =>
        (fX12_made ρ d x2.2 r4 r1).bind fun r5 =>
        if inB x2.2 4 = true then
          (bnd ((-(d_i d 29 (ix x2.2))) : Int32) fun v6 =>
          jn (fun (x7 : Bool) =>
            self3 (x7, (x2.2 + 1))
            ) fun k8 =>
          lp (fun self10 (x9 : Bool × Int32) =>
            if inB x2.2 4 = true then
              (if (d_i d 29 (ix x2.2)) < x9.2 then
                (k8 x9.1)
              else
                (if ((jshr a2 x2.2) &&& 1) = 1 then
                  (jn (fun (x11 : Bool) =>
                    self10 (x11, (x9.2 + 1))
                    ) fun k12 =>
                  jn (fun (x13 : Unit) =>
                    k12 false
                    ) fun k14 =>
                  if x9.1 = true then
                    ((fX12_made ρ d x2.2 x9.2 ((r1 - r4) + x9.2)).bind fun r15 =>
                    if r5 < r15 then
                      (k14 ())
                    else
                      (k12 true))
                  else
                    (k14 ()))
                else
                  (k8 x9.1)))
            else none
            ) 6000 (x2.1, v6))
        else none)
      else
        (some x2.1))
    ) 6000 (true, 0)
set_option maxHeartbeats 4000000 in
set_option maxRecDepth 100000 in
theorem okX12_isAtRest (g : Gx) (ρ : Rh) (hρ : Hr ρ) (d : Dd) (a1 : Int32) (a2 : Int32) : CallR g M_X12_isAtRest (eZp ρ d) [.ref 23, .int a1, .int a2] (full d ρ) (fX12_isAtRest ρ d a1 a2) := by
  refine CallR.intro rfl rfl (Nat.le_of_ble_eq_true rfl) (fun a ha => ⟨_, rfl⟩) ?_
  show WW g _ _ 0 [(0, .ref 23), (1, .int a1), (2, .int a2)] [] (full d ρ) 0 0 _
  unfold fX12_isAtRest
  refine WW.aload_n (pc := 0) (j := 0) rfl dX12_isAtRest_0 ?_
  refine WW.iload_n (pc := 1) (j := 1) rfl dX12_isAtRest_1 ?_
  refine WW.callV (pc := 2) (As := [.int a1]) (st := []) lk_X12_198 (okX12_together g ρ hρ d a1) h3_23 (sh_23 ρ) ⟨_, _, clk12⟩ rfl (Nat.le_of_ble_eq_true rfl) ⟨Nat.le_of_ble_eq_true rfl, Nat.le_of_ble_eq_true rfl, Nat.le_of_ble_eq_true rfl, Nat.le_of_ble_eq_true rfl⟩ dX12_isAtRest_2 rfl (fun r1 hr1 => ?_)
  show WW _ _ _ 5 _ [.int r1] (full d ρ) 0 0 _
  refine WW.istore_n (pc := 5) [(3, .int r1), (0, .ref 23), (1, .int a1), (2, .int a2)] rfl (by decide) dX12_isAtRest_5 ?_
  refine WW.iconst (pc := 6) 1 dX12_isAtRest_6 rfl ?_
  refine WW.istore (pc := 7) [(4, .int 1), (3, .int r1), (0, .ref 23), (1, .int a1), (2, .int a2)] rfl (by decide) dX12_isAtRest_7 ?_
  refine WW.iconst (pc := 9) 0 dX12_isAtRest_9 rfl ?_
  refine WW.istore (pc := 10) [(5, .int 0), (4, .int 1), (3, .int r1), (0, .ref 23), (1, .int a1), (2, .int a2)] rfl (by decide) dX12_isAtRest_10 ?_
  refine WW.sub [3, 4, 5, 2, 1, 0] rfl ?_
  refine WW.loop (pc := 12) (Lj := fun (x2 : Bool × Int32) => [(0, .ref 23), (1, .int a1), (2, .int a2), (3, .int r1), (4, .int (b2i x2.1)), (5, .int x2.2)]) (hj := fun (x2 : Bool × Int32) => full d ρ) (fun self3 hself3 x2 => ?_) 6000 (true, 0)
  refine WW.iload (pc := 12) (j := 5) rfl dX12_isAtRest_12 ?_
  refine WW.aload_n (pc := 14) (j := 0) rfl dX12_isAtRest_14 ?_
  refine WW.sgi (pc := 15) fl_X12_114_12 h3_23 (sh_23 ρ) (Or.inl gt_12_15) dX12_isAtRest_15 ?_
  refine WW.icmp_ge (pc := 18) 122 dX12_isAtRest_18 (by decide) (fun _ => ?_) (fun _ => ?_)
  · refine WW.iload (pc := 122) (j := 4) rfl dX12_isAtRest_122 ?_
    exact WW.ret rfl rfl (show RetI M_X12_isAtRest 124 from dX12_isAtRest_124) ⟨Nat.le_refl _, Nat.le_refl _⟩ rfl
  · refine WW.iload (pc := 21) (j := 4) rfl dX12_isAtRest_21 ?_
    refine WW.if_eqB (pc := 23) 122 dX12_isAtRest_23 (by decide) (fun _ => ?_) (fun _ => ?_)
    · refine WW.iload_n (pc := 26) (j := 1) rfl dX12_isAtRest_26 ?_
      refine WW.iload (pc := 27) (j := 5) rfl dX12_isAtRest_27 ?_
      refine WW.callS (pc := 29) (As := [.int a1, .int x2.2]) (st := []) lk_X12_188 (okX12_stepsOf g ρ hρ d a1 x2.2) rfl (Nat.le_of_ble_eq_true rfl) ⟨Nat.le_of_ble_eq_true rfl, Nat.le_of_ble_eq_true rfl, Nat.le_of_ble_eq_true rfl, Nat.le_of_ble_eq_true rfl⟩ dX12_isAtRest_29 rfl (fun r4 hr4 => ?_)
      show WW _ _ _ 32 _ [.int r4] (full d ρ) 0 0 _
      refine WW.istore (pc := 32) [(6, .int r4), (0, .ref 23), (1, .int a1), (2, .int a2), (3, .int r1), (4, .int (b2i x2.1)), (5, .int x2.2)] rfl (by decide) dX12_isAtRest_32 ?_
      refine WW.aload_n (pc := 34) (j := 1) rfl dX12_isAtRest_34 ?_
      refine WW.iload (pc := 35) (j := 6) rfl dX12_isAtRest_35 ?_
      refine WW.iload (pc := 37) (j := 0) rfl dX12_isAtRest_37 ?_
      refine WW.iload_n (pc := 39) (j := 4) rfl dX12_isAtRest_39 ?_
      refine WW.callV (pc := 40) (As := [.int x2.2, .int r4, .int r1]) (st := []) lk_X12_201 (okX12_made g ρ hρ d x2.2 r4 r1) h3_23 (sh_23 ρ) ⟨_, _, clk12⟩ rfl (Nat.le_of_ble_eq_true rfl) ⟨Nat.le_of_ble_eq_true rfl, Nat.le_of_ble_eq_true rfl, Nat.le_of_ble_eq_true rfl, Nat.le_of_ble_eq_true rfl⟩ dX12_isAtRest_40 rfl (fun r5 hr5 => ?_)
      show WW _ _ _ 43 _ [.long r5] (full d ρ) 0 0 _
      refine WW.lstore (pc := 43) [(7, .long r5), (6, .int r4), (0, .ref 23), (1, .int a1), (2, .int a2), (3, .int r1), (4, .int (b2i x2.1)), (5, .int x2.2)] rfl (by decide) dX12_isAtRest_43 ?_
      refine WW.aload_n (pc := 45) (j := 2) rfl dX12_isAtRest_45 ?_
      refine WW.sgr (pc := 46) fl_X12_25_12 h3_23 (sh_23 ρ) (Or.inr ⟨_, gt_12_16⟩) (hr_23_16 ρ) dX12_isAtRest_46 ?_
      refine WW.iload (pc := 49) (j := 7) rfl dX12_isAtRest_49 ?_
      refine WW.siald (pc := 51) (one_le h3_29) (sh_29 ρ) dX12_isAtRest_51 ?_
      refine WW.ineg (pc := 52) dX12_isAtRest_52 ?_
      refine WW.nmi (fun v6 => ?_)
      refine WW.istore (pc := 53) [(9, .int v6), (7, .long r5), (6, .int r4), (0, .ref 23), (1, .int a1), (2, .int a2), (3, .int r1), (4, .int (b2i x2.1)), (5, .int x2.2)] rfl (by decide) dX12_isAtRest_53 ?_
      refine WW.join (pj := 116) (Lj := fun (x7 : Bool) => [(0, .ref 23), (1, .int a1), (2, .int a2), (3, .int r1), (4, .int (b2i x7)), (5, .int x2.2)]) (sj := fun (x7 : Bool) => []) (hj := fun (x7 : Bool) => full d ρ) (fun x7 => ?_) (fun k8 hk8 => ?_)
      · refine WW.iinc (pc := 116) (j := 5) (x2.2 + 1) [(5, .int (x2.2 + 1)), (0, .ref 23), (1, .int a1), (2, .int a2), (3, .int r1), (4, .int (b2i x7))] rfl rfl rfl (by decide) dX12_isAtRest_116 ?_
        refine WW.goto (pc := 119) 12 dX12_isAtRest_119 (by decide) ?_
        refine WW.sub [1, 2, 3, 4, 5, 0] rfl ?_
        exact hself3 (x7, (x2.2 + 1))
      · refine WW.sub [3, 4, 5, 6, 7, 8, 2, 1, 0] rfl ?_
        refine WW.loop (pc := 55) (Lj := fun (x9 : Bool × Int32) => [(0, .ref 23), (1, .int a1), (2, .int a2), (3, .int r1), (4, .int (b2i x9.1)), (5, .int x2.2), (6, .int r4), (7, .long r5), (9, .int x9.2)]) (hj := fun (x9 : Bool × Int32) => full d ρ) (fun self10 hself10 x9 => ?_) 6000 (x2.1, v6)
        refine WW.iload (pc := 55) (j := 8) rfl dX12_isAtRest_55 ?_
        refine WW.aload_n (pc := 57) (j := 0) rfl dX12_isAtRest_57 ?_
        refine WW.sgr (pc := 58) fl_X12_25_12 h3_23 (sh_23 ρ) (Or.inr ⟨_, gt_12_16⟩) (hr_23_16 ρ) dX12_isAtRest_58 ?_
        refine WW.iload (pc := 61) (j := 5) rfl dX12_isAtRest_61 ?_
        refine WW.siald (pc := 63) (one_le h3_29) (sh_29 ρ) dX12_isAtRest_63 ?_
        refine WW.icmp_gt (pc := 64) 116 dX12_isAtRest_64 (by decide) (fun _ => ?_) (fun _ => ?_)
        · refine WW.sub [0, 1, 2, 3, 4, 5] rfl ?_
          exact hk8 x9.1
        · refine WW.iload_n (pc := 67) (j := 2) rfl dX12_isAtRest_67 ?_
          refine WW.iload (pc := 68) (j := 5) rfl dX12_isAtRest_68 ?_
          refine WW.ishr (pc := 70) dX12_isAtRest_70 ?_
          refine WW.iconst (pc := 71) 1 dX12_isAtRest_71 rfl ?_
          refine WW.iand (pc := 72) dX12_isAtRest_72 ?_
          refine WW.iconst (pc := 73) 1 dX12_isAtRest_73 rfl ?_
          refine WW.icmp_ne (pc := 74) 116 dX12_isAtRest_74 (by decide) (fun _ => ?_) (fun _ => ?_)
          · refine WW.iload (pc := 77) (j := 4) rfl dX12_isAtRest_77 ?_
            refine WW.join (pj := 108) (Lj := fun (x11 : Bool) => [(0, .ref 23), (1, .int a1), (2, .int a2), (3, .int r1), (5, .int x2.2), (6, .int r4), (7, .long r5), (9, .int x9.2)]) (sj := fun (x11 : Bool) => [.int (b2i x11)]) (hj := fun (x11 : Bool) => full d ρ) (fun x11 => ?_) (fun k12 hk12 => ?_)
            · refine WW.istore (pc := 108) [(4, .int (b2i x11)), (0, .ref 23), (1, .int a1), (2, .int a2), (3, .int r1), (5, .int x2.2), (6, .int r4), (7, .long r5), (9, .int x9.2)] rfl (by decide) dX12_isAtRest_108 ?_
              refine WW.iinc (pc := 110) (j := 8) (x9.2 + 1) [(9, .int (x9.2 + 1)), (4, .int (b2i x11)), (0, .ref 23), (1, .int a1), (2, .int a2), (3, .int r1), (5, .int x2.2), (6, .int r4), (7, .long r5)] rfl rfl rfl (by decide) dX12_isAtRest_110 ?_
              refine WW.goto (pc := 113) 55 dX12_isAtRest_113 (by decide) ?_
              refine WW.sub [2, 3, 4, 5, 1, 6, 7, 8, 0] rfl ?_
              exact hself10 (x11, (x9.2 + 1))
            · refine WW.join (pj := 107) (Lj := fun (x13 : Unit) => [(0, .ref 23), (1, .int a1), (2, .int a2), (3, .int r1), (5, .int x2.2), (6, .int r4), (7, .long r5), (9, .int x9.2)]) (sj := fun (x13 : Unit) => []) (hj := fun (x13 : Unit) => full d ρ) (fun x13 => ?_) (fun k14 hk14 => ?_)
              · refine WW.iconst (pc := 107) 0 dX12_isAtRest_107 rfl ?_
                exact hk12 false
              · refine WW.if_eqB (pc := 79) 107 dX12_isAtRest_79 (by decide) (fun _ => ?_) (fun _ => ?_)
                · refine WW.aload_n (pc := 82) (j := 0) rfl dX12_isAtRest_82 ?_
                  refine WW.iload (pc := 83) (j := 5) rfl dX12_isAtRest_83 ?_
                  refine WW.iload (pc := 85) (j := 8) rfl dX12_isAtRest_85 ?_
                  refine WW.iload_n (pc := 87) (j := 3) rfl dX12_isAtRest_87 ?_
                  refine WW.iload (pc := 88) (j := 6) rfl dX12_isAtRest_88 ?_
                  refine WW.isub (pc := 90) dX12_isAtRest_90 ?_
                  refine WW.iload (pc := 91) (j := 8) rfl dX12_isAtRest_91 ?_
                  refine WW.iadd (pc := 93) dX12_isAtRest_93 ?_
                  refine WW.callV (pc := 94) (As := [.int x2.2, .int x9.2, .int ((r1 - r4) + x9.2)]) (st := []) lk_X12_201 (okX12_made g ρ hρ d x2.2 x9.2 ((r1 - r4) + x9.2)) h3_23 (sh_23 ρ) ⟨_, _, clk12⟩ rfl (Nat.le_of_ble_eq_true rfl) ⟨Nat.le_of_ble_eq_true rfl, Nat.le_of_ble_eq_true rfl, Nat.le_of_ble_eq_true rfl, Nat.le_of_ble_eq_true rfl⟩ dX12_isAtRest_94 rfl (fun r15 hr15 => ?_)
                  show WW _ _ _ 97 _ [.long r15] (full d ρ) 0 0 _
                  refine WW.lload (pc := 97) (j := 7) rfl dX12_isAtRest_97 ?_
                  refine WW.lcmp_gt (pc := 99) 107 dX12_isAtRest_99 dX12_isAtRest_100 (by decide) (fun _ => ?_) (fun _ => ?_)
                  · refine WW.sub [0, 1, 2, 3, 5, 6, 7, 8] rfl ?_
                    exact hk14 ()
                  · refine WW.iconst (pc := 103) 1 dX12_isAtRest_103 rfl ?_
                    refine WW.goto (pc := 104) 108 dX12_isAtRest_104 (by decide) ?_
                    refine WW.sub [0, 1, 2, 3, 5, 6, 7, 8] rfl ?_
                    exact hk12 true
                · refine WW.sub [0, 1, 2, 3, 5, 6, 7, 8] rfl ?_
                  exact hk14 ()
          · refine WW.sub [0, 1, 2, 3, 4, 5] rfl ?_
            exact hk8 x9.1
    · refine WW.iload (pc := 122) (j := 4) rfl dX12_isAtRest_122 ?_
      exact WW.ret rfl rfl (show RetI M_X12_isAtRest 124 from dX12_isAtRest_124) ⟨Nat.le_refl _, Nat.le_refl _⟩ rfl
def fX12_allMake (ρ : Rh) (d : Dd) (a1 : Int32) : Option Int64 :=
  lp (fun self2 (x1 : Int64 × Int32) =>
    if (d_i d 23 15) ≤ x1.2 then
      (some x1.1)
    else
      ((fX12_stepsOf a1 x1.2).bind fun r3 =>
      (fX12_together ρ d a1).bind fun r4 =>
      (fX12_made ρ d x1.2 r3 r4).bind fun r5 =>
      bnd ((x1.1 + r5) : Int64) fun v6 =>
      self2 (v6, (x1.2 + 1)))
    ) 6000 (0, 0)
set_option maxHeartbeats 4000000 in
set_option maxRecDepth 100000 in
theorem okX12_allMake (g : Gx) (ρ : Rh) (hρ : Hr ρ) (d : Dd) (a1 : Int32) : CallR g M_X12_allMake (eLp ρ d) [.ref 23, .int a1] (full d ρ) (fX12_allMake ρ d a1) := by
  refine CallR.intro rfl rfl (Nat.le_of_ble_eq_true rfl) (fun a ha => ⟨_, rfl⟩) ?_
  show WW g _ _ 0 [(0, .ref 23), (1, .int a1)] [] (full d ρ) 0 0 _
  unfold fX12_allMake
  refine WW.lconst (pc := 0) 0 dX12_allMake_0 rfl ?_
  refine WW.lstore_n (pc := 1) [(2, .long 0), (0, .ref 23), (1, .int a1)] rfl (by decide) dX12_allMake_1 ?_
  refine WW.iconst (pc := 2) 0 dX12_allMake_2 rfl ?_
  refine WW.istore (pc := 3) [(4, .int 0), (2, .long 0), (0, .ref 23), (1, .int a1)] rfl (by decide) dX12_allMake_3 ?_
  refine WW.sub [2, 3, 1, 0] rfl ?_
  refine WW.loop (pc := 5) (Lj := fun (x1 : Int64 × Int32) => [(0, .ref 23), (1, .int a1), (2, .long x1.1), (4, .int x1.2)]) (hj := fun (x1 : Int64 × Int32) => full d ρ) (fun self2 hself2 x1 => ?_) 6000 (0, 0)
  refine WW.iload (pc := 5) (j := 3) rfl dX12_allMake_5 ?_
  refine WW.aload_n (pc := 7) (j := 0) rfl dX12_allMake_7 ?_
  refine WW.sgi (pc := 8) fl_X12_114_12 h3_23 (sh_23 ρ) (Or.inl gt_12_15) dX12_allMake_8 ?_
  refine WW.icmp_ge (pc := 11) 40 dX12_allMake_11 (by decide) (fun _ => ?_) (fun _ => ?_)
  · refine WW.lload_n (pc := 40) (j := 2) rfl dX12_allMake_40 ?_
    exact WW.ret rfl rfl (show RetI M_X12_allMake 41 from dX12_allMake_41) ⟨Nat.le_refl _, Nat.le_refl _⟩ rfl
  · refine WW.lload_n (pc := 14) (j := 2) rfl dX12_allMake_14 ?_
    refine WW.aload_n (pc := 15) (j := 0) rfl dX12_allMake_15 ?_
    refine WW.iload (pc := 16) (j := 3) rfl dX12_allMake_16 ?_
    refine WW.iload_n (pc := 18) (j := 1) rfl dX12_allMake_18 ?_
    refine WW.iload (pc := 19) (j := 3) rfl dX12_allMake_19 ?_
    refine WW.callS (pc := 21) (As := [.int a1, .int x1.2]) (st := [.int x1.2, .ref 23, .long x1.1]) lk_X12_188 (okX12_stepsOf g ρ hρ d a1 x1.2) rfl (Nat.le_of_ble_eq_true rfl) ⟨Nat.le_of_ble_eq_true rfl, Nat.le_of_ble_eq_true rfl, Nat.le_of_ble_eq_true rfl, Nat.le_of_ble_eq_true rfl⟩ dX12_allMake_21 rfl (fun r3 hr3 => ?_)
    show WW _ _ _ 24 _ [.int r3, .int x1.2, .ref 23, .long x1.1] (full d ρ) 0 0 _
    refine WW.aload_n (pc := 24) (j := 0) rfl dX12_allMake_24 ?_
    refine WW.iload_n (pc := 25) (j := 1) rfl dX12_allMake_25 ?_
    refine WW.callV (pc := 26) (As := [.int a1]) (st := [.int r3, .int x1.2, .ref 23, .long x1.1]) lk_X12_198 (okX12_together g ρ hρ d a1) h3_23 (sh_23 ρ) ⟨_, _, clk12⟩ rfl (Nat.le_of_ble_eq_true rfl) ⟨Nat.le_of_ble_eq_true rfl, Nat.le_of_ble_eq_true rfl, Nat.le_of_ble_eq_true rfl, Nat.le_of_ble_eq_true rfl⟩ dX12_allMake_26 rfl (fun r4 hr4 => ?_)
    show WW _ _ _ 29 _ [.int r4, .int r3, .int x1.2, .ref 23, .long x1.1] (full d ρ) 0 0 _
    refine WW.callV (pc := 29) (As := [.int x1.2, .int r3, .int r4]) (st := [.long x1.1]) lk_X12_201 (okX12_made g ρ hρ d x1.2 r3 r4) h3_23 (sh_23 ρ) ⟨_, _, clk12⟩ rfl (Nat.le_of_ble_eq_true rfl) ⟨Nat.le_of_ble_eq_true rfl, Nat.le_of_ble_eq_true rfl, Nat.le_of_ble_eq_true rfl, Nat.le_of_ble_eq_true rfl⟩ dX12_allMake_29 rfl (fun r5 hr5 => ?_)
    show WW _ _ _ 32 _ [.long r5, .long x1.1] (full d ρ) 0 0 _
    refine WW.ladd (pc := 32) dX12_allMake_32 ?_
    refine WW.nml (fun v6 => ?_)
    refine WW.lstore_n (pc := 33) [(2, .long v6), (0, .ref 23), (1, .int a1), (4, .int x1.2)] rfl (by decide) dX12_allMake_33 ?_
    refine WW.iinc (pc := 34) (j := 3) (x1.2 + 1) [(4, .int (x1.2 + 1)), (2, .long v6), (0, .ref 23), (1, .int a1)] rfl rfl rfl (by decide) dX12_allMake_34 ?_
    refine WW.goto (pc := 37) 5 dX12_allMake_37 (by decide) ?_
    refine WW.sub [2, 3, 1, 0] rfl ?_
    exact hself2 (v6, (x1.2 + 1))
def fX12_dealtFor (ρ : Rh) (d : Dd) (a1 : Int32) (a2 : Int32) (a3 : Int32) (a4 : Int32) : Option (Int32 × Dd) :=
  (fX12_take ρ d a1 a3).bind fun r1 =>
  bnd (dI r1 23 23 0) fun d2 =>
  bnd (dI d2 23 24 (-1)) fun d3 =>
  lp (fun self5 (x4 : Int32 × Int64 × Int32 × Dd) =>
    (fX12_dealings ρ x4.2.2.2).bind fun r6 =>
    if r6 ≤ x4.2.2.1 then
      (some (x4.1, x4.2.2.2))
    else
      ((fX12_isOf ρ x4.2.2.2 x4.2.2.1 a2).bind fun r7 =>
      jn (fun (x8 : Int32 × Int64 × Dd) =>
        self5 (x8.1, x8.2.1, (x4.2.2.1 + 1), x8.2.2)
        ) fun k9 =>
      if r7 = true then
        ((fX12_isAtRest ρ x4.2.2.2 x4.2.2.1 a2).bind fun r10 =>
        if r10 = true then
          ((fX12_allMake ρ x4.2.2.2 x4.2.2.1).bind fun r11 =>
          jn (fun (x12 : Int32) =>
            jn (fun (x14 : Int64) =>
              jn (fun (x16 : Int32) =>
                bnd (dI x4.2.2.2 23 24 x16) fun d18 =>
                bnd (dI d18 23 23 ((d_i d18 23 23) + 1)) fun d19 =>
                k9 (x12, x14, d19)
                ) fun k17 =>
              if (d_i x4.2.2.2 23 23) = a4 then
                (k17 x4.2.2.1)
              else
                (k17 (d_i x4.2.2.2 23 24))
              ) fun k15 =>
            jn (fun (x20 : Unit) =>
              k15 r11
              ) fun k21 =>
            if (d_i x4.2.2.2 23 23) = 0 then
              (k21 ())
            else
              (if r11 ≤ x4.2.1 then
                (k15 x4.2.1)
              else
                (k21 ()))
            ) fun k13 =>
          jn (fun (x22 : Unit) =>
            k13 x4.2.2.1
            ) fun k23 =>
          if (d_i x4.2.2.2 23 23) = 0 then
            (k23 ())
          else
            (if r11 ≤ x4.2.1 then
              (k13 x4.1)
            else
              (k23 ())))
        else
          (k9 (x4.1, x4.2.1, x4.2.2.2)))
      else
        (k9 (x4.1, x4.2.1, x4.2.2.2)))
    ) 6000 ((-1), 0, 0, d3)
set_option maxHeartbeats 4000000 in
set_option maxRecDepth 100000 in
theorem okX12_dealtFor (g : Gx) (ρ : Rh) (hρ : Hr ρ) (d : Dd) (a1 : Int32) (a2 : Int32) (a3 : Int32) (a4 : Int32) : CallR g M_X12_dealtFor (eI ρ) [.ref 23, .int a1, .int a2, .int a3, .int a4] (full d ρ) (fX12_dealtFor ρ d a1 a2 a3 a4) := by
  refine CallR.intro rfl rfl (Nat.le_of_ble_eq_true rfl) (fun a ha => ⟨_, rfl⟩) ?_
  show WW g _ _ 0 [(0, .ref 23), (1, .int a1), (2, .int a2), (3, .int a3), (4, .int a4)] [] (full d ρ) 0 0 _
  unfold fX12_dealtFor
  refine WW.aload_n (pc := 0) (j := 0) rfl dX12_dealtFor_0 ?_
  refine WW.iload_n (pc := 1) (j := 1) rfl dX12_dealtFor_1 ?_
  refine WW.iload_n (pc := 2) (j := 3) rfl dX12_dealtFor_2 ?_
  refine WW.callV (pc := 3) (As := [.int a1, .int a3]) (st := []) lk_X12_205 (okX12_take g ρ hρ d a1 a3) h3_23 (sh_23 ρ) ⟨_, _, clk12⟩ rfl (Nat.le_of_ble_eq_true rfl) ⟨Nat.le_of_ble_eq_true rfl, Nat.le_of_ble_eq_true rfl, Nat.le_of_ble_eq_true rfl, Nat.le_of_ble_eq_true rfl⟩ dX12_dealtFor_3 rfl (fun r1 hr1 => ?_)
  show WW _ _ _ 6 _ [] (full r1 ρ) 0 0 _
  refine WW.aload_n (pc := 6) (j := 0) rfl dX12_dealtFor_6 ?_
  refine WW.iconst (pc := 7) 0 dX12_dealtFor_7 rfl ?_
  refine WW.spi (pc := 8) fp_X12_209_12 h3_23 (sh_23 ρ) gt_12_23 dX12_dealtFor_8 (fun d2 => ?_)
  refine WW.aload_n (pc := 11) (j := 0) rfl dX12_dealtFor_11 ?_
  refine WW.iconst (pc := 12) (-1) dX12_dealtFor_12 rfl ?_
  refine WW.spi (pc := 13) fp_X12_212_12 h3_23 (sh_23 ρ) gt_12_24 dX12_dealtFor_13 (fun d3 => ?_)
  refine WW.iconst (pc := 16) (-1) dX12_dealtFor_16 rfl ?_
  refine WW.istore (pc := 17) [(5, .int (-1)), (0, .ref 23), (1, .int a1), (2, .int a2), (3, .int a3), (4, .int a4)] rfl (by decide) dX12_dealtFor_17 ?_
  refine WW.lconst (pc := 19) 0 dX12_dealtFor_19 rfl ?_
  refine WW.lstore (pc := 20) [(6, .long 0), (5, .int (-1)), (0, .ref 23), (1, .int a1), (2, .int a2), (3, .int a3), (4, .int a4)] rfl (by decide) dX12_dealtFor_20 ?_
  refine WW.iconst (pc := 22) 0 dX12_dealtFor_22 rfl ?_
  refine WW.istore (pc := 23) [(8, .int 0), (6, .long 0), (5, .int (-1)), (0, .ref 23), (1, .int a1), (2, .int a2), (3, .int a3), (4, .int a4)] rfl (by decide) dX12_dealtFor_23 ?_
  refine WW.sub [3, 5, 7, 2, 1, 0] rfl ?_
  refine WW.loop (pc := 25) (Lj := fun (x4 : Int32 × Int64 × Int32 × Dd) => [(0, .ref 23), (2, .int a2), (4, .int a4), (5, .int x4.1), (6, .long x4.2.1), (8, .int x4.2.2.1)]) (hj := fun (x4 : Int32 × Int64 × Int32 × Dd) => full x4.2.2.2 ρ) (fun self5 hself5 x4 => ?_) 6000 ((-1), 0, 0, d3)
  refine WW.iload (pc := 25) (j := 5) rfl dX12_dealtFor_25 ?_
  refine WW.aload_n (pc := 27) (j := 0) rfl dX12_dealtFor_27 ?_
  refine WW.callV (pc := 28) (As := []) (st := [.int x4.2.2.1]) lk_X12_215 (okX12_dealings g ρ hρ x4.2.2.2 ) h3_23 (sh_23 ρ) ⟨_, _, clk12⟩ rfl (Nat.le_of_ble_eq_true rfl) ⟨Nat.le_of_ble_eq_true rfl, Nat.le_of_ble_eq_true rfl, Nat.le_of_ble_eq_true rfl, Nat.le_of_ble_eq_true rfl⟩ dX12_dealtFor_28 rfl (fun r6 hr6 => ?_)
  show WW _ _ _ 31 _ [.int r6, .int x4.2.2.1] (full x4.2.2.2 ρ) 0 0 _
  refine WW.icmp_ge (pc := 31) 148 dX12_dealtFor_31 (by decide) (fun _ => ?_) (fun _ => ?_)
  · refine WW.iload (pc := 148) (j := 3) rfl dX12_dealtFor_148 ?_
    exact WW.ret rfl rfl (show RetI M_X12_dealtFor 150 from dX12_dealtFor_150) ⟨Nat.le_refl _, Nat.le_refl _⟩ rfl
  · refine WW.aload_n (pc := 34) (j := 0) rfl dX12_dealtFor_34 ?_
    refine WW.iload (pc := 35) (j := 5) rfl dX12_dealtFor_35 ?_
    refine WW.iload_n (pc := 37) (j := 1) rfl dX12_dealtFor_37 ?_
    refine WW.callV (pc := 38) (As := [.int x4.2.2.1, .int a2]) (st := []) lk_X12_218 (okX12_isOf g ρ hρ x4.2.2.2 x4.2.2.1 a2) h3_23 (sh_23 ρ) ⟨_, _, clk12⟩ rfl (Nat.le_of_ble_eq_true rfl) ⟨Nat.le_of_ble_eq_true rfl, Nat.le_of_ble_eq_true rfl, Nat.le_of_ble_eq_true rfl, Nat.le_of_ble_eq_true rfl⟩ dX12_dealtFor_38 rfl (fun r7 hr7 => ?_)
    show WW _ _ _ 41 _ [.int (b2i r7)] (full x4.2.2.2 ρ) 0 0 _
    refine WW.join (pj := 142) (Lj := fun (x8 : Int32 × Int64 × Dd) => [(0, .ref 23), (2, .int a2), (4, .int a4), (5, .int x8.1), (6, .long x8.2.1), (8, .int x4.2.2.1)]) (sj := fun (x8 : Int32 × Int64 × Dd) => []) (hj := fun (x8 : Int32 × Int64 × Dd) => full x8.2.2 ρ) (fun x8 => ?_) (fun k9 hk9 => ?_)
    · refine WW.iinc (pc := 142) (j := 5) (x4.2.2.1 + 1) [(8, .int (x4.2.2.1 + 1)), (0, .ref 23), (2, .int a2), (4, .int a4), (5, .int x8.1), (6, .long x8.2.1)] rfl rfl rfl (by decide) dX12_dealtFor_142 ?_
      refine WW.goto (pc := 145) 25 dX12_dealtFor_145 (by decide) ?_
      refine WW.sub [1, 2, 3, 4, 5, 0] rfl ?_
      exact hself5 (x8.1, x8.2.1, (x4.2.2.1 + 1), x8.2.2)
    · refine WW.if_eqB (pc := 41) 142 dX12_dealtFor_41 (by decide) (fun _ => ?_) (fun _ => ?_)
      · refine WW.aload_n (pc := 44) (j := 0) rfl dX12_dealtFor_44 ?_
        refine WW.iload (pc := 45) (j := 5) rfl dX12_dealtFor_45 ?_
        refine WW.iload_n (pc := 47) (j := 1) rfl dX12_dealtFor_47 ?_
        refine WW.callV (pc := 48) (As := [.int x4.2.2.1, .int a2]) (st := []) lk_X12_221 (okX12_isAtRest g ρ hρ x4.2.2.2 x4.2.2.1 a2) h3_23 (sh_23 ρ) ⟨_, _, clk12⟩ rfl (Nat.le_of_ble_eq_true rfl) ⟨Nat.le_of_ble_eq_true rfl, Nat.le_of_ble_eq_true rfl, Nat.le_of_ble_eq_true rfl, Nat.le_of_ble_eq_true rfl⟩ dX12_dealtFor_48 rfl (fun r10 hr10 => ?_)
        show WW _ _ _ 51 _ [.int (b2i r10)] (full x4.2.2.2 ρ) 0 0 _
        refine WW.if_eqB (pc := 51) 142 dX12_dealtFor_51 (by decide) (fun _ => ?_) (fun _ => ?_)
        · refine WW.aload_n (pc := 54) (j := 0) rfl dX12_dealtFor_54 ?_
          refine WW.iload (pc := 55) (j := 5) rfl dX12_dealtFor_55 ?_
          refine WW.callV (pc := 57) (As := [.int x4.2.2.1]) (st := []) lk_X12_224 (okX12_allMake g ρ hρ x4.2.2.2 x4.2.2.1) h3_23 (sh_23 ρ) ⟨_, _, clk12⟩ rfl (Nat.le_of_ble_eq_true rfl) ⟨Nat.le_of_ble_eq_true rfl, Nat.le_of_ble_eq_true rfl, Nat.le_of_ble_eq_true rfl, Nat.le_of_ble_eq_true rfl⟩ dX12_dealtFor_57 rfl (fun r11 hr11 => ?_)
          show WW _ _ _ 60 _ [.long r11] (full x4.2.2.2 ρ) 0 0 _
          refine WW.lstore (pc := 60) [(9, .long r11), (0, .ref 23), (2, .int a2), (4, .int a4), (5, .int x4.1), (6, .long x4.2.1), (8, .int x4.2.2.1)] rfl (by decide) dX12_dealtFor_60 ?_
          refine WW.aload_n (pc := 62) (j := 1) rfl dX12_dealtFor_62 ?_
          refine WW.sgi (pc := 63) fl_X12_209_12 h3_23 (sh_23 ρ) (Or.inl gt_12_23) dX12_dealtFor_63 ?_
          refine WW.join (pj := 84) (Lj := fun (x12 : Int32) => [(0, .ref 23), (2, .int a2), (4, .int a4), (6, .long x4.2.1), (8, .int x4.2.2.1), (9, .long r11)]) (sj := fun (x12 : Int32) => [.int x12]) (hj := fun (x12 : Int32) => full x4.2.2.2 ρ) (fun x12 => ?_) (fun k13 hk13 => ?_)
          · refine WW.istore (pc := 84) [(5, .int x12), (0, .ref 23), (2, .int a2), (4, .int a4), (6, .long x4.2.1), (8, .int x4.2.2.1), (9, .long r11)] rfl (by decide) dX12_dealtFor_84 ?_
            refine WW.aload_n (pc := 86) (j := 1) rfl dX12_dealtFor_86 ?_
            refine WW.sgi (pc := 87) fl_X12_209_12 h3_23 (sh_23 ρ) (Or.inl gt_12_23) dX12_dealtFor_87 ?_
            refine WW.join (pj := 108) (Lj := fun (x14 : Int64) => [(0, .ref 23), (2, .int a2), (4, .int a4), (5, .int x12), (8, .int x4.2.2.1)]) (sj := fun (x14 : Int64) => [.long x14]) (hj := fun (x14 : Int64) => full x4.2.2.2 ρ) (fun x14 => ?_) (fun k15 hk15 => ?_)
            · refine WW.lstore (pc := 108) [(6, .long x14), (0, .ref 23), (2, .int a2), (4, .int a4), (5, .int x12), (8, .int x4.2.2.1)] rfl (by decide) dX12_dealtFor_108 ?_
              refine WW.aload_n (pc := 110) (j := 1) rfl dX12_dealtFor_110 ?_
              refine WW.aload_n (pc := 111) (j := 1) rfl dX12_dealtFor_111 ?_
              refine WW.sgi (pc := 112) fl_X12_209_12 h3_23 (sh_23 ρ) (Or.inl gt_12_23) dX12_dealtFor_112 ?_
              refine WW.iload (pc := 115) (j := 3) rfl dX12_dealtFor_115 ?_
              refine WW.join (pj := 129) (Lj := fun (x16 : Int32) => [(0, .ref 23), (2, .int a2), (4, .int a4), (5, .int x12), (6, .long x14), (8, .int x4.2.2.1)]) (sj := fun (x16 : Int32) => [.int x16, .ref 23]) (hj := fun (x16 : Int32) => full x4.2.2.2 ρ) (fun x16 => ?_) (fun k17 hk17 => ?_)
              · refine WW.spi (pc := 129) fp_X12_212_12 h3_23 (sh_23 ρ) gt_12_24 dX12_dealtFor_129 (fun d18 => ?_)
                refine WW.aload_n (pc := 132) (j := 0) rfl dX12_dealtFor_132 ?_
                refine WW.dup (pc := 133) rfl dX12_dealtFor_133 ?_
                refine WW.sgi (pc := 134) fl_X12_209_12 h3_23 (sh_23 ρ) (Or.inl gt_12_23) dX12_dealtFor_134 ?_
                refine WW.iconst (pc := 137) 1 dX12_dealtFor_137 rfl ?_
                refine WW.iadd (pc := 138) dX12_dealtFor_138 ?_
                refine WW.spi (pc := 139) fp_X12_209_12 h3_23 (sh_23 ρ) gt_12_23 dX12_dealtFor_139 (fun d19 => ?_)
                exact hk9 (x12, x14, d19)
              · refine WW.icmp_ne (pc := 117) 125 dX12_dealtFor_117 (by decide) (fun _ => ?_) (fun _ => ?_)
                · refine WW.iload (pc := 120) (j := 5) rfl dX12_dealtFor_120 ?_
                  refine WW.goto (pc := 122) 129 dX12_dealtFor_122 (by decide) ?_
                  refine WW.sub [1, 2, 3, 4, 0, 5] rfl ?_
                  exact hk17 x4.2.2.1
                · refine WW.aload_n (pc := 125) (j := 1) rfl dX12_dealtFor_125 ?_
                  refine WW.sgi (pc := 126) fl_X12_212_12 h3_23 (sh_23 ρ) (Or.inl gt_12_24) dX12_dealtFor_126 ?_
                  refine WW.sub [1, 2, 3, 4, 0, 5] rfl ?_
                  exact hk17 (d_i x4.2.2.2 23 24)
            · refine WW.join (pj := 101) (Lj := fun (x20 : Unit) => [(0, .ref 23), (2, .int a2), (4, .int a4), (5, .int x12), (8, .int x4.2.2.1), (9, .long r11)]) (sj := fun (x20 : Unit) => []) (hj := fun (x20 : Unit) => full x4.2.2.2 ρ) (fun x20 => ?_) (fun k21 hk21 => ?_)
              · refine WW.lload (pc := 101) (j := 5) rfl dX12_dealtFor_101 ?_
                refine WW.goto (pc := 103) 108 dX12_dealtFor_103 (by decide) ?_
                refine WW.sub [0, 1, 2, 3, 4] rfl ?_
                exact hk15 r11
              · refine WW.if_eq (pc := 90) 101 dX12_dealtFor_90 (by decide) (fun _ => ?_) (fun _ => ?_)
                · refine WW.sub [1, 2, 3, 0, 5, 6] rfl ?_
                  exact hk21 ()
                · refine WW.lload (pc := 93) (j := 6) rfl dX12_dealtFor_93 ?_
                  refine WW.lload (pc := 95) (j := 4) rfl dX12_dealtFor_95 ?_
                  refine WW.lcmp_le (pc := 97) 106 dX12_dealtFor_97 dX12_dealtFor_98 (by decide) (fun _ => ?_) (fun _ => ?_)
                  · refine WW.lload (pc := 106) (j := 4) rfl dX12_dealtFor_106 ?_
                    refine WW.sub [1, 2, 3, 0, 5] rfl ?_
                    exact hk15 x4.2.1
                  · refine WW.sub [1, 2, 3, 0, 5, 6] rfl ?_
                    exact hk21 ()
          · refine WW.join (pj := 77) (Lj := fun (x22 : Unit) => [(0, .ref 23), (2, .int a2), (4, .int a4), (6, .long x4.2.1), (8, .int x4.2.2.1), (9, .long r11)]) (sj := fun (x22 : Unit) => []) (hj := fun (x22 : Unit) => full x4.2.2.2 ρ) (fun x22 => ?_) (fun k23 hk23 => ?_)
            · refine WW.iload (pc := 77) (j := 4) rfl dX12_dealtFor_77 ?_
              refine WW.goto (pc := 79) 84 dX12_dealtFor_79 (by decide) ?_
              exact hk13 x4.2.2.1
            · refine WW.if_eq (pc := 66) 77 dX12_dealtFor_66 (by decide) (fun _ => ?_) (fun _ => ?_)
              · refine WW.sub [1, 2, 3, 5, 6, 0] rfl ?_
                exact hk23 ()
              · refine WW.lload (pc := 69) (j := 0) rfl dX12_dealtFor_69 ?_
                refine WW.lload (pc := 71) (j := 5) rfl dX12_dealtFor_71 ?_
                refine WW.lcmp_le (pc := 73) 82 dX12_dealtFor_73 dX12_dealtFor_74 (by decide) (fun _ => ?_) (fun _ => ?_)
                · refine WW.iload (pc := 82) (j := 4) rfl dX12_dealtFor_82 ?_
                  refine WW.sub [1, 2, 3, 5, 6, 0] rfl ?_
                  exact hk13 x4.1
                · refine WW.sub [1, 2, 3, 5, 6, 0] rfl ?_
                  exact hk23 ()
        · exact hk9 (x4.1, x4.2.1, x4.2.2.2)
      · exact hk9 (x4.1, x4.2.1, x4.2.2.2)
