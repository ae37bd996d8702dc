def fX2_isAtRest (ρ : Rh) (d : Dd) : Option Bool :=
  lp (fun self2 (x1 : Int32) =>
    if 4 ≤ x1 then
      (some true)
    else
      ((fX11_isIn (d_i d 14 3) x1).bind fun r3 =>
      jn (fun (x4 : Unit) =>
        self2 (x1 + 1)
        ) fun k5 =>
      if r3 = true then
        ((fX1_limitOf ρ d x1).bind fun r6 =>
        (fX2_gain ρ d x1 0).bind fun r7 =>
        if inB x1 4 = true then
          (jn (fun (x8 : Bool) =>
            if inB x1 4 = true then
              (jn (fun (x10 : Bool) =>
                if x8 = true then
                  (some false)
                else
                  (if x10 = true then
                    (some false)
                  else
                    (k5 ()))
                ) fun k11 =>
              jn (fun (x12 : Unit) =>
                k11 false
                ) fun k13 =>
              if (d_i d 18 (ix x1)) ≤ (-r6) then
                (k13 ())
              else
                ((fX2_gain ρ d x1 (-1)).bind fun r14 =>
                if r14 ≤ r7 then
                  (k13 ())
                else
                  (k11 true)))
            else none
            ) fun k9 =>
          jn (fun (x15 : Unit) =>
            k9 false
            ) fun k16 =>
          if r6 ≤ (d_i d 18 (ix x1)) then
            (k16 ())
          else
            ((fX2_gain ρ d x1 1).bind fun r17 =>
            if r17 ≤ r7 then
              (k16 ())
            else
              (k9 true)))
        else none)
      else
        (k5 ()))
    ) 6000 (0)
set_option maxHeartbeats 4000000 in
set_option maxRecDepth 100000 in
theorem okX2_isAtRest (g : Gx) (ρ : Rh) (hρ : Hr ρ) (d : Dd)  : CallR g M_X2_isAtRest (eZp ρ d) [.ref 14] (full d ρ) (fX2_isAtRest ρ d) := by
  refine CallR.intro rfl rfl (Nat.le_of_ble_eq_true rfl) (fun a ha => ⟨_, rfl⟩) ?_
  show WW g _ _ 0 [(0, .ref 14)] [] (full d ρ) 0 0 _
  unfold fX2_isAtRest
  refine WW.iconst (pc := 0) 0 dX2_isAtRest_0 rfl ?_
  refine WW.istore_n (pc := 1) [(1, .int 0), (0, .ref 14)] rfl (by decide) dX2_isAtRest_1 ?_
  refine WW.sub [1, 0] rfl ?_
  refine WW.loop (pc := 2) (Lj := fun (x1 : Int32) => [(0, .ref 14), (1, .int x1)]) (hj := fun (x1 : Int32) => full d ρ) (fun self2 hself2 x1 => ?_) 6000 (0)
  refine WW.iload_n (pc := 2) (j := 1) rfl dX2_isAtRest_2 ?_
  refine WW.aload_n (pc := 3) (j := 0) rfl dX2_isAtRest_3 ?_
  refine WW.sgr (pc := 4) fl_X2_18_2 h3_14 (sh_14 ρ) (Or.inr ⟨_, gt_2_1⟩) (hr_14_1 ρ) dX2_isAtRest_4 ?_
  refine WW.alen (pc := 7) 4 (one_le h3_18) (Or.inl rfl) (sh_18 ρ) rfl dX2_isAtRest_7 ?_
  refine WW.icmp_ge (pc := 8) 113 dX2_isAtRest_8 (by decide) (fun _ => ?_) (fun _ => ?_)
  · refine WW.iconst (pc := 113) 1 dX2_isAtRest_113 rfl ?_
    exact WW.ret rfl rfl (show RetI M_X2_isAtRest 114 from dX2_isAtRest_114) ⟨Nat.le_refl _, Nat.le_refl _⟩ rfl
  · refine WW.aload_n (pc := 11) (j := 0) rfl dX2_isAtRest_11 ?_
    refine WW.sgi (pc := 12) fl_X2_37_2 h3_14 (sh_14 ρ) (Or.inl gt_2_3) dX2_isAtRest_12 ?_
    refine WW.iload_n (pc := 15) (j := 1) rfl dX2_isAtRest_15 ?_
    refine WW.callN (pc := 16) (As := [.int (d_i d 14 3), .int x1]) (st := []) lk_X2_80 (okX11_isIn g ρ hρ d (d_i d 14 3) x1) rfl (Nat.le_of_ble_eq_true rfl) ⟨Nat.le_of_ble_eq_true rfl, Nat.le_of_ble_eq_true rfl, Nat.le_of_ble_eq_true rfl, Nat.le_of_ble_eq_true rfl⟩ dX2_isAtRest_16 rfl (fun r3 hr3 => ?_)
    show WW _ _ _ 19 _ [.int (b2i r3)] (full d ρ) 0 0 _
    refine WW.join (pj := 107) (Lj := fun (x4 : Unit) => [(0, .ref 14), (1, .int x1)]) (sj := fun (x4 : Unit) => []) (hj := fun (x4 : Unit) => full d ρ) (fun x4 => ?_) (fun k5 hk5 => ?_)
    · refine WW.iinc (pc := 107) (j := 1) (x1 + 1) [(1, .int (x1 + 1)), (0, .ref 14)] rfl rfl rfl (by decide) dX2_isAtRest_107 ?_
      refine WW.goto (pc := 110) 2 dX2_isAtRest_110 (by decide) ?_
      refine WW.sub [1, 0] rfl ?_
      exact hself2 (x1 + 1)
    · refine WW.if_eqB (pc := 19) 107 dX2_isAtRest_19 (by decide) (fun _ => ?_) (fun _ => ?_)
      · refine WW.aload_n (pc := 22) (j := 0) rfl dX2_isAtRest_22 ?_
        refine WW.sgr (pc := 23) fl_X2_12_2 h3_14 (sh_14 ρ) (Or.inl ⟨_, gt_2_0⟩) (hr_14_0 ρ) dX2_isAtRest_23 ?_
        refine WW.iload_n (pc := 26) (j := 1) rfl dX2_isAtRest_26 ?_
        refine WW.callV (pc := 27) (As := [.int x1]) (st := []) lk_X2_84 (okX1_limitOf g ρ hρ d x1) h3_15 (sh_15 ρ) ⟨_, _, clk1⟩ rfl (Nat.le_of_ble_eq_true rfl) ⟨Nat.le_of_ble_eq_true rfl, Nat.le_of_ble_eq_true rfl, Nat.le_of_ble_eq_true rfl, Nat.le_of_ble_eq_true rfl⟩ dX2_isAtRest_27 rfl (fun r6 hr6 => ?_)
        show WW _ _ _ 30 _ [.int r6] (full d ρ) 0 0 _
        refine WW.istore_n (pc := 30) [(2, .int r6), (0, .ref 14), (1, .int x1)] rfl (by decide) dX2_isAtRest_30 ?_
        refine WW.aload_n (pc := 31) (j := 1) rfl dX2_isAtRest_31 ?_
        refine WW.iload_n (pc := 32) (j := 2) rfl dX2_isAtRest_32 ?_
        refine WW.iconst (pc := 33) 0 dX2_isAtRest_33 rfl ?_
        refine WW.callV (pc := 34) (As := [.int x1, .int 0]) (st := []) lk_X2_72 (okX2_gain g ρ hρ d x1 0) h3_14 (sh_14 ρ) ⟨_, _, clk2⟩ rfl (Nat.le_of_ble_eq_true rfl) ⟨Nat.le_of_ble_eq_true rfl, Nat.le_of_ble_eq_true rfl, Nat.le_of_ble_eq_true rfl, Nat.le_of_ble_eq_true rfl⟩ dX2_isAtRest_34 rfl (fun r7 hr7 => ?_)
        show WW _ _ _ 37 _ [.long r7] (full d ρ) 0 0 _
        refine WW.lstore_n (pc := 37) [(3, .long r7), (2, .int r6), (0, .ref 14), (1, .int x1)] rfl (by decide) dX2_isAtRest_37 ?_
        refine WW.aload_n (pc := 38) (j := 2) rfl dX2_isAtRest_38 ?_
        refine WW.sgr (pc := 39) fl_X2_18_2 h3_14 (sh_14 ρ) (Or.inr ⟨_, gt_2_1⟩) (hr_14_1 ρ) dX2_isAtRest_39 ?_
        refine WW.iload_n (pc := 42) (j := 3) rfl dX2_isAtRest_42 ?_
        refine WW.siald (pc := 43) (one_le h3_18) (sh_18 ρ) dX2_isAtRest_43 ?_
        refine WW.iload_n (pc := 44) (j := 1) rfl dX2_isAtRest_44 ?_
        refine WW.join (pj := 64) (Lj := fun (x8 : Bool) => [(0, .ref 14), (1, .int x1), (2, .int r6), (3, .long r7)]) (sj := fun (x8 : Bool) => [.int (b2i x8)]) (hj := fun (x8 : Bool) => full d ρ) (fun x8 => ?_) (fun k9 hk9 => ?_)
        · refine WW.istore (pc := 64) [(5, .int (b2i x8)), (0, .ref 14), (1, .int x1), (2, .int r6), (3, .long r7)] rfl (by decide) dX2_isAtRest_64 ?_
          refine WW.aload_n (pc := 66) (j := 1) rfl dX2_isAtRest_66 ?_
          refine WW.sgr (pc := 67) fl_X2_18_2 h3_14 (sh_14 ρ) (Or.inr ⟨_, gt_2_1⟩) (hr_14_1 ρ) dX2_isAtRest_67 ?_
          refine WW.iload_n (pc := 70) (j := 2) rfl dX2_isAtRest_70 ?_
          refine WW.siald (pc := 71) (one_le h3_18) (sh_18 ρ) dX2_isAtRest_71 ?_
          refine WW.iload_n (pc := 72) (j := 3) rfl dX2_isAtRest_72 ?_
          refine WW.ineg (pc := 73) dX2_isAtRest_73 ?_
          refine WW.join (pj := 93) (Lj := fun (x10 : Bool) => [(0, .ref 14), (1, .int x1), (5, .int (b2i x8))]) (sj := fun (x10 : Bool) => [.int (b2i x10)]) (hj := fun (x10 : Bool) => full d ρ) (fun x10 => ?_) (fun k11 hk11 => ?_)
          · refine WW.istore (pc := 93) [(6, .int (b2i x10)), (0, .ref 14), (1, .int x1), (5, .int (b2i x8))] rfl (by decide) dX2_isAtRest_93 ?_
            refine WW.iload (pc := 95) (j := 3) rfl dX2_isAtRest_95 ?_
            refine WW.if_neB (pc := 97) 105 dX2_isAtRest_97 (by decide) (fun _ => ?_) (fun _ => ?_)
            · refine WW.iconst (pc := 105) 0 dX2_isAtRest_105 rfl ?_
              exact WW.ret rfl rfl (show RetI M_X2_isAtRest 106 from dX2_isAtRest_106) ⟨Nat.le_refl _, Nat.le_refl _⟩ rfl
            · refine WW.iload (pc := 100) (j := 0) rfl dX2_isAtRest_100 ?_
              refine WW.if_eqB (pc := 102) 107 dX2_isAtRest_102 (by decide) (fun _ => ?_) (fun _ => ?_)
              · refine WW.iconst (pc := 105) 0 dX2_isAtRest_105 rfl ?_
                exact WW.ret rfl rfl (show RetI M_X2_isAtRest 106 from dX2_isAtRest_106) ⟨Nat.le_refl _, Nat.le_refl _⟩ rfl
              · refine WW.sub [1, 2] rfl ?_
                exact hk5 ()
          · refine WW.join (pj := 92) (Lj := fun (x12 : Unit) => [(0, .ref 14), (1, .int x1), (5, .int (b2i x8))]) (sj := fun (x12 : Unit) => []) (hj := fun (x12 : Unit) => full d ρ) (fun x12 => ?_) (fun k13 hk13 => ?_)
            · refine WW.iconst (pc := 92) 0 dX2_isAtRest_92 rfl ?_
              exact hk11 false
            · refine WW.icmp_le (pc := 74) 92 dX2_isAtRest_74 (by decide) (fun _ => ?_) (fun _ => ?_)
              · refine WW.sub [1, 2, 0] rfl ?_
                exact hk13 ()
              · refine WW.aload_n (pc := 77) (j := 1) rfl dX2_isAtRest_77 ?_
                refine WW.iload_n (pc := 78) (j := 2) rfl dX2_isAtRest_78 ?_
                refine WW.iconst (pc := 79) (-1) dX2_isAtRest_79 rfl ?_
                refine WW.callV (pc := 80) (As := [.int x1, .int (-1)]) (st := []) lk_X2_72 (okX2_gain g ρ hρ d x1 (-1)) h3_14 (sh_14 ρ) ⟨_, _, clk2⟩ rfl (Nat.le_of_ble_eq_true rfl) ⟨Nat.le_of_ble_eq_true rfl, Nat.le_of_ble_eq_true rfl, Nat.le_of_ble_eq_true rfl, Nat.le_of_ble_eq_true rfl⟩ dX2_isAtRest_80 rfl (fun r14 hr14 => ?_)
                show WW _ _ _ 83 _ [.long r14] (full d ρ) 0 0 _
                refine WW.lload_n (pc := 83) (j := 4) rfl dX2_isAtRest_83 ?_
                refine WW.lcmp_le (pc := 84) 92 dX2_isAtRest_84 dX2_isAtRest_85 (by decide) (fun _ => ?_) (fun _ => ?_)
                · refine WW.sub [1, 2, 0] rfl ?_
                  exact hk13 ()
                · refine WW.iconst (pc := 88) 1 dX2_isAtRest_88 rfl ?_
                  refine WW.goto (pc := 89) 93 dX2_isAtRest_89 (by decide) ?_
                  refine WW.sub [1, 2, 0] rfl ?_
                  exact hk11 true
        · refine WW.join (pj := 63) (Lj := fun (x15 : Unit) => [(0, .ref 14), (1, .int x1), (2, .int r6), (3, .long r7)]) (sj := fun (x15 : Unit) => []) (hj := fun (x15 : Unit) => full d ρ) (fun x15 => ?_) (fun k16 hk16 => ?_)
          · refine WW.iconst (pc := 63) 0 dX2_isAtRest_63 rfl ?_
            exact hk9 false
          · refine WW.icmp_ge (pc := 45) 63 dX2_isAtRest_45 (by decide) (fun _ => ?_) (fun _ => ?_)
            · refine WW.sub [2, 3, 1, 0] rfl ?_
              exact hk16 ()
            · refine WW.aload_n (pc := 48) (j := 2) rfl dX2_isAtRest_48 ?_
              refine WW.iload_n (pc := 49) (j := 3) rfl dX2_isAtRest_49 ?_
              refine WW.iconst (pc := 50) 1 dX2_isAtRest_50 rfl ?_
              refine WW.callV (pc := 51) (As := [.int x1, .int 1]) (st := []) lk_X2_72 (okX2_gain g ρ hρ d x1 1) h3_14 (sh_14 ρ) ⟨_, _, clk2⟩ rfl (Nat.le_of_ble_eq_true rfl) ⟨Nat.le_of_ble_eq_true rfl, Nat.le_of_ble_eq_true rfl, Nat.le_of_ble_eq_true rfl, Nat.le_of_ble_eq_true rfl⟩ dX2_isAtRest_51 rfl (fun r17 hr17 => ?_)
              show WW _ _ _ 54 _ [.long r17] (full d ρ) 0 0 _
              refine WW.lload_n (pc := 54) (j := 0) rfl dX2_isAtRest_54 ?_
              refine WW.lcmp_le (pc := 55) 63 dX2_isAtRest_55 dX2_isAtRest_56 (by decide) (fun _ => ?_) (fun _ => ?_)
              · refine WW.sub [2, 3, 1, 0] rfl ?_
                exact hk16 ()
              · refine WW.iconst (pc := 59) 1 dX2_isAtRest_59 rfl ?_
                refine WW.goto (pc := 60) 64 dX2_isAtRest_60 (by decide) ?_
                refine WW.sub [2, 3, 1, 0] rfl ?_
                exact hk9 true
      · exact hk5 ()
def fX2_number (ρ : Rh) (d : Dd) : Option Int32 :=
  lp (fun self2 (x1 : Int32 × Int32) =>
    if 4 ≤ x1.2 then
      (some x1.1)
    else
      (if (d_i d 15 2) ≤ x1.2 then
        (some x1.1)
      else
        (if 4 ≤ x1.2 then
          (some x1.1)
        else
          (if inB x1.2 4 = true then
            (if inB x1.2 4 = true then
              (bnd ((x1.1 + (((d_i d 18 (ix x1.2)) + 3) * (d_i d 1 (ix x1.2)))) : Int32) fun v3 =>
              self2 (v3, (x1.2 + 1)))
            else none)
          else none)))
    ) 6000 (0, 0)
set_option maxHeartbeats 4000000 in
set_option maxRecDepth 100000 in
theorem okX2_number (g : Gx) (ρ : Rh) (hρ : Hr ρ) (d : Dd)  : CallR g M_X2_number (eIp ρ d) [.ref 14] (full d ρ) (fX2_number ρ d) := by
  refine CallR.intro rfl rfl (Nat.le_of_ble_eq_true rfl) (fun a ha => ⟨_, rfl⟩) ?_
  show WW g _ _ 0 [(0, .ref 14)] [] (full d ρ) 0 0 _
  unfold fX2_number
  refine WW.iconst (pc := 0) 0 dX2_number_0 rfl ?_
  refine WW.istore_n (pc := 1) [(1, .int 0), (0, .ref 14)] rfl (by decide) dX2_number_1 ?_
  refine WW.iconst (pc := 2) 0 dX2_number_2 rfl ?_
  refine WW.istore_n (pc := 3) [(2, .int 0), (1, .int 0), (0, .ref 14)] rfl (by decide) dX2_number_3 ?_
  refine WW.sub [2, 1, 0] rfl ?_
  refine WW.loop (pc := 4) (Lj := fun (x1 : Int32 × Int32) => [(0, .ref 14), (1, .int x1.1), (2, .int x1.2)]) (hj := fun (x1 : Int32 × Int32) => full d ρ) (fun self2 hself2 x1 => ?_) 6000 (0, 0)
  refine WW.iload_n (pc := 4) (j := 2) rfl dX2_number_4 ?_
  refine WW.aload_n (pc := 5) (j := 0) rfl dX2_number_5 ?_
  refine WW.sgr (pc := 6) fl_X2_18_2 h3_14 (sh_14 ρ) (Or.inr ⟨_, gt_2_1⟩) (hr_14_1 ρ) dX2_number_6 ?_
  refine WW.alen (pc := 9) 4 (one_le h3_18) (Or.inl rfl) (sh_18 ρ) rfl dX2_number_9 ?_
  refine WW.icmp_ge (pc := 10) 55 dX2_number_10 (by decide) (fun _ => ?_) (fun _ => ?_)
  · refine WW.iload_n (pc := 55) (j := 1) rfl dX2_number_55 ?_
    exact WW.ret rfl rfl (show RetI M_X2_number 56 from dX2_number_56) ⟨Nat.le_refl _, Nat.le_refl _⟩ rfl
  · refine WW.iload_n (pc := 13) (j := 2) rfl dX2_number_13 ?_
    refine WW.aload_n (pc := 14) (j := 0) rfl dX2_number_14 ?_
    refine WW.sgr (pc := 15) fl_X2_12_2 h3_14 (sh_14 ρ) (Or.inl ⟨_, gt_2_0⟩) (hr_14_0 ρ) dX2_number_15 ?_
    refine WW.sgi (pc := 18) fl_X2_61_1 h3_15 (sh_15 ρ) (Or.inl gt_1_2) dX2_number_18 ?_
    refine WW.icmp_ge (pc := 21) 55 dX2_number_21 (by decide) (fun _ => ?_) (fun _ => ?_)
    · refine WW.iload_n (pc := 55) (j := 1) rfl dX2_number_55 ?_
      exact WW.ret rfl rfl (show RetI M_X2_number 56 from dX2_number_56) ⟨Nat.le_refl _, Nat.le_refl _⟩ rfl
    · refine WW.iload_n (pc := 24) (j := 2) rfl dX2_number_24 ?_
      refine WW.gets (pc := 25) (Or.inr ⟨"SoldNews", (List.mem_of_getElem? (i := 28) rfl)⟩) dX2_number_25 ?_
      refine WW.alen (pc := 28) 4 (Nat.le_of_ble_eq_true rfl) (Or.inl rfl) (sh_1 ρ) rfl dX2_number_28 ?_
      refine WW.icmp_ge (pc := 29) 55 dX2_number_29 (by decide) (fun _ => ?_) (fun _ => ?_)
      · refine WW.iload_n (pc := 55) (j := 1) rfl dX2_number_55 ?_
        exact WW.ret rfl rfl (show RetI M_X2_number 56 from dX2_number_56) ⟨Nat.le_refl _, Nat.le_refl _⟩ rfl
      · refine WW.iload_n (pc := 32) (j := 1) rfl dX2_number_32 ?_
        refine WW.aload_n (pc := 33) (j := 0) rfl dX2_number_33 ?_
        refine WW.sgr (pc := 34) fl_X2_18_2 h3_14 (sh_14 ρ) (Or.inr ⟨_, gt_2_1⟩) (hr_14_1 ρ) dX2_number_34 ?_
        refine WW.iload_n (pc := 37) (j := 2) rfl dX2_number_37 ?_
        refine WW.siald (pc := 38) (one_le h3_18) (sh_18 ρ) dX2_number_38 ?_
        refine WW.iconst (pc := 39) 3 dX2_number_39 rfl ?_
        refine WW.iadd (pc := 40) dX2_number_40 ?_
        refine WW.gets (pc := 41) (Or.inr ⟨"SoldNews", (List.mem_of_getElem? (i := 28) rfl)⟩) dX2_number_41 ?_
        refine WW.iload_n (pc := 44) (j := 2) rfl dX2_number_44 ?_
        refine WW.siald (pc := 45) (Nat.le_of_ble_eq_true rfl) (sh_1 ρ) dX2_number_45 ?_
        refine WW.imul (pc := 46) dX2_number_46 ?_
        refine WW.iadd (pc := 47) dX2_number_47 ?_
        refine WW.nmi (fun v3 => ?_)
        refine WW.istore_n (pc := 48) [(1, .int v3), (0, .ref 14), (2, .int x1.2)] rfl (by decide) dX2_number_48 ?_
        refine WW.iinc (pc := 49) (j := 2) (x1.2 + 1) [(2, .int (x1.2 + 1)), (1, .int v3), (0, .ref 14)] rfl rfl rfl (by decide) dX2_number_49 ?_
        refine WW.goto (pc := 52) 4 dX2_number_52 (by decide) ?_
        refine WW.sub [2, 1, 0] rfl ?_
        exact hself2 (v3, (x1.2 + 1))
def fX2_madeTogether (ρ : Rh) (d : Dd) : Option Int64 :=
  lp (fun self2 (x1 : Int64 × Int32) =>
    if 4 ≤ x1.2 then
      (some x1.1)
    else
      ((fX2_gain ρ d x1.2 0).bind fun r3 =>
      bnd ((x1.1 + r3) : Int64) fun v4 =>
      self2 (v4, (x1.2 + 1)))
    ) 6000 (0, 0)
set_option maxHeartbeats 4000000 in
set_option maxRecDepth 100000 in
theorem okX2_madeTogether (g : Gx) (ρ : Rh) (hρ : Hr ρ) (d : Dd)  : CallR g M_X2_madeTogether (eLp ρ d) [.ref 14] (full d ρ) (fX2_madeTogether ρ d) := by
  refine CallR.intro rfl rfl (Nat.le_of_ble_eq_true rfl) (fun a ha => ⟨_, rfl⟩) ?_
  show WW g _ _ 0 [(0, .ref 14)] [] (full d ρ) 0 0 _
  unfold fX2_madeTogether
  refine WW.lconst (pc := 0) 0 dX2_madeTogether_0 rfl ?_
  refine WW.lstore_n (pc := 1) [(1, .long 0), (0, .ref 14)] rfl (by decide) dX2_madeTogether_1 ?_
  refine WW.iconst (pc := 2) 0 dX2_madeTogether_2 rfl ?_
  refine WW.istore_n (pc := 3) [(3, .int 0), (1, .long 0), (0, .ref 14)] rfl (by decide) dX2_madeTogether_3 ?_
  refine WW.sub [2, 1, 0] rfl ?_
  refine WW.loop (pc := 4) (Lj := fun (x1 : Int64 × Int32) => [(0, .ref 14), (1, .long x1.1), (3, .int x1.2)]) (hj := fun (x1 : Int64 × Int32) => full d ρ) (fun self2 hself2 x1 => ?_) 6000 (0, 0)
  refine WW.iload_n (pc := 4) (j := 2) rfl dX2_madeTogether_4 ?_
  refine WW.aload_n (pc := 5) (j := 0) rfl dX2_madeTogether_5 ?_
  refine WW.sgr (pc := 6) fl_X2_18_2 h3_14 (sh_14 ρ) (Or.inr ⟨_, gt_2_1⟩) (hr_14_1 ρ) dX2_madeTogether_6 ?_
  refine WW.alen (pc := 9) 4 (one_le h3_18) (Or.inl rfl) (sh_18 ρ) rfl dX2_madeTogether_9 ?_
  refine WW.icmp_ge (pc := 10) 28 dX2_madeTogether_10 (by decide) (fun _ => ?_) (fun _ => ?_)
  · refine WW.lload_n (pc := 28) (j := 1) rfl dX2_madeTogether_28 ?_
    exact WW.ret rfl rfl (show RetI M_X2_madeTogether 29 from dX2_madeTogether_29) ⟨Nat.le_refl _, Nat.le_refl _⟩ rfl
  · refine WW.lload_n (pc := 13) (j := 1) rfl dX2_madeTogether_13 ?_
    refine WW.aload_n (pc := 14) (j := 0) rfl dX2_madeTogether_14 ?_
    refine WW.iload_n (pc := 15) (j := 2) rfl dX2_madeTogether_15 ?_
    refine WW.iconst (pc := 16) 0 dX2_madeTogether_16 rfl ?_
    refine WW.callV (pc := 17) (As := [.int x1.2, .int 0]) (st := [.long x1.1]) lk_X2_72 (okX2_gain g ρ hρ d x1.2 0) h3_14 (sh_14 ρ) ⟨_, _, clk2⟩ rfl (Nat.le_of_ble_eq_true rfl) ⟨Nat.le_of_ble_eq_true rfl, Nat.le_of_ble_eq_true rfl, Nat.le_of_ble_eq_true rfl, Nat.le_of_ble_eq_true rfl⟩ dX2_madeTogether_17 rfl (fun r3 hr3 => ?_)
    show WW _ _ _ 20 _ [.long r3, .long x1.1] (full d ρ) 0 0 _
    refine WW.ladd (pc := 20) dX2_madeTogether_20 ?_
    refine WW.nml (fun v4 => ?_)
    refine WW.lstore_n (pc := 21) [(1, .long v4), (0, .ref 14), (3, .int x1.2)] rfl (by decide) dX2_madeTogether_21 ?_
    refine WW.iinc (pc := 22) (j := 2) (x1.2 + 1) [(3, .int (x1.2 + 1)), (1, .long v4), (0, .ref 14)] rfl rfl rfl (by decide) dX2_madeTogether_22 ?_
    refine WW.goto (pc := 25) 4 dX2_madeTogether_25 (by decide) ?_
    refine WW.sub [2, 1, 0] rfl ?_
    exact hself2 (v4, (x1.2 + 1))
def fX2_goOn (ρ : Rh) (d : Dd) : Option (Bool × Dd) :=
  lp (fun self2 (x1 : Int32 × Dd) =>
    if 4 ≤ x1.1 then
      (some (false, x1.2))
    else
      ((fX1_limitOf ρ x1.2 x1.1).bind fun r3 =>
      (fX11_isIn (d_i x1.2 14 3) x1.1).bind fun r4 =>
      jn (fun (x5 : Unit) =>
        (fX11_isIn (d_i x1.2 14 3) x1.1).bind fun r7 =>
        jn (fun (x8 : Dd) =>
          self2 ((x1.1 + 1), x8)
          ) fun k9 =>
        if r7 = true then
          (if inB x1.1 4 = true then
            (bnd (dI x1.2 18 (ix x1.1) (-r3)) fun d10 =>
            bnd (dI d10 14 2 ((d_i d10 14 2) - (2 * r3))) fun d11 =>
            k9 d11)
          else none)
        else
          (k9 x1.2)
        ) fun k6 =>
      if r4 = true then
        (if inB x1.1 4 = true then
          (if r3 ≤ (d_i x1.2 18 (ix x1.1)) then
            (k6 ())
          else
            (if inB x1.1 4 = true then
              (if inB x1.1 4 = true then
                (bnd (dI x1.2 18 (ix x1.1) ((d_i x1.2 18 (ix x1.1)) + 1)) fun d12 =>
                bnd (dI d12 14 2 ((d_i d12 14 2) + 1)) fun d13 =>
                some (true, d13))
              else none)
            else none))
        else none)
      else
        (k6 ()))
    ) 6000 (0, d)
set_option maxHeartbeats 4000000 in
set_option maxRecDepth 100000 in
theorem okX2_goOn (g : Gx) (ρ : Rh) (hρ : Hr ρ) (d : Dd)  : CallR g M_X2_goOn (eZ ρ) [.ref 14] (full d ρ) (fX2_goOn ρ d) := by
  refine CallR.intro rfl rfl (Nat.le_of_ble_eq_true rfl) (fun a ha => ⟨_, rfl⟩) ?_
  show WW g _ _ 0 [(0, .ref 14)] [] (full d ρ) 0 0 _
  unfold fX2_goOn
  refine WW.iconst (pc := 0) 0 dX2_goOn_0 rfl ?_
  refine WW.istore_n (pc := 1) [(1, .int 0), (0, .ref 14)] rfl (by decide) dX2_goOn_1 ?_
  refine WW.sub [1, 0] rfl ?_
  refine WW.loop (pc := 2) (Lj := fun (x1 : Int32 × Dd) => [(0, .ref 14), (1, .int x1.1)]) (hj := fun (x1 : Int32 × Dd) => full x1.2 ρ) (fun self2 hself2 x1 => ?_) 6000 (0, d)
  refine WW.iload_n (pc := 2) (j := 1) rfl dX2_goOn_2 ?_
  refine WW.aload_n (pc := 3) (j := 0) rfl dX2_goOn_3 ?_
  refine WW.sgr (pc := 4) fl_X2_18_2 h3_14 (sh_14 ρ) (Or.inr ⟨_, gt_2_1⟩) (hr_14_1 ρ) dX2_goOn_4 ?_
  refine WW.alen (pc := 7) 4 (one_le h3_18) (Or.inl rfl) (sh_18 ρ) rfl dX2_goOn_7 ?_
  refine WW.icmp_ge (pc := 8) 100 dX2_goOn_8 (by decide) (fun _ => ?_) (fun _ => ?_)
  · refine WW.iconst (pc := 100) 0 dX2_goOn_100 rfl ?_
    exact WW.ret rfl rfl (show RetI M_X2_goOn 101 from dX2_goOn_101) ⟨Nat.le_refl _, Nat.le_refl _⟩ rfl
  · refine WW.aload_n (pc := 11) (j := 0) rfl dX2_goOn_11 ?_
    refine WW.sgr (pc := 12) fl_X2_12_2 h3_14 (sh_14 ρ) (Or.inl ⟨_, gt_2_0⟩) (hr_14_0 ρ) dX2_goOn_12 ?_
    refine WW.iload_n (pc := 15) (j := 1) rfl dX2_goOn_15 ?_
    refine WW.callV (pc := 16) (As := [.int x1.1]) (st := []) lk_X2_84 (okX1_limitOf g ρ hρ x1.2 x1.1) h3_15 (sh_15 ρ) ⟨_, _, clk1⟩ rfl (Nat.le_of_ble_eq_true rfl) ⟨Nat.le_of_ble_eq_true rfl, Nat.le_of_ble_eq_true rfl, Nat.le_of_ble_eq_true rfl, Nat.le_of_ble_eq_true rfl⟩ dX2_goOn_16 rfl (fun r3 hr3 => ?_)
    show WW _ _ _ 19 _ [.int r3] (full x1.2 ρ) 0 0 _
    refine WW.istore_n (pc := 19) [(2, .int r3), (0, .ref 14), (1, .int x1.1)] rfl (by decide) dX2_goOn_19 ?_
    refine WW.aload_n (pc := 20) (j := 1) rfl dX2_goOn_20 ?_
    refine WW.sgi (pc := 21) fl_X2_37_2 h3_14 (sh_14 ρ) (Or.inl gt_2_3) dX2_goOn_21 ?_
    refine WW.iload_n (pc := 24) (j := 2) rfl dX2_goOn_24 ?_
    refine WW.callN (pc := 25) (As := [.int (d_i x1.2 14 3), .int x1.1]) (st := []) lk_X2_80 (okX11_isIn g ρ hρ x1.2 (d_i x1.2 14 3) x1.1) rfl (Nat.le_of_ble_eq_true rfl) ⟨Nat.le_of_ble_eq_true rfl, Nat.le_of_ble_eq_true rfl, Nat.le_of_ble_eq_true rfl, Nat.le_of_ble_eq_true rfl⟩ dX2_goOn_25 rfl (fun r4 hr4 => ?_)
    show WW _ _ _ 28 _ [.int (b2i r4)] (full x1.2 ρ) 0 0 _
    refine WW.join (pj := 63) (Lj := fun (x5 : Unit) => [(0, .ref 14), (1, .int x1.1), (2, .int r3)]) (sj := fun (x5 : Unit) => []) (hj := fun (x5 : Unit) => full x1.2 ρ) (fun x5 => ?_) (fun k6 hk6 => ?_)
    · refine WW.aload_n (pc := 63) (j := 0) rfl dX2_goOn_63 ?_
      refine WW.sgi (pc := 64) fl_X2_37_2 h3_14 (sh_14 ρ) (Or.inl gt_2_3) dX2_goOn_64 ?_
      refine WW.iload_n (pc := 67) (j := 1) rfl dX2_goOn_67 ?_
      refine WW.callN (pc := 68) (As := [.int (d_i x1.2 14 3), .int x1.1]) (st := []) lk_X2_80 (okX11_isIn g ρ hρ x1.2 (d_i x1.2 14 3) x1.1) rfl (Nat.le_of_ble_eq_true rfl) ⟨Nat.le_of_ble_eq_true rfl, Nat.le_of_ble_eq_true rfl, Nat.le_of_ble_eq_true rfl, Nat.le_of_ble_eq_true rfl⟩ dX2_goOn_68 rfl (fun r7 hr7 => ?_)
      show WW _ _ _ 71 _ [.int (b2i r7)] (full x1.2 ρ) 0 0 _
      refine WW.join (pj := 94) (Lj := fun (x8 : Dd) => [(0, .ref 14), (1, .int x1.1)]) (sj := fun (x8 : Dd) => []) (hj := fun (x8 : Dd) => full x8 ρ) (fun x8 => ?_) (fun k9 hk9 => ?_)
      · refine WW.iinc (pc := 94) (j := 1) (x1.1 + 1) [(1, .int (x1.1 + 1)), (0, .ref 14)] rfl rfl rfl (by decide) dX2_goOn_94 ?_
        refine WW.goto (pc := 97) 2 dX2_goOn_97 (by decide) ?_
        refine WW.sub [1, 0] rfl ?_
        exact hself2 ((x1.1 + 1), x8)
      · refine WW.if_eqB (pc := 71) 94 dX2_goOn_71 (by decide) (fun _ => ?_) (fun _ => ?_)
        · refine WW.aload_n (pc := 74) (j := 0) rfl dX2_goOn_74 ?_
          refine WW.sgr (pc := 75) fl_X2_18_2 h3_14 (sh_14 ρ) (Or.inr ⟨_, gt_2_1⟩) (hr_14_1 ρ) dX2_goOn_75 ?_
          refine WW.iload_n (pc := 78) (j := 1) rfl dX2_goOn_78 ?_
          refine WW.iload_n (pc := 79) (j := 2) rfl dX2_goOn_79 ?_
          refine WW.ineg (pc := 80) dX2_goOn_80 ?_
          refine WW.siast (pc := 81) h3_18 (sh_18 ρ) dX2_goOn_81 (fun d10 => ?_)
          refine WW.aload_n (pc := 82) (j := 0) rfl dX2_goOn_82 ?_
          refine WW.dup (pc := 83) rfl dX2_goOn_83 ?_
          refine WW.sgi (pc := 84) fl_X2_58_2 h3_14 (sh_14 ρ) (Or.inl gt_2_2) dX2_goOn_84 ?_
          refine WW.iconst (pc := 87) 2 dX2_goOn_87 rfl ?_
          refine WW.iload_n (pc := 88) (j := 2) rfl dX2_goOn_88 ?_
          refine WW.imul (pc := 89) dX2_goOn_89 ?_
          refine WW.isub (pc := 90) dX2_goOn_90 ?_
          refine WW.spi (pc := 91) fp_X2_58_2 h3_14 (sh_14 ρ) gt_2_2 dX2_goOn_91 (fun d11 => ?_)
          refine WW.sub [0, 1] rfl ?_
          exact hk9 d11
        · refine WW.sub [0, 1] rfl ?_
          exact hk9 x1.2
    · refine WW.if_eqB (pc := 28) 63 dX2_goOn_28 (by decide) (fun _ => ?_) (fun _ => ?_)
      · refine WW.aload_n (pc := 31) (j := 1) rfl dX2_goOn_31 ?_
        refine WW.sgr (pc := 32) fl_X2_18_2 h3_14 (sh_14 ρ) (Or.inr ⟨_, gt_2_1⟩) (hr_14_1 ρ) dX2_goOn_32 ?_
        refine WW.iload_n (pc := 35) (j := 2) rfl dX2_goOn_35 ?_
        refine WW.siald (pc := 36) (one_le h3_18) (sh_18 ρ) dX2_goOn_36 ?_
        refine WW.iload_n (pc := 37) (j := 0) rfl dX2_goOn_37 ?_
        refine WW.icmp_ge (pc := 38) 63 dX2_goOn_38 (by decide) (fun _ => ?_) (fun _ => ?_)
        · refine WW.sub [1, 2, 0] rfl ?_
          exact hk6 ()
        · refine WW.aload_n (pc := 41) (j := 1) rfl dX2_goOn_41 ?_
          refine WW.sgr (pc := 42) fl_X2_18_2 h3_14 (sh_14 ρ) (Or.inr ⟨_, gt_2_1⟩) (hr_14_1 ρ) dX2_goOn_42 ?_
          refine WW.iload_n (pc := 45) (j := 2) rfl dX2_goOn_45 ?_
          refine WW.dup2 (pc := 46) rfl rfl dX2_goOn_46 ?_
          refine WW.siald (pc := 47) (one_le h3_18) (sh_18 ρ) dX2_goOn_47 ?_
          refine WW.iconst (pc := 48) 1 dX2_goOn_48 rfl ?_
          refine WW.iadd (pc := 49) dX2_goOn_49 ?_
          refine WW.siast (pc := 50) h3_18 (sh_18 ρ) dX2_goOn_50 (fun d12 => ?_)
          refine WW.aload_n (pc := 51) (j := 1) rfl dX2_goOn_51 ?_
          refine WW.dup (pc := 52) rfl dX2_goOn_52 ?_
          refine WW.sgi (pc := 53) fl_X2_58_2 h3_14 (sh_14 ρ) (Or.inl gt_2_2) dX2_goOn_53 ?_
          refine WW.iconst (pc := 56) 1 dX2_goOn_56 rfl ?_
          refine WW.iadd (pc := 57) dX2_goOn_57 ?_
          refine WW.spi (pc := 58) fp_X2_58_2 h3_14 (sh_14 ρ) gt_2_2 dX2_goOn_58 (fun d13 => ?_)
          refine WW.iconst (pc := 61) 1 dX2_goOn_61 rfl ?_
          exact WW.ret rfl rfl (show RetI M_X2_goOn 62 from dX2_goOn_62) ⟨Nat.le_refl _, Nat.le_refl _⟩ rfl
      · refine WW.sub [1, 2, 0] rfl ?_
        exact hk6 ()
def fX2_look (ρ : Rh) (d : Dd) (a1 : Int32) : Option (Int32 × Dd) :=
  (fX2_sellMost ρ d).bind fun r1 =>
  jn (fun (x2 : Int32 × Int32 × Dd) =>
    if a1 = 0 then
      (some (x2.1, x2.2.2))
    else
      (if a1 = 1 then
        (some (x2.2.1, x2.2.2))
      else
        (some ((-1), x2.2.2)))
    ) fun k3 =>
  lp (fun self5 (x4 : Int32 × Int32 × Int64 × Int32 × Dd) =>
    if 2401 ≤ x4.2.2.2.1 then
      (k3 (x4.1, x4.2.1, x4.2.2.2.2))
    else
      ((fX2_isAtRest ρ x4.2.2.2.2).bind fun r6 =>
      jn (fun (x7 : Int32 × Int32 × Int64) =>
        (fX2_goOn ρ x4.2.2.2.2).bind fun r9 =>
        if r9.1 = true then
          (self5 (x7.1, x7.2.1, x7.2.2, (x4.2.2.2.1 + 1), r9.2))
        else
          (k3 (x7.1, x7.2.1, r9.2))
        ) fun k8 =>
      if r6 = true then
        (if (a1 - 10) = x4.1 then
          ((fX2_number ρ x4.2.2.2.2).bind fun r10 =>
          some (r10, x4.2.2.2.2))
        else
          ((fX2_madeTogether ρ x4.2.2.2.2).bind fun r11 =>
          jn (fun (x12 : Unit) =>
            (fX2_number ρ x4.2.2.2.2).bind fun r14 =>
            k8 ((x4.1 + 1), r14, r11)
            ) fun k13 =>
          if x4.2.1 = (-1) then
            (k13 ())
          else
            (if r11 ≤ x4.2.2.1 then
              (k8 ((x4.1 + 1), x4.2.1, x4.2.2.1))
            else
              (k13 ()))))
      else
        (k8 (x4.1, x4.2.1, x4.2.2.1)))
    ) 6000 (0, (-1), 0, 0, r1)
set_option maxHeartbeats 4000000 in
set_option maxRecDepth 100000 in
theorem okX2_look (g : Gx) (ρ : Rh) (hρ : Hr ρ) (d : Dd) (a1 : Int32) : CallR g M_X2_look (eI ρ) [.ref 14, .int a1] (full d ρ) (fX2_look ρ d a1) := by
  refine CallR.intro rfl rfl (Nat.le_of_ble_eq_true rfl) (fun a ha => ⟨_, rfl⟩) ?_
  show WW g _ _ 0 [(0, .ref 14), (1, .int a1)] [] (full d ρ) 0 0 _
  unfold fX2_look
  refine WW.iconst (pc := 0) 0 dX2_look_0 rfl ?_
  refine WW.istore_n (pc := 1) [(2, .int 0), (0, .ref 14), (1, .int a1)] rfl (by decide) dX2_look_1 ?_
  refine WW.iconst (pc := 2) (-1) dX2_look_2 rfl ?_
  refine WW.istore_n (pc := 3) [(3, .int (-1)), (2, .int 0), (0, .ref 14), (1, .int a1)] rfl (by decide) dX2_look_3 ?_
  refine WW.lconst (pc := 4) 0 dX2_look_4 rfl ?_
  refine WW.lstore (pc := 5) [(4, .long 0), (3, .int (-1)), (2, .int 0), (0, .ref 14), (1, .int a1)] rfl (by decide) dX2_look_5 ?_
  refine WW.aload_n (pc := 7) (j := 3) rfl dX2_look_7 ?_
  refine WW.callV (pc := 8) (As := []) (st := []) lk_X2_40 (okX2_sellMost g ρ hρ d ) h3_14 (sh_14 ρ) ⟨_, _, clk2⟩ rfl (Nat.le_of_ble_eq_true rfl) ⟨Nat.le_of_ble_eq_true rfl, Nat.le_of_ble_eq_true rfl, Nat.le_of_ble_eq_true rfl, Nat.le_of_ble_eq_true rfl⟩ dX2_look_8 rfl (fun r1 hr1 => ?_)
  show WW _ _ _ 11 _ [] (full r1 ρ) 0 0 _
  refine WW.iconst (pc := 11) 0 dX2_look_11 rfl ?_
  refine WW.istore (pc := 12) [(6, .int 0), (4, .long 0), (3, .int (-1)), (2, .int 0), (0, .ref 14), (1, .int a1)] rfl (by decide) dX2_look_12 ?_
  refine WW.join (pj := 89) (Lj := fun (x2 : Int32 × Int32 × Dd) => [(1, .int a1), (2, .int x2.1), (3, .int x2.2.1)]) (sj := fun (x2 : Int32 × Int32 × Dd) => []) (hj := fun (x2 : Int32 × Int32 × Dd) => full x2.2.2 ρ) (fun x2 => ?_) (fun k3 hk3 => ?_)
  · refine WW.iload_n (pc := 89) (j := 0) rfl dX2_look_89 ?_
    refine WW.if_ne (pc := 90) 95 dX2_look_90 (by decide) (fun _ => ?_) (fun _ => ?_)
    · refine WW.iload_n (pc := 93) (j := 1) rfl dX2_look_93 ?_
      exact WW.ret rfl rfl (show RetI M_X2_look 94 from dX2_look_94) ⟨Nat.le_refl _, Nat.le_refl _⟩ rfl
    · refine WW.iload_n (pc := 95) (j := 0) rfl dX2_look_95 ?_
      refine WW.iconst (pc := 96) 1 dX2_look_96 rfl ?_
      refine WW.icmp_ne (pc := 97) 104 dX2_look_97 (by decide) (fun _ => ?_) (fun _ => ?_)
      · refine WW.iload_n (pc := 100) (j := 2) rfl dX2_look_100 ?_
        refine WW.goto (pc := 101) 105 dX2_look_101 (by decide) ?_
        exact WW.ret rfl rfl (show RetI M_X2_look 105 from dX2_look_105) ⟨Nat.le_refl _, Nat.le_refl _⟩ rfl
      · refine WW.iconst (pc := 104) (-1) dX2_look_104 rfl ?_
        exact WW.ret rfl rfl (show RetI M_X2_look 105 from dX2_look_105) ⟨Nat.le_refl _, Nat.le_refl _⟩ rfl
  · refine WW.sub [4, 5, 3, 2, 1, 0] rfl ?_
    refine WW.loop (pc := 14) (Lj := fun (x4 : Int32 × Int32 × Int64 × Int32 × Dd) => [(0, .ref 14), (1, .int a1), (2, .int x4.1), (3, .int x4.2.1), (4, .long x4.2.2.1), (6, .int x4.2.2.2.1)]) (hj := fun (x4 : Int32 × Int32 × Int64 × Int32 × Dd) => full x4.2.2.2.2 ρ) (fun self5 hself5 x4 => ?_) 6000 (0, (-1), 0, 0, r1)
    refine WW.iload (pc := 14) (j := 5) rfl dX2_look_14 ?_
    refine WW.sipush (pc := 16) 2401 dX2_look_16 rfl ?_
    refine WW.icmp_ge (pc := 19) 89 dX2_look_19 (by decide) (fun _ => ?_) (fun _ => ?_)
    · refine WW.sub [1, 2, 3] rfl ?_
      exact hk3 (x4.1, x4.2.1, x4.2.2.2.2)
    · refine WW.aload_n (pc := 22) (j := 0) rfl dX2_look_22 ?_
      refine WW.callV (pc := 23) (As := []) (st := []) lk_X2_43 (okX2_isAtRest g ρ hρ x4.2.2.2.2 ) h3_14 (sh_14 ρ) ⟨_, _, clk2⟩ rfl (Nat.le_of_ble_eq_true rfl) ⟨Nat.le_of_ble_eq_true rfl, Nat.le_of_ble_eq_true rfl, Nat.le_of_ble_eq_true rfl, Nat.le_of_ble_eq_true rfl⟩ dX2_look_23 rfl (fun r6 hr6 => ?_)
      show WW _ _ _ 26 _ [.int (b2i r6)] (full x4.2.2.2.2 ρ) 0 0 _
      refine WW.join (pj := 73) (Lj := fun (x7 : Int32 × Int32 × Int64) => [(0, .ref 14), (1, .int a1), (2, .int x7.1), (3, .int x7.2.1), (4, .long x7.2.2), (6, .int x4.2.2.2.1)]) (sj := fun (x7 : Int32 × Int32 × Int64) => []) (hj := fun (x7 : Int32 × Int32 × Int64) => full x4.2.2.2.2 ρ) (fun x7 => ?_) (fun k8 hk8 => ?_)
      · refine WW.aload_n (pc := 73) (j := 0) rfl dX2_look_73 ?_
        refine WW.callV (pc := 74) (As := []) (st := []) lk_X2_55 (okX2_goOn g ρ hρ x4.2.2.2.2 ) h3_14 (sh_14 ρ) ⟨_, _, clk2⟩ rfl (Nat.le_of_ble_eq_true rfl) ⟨Nat.le_of_ble_eq_true rfl, Nat.le_of_ble_eq_true rfl, Nat.le_of_ble_eq_true rfl, Nat.le_of_ble_eq_true rfl⟩ dX2_look_74 rfl (fun r9 hr9 => ?_)
        show WW _ _ _ 77 _ [.int (b2i r9.1)] (full r9.2 ρ) 0 0 _
        refine WW.if_neB (pc := 77) 83 dX2_look_77 (by decide) (fun _ => ?_) (fun _ => ?_)
        · refine WW.iinc (pc := 83) (j := 5) (x4.2.2.2.1 + 1) [(6, .int (x4.2.2.2.1 + 1)), (0, .ref 14), (1, .int a1), (2, .int x7.1), (3, .int x7.2.1), (4, .long x7.2.2)] rfl rfl rfl (by decide) dX2_look_83 ?_
          refine WW.goto (pc := 86) 14 dX2_look_86 (by decide) ?_
          refine WW.sub [1, 2, 3, 4, 5, 0] rfl ?_
          exact hself5 (x7.1, x7.2.1, x7.2.2, (x4.2.2.2.1 + 1), r9.2)
        · refine WW.goto (pc := 80) 89 dX2_look_80 (by decide) ?_
          refine WW.sub [1, 2, 3] rfl ?_
          exact hk3 (x7.1, x7.2.1, r9.2)
      · refine WW.if_eqB (pc := 26) 73 dX2_look_26 (by decide) (fun _ => ?_) (fun _ => ?_)
        · refine WW.iload_n (pc := 29) (j := 1) rfl dX2_look_29 ?_
          refine WW.bipush (pc := 30) 10 dX2_look_30 rfl ?_
          refine WW.isub (pc := 32) dX2_look_32 ?_
          refine WW.iload_n (pc := 33) (j := 2) rfl dX2_look_33 ?_
          refine WW.icmp_ne (pc := 34) 42 dX2_look_34 (by decide) (fun _ => ?_) (fun _ => ?_)
          · refine WW.aload_n (pc := 37) (j := 0) rfl dX2_look_37 ?_
            refine WW.callV (pc := 38) (As := []) (st := []) lk_X2_47 (okX2_number g ρ hρ x4.2.2.2.2 ) h3_14 (sh_14 ρ) ⟨_, _, clk2⟩ rfl (Nat.le_of_ble_eq_true rfl) ⟨Nat.le_of_ble_eq_true rfl, Nat.le_of_ble_eq_true rfl, Nat.le_of_ble_eq_true rfl, Nat.le_of_ble_eq_true rfl⟩ dX2_look_38 rfl (fun r10 hr10 => ?_)
            show WW _ _ _ 41 _ [.int r10] (full x4.2.2.2.2 ρ) 0 0 _
            exact WW.ret rfl rfl (show RetI M_X2_look 41 from dX2_look_41) ⟨Nat.le_refl _, Nat.le_refl _⟩ rfl
          · refine WW.iinc (pc := 42) (j := 2) (x4.1 + 1) [(2, .int (x4.1 + 1)), (0, .ref 14), (1, .int a1), (3, .int x4.2.1), (4, .long x4.2.2.1), (6, .int x4.2.2.2.1)] rfl rfl rfl (by decide) dX2_look_42 ?_
            refine WW.aload_n (pc := 45) (j := 1) rfl dX2_look_45 ?_
            refine WW.callV (pc := 46) (As := []) (st := []) lk_X2_51 (okX2_madeTogether g ρ hρ x4.2.2.2.2 ) h3_14 (sh_14 ρ) ⟨_, _, clk2⟩ rfl (Nat.le_of_ble_eq_true rfl) ⟨Nat.le_of_ble_eq_true rfl, Nat.le_of_ble_eq_true rfl, Nat.le_of_ble_eq_true rfl, Nat.le_of_ble_eq_true rfl⟩ dX2_look_46 rfl (fun r11 hr11 => ?_)
            show WW _ _ _ 49 _ [.long r11] (full x4.2.2.2.2 ρ) 0 0 _
            refine WW.lstore (pc := 49) [(7, .long r11), (2, .int (x4.1 + 1)), (0, .ref 14), (1, .int a1), (3, .int x4.2.1), (4, .long x4.2.2.1), (6, .int x4.2.2.2.1)] rfl (by decide) dX2_look_49 ?_
            refine WW.iload_n (pc := 51) (j := 4) rfl dX2_look_51 ?_
            refine WW.iconst (pc := 52) (-1) dX2_look_52 rfl ?_
            refine WW.join (pj := 64) (Lj := fun (x12 : Unit) => [(0, .ref 14), (1, .int a1), (2, .int (x4.1 + 1)), (6, .int x4.2.2.2.1), (7, .long r11)]) (sj := fun (x12 : Unit) => []) (hj := fun (x12 : Unit) => full x4.2.2.2.2 ρ) (fun x12 => ?_) (fun k13 hk13 => ?_)
            · refine WW.aload_n (pc := 64) (j := 0) rfl dX2_look_64 ?_
              refine WW.callV (pc := 65) (As := []) (st := []) lk_X2_47 (okX2_number g ρ hρ x4.2.2.2.2 ) h3_14 (sh_14 ρ) ⟨_, _, clk2⟩ rfl (Nat.le_of_ble_eq_true rfl) ⟨Nat.le_of_ble_eq_true rfl, Nat.le_of_ble_eq_true rfl, Nat.le_of_ble_eq_true rfl, Nat.le_of_ble_eq_true rfl⟩ dX2_look_65 rfl (fun r14 hr14 => ?_)
              show WW _ _ _ 68 _ [.int r14] (full x4.2.2.2.2 ρ) 0 0 _
              refine WW.istore_n (pc := 68) [(3, .int r14), (0, .ref 14), (1, .int a1), (2, .int (x4.1 + 1)), (6, .int x4.2.2.2.1), (7, .long r11)] rfl (by decide) dX2_look_68 ?_
              refine WW.lload (pc := 69) (j := 5) rfl dX2_look_69 ?_
              refine WW.lstore (pc := 71) [(4, .long r11), (3, .int r14), (0, .ref 14), (1, .int a1), (2, .int (x4.1 + 1)), (6, .int x4.2.2.2.1), (7, .long r11)] rfl (by decide) dX2_look_71 ?_
              refine WW.sub [2, 3, 4, 1, 0, 5] rfl ?_
              exact hk8 ((x4.1 + 1), r14, r11)
            · refine WW.icmp_eq (pc := 53) 64 dX2_look_53 (by decide) (fun _ => ?_) (fun _ => ?_)
              · refine WW.sub [2, 3, 1, 6, 0] rfl ?_
                exact hk13 ()
              · refine WW.lload (pc := 56) (j := 0) rfl dX2_look_56 ?_
                refine WW.lload (pc := 58) (j := 5) rfl dX2_look_58 ?_
                refine WW.lcmp_le (pc := 60) 73 dX2_look_60 dX2_look_61 (by decide) (fun _ => ?_) (fun _ => ?_)
                · refine WW.sub [2, 3, 1, 4, 5, 6] rfl ?_
                  exact hk8 ((x4.1 + 1), x4.2.1, x4.2.2.1)
                · refine WW.sub [2, 3, 1, 6, 0] rfl ?_
                  exact hk13 ()
        · exact hk8 (x4.1, x4.2.1, x4.2.2.1)
def fX1_stepOf (ρ : Rh) (d : Dd) (a0 : Int32) (a1 : Int32) : Option Int32 :=
  if a0 < 0 then
    (some 0)
  else
    (if a1 < 0 then
      (some 0)
    else
      (if 4 ≤ a1 then
        (some 0)
      else
        (if inB a1 4 = true then
          (if 1 ≤ (d_i d 1 (ix a1)) then
            (if inB a1 4 = true then
              (if (d_i d 1 (ix a1)) = 0 then none else
              some ((jrem (a0 / (d_i d 1 (ix a1))) 7) - 3))
            else none)
          else
            (some 0))
        else none)))
set_option maxHeartbeats 4000000 in
set_option maxRecDepth 100000 in
theorem okX1_stepOf (g : Gx) (ρ : Rh) (hρ : Hr ρ) (d : Dd) (a0 : Int32) (a1 : Int32) : CallR g M_X1_stepOf (eIp ρ d) [.int a0, .int a1] (full d ρ) (fX1_stepOf ρ d a0 a1) := by
  refine CallR.intro rfl rfl (Nat.le_of_ble_eq_true rfl) (fun a ha => ⟨_, rfl⟩) ?_
  show WW g _ _ 0 [(0, .int a0), (1, .int a1)] [] (full d ρ) 0 0 _
  unfold fX1_stepOf
  refine WW.iload_n (pc := 0) (j := 0) rfl dX1_stepOf_0 ?_
  refine WW.if_lt (pc := 1) 25 dX1_stepOf_1 (by decide) (fun _ => ?_) (fun _ => ?_)
  · refine WW.iconst (pc := 25) 0 dX1_stepOf_25 rfl ?_
    exact WW.ret rfl rfl (show RetI M_X1_stepOf 26 from dX1_stepOf_26) ⟨Nat.le_refl _, Nat.le_refl _⟩ rfl
  · refine WW.iload_n (pc := 4) (j := 1) rfl dX1_stepOf_4 ?_
    refine WW.if_lt (pc := 5) 25 dX1_stepOf_5 (by decide) (fun _ => ?_) (fun _ => ?_)
    · refine WW.iconst (pc := 25) 0 dX1_stepOf_25 rfl ?_
      exact WW.ret rfl rfl (show RetI M_X1_stepOf 26 from dX1_stepOf_26) ⟨Nat.le_refl _, Nat.le_refl _⟩ rfl
    · refine WW.iload_n (pc := 8) (j := 1) rfl dX1_stepOf_8 ?_
      refine WW.gets (pc := 9) (Or.inr ⟨"SoldNews", (List.mem_of_getElem? (i := 29) rfl)⟩) dX1_stepOf_9 ?_
      refine WW.alen (pc := 12) 4 (Nat.le_of_ble_eq_true rfl) (Or.inl rfl) (sh_1 ρ) rfl dX1_stepOf_12 ?_
      refine WW.icmp_ge (pc := 13) 25 dX1_stepOf_13 (by decide) (fun _ => ?_) (fun _ => ?_)
      · refine WW.iconst (pc := 25) 0 dX1_stepOf_25 rfl ?_
        exact WW.ret rfl rfl (show RetI M_X1_stepOf 26 from dX1_stepOf_26) ⟨Nat.le_refl _, Nat.le_refl _⟩ rfl
      · refine WW.gets (pc := 16) (Or.inr ⟨"SoldNews", (List.mem_of_getElem? (i := 29) rfl)⟩) dX1_stepOf_16 ?_
        refine WW.iload_n (pc := 19) (j := 1) rfl dX1_stepOf_19 ?_
        refine WW.siald (pc := 20) (Nat.le_of_ble_eq_true rfl) (sh_1 ρ) dX1_stepOf_20 ?_
        refine WW.iconst (pc := 21) 1 dX1_stepOf_21 rfl ?_
        refine WW.icmp_ge (pc := 22) 27 dX1_stepOf_22 (by decide) (fun _ => ?_) (fun _ => ?_)
        · refine WW.iload_n (pc := 27) (j := 0) rfl dX1_stepOf_27 ?_
          refine WW.gets (pc := 28) (Or.inr ⟨"SoldNews", (List.mem_of_getElem? (i := 29) rfl)⟩) dX1_stepOf_28 ?_
          refine WW.iload_n (pc := 31) (j := 1) rfl dX1_stepOf_31 ?_
          refine WW.siald (pc := 32) (Nat.le_of_ble_eq_true rfl) (sh_1 ρ) dX1_stepOf_32 ?_
          refine WW.ite (fun _ => WW.none) (fun hz1 => ?_)
          refine WW.idiv (pc := 33) hz1 dX1_stepOf_33 ?_
          refine WW.bipush (pc := 34) 7 dX1_stepOf_34 rfl ?_
          refine WW.irem (pc := 36) (by decide) dX1_stepOf_36 ?_
          refine WW.iconst (pc := 37) 3 dX1_stepOf_37 rfl ?_
          refine WW.isub (pc := 38) dX1_stepOf_38 ?_
          exact WW.ret rfl rfl (show RetI M_X1_stepOf 39 from dX1_stepOf_39) ⟨Nat.le_refl _, Nat.le_refl _⟩ rfl
        · refine WW.iconst (pc := 25) 0 dX1_stepOf_25 rfl ?_
          exact WW.ret rfl rfl (show RetI M_X1_stepOf 26 from dX1_stepOf_26) ⟨Nat.le_refl _, Nat.le_refl _⟩ rfl
def fX2_deal (ρ : Rh) (d : Dd) (a1 : Int32) : Option Dd :=
  bnd (dI d 14 2 0) fun d1 =>
  lp (fun self3 (x2 : Int32 × Dd) =>
    if 4 ≤ x2.1 then
      (some x2.2)
    else
      (jn (fun (x4 : Int32) =>
        if inB x2.1 4 = true then
          (bnd (dI x2.2 18 (ix x2.1) x4) fun d6 =>
          if inB x2.1 4 = true then
            (bnd (dI d6 14 2 ((d_i d6 14 2) + (d_i d6 18 (ix x2.1)))) fun d7 =>
            self3 ((x2.1 + 1), d7))
          else none)
        else none
        ) fun k5 =>
      if (d_i x2.2 15 2) ≤ x2.1 then
        (k5 0)
      else
        ((fX1_stepOf ρ x2.2 a1 x2.1).bind fun r8 =>
        k5 r8))
    ) 6000 (0, d1)
set_option maxHeartbeats 4000000 in
set_option maxRecDepth 100000 in
theorem okX2_deal (g : Gx) (ρ : Rh) (hρ : Hr ρ) (d : Dd) (a1 : Int32) : CallR g M_X2_deal (eV ρ) [.ref 14, .int a1] (full d ρ) (fX2_deal ρ d a1) := by
  refine CallR.intro rfl rfl (Nat.le_of_ble_eq_true rfl) (fun a ha => rfl) ?_
  show WW g _ _ 0 [(0, .ref 14), (1, .int a1)] [] (full d ρ) 0 0 _
  unfold fX2_deal
  refine WW.aload_n (pc := 0) (j := 0) rfl dX2_deal_0 ?_
  refine WW.iconst (pc := 1) 0 dX2_deal_1 rfl ?_
  refine WW.spi (pc := 2) fp_X2_58_2 h3_14 (sh_14 ρ) gt_2_2 dX2_deal_2 (fun d1 => ?_)
  refine WW.iconst (pc := 5) 0 dX2_deal_5 rfl ?_
  refine WW.istore_n (pc := 6) [(2, .int 0), (0, .ref 14), (1, .int a1)] rfl (by decide) dX2_deal_6 ?_
  refine WW.sub [1, 2, 0] rfl ?_
  refine WW.loop (pc := 7) (Lj := fun (x2 : Int32 × Dd) => [(0, .ref 14), (1, .int a1), (2, .int x2.1)]) (hj := fun (x2 : Int32 × Dd) => full x2.2 ρ) (fun self3 hself3 x2 => ?_) 6000 (0, d1)
  refine WW.iload_n (pc := 7) (j := 2) rfl dX2_deal_7 ?_
  refine WW.aload_n (pc := 8) (j := 0) rfl dX2_deal_8 ?_
  refine WW.sgr (pc := 9) fl_X2_18_2 h3_14 (sh_14 ρ) (Or.inr ⟨_, gt_2_1⟩) (hr_14_1 ρ) dX2_deal_9 ?_
  refine WW.alen (pc := 12) 4 (one_le h3_18) (Or.inl rfl) (sh_18 ρ) rfl dX2_deal_12 ?_
  refine WW.icmp_ge (pc := 13) 63 dX2_deal_13 (by decide) (fun _ => ?_) (fun _ => ?_)
  · exact WW.ret rfl rfl (show RetI M_X2_deal 63 from dX2_deal_63) ⟨Nat.le_refl _, Nat.le_refl _⟩ rfl
  · refine WW.aload_n (pc := 16) (j := 0) rfl dX2_deal_16 ?_
    refine WW.sgr (pc := 17) fl_X2_18_2 h3_14 (sh_14 ρ) (Or.inr ⟨_, gt_2_1⟩) (hr_14_1 ρ) dX2_deal_17 ?_
    refine WW.iload_n (pc := 20) (j := 2) rfl dX2_deal_20 ?_
    refine WW.iload_n (pc := 21) (j := 2) rfl dX2_deal_21 ?_
    refine WW.aload_n (pc := 22) (j := 0) rfl dX2_deal_22 ?_
    refine WW.sgr (pc := 23) fl_X2_12_2 h3_14 (sh_14 ρ) (Or.inl ⟨_, gt_2_0⟩) (hr_14_0 ρ) dX2_deal_23 ?_
    refine WW.sgi (pc := 26) fl_X2_61_1 h3_15 (sh_15 ρ) (Or.inl gt_1_2) dX2_deal_26 ?_
    refine WW.join (pj := 41) (Lj := fun (x4 : Int32) => [(0, .ref 14), (1, .int a1), (2, .int x2.1)]) (sj := fun (x4 : Int32) => [.int x4, .int x2.1, .ref 18]) (hj := fun (x4 : Int32) => full x2.2 ρ) (fun x4 => ?_) (fun k5 hk5 => ?_)
    · refine WW.siast (pc := 41) h3_18 (sh_18 ρ) dX2_deal_41 (fun d6 => ?_)
      refine WW.aload_n (pc := 42) (j := 0) rfl dX2_deal_42 ?_
      refine WW.dup (pc := 43) rfl dX2_deal_43 ?_
      refine WW.sgi (pc := 44) fl_X2_58_2 h3_14 (sh_14 ρ) (Or.inl gt_2_2) dX2_deal_44 ?_
      refine WW.aload_n (pc := 47) (j := 0) rfl dX2_deal_47 ?_
      refine WW.sgr (pc := 48) fl_X2_18_2 h3_14 (sh_14 ρ) (Or.inr ⟨_, gt_2_1⟩) (hr_14_1 ρ) dX2_deal_48 ?_
      refine WW.iload_n (pc := 51) (j := 2) rfl dX2_deal_51 ?_
      refine WW.siald (pc := 52) (one_le h3_18) (sh_18 ρ) dX2_deal_52 ?_
      refine WW.iadd (pc := 53) dX2_deal_53 ?_
      refine WW.spi (pc := 54) fp_X2_58_2 h3_14 (sh_14 ρ) gt_2_2 dX2_deal_54 (fun d7 => ?_)
      refine WW.iinc (pc := 57) (j := 2) (x2.1 + 1) [(2, .int (x2.1 + 1)), (0, .ref 14), (1, .int a1)] rfl rfl rfl (by decide) dX2_deal_57 ?_
      refine WW.goto (pc := 60) 7 dX2_deal_60 (by decide) ?_
      refine WW.sub [1, 2, 0] rfl ?_
      exact hself3 ((x2.1 + 1), d7)
    · refine WW.icmp_ge (pc := 29) 40 dX2_deal_29 (by decide) (fun _ => ?_) (fun _ => ?_)
      · refine WW.iconst (pc := 40) 0 dX2_deal_40 rfl ?_
        exact hk5 0
      · refine WW.iload_n (pc := 32) (j := 1) rfl dX2_deal_32 ?_
        refine WW.iload_n (pc := 33) (j := 2) rfl dX2_deal_33 ?_
        refine WW.callS (pc := 34) (As := [.int a1, .int x2.1]) (st := [.int x2.1, .ref 18]) lk_X2_64 (okX1_stepOf g ρ hρ x2.2 a1 x2.1) rfl (Nat.le_of_ble_eq_true rfl) ⟨Nat.le_of_ble_eq_true rfl, Nat.le_of_ble_eq_true rfl, Nat.le_of_ble_eq_true rfl, Nat.le_of_ble_eq_true rfl⟩ dX2_deal_34 rfl (fun r8 hr8 => ?_)
        show WW _ _ _ 37 _ [.int r8, .int x2.1, .ref 18] (full x2.2 ρ) 0 0 _
        refine WW.goto (pc := 37) 41 dX2_deal_37 (by decide) ?_
        exact hk5 r8
def fX11_settle (ρ : Rh) (d : Dd) (a1 : Int32) (a2 : Int32) : Option Dd :=
  (fX11_newsAt ρ d a1).bind fun r1 =>
  bnd (((a1 * 16) + a2) : Int32) fun v2 =>
  if r1 = 0 then
    (some d)
  else
    ((fX11_isSet ρ d a2).bind fun r4 =>
    if r4 = true then
      (if v2 < 0 then
        (some d)
      else
        (if 128 ≤ v2 then
          (some d)
        else
          (if inB v2 128 = true then
            (if (d_i d 20 (ix v2)) = 0 then
              (if inB v2 128 = true then
                (bnd (dI d 20 (ix v2) 1) fun d5 =>
                (fX11_keepWorths ρ d5 v2 true).bind fun r6 =>
                lp (fun self8 (x7 : Int32 × Dd) =>
                  if 4 ≤ x7.1 then
                    (some x7.2)
                  else
                    (bnd (((v2 * 4) + x7.1) : Int32) fun v9 =>
                    (fX3_take ρ x7.2 ρ.1 r1 x7.1).bind fun r10 =>
                    (fX3_isNever ρ r10).bind fun r11 =>
                    jn (fun (x12 : Int32 × Dd) =>
                      jn (fun (x14 : Dd) =>
                        self8 ((x7.1 + 1), x14)
                        ) fun k15 =>
                      if v9 < 0 then
                        (k15 x12.2)
                      else
                        (if 512 ≤ v9 then
                          (k15 x12.2)
                        else
                          (if inB v9 512 = true then
                            (bnd (dI x12.2 21 (ix v9) x12.1) fun d16 =>
                            k15 d16)
                          else none))
                      ) fun k13 =>
                    if r11 = true then
                      (k13 ((-1), r10))
                    else
                      ((fX2_begin ρ r10 (d_i r10 ρ.1 1) a2).bind fun r17 =>
                      (fX2_look ρ r17 1).bind fun r18 =>
                      (fX2_deal ρ r18.2 r18.1).bind fun r19 =>
                      (fX11_keepWorths ρ r19 v2 false).bind fun r20 =>
                      k13 (r18.1, r20)))
                  ) 6000 (0, r6))
              else none)
            else
              (some d))
          else none)))
    else
      (some d))
set_option maxHeartbeats 4000000 in
set_option maxRecDepth 100000 in
theorem okX11_settle (g : Gx) (ρ : Rh) (hρ : Hr ρ) (d : Dd) (a1 : Int32) (a2 : Int32) : CallR g M_X11_settle (eV ρ) [.ref 3, .int a1, .int a2] (full d ρ) (fX11_settle ρ d a1 a2) := by
  refine CallR.intro rfl rfl (Nat.le_of_ble_eq_true rfl) (fun a ha => rfl) ?_
  show WW g _ _ 0 [(0, .ref 3), (1, .int a1), (2, .int a2)] [] (full d ρ) 0 0 _
  unfold fX11_settle
  refine WW.aload_n (pc := 0) (j := 0) rfl dX11_settle_0 ?_
  refine WW.iload_n (pc := 1) (j := 1) rfl dX11_settle_1 ?_
  refine WW.callV (pc := 2) (As := [.int a1]) (st := []) lk_X11_146 (okX11_newsAt g ρ hρ d a1) h3_3 (sh_3 ρ) ⟨_, _, clk11⟩ rfl (Nat.le_of_ble_eq_true rfl) ⟨Nat.le_of_ble_eq_true rfl, Nat.le_of_ble_eq_true rfl, Nat.le_of_ble_eq_true rfl, Nat.le_of_ble_eq_true rfl⟩ dX11_settle_2 rfl (fun r1 hr1 => ?_)
  show WW _ _ _ 5 _ [.ref r1] (full d ρ) 0 0 _
  refine WW.astore_n (pc := 5) [(3, .ref r1), (0, .ref 3), (1, .int a1), (2, .int a2)] rfl (by decide) dX11_settle_5 ?_
  refine WW.iload_n (pc := 6) (j := 2) rfl dX11_settle_6 ?_
  refine WW.bipush (pc := 7) 16 dX11_settle_7 rfl ?_
  refine WW.imul (pc := 9) dX11_settle_9 ?_
  refine WW.iload_n (pc := 10) (j := 3) rfl dX11_settle_10 ?_
  refine WW.iadd (pc := 11) dX11_settle_11 ?_
  refine WW.nmi (fun v2 => ?_)
  refine WW.istore (pc := 12) [(4, .int v2), (3, .ref r1), (0, .ref 3), (1, .int a1), (2, .int a2)] rfl (by decide) dX11_settle_12 ?_
  refine WW.aload_n (pc := 14) (j := 1) rfl dX11_settle_14 ?_
  refine WW.ifnull (pc := 15) 51 dX11_settle_15 (by decide) (fun _ => ?_) (fun hq3 => ?_)
  · exact WW.ret rfl rfl (show RetI M_X11_settle 51 from dX11_settle_51) ⟨Nat.le_refl _, Nat.le_refl _⟩ rfl
  · refine WW.aload_n (pc := 18) (j := 2) rfl dX11_settle_18 ?_
    refine WW.iload_n (pc := 19) (j := 4) rfl dX11_settle_19 ?_
    refine WW.callV (pc := 20) (As := [.int a2]) (st := []) lk_X11_192 (okX11_isSet g ρ hρ d a2) h3_3 (sh_3 ρ) ⟨_, _, clk11⟩ rfl (Nat.le_of_ble_eq_true rfl) ⟨Nat.le_of_ble_eq_true rfl, Nat.le_of_ble_eq_true rfl, Nat.le_of_ble_eq_true rfl, Nat.le_of_ble_eq_true rfl⟩ dX11_settle_20 rfl (fun r4 hr4 => ?_)
    show WW _ _ _ 23 _ [.int (b2i r4)] (full d ρ) 0 0 _
    refine WW.if_eqB (pc := 23) 51 dX11_settle_23 (by decide) (fun _ => ?_) (fun _ => ?_)
    · refine WW.iload (pc := 26) (j := 0) rfl dX11_settle_26 ?_
      refine WW.if_lt (pc := 28) 51 dX11_settle_28 (by decide) (fun _ => ?_) (fun _ => ?_)
      · exact WW.ret rfl rfl (show RetI M_X11_settle 51 from dX11_settle_51) ⟨Nat.le_refl _, Nat.le_refl _⟩ rfl
      · refine WW.iload (pc := 31) (j := 0) rfl dX11_settle_31 ?_
        refine WW.aload_n (pc := 33) (j := 2) rfl dX11_settle_33 ?_
        refine WW.sgr (pc := 34) fl_X11_58_11 h3_3 (sh_3 ρ) (Or.inr ⟨_, gt_11_11⟩) (hr_3_11 ρ) dX11_settle_34 ?_
        refine WW.alen (pc := 37) 128 (one_le h3_20) (Or.inr (Or.inr (Or.inl rfl))) (sh_20 ρ) rfl dX11_settle_37 ?_
        refine WW.icmp_ge (pc := 38) 51 dX11_settle_38 (by decide) (fun _ => ?_) (fun _ => ?_)
        · exact WW.ret rfl rfl (show RetI M_X11_settle 51 from dX11_settle_51) ⟨Nat.le_refl _, Nat.le_refl _⟩ rfl
        · refine WW.aload_n (pc := 41) (j := 2) rfl dX11_settle_41 ?_
          refine WW.sgr (pc := 42) fl_X11_58_11 h3_3 (sh_3 ρ) (Or.inr ⟨_, gt_11_11⟩) (hr_3_11 ρ) dX11_settle_42 ?_
          refine WW.iload (pc := 45) (j := 0) rfl dX11_settle_45 ?_
          refine WW.szald (pc := 47) h3_20 (sh_20 ρ) dX11_settle_47 ?_
          refine WW.if_eq (pc := 48) 52 dX11_settle_48 (by decide) (fun _ => ?_) (fun _ => ?_)
          · refine WW.aload_n (pc := 52) (j := 2) rfl dX11_settle_52 ?_
            refine WW.sgr (pc := 53) fl_X11_58_11 h3_3 (sh_3 ρ) (Or.inr ⟨_, gt_11_11⟩) (hr_3_11 ρ) dX11_settle_53 ?_
            refine WW.iload (pc := 56) (j := 0) rfl dX11_settle_56 ?_
            refine WW.iconst (pc := 58) 1 dX11_settle_58 rfl ?_
            refine WW.szast (pc := 59) h3_20 (sh_20 ρ) rfl dX11_settle_59 (fun d5 => ?_)
            refine WW.aload_n (pc := 60) (j := 2) rfl dX11_settle_60 ?_
            refine WW.iload (pc := 61) (j := 0) rfl dX11_settle_61 ?_
            refine WW.iconst (pc := 63) 1 dX11_settle_63 rfl ?_
            refine WW.callV (pc := 64) (As := [.int v2, .int (b2i true)]) (st := []) lk_X11_339 (okX11_keepWorths g ρ hρ d5 v2 true) h3_3 (sh_3 ρ) ⟨_, _, clk11⟩ rfl (Nat.le_of_ble_eq_true rfl) ⟨Nat.le_of_ble_eq_true rfl, Nat.le_of_ble_eq_true rfl, Nat.le_of_ble_eq_true rfl, Nat.le_of_ble_eq_true rfl⟩ dX11_settle_64 rfl (fun r6 hr6 => ?_)
            show WW _ _ _ 67 _ [] (full r6 ρ) 0 0 _
            refine WW.iconst (pc := 67) 0 dX11_settle_67 rfl ?_
            refine WW.istore (pc := 68) [(5, .int 0), (4, .int v2), (3, .ref r1), (0, .ref 3), (1, .int a1), (2, .int a2)] rfl (by decide) dX11_settle_68 ?_
            refine WW.sub [3, 5, 2, 1, 0] rfl ?_
            refine WW.loop (pc := 70) (Lj := fun (x7 : Int32 × Dd) => [(0, .ref 3), (2, .int a2), (3, .ref r1), (4, .int v2), (5, .int x7.1)]) (hj := fun (x7 : Int32 × Dd) => full x7.2 ρ) (fun self8 hself8 x7 => ?_) 6000 (0, r6)
            refine WW.iload (pc := 70) (j := 4) rfl dX11_settle_70 ?_
            refine WW.iconst (pc := 72) 4 dX11_settle_72 rfl ?_
            refine WW.icmp_ge (pc := 73) 187 dX11_settle_73 (by decide) (fun _ => ?_) (fun _ => ?_)
            · exact WW.ret rfl rfl (show RetI M_X11_settle 187 from dX11_settle_187) ⟨Nat.le_refl _, Nat.le_refl _⟩ rfl
            · refine WW.iload (pc := 76) (j := 3) rfl dX11_settle_76 ?_
              refine WW.iconst (pc := 78) 4 dX11_settle_78 rfl ?_
              refine WW.imul (pc := 79) dX11_settle_79 ?_
              refine WW.iload (pc := 80) (j := 4) rfl dX11_settle_80 ?_
              refine WW.iadd (pc := 82) dX11_settle_82 ?_
              refine WW.nmi (fun v9 => ?_)
              refine WW.istore (pc := 83) [(6, .int v9), (0, .ref 3), (2, .int a2), (3, .ref r1), (4, .int v2), (5, .int x7.1)] rfl (by decide) dX11_settle_83 ?_
              refine WW.aload_n (pc := 85) (j := 1) rfl dX11_settle_85 ?_
              refine WW.sgr (pc := 86) fl_X11_35_11 h3_3 (sh_3 ρ) (Or.inl ⟨_, gt_11_8⟩) (hr_3_8 ρ) dX11_settle_86 ?_
              refine WW.aload_n (pc := 89) (j := 1) rfl dX11_settle_89 ?_
              refine WW.sgr (pc := 90) fl_X11_19_11 h3_3 (sh_3 ρ) (Or.inl ⟨_, gt_11_1⟩) (hr_mk ρ) dX11_settle_90 ?_
              refine WW.aload_n (pc := 93) (j := 3) rfl dX11_settle_93 ?_
              refine WW.iload (pc := 94) (j := 5) rfl dX11_settle_94 ?_
              refine WW.callV (pc := 96) (As := [.ref ρ.1, .ref r1, .int x7.1]) (st := []) lk_X11_167 (okX3_take g ρ hρ x7.2 ρ.1 r1 x7.1 hρ.1 (nwAt hρ hr1)) h3_13 (sh_13 ρ) ⟨_, _, clk3⟩ rfl (Nat.le_of_ble_eq_true rfl) ⟨Nat.le_of_ble_eq_true rfl, Nat.le_of_ble_eq_true rfl, Nat.le_of_ble_eq_true rfl, Nat.le_of_ble_eq_true rfl⟩ dX11_settle_96 rfl (fun r10 hr10 => ?_)
              show WW _ _ _ 99 _ [] (full r10 ρ) 0 0 _
              refine WW.iconst (pc := 99) (-1) dX11_settle_99 rfl ?_
              refine WW.istore (pc := 100) [(7, .int (-1)), (6, .int v9), (0, .ref 3), (2, .int a2), (3, .ref r1), (4, .int v2), (5, .int x7.1)] rfl (by decide) dX11_settle_100 ?_
              refine WW.aload_n (pc := 102) (j := 2) rfl dX11_settle_102 ?_
              refine WW.sgr (pc := 103) fl_X11_35_11 h3_3 (sh_3 ρ) (Or.inl ⟨_, gt_11_8⟩) (hr_3_8 ρ) dX11_settle_103 ?_
              refine WW.callV (pc := 106) (As := []) (st := []) lk_X11_183 (okX3_isNever g ρ hρ r10 ) h3_13 (sh_13 ρ) ⟨_, _, clk3⟩ rfl (Nat.le_of_ble_eq_true rfl) ⟨Nat.le_of_ble_eq_true rfl, Nat.le_of_ble_eq_true rfl, Nat.le_of_ble_eq_true rfl, Nat.le_of_ble_eq_true rfl⟩ dX11_settle_106 rfl (fun r11 hr11 => ?_)
              show WW _ _ _ 109 _ [.int (b2i r11)] (full r10 ρ) 0 0 _
              refine WW.join (pj := 157) (Lj := fun (x12 : Int32 × Dd) => [(0, .ref 3), (2, .int a2), (3, .ref r1), (4, .int v2), (5, .int x7.1), (6, .int v9), (7, .int x12.1)]) (sj := fun (x12 : Int32 × Dd) => []) (hj := fun (x12 : Int32 × Dd) => full x12.2 ρ) (fun x12 => ?_) (fun k13 hk13 => ?_)
              · refine WW.iload (pc := 157) (j := 5) rfl dX11_settle_157 ?_
                refine WW.join (pj := 181) (Lj := fun (x14 : Dd) => [(0, .ref 3), (2, .int a2), (3, .ref r1), (4, .int v2), (5, .int x7.1)]) (sj := fun (x14 : Dd) => []) (hj := fun (x14 : Dd) => full x14 ρ) (fun x14 => ?_) (fun k15 hk15 => ?_)
                · refine WW.iinc (pc := 181) (j := 4) (x7.1 + 1) [(5, .int (x7.1 + 1)), (0, .ref 3), (2, .int a2), (3, .ref r1), (4, .int v2)] rfl rfl rfl (by decide) dX11_settle_181 ?_
                  refine WW.goto (pc := 184) 70 dX11_settle_184 (by decide) ?_
                  refine WW.sub [1, 2, 3, 4, 0] rfl ?_
                  exact hself8 ((x7.1 + 1), x14)
                · refine WW.if_lt (pc := 159) 181 dX11_settle_159 (by decide) (fun _ => ?_) (fun _ => ?_)
                  · refine WW.sub [0, 1, 2, 3, 4] rfl ?_
                    exact hk15 x12.2
                  · refine WW.iload (pc := 162) (j := 5) rfl dX11_settle_162 ?_
                    refine WW.aload_n (pc := 164) (j := 0) rfl dX11_settle_164 ?_
                    refine WW.sgr (pc := 165) fl_X11_62_11 h3_3 (sh_3 ρ) (Or.inr ⟨_, gt_11_12⟩) (hr_3_12 ρ) dX11_settle_165 ?_
                    refine WW.alen (pc := 168) 512 (one_le h3_21) (Or.inl rfl) (sh_21 ρ) rfl dX11_settle_168 ?_
                    refine WW.icmp_ge (pc := 169) 181 dX11_settle_169 (by decide) (fun _ => ?_) (fun _ => ?_)
                    · refine WW.sub [0, 1, 2, 3, 4] rfl ?_
                      exact hk15 x12.2
                    · refine WW.aload_n (pc := 172) (j := 0) rfl dX11_settle_172 ?_
                      refine WW.sgr (pc := 173) fl_X11_62_11 h3_3 (sh_3 ρ) (Or.inr ⟨_, gt_11_12⟩) (hr_3_12 ρ) dX11_settle_173 ?_
                      refine WW.iload (pc := 176) (j := 5) rfl dX11_settle_176 ?_
                      refine WW.iload (pc := 178) (j := 6) rfl dX11_settle_178 ?_
                      refine WW.siast (pc := 180) h3_21 (sh_21 ρ) dX11_settle_180 (fun d16 => ?_)
                      refine WW.sub [0, 1, 2, 3, 4] rfl ?_
                      exact hk15 d16
              · refine WW.if_neB (pc := 109) 157 dX11_settle_109 (by decide) (fun _ => ?_) (fun _ => ?_)
                · refine WW.sub [2, 3, 4, 5, 6, 1, 0] rfl ?_
                  exact hk13 ((-1), r10)
                · refine WW.aload_n (pc := 112) (j := 2) rfl dX11_settle_112 ?_
                  refine WW.sgr (pc := 113) fl_X11_42_11 h3_3 (sh_3 ρ) (Or.inl ⟨_, gt_11_9⟩) (hr_3_9 ρ) dX11_settle_113 ?_
                  refine WW.aload_n (pc := 116) (j := 2) rfl dX11_settle_116 ?_
                  refine WW.sgr (pc := 117) fl_X11_35_11 h3_3 (sh_3 ρ) (Or.inl ⟨_, gt_11_8⟩) (hr_3_8 ρ) dX11_settle_117 ?_
                  refine WW.aload_n (pc := 120) (j := 2) rfl dX11_settle_120 ?_
                  refine WW.sgr (pc := 121) fl_X11_19_11 h3_3 (sh_3 ρ) (Or.inl ⟨_, gt_11_1⟩) (hr_mk ρ) dX11_settle_121 ?_
                  refine WW.sgi (pc := 124) fl_X11_106_5 (mk3 hρ.1) (mkS hρ.1) (Or.inl gt_5_1) dX11_settle_124 ?_
                  refine WW.iload_n (pc := 127) (j := 3) rfl dX11_settle_127 ?_
                  refine WW.callV (pc := 128) (As := [.ref 13, .int (d_i r10 ρ.1 1), .int a2]) (st := []) lk_X11_203 (okX2_begin g ρ hρ r10 (d_i r10 ρ.1 1) a2) h3_14 (sh_14 ρ) ⟨_, _, clk2⟩ rfl (Nat.le_of_ble_eq_true rfl) ⟨Nat.le_of_ble_eq_true rfl, Nat.le_of_ble_eq_true rfl, Nat.le_of_ble_eq_true rfl, Nat.le_of_ble_eq_true rfl⟩ dX11_settle_128 rfl (fun r17 hr17 => ?_)
                  show WW _ _ _ 131 _ [] (full r17 ρ) 0 0 _
                  refine WW.aload_n (pc := 131) (j := 2) rfl dX11_settle_131 ?_
                  refine WW.sgr (pc := 132) fl_X11_42_11 h3_3 (sh_3 ρ) (Or.inl ⟨_, gt_11_9⟩) (hr_3_9 ρ) dX11_settle_132 ?_
                  refine WW.iconst (pc := 135) 1 dX11_settle_135 rfl ?_
                  refine WW.callV (pc := 136) (As := [.int 1]) (st := []) lk_X11_207 (okX2_look g ρ hρ r17 1) h3_14 (sh_14 ρ) ⟨_, _, clk2⟩ rfl (Nat.le_of_ble_eq_true rfl) ⟨Nat.le_of_ble_eq_true rfl, Nat.le_of_ble_eq_true rfl, Nat.le_of_ble_eq_true rfl, Nat.le_of_ble_eq_true rfl⟩ dX11_settle_136 rfl (fun r18 hr18 => ?_)
                  show WW _ _ _ 139 _ [.int r18.1] (full r18.2 ρ) 0 0 _
                  refine WW.istore (pc := 139) [(7, .int r18.1), (6, .int v9), (0, .ref 3), (2, .int a2), (3, .ref r1), (4, .int v2), (5, .int x7.1)] rfl (by decide) dX11_settle_139 ?_
                  refine WW.aload_n (pc := 141) (j := 2) rfl dX11_settle_141 ?_
                  refine WW.sgr (pc := 142) fl_X11_42_11 h3_3 (sh_3 ρ) (Or.inl ⟨_, gt_11_9⟩) (hr_3_9 ρ) dX11_settle_142 ?_
                  refine WW.iload (pc := 145) (j := 0) rfl dX11_settle_145 ?_
                  refine WW.callV (pc := 147) (As := [.int r18.1]) (st := []) lk_X11_343 (okX2_deal g ρ hρ r18.2 r18.1) h3_14 (sh_14 ρ) ⟨_, _, clk2⟩ rfl (Nat.le_of_ble_eq_true rfl) ⟨Nat.le_of_ble_eq_true rfl, Nat.le_of_ble_eq_true rfl, Nat.le_of_ble_eq_true rfl, Nat.le_of_ble_eq_true rfl⟩ dX11_settle_147 rfl (fun r19 hr19 => ?_)
                  show WW _ _ _ 150 _ [] (full r19 ρ) 0 0 _
                  refine WW.aload_n (pc := 150) (j := 2) rfl dX11_settle_150 ?_
                  refine WW.iload (pc := 151) (j := 5) rfl dX11_settle_151 ?_
                  refine WW.iconst (pc := 153) 0 dX11_settle_153 rfl ?_
                  refine WW.callV (pc := 154) (As := [.int v2, .int (b2i false)]) (st := []) lk_X11_339 (okX11_keepWorths g ρ hρ r19 v2 false) h3_3 (sh_3 ρ) ⟨_, _, clk11⟩ rfl (Nat.le_of_ble_eq_true rfl) ⟨Nat.le_of_ble_eq_true rfl, Nat.le_of_ble_eq_true rfl, Nat.le_of_ble_eq_true rfl, Nat.le_of_ble_eq_true rfl⟩ dX11_settle_154 rfl (fun r20 hr20 => ?_)
                  show WW _ _ _ 157 _ [] (full r20 ρ) 0 0 _
                  refine WW.sub [2, 3, 4, 5, 6, 1, 0] rfl ?_
                  exact hk13 (r18.1, r20)
          · exact WW.ret rfl rfl (show RetI M_X11_settle 51 from dX11_settle_51) ⟨Nat.le_refl _, Nat.le_refl _⟩ rfl
    · exact WW.ret rfl rfl (show RetI M_X11_settle 51 from dX11_settle_51) ⟨Nat.le_refl _, Nat.le_refl _⟩ rfl
def fX11_dealtFor (ρ : Rh) (d : Dd) (a1 : Int32) (a2 : Int32) (a3 : Int32) : Option Int32 :=
  bnd (((((a1 * 16) + a2) * 4) + a3) : Int32) fun v1 =>
  if v1 < 0 then
    (some (-1))
  else
    (if 512 ≤ v1 then
      (some (-1))
    else
      (if inB v1 512 = true then
        (some (d_i d 21 (ix v1)))
      else none))
set_option maxHeartbeats 4000000 in
set_option maxRecDepth 100000 in
theorem okX11_dealtFor (g : Gx) (ρ : Rh) (hρ : Hr ρ) (d : Dd) (a1 : Int32) (a2 : Int32) (a3 : Int32) : CallR g M_X11_dealtFor (eIp ρ d) [.ref 3, .int a1, .int a2, .int a3] (full d ρ) (fX11_dealtFor ρ d a1 a2 a3) := by
  refine CallR.intro rfl rfl (Nat.le_of_ble_eq_true rfl) (fun a ha => ⟨_, rfl⟩) ?_
  show WW g _ _ 0 [(0, .ref 3), (1, .int a1), (2, .int a2), (3, .int a3)] [] (full d ρ) 0 0 _
  unfold fX11_dealtFor
  refine WW.iload_n (pc := 0) (j := 1) rfl dX11_dealtFor_0 ?_
  refine WW.bipush (pc := 1) 16 dX11_dealtFor_1 rfl ?_
  refine WW.imul (pc := 3) dX11_dealtFor_3 ?_
  refine WW.iload_n (pc := 4) (j := 2) rfl dX11_dealtFor_4 ?_
  refine WW.iadd (pc := 5) dX11_dealtFor_5 ?_
  refine WW.iconst (pc := 6) 4 dX11_dealtFor_6 rfl ?_
  refine WW.imul (pc := 7) dX11_dealtFor_7 ?_
  refine WW.iload_n (pc := 8) (j := 3) rfl dX11_dealtFor_8 ?_
  refine WW.iadd (pc := 9) dX11_dealtFor_9 ?_
  refine WW.nmi (fun v1 => ?_)
  refine WW.istore (pc := 10) [(4, .int v1), (0, .ref 3), (1, .int a1), (2, .int a2), (3, .int a3)] rfl (by decide) dX11_dealtFor_10 ?_
  refine WW.iload (pc := 12) (j := 0) rfl dX11_dealtFor_12 ?_
  refine WW.if_lt (pc := 14) 37 dX11_dealtFor_14 (by decide) (fun _ => ?_) (fun _ => ?_)
  · refine WW.iconst (pc := 37) (-1) dX11_dealtFor_37 rfl ?_
    exact WW.ret rfl rfl (show RetI M_X11_dealtFor 38 from dX11_dealtFor_38) ⟨Nat.le_refl _, Nat.le_refl _⟩ rfl
  · refine WW.iload (pc := 17) (j := 0) rfl dX11_dealtFor_17 ?_
    refine WW.aload_n (pc := 19) (j := 1) rfl dX11_dealtFor_19 ?_
    refine WW.sgr (pc := 20) fl_X11_62_11 h3_3 (sh_3 ρ) (Or.inr ⟨_, gt_11_12⟩) (hr_3_12 ρ) dX11_dealtFor_20 ?_
    refine WW.alen (pc := 23) 512 (one_le h3_21) (Or.inl rfl) (sh_21 ρ) rfl dX11_dealtFor_23 ?_
    refine WW.icmp_ge (pc := 24) 37 dX11_dealtFor_24 (by decide) (fun _ => ?_) (fun _ => ?_)
    · refine WW.iconst (pc := 37) (-1) dX11_dealtFor_37 rfl ?_
      exact WW.ret rfl rfl (show RetI M_X11_dealtFor 38 from dX11_dealtFor_38) ⟨Nat.le_refl _, Nat.le_refl _⟩ rfl
    · refine WW.aload_n (pc := 27) (j := 1) rfl dX11_dealtFor_27 ?_
      refine WW.sgr (pc := 28) fl_X11_62_11 h3_3 (sh_3 ρ) (Or.inr ⟨_, gt_11_12⟩) (hr_3_12 ρ) dX11_dealtFor_28 ?_
      refine WW.iload (pc := 31) (j := 0) rfl dX11_dealtFor_31 ?_
      refine WW.siald (pc := 33) (one_le h3_21) (sh_21 ρ) dX11_dealtFor_33 ?_
      refine WW.goto (pc := 34) 38 dX11_dealtFor_34 (by decide) ?_
      exact WW.ret rfl rfl (show RetI M_X11_dealtFor 38 from dX11_dealtFor_38) ⟨Nat.le_refl _, Nat.le_refl _⟩ rfl
def fX11_rests (ρ : Rh) (d : Dd) (a1 : Int32) (a2 : Int32) (a3 : Int32) (a4 : Int32) : Option (Int32 × Dd) :=
  jn (fun (x1 : Bool) =>
    (fX11_isSet ρ d a2).bind fun r3 =>
    jn (fun (x4 : Bool) =>
      (fX11_refusal ρ d a1 true x4).bind fun r6 =>
      if r6 = 0 then
        (if a4 = 1 then
          ((fX11_settle ρ d a1 a2).bind fun r7 =>
          (fX11_dealtFor ρ r7 a1 a2 a3).bind fun r8 =>
          some (r8, r7))
        else
          ((fX11_newsAt ρ d a1).bind fun r9 =>
          (fX3_take ρ d ρ.1 r9 a3).bind fun r10 =>
          (fX3_isNever ρ r10).bind fun r11 =>
          if r11 = true then
            (some ((-1), r10))
          else
            ((fX2_begin ρ r10 (d_i r10 ρ.1 1) a2).bind fun r12 =>
            (fX2_look ρ r12 a4).bind fun r13 =>
            some (r13.1, r13.2))))
      else
        (some (r6, d))
      ) fun k5 =>
    jn (fun (x14 : Unit) =>
      k5 false
      ) fun k15 =>
    if r3 = true then
      ((fX11_isSign a3).bind fun r16 =>
      if r16 = true then
        (if x1 = true then
          (k5 true)
        else
          (k15 ()))
      else
        (k15 ()))
    else
      (k15 ())
    ) fun k2 =>
  jn (fun (x17 : Unit) =>
    k2 true
    ) fun k18 =>
  if a4 = 0 then
    (k18 ())
  else
    (if a4 = 1 then
      (k18 ())
    else
      (jn (fun (x19 : Unit) =>
        k2 false
        ) fun k20 =>
      if a4 < 10 then
        (k20 ())
      else
        (if 99 < a4 then
          (k20 ())
        else
          (k18 ()))))
set_option maxHeartbeats 4000000 in
set_option maxRecDepth 100000 in
theorem okX11_rests (g : Gx) (ρ : Rh) (hρ : Hr ρ) (d : Dd) (a1 : Int32) (a2 : Int32) (a3 : Int32) (a4 : Int32) : CallR g M_X11_rests (eI ρ) [.ref 3, .int a1, .int a2, .int a3, .int a4] (full d ρ) (fX11_rests ρ d a1 a2 a3 a4) := by
  refine CallR.intro rfl rfl (Nat.le_of_ble_eq_true rfl) (fun a ha => ⟨_, rfl⟩) ?_
  show WW g _ _ 0 [(0, .ref 3), (1, .int a1), (2, .int a2), (3, .int a3), (4, .int a4)] [] (full d ρ) 0 0 _
  unfold fX11_rests
  refine WW.iload (pc := 0) (j := 4) rfl dX11_rests_0 ?_
  refine WW.join (pj := 30) (Lj := fun (x1 : Bool) => [(0, .ref 3), (1, .int a1), (2, .int a2), (3, .int a3), (4, .int a4)]) (sj := fun (x1 : Bool) => [.int (b2i x1)]) (hj := fun (x1 : Bool) => full d ρ) (fun x1 => ?_) (fun k2 hk2 => ?_)
  · refine WW.istore (pc := 30) [(5, .int (b2i x1)), (0, .ref 3), (1, .int a1), (2, .int a2), (3, .int a3), (4, .int a4)] rfl (by decide) dX11_rests_30 ?_
    refine WW.aload_n (pc := 32) (j := 1) rfl dX11_rests_32 ?_
    refine WW.iload_n (pc := 33) (j := 2) rfl dX11_rests_33 ?_
    refine WW.iconst (pc := 34) 1 dX11_rests_34 rfl ?_
    refine WW.aload_n (pc := 35) (j := 1) rfl dX11_rests_35 ?_
    refine WW.iload_n (pc := 36) (j := 3) rfl dX11_rests_36 ?_
    refine WW.callV (pc := 37) (As := [.int a2]) (st := [.int 1, .int a1, .ref 3]) lk_X11_192 (okX11_isSet g ρ hρ d a2) h3_3 (sh_3 ρ) ⟨_, _, clk11⟩ rfl (Nat.le_of_ble_eq_true rfl) ⟨Nat.le_of_ble_eq_true rfl, Nat.le_of_ble_eq_true rfl, Nat.le_of_ble_eq_true rfl, Nat.le_of_ble_eq_true rfl⟩ dX11_rests_37 rfl (fun r3 hr3 => ?_)
    show WW _ _ _ 40 _ [.int (b2i r3), .int 1, .int a1, .ref 3] (full d ρ) 0 0 _
    refine WW.join (pj := 60) (Lj := fun (x4 : Bool) => [(0, .ref 3), (1, .int a1), (2, .int a2), (3, .int a3), (4, .int a4)]) (sj := fun (x4 : Bool) => [.int (b2i x4), .int 1, .int a1, .ref 3]) (hj := fun (x4 : Bool) => full d ρ) (fun x4 => ?_) (fun k5 hk5 => ?_)
    · refine WW.callV (pc := 60) (As := [.int a1, .int (b2i true), .int (b2i x4)]) (st := []) lk_X11_159 (okX11_refusal g ρ hρ d a1 true x4) h3_3 (sh_3 ρ) ⟨_, _, clk11⟩ rfl (Nat.le_of_ble_eq_true rfl) ⟨Nat.le_of_ble_eq_true rfl, Nat.le_of_ble_eq_true rfl, Nat.le_of_ble_eq_true rfl, Nat.le_of_ble_eq_true rfl⟩ dX11_rests_60 rfl (fun r6 hr6 => ?_)
      show WW _ _ _ 63 _ [.int r6] (full d ρ) 0 0 _
      refine WW.istore (pc := 63) [(6, .int r6), (0, .ref 3), (1, .int a1), (2, .int a2), (3, .int a3), (4, .int a4)] rfl (by decide) dX11_rests_63 ?_
      refine WW.iload (pc := 65) (j := 0) rfl dX11_rests_65 ?_
      refine WW.if_eq (pc := 67) 73 dX11_rests_67 (by decide) (fun _ => ?_) (fun _ => ?_)
      · refine WW.iload (pc := 73) (j := 5) rfl dX11_rests_73 ?_
        refine WW.iconst (pc := 75) 1 dX11_rests_75 rfl ?_
        refine WW.icmp_ne (pc := 76) 93 dX11_rests_76 (by decide) (fun _ => ?_) (fun _ => ?_)
        · refine WW.aload_n (pc := 79) (j := 1) rfl dX11_rests_79 ?_
          refine WW.iload_n (pc := 80) (j := 2) rfl dX11_rests_80 ?_
          refine WW.iload_n (pc := 81) (j := 3) rfl dX11_rests_81 ?_
          refine WW.callV (pc := 82) (As := [.int a1, .int a2]) (st := []) lk_X11_195 (okX11_settle g ρ hρ d a1 a2) h3_3 (sh_3 ρ) ⟨_, _, clk11⟩ rfl (Nat.le_of_ble_eq_true rfl) ⟨Nat.le_of_ble_eq_true rfl, Nat.le_of_ble_eq_true rfl, Nat.le_of_ble_eq_true rfl, Nat.le_of_ble_eq_true rfl⟩ dX11_rests_82 rfl (fun r7 hr7 => ?_)
          show WW _ _ _ 85 _ [] (full r7 ρ) 0 0 _
          refine WW.aload_n (pc := 85) (j := 1) rfl dX11_rests_85 ?_
          refine WW.iload_n (pc := 86) (j := 2) rfl dX11_rests_86 ?_
          refine WW.iload_n (pc := 87) (j := 3) rfl dX11_rests_87 ?_
          refine WW.iload_n (pc := 88) (j := 4) rfl dX11_rests_88 ?_
          refine WW.callV (pc := 89) (As := [.int a1, .int a2, .int a3]) (st := []) lk_X11_199 (okX11_dealtFor g ρ hρ r7 a1 a2 a3) h3_3 (sh_3 ρ) ⟨_, _, clk11⟩ rfl (Nat.le_of_ble_eq_true rfl) ⟨Nat.le_of_ble_eq_true rfl, Nat.le_of_ble_eq_true rfl, Nat.le_of_ble_eq_true rfl, Nat.le_of_ble_eq_true rfl⟩ dX11_rests_89 rfl (fun r8 hr8 => ?_)
          show WW _ _ _ 92 _ [.int r8] (full r7 ρ) 0 0 _
          exact WW.ret rfl rfl (show RetI M_X11_rests 92 from dX11_rests_92) ⟨Nat.le_refl _, Nat.le_refl _⟩ rfl
        · refine WW.aload_n (pc := 93) (j := 1) rfl dX11_rests_93 ?_
          refine WW.sgr (pc := 94) fl_X11_35_11 h3_3 (sh_3 ρ) (Or.inl ⟨_, gt_11_8⟩) (hr_3_8 ρ) dX11_rests_94 ?_
          refine WW.aload_n (pc := 97) (j := 1) rfl dX11_rests_97 ?_
          refine WW.sgr (pc := 98) fl_X11_19_11 h3_3 (sh_3 ρ) (Or.inl ⟨_, gt_11_1⟩) (hr_mk ρ) dX11_rests_98 ?_
          refine WW.aload_n (pc := 101) (j := 1) rfl dX11_rests_101 ?_
          refine WW.iload_n (pc := 102) (j := 2) rfl dX11_rests_102 ?_
          refine WW.callV (pc := 103) (As := [.int a1]) (st := [.ref ρ.1, .ref 13]) lk_X11_146 (okX11_newsAt g ρ hρ d a1) h3_3 (sh_3 ρ) ⟨_, _, clk11⟩ rfl (Nat.le_of_ble_eq_true rfl) ⟨Nat.le_of_ble_eq_true rfl, Nat.le_of_ble_eq_true rfl, Nat.le_of_ble_eq_true rfl, Nat.le_of_ble_eq_true rfl⟩ dX11_rests_103 rfl (fun r9 hr9 => ?_)
          show WW _ _ _ 106 _ [.ref r9, .ref ρ.1, .ref 13] (full d ρ) 0 0 _
          refine WW.iload_n (pc := 106) (j := 4) rfl dX11_rests_106 ?_
          refine WW.callV (pc := 107) (As := [.ref ρ.1, .ref r9, .int a3]) (st := []) lk_X11_167 (okX3_take g ρ hρ d ρ.1 r9 a3 hρ.1 (nwAt hρ hr9)) h3_13 (sh_13 ρ) ⟨_, _, clk3⟩ rfl (Nat.le_of_ble_eq_true rfl) ⟨Nat.le_of_ble_eq_true rfl, Nat.le_of_ble_eq_true rfl, Nat.le_of_ble_eq_true rfl, Nat.le_of_ble_eq_true rfl⟩ dX11_rests_107 rfl (fun r10 hr10 => ?_)
          show WW _ _ _ 110 _ [] (full r10 ρ) 0 0 _
          refine WW.aload_n (pc := 110) (j := 1) rfl dX11_rests_110 ?_
          refine WW.sgr (pc := 111) fl_X11_35_11 h3_3 (sh_3 ρ) (Or.inl ⟨_, gt_11_8⟩) (hr_3_8 ρ) dX11_rests_111 ?_
          refine WW.callV (pc := 114) (As := []) (st := []) lk_X11_183 (okX3_isNever g ρ hρ r10 ) h3_13 (sh_13 ρ) ⟨_, _, clk3⟩ rfl (Nat.le_of_ble_eq_true rfl) ⟨Nat.le_of_ble_eq_true rfl, Nat.le_of_ble_eq_true rfl, Nat.le_of_ble_eq_true rfl, Nat.le_of_ble_eq_true rfl⟩ dX11_rests_114 rfl (fun r11 hr11 => ?_)
          show WW _ _ _ 117 _ [.int (b2i r11)] (full r10 ρ) 0 0 _
          refine WW.if_eqB (pc := 117) 122 dX11_rests_117 (by decide) (fun _ => ?_) (fun _ => ?_)
          · refine WW.iconst (pc := 120) (-1) dX11_rests_120 rfl ?_
            exact WW.ret rfl rfl (show RetI M_X11_rests 121 from dX11_rests_121) ⟨Nat.le_refl _, Nat.le_refl _⟩ rfl
          · refine WW.aload_n (pc := 122) (j := 1) rfl dX11_rests_122 ?_
            refine WW.sgr (pc := 123) fl_X11_42_11 h3_3 (sh_3 ρ) (Or.inl ⟨_, gt_11_9⟩) (hr_3_9 ρ) dX11_rests_123 ?_
            refine WW.aload_n (pc := 126) (j := 1) rfl dX11_rests_126 ?_
            refine WW.sgr (pc := 127) fl_X11_35_11 h3_3 (sh_3 ρ) (Or.inl ⟨_, gt_11_8⟩) (hr_3_8 ρ) dX11_rests_127 ?_
            refine WW.aload_n (pc := 130) (j := 1) rfl dX11_rests_130 ?_
            refine WW.sgr (pc := 131) fl_X11_19_11 h3_3 (sh_3 ρ) (Or.inl ⟨_, gt_11_1⟩) (hr_mk ρ) dX11_rests_131 ?_
            refine WW.sgi (pc := 134) fl_X11_106_5 (mk3 hρ.1) (mkS hρ.1) (Or.inl gt_5_1) dX11_rests_134 ?_
            refine WW.iload_n (pc := 137) (j := 3) rfl dX11_rests_137 ?_
            refine WW.callV (pc := 138) (As := [.ref 13, .int (d_i r10 ρ.1 1), .int a2]) (st := []) lk_X11_203 (okX2_begin g ρ hρ r10 (d_i r10 ρ.1 1) a2) h3_14 (sh_14 ρ) ⟨_, _, clk2⟩ rfl (Nat.le_of_ble_eq_true rfl) ⟨Nat.le_of_ble_eq_true rfl, Nat.le_of_ble_eq_true rfl, Nat.le_of_ble_eq_true rfl, Nat.le_of_ble_eq_true rfl⟩ dX11_rests_138 rfl (fun r12 hr12 => ?_)
            show WW _ _ _ 141 _ [] (full r12 ρ) 0 0 _
            refine WW.aload_n (pc := 141) (j := 1) rfl dX11_rests_141 ?_
            refine WW.sgr (pc := 142) fl_X11_42_11 h3_3 (sh_3 ρ) (Or.inl ⟨_, gt_11_9⟩) (hr_3_9 ρ) dX11_rests_142 ?_
            refine WW.iload (pc := 145) (j := 5) rfl dX11_rests_145 ?_
            refine WW.callV (pc := 147) (As := [.int a4]) (st := []) lk_X11_207 (okX2_look g ρ hρ r12 a4) h3_14 (sh_14 ρ) ⟨_, _, clk2⟩ rfl (Nat.le_of_ble_eq_true rfl) ⟨Nat.le_of_ble_eq_true rfl, Nat.le_of_ble_eq_true rfl, Nat.le_of_ble_eq_true rfl, Nat.le_of_ble_eq_true rfl⟩ dX11_rests_147 rfl (fun r13 hr13 => ?_)
            show WW _ _ _ 150 _ [.int r13.1] (full r13.2 ρ) 0 0 _
            exact WW.ret rfl rfl (show RetI M_X11_rests 150 from dX11_rests_150) ⟨Nat.le_refl _, Nat.le_refl _⟩ rfl
      · refine WW.iload (pc := 70) (j := 0) rfl dX11_rests_70 ?_
        exact WW.ret rfl rfl (show RetI M_X11_rests 72 from dX11_rests_72) ⟨Nat.le_refl _, Nat.le_refl _⟩ rfl
    · refine WW.join (pj := 59) (Lj := fun (x14 : Unit) => [(0, .ref 3), (1, .int a1), (2, .int a2), (3, .int a3), (4, .int a4)]) (sj := fun (x14 : Unit) => [.int 1, .int a1, .ref 3]) (hj := fun (x14 : Unit) => full d ρ) (fun x14 => ?_) (fun k15 hk15 => ?_)
      · refine WW.iconst (pc := 59) 0 dX11_rests_59 rfl ?_
        exact hk5 false
      · refine WW.if_eqB (pc := 40) 59 dX11_rests_40 (by decide) (fun _ => ?_) (fun _ => ?_)
        · refine WW.iload_n (pc := 43) (j := 4) rfl dX11_rests_43 ?_
          refine WW.callS (pc := 44) (As := [.int a3]) (st := [.int 1, .int a1, .ref 3]) lk_X11_153 (okX11_isSign g ρ hρ d a3) rfl (Nat.le_of_ble_eq_true rfl) ⟨Nat.le_of_ble_eq_true rfl, Nat.le_of_ble_eq_true rfl, Nat.le_of_ble_eq_true rfl, Nat.le_of_ble_eq_true rfl⟩ dX11_rests_44 rfl (fun r16 hr16 => ?_)
          show WW _ _ _ 47 _ [.int (b2i r16), .int 1, .int a1, .ref 3] (full d ρ) 0 0 _
          refine WW.if_eqB (pc := 47) 59 dX11_rests_47 (by decide) (fun _ => ?_) (fun _ => ?_)
          · refine WW.iload (pc := 50) (j := 0) rfl dX11_rests_50 ?_
            refine WW.if_eqB (pc := 52) 59 dX11_rests_52 (by decide) (fun _ => ?_) (fun _ => ?_)
            · refine WW.iconst (pc := 55) 1 dX11_rests_55 rfl ?_
              refine WW.goto (pc := 56) 60 dX11_rests_56 (by decide) ?_
              refine WW.sub [1, 2, 3, 4, 5] rfl ?_
              exact hk5 true
            · refine WW.sub [1, 2, 3, 4, 5] rfl ?_
              exact hk15 ()
          · refine WW.sub [1, 2, 3, 4, 5] rfl ?_
            exact hk15 ()
        · refine WW.sub [1, 2, 3, 4, 5] rfl ?_
          exact hk15 ()
  · refine WW.join (pj := 25) (Lj := fun (x17 : Unit) => [(0, .ref 3), (1, .int a1), (2, .int a2), (3, .int a3), (4, .int a4)]) (sj := fun (x17 : Unit) => []) (hj := fun (x17 : Unit) => full d ρ) (fun x17 => ?_) (fun k18 hk18 => ?_)
    · refine WW.iconst (pc := 25) 1 dX11_rests_25 rfl ?_
      refine WW.goto (pc := 26) 30 dX11_rests_26 (by decide) ?_
      exact hk2 true
    · refine WW.if_eq (pc := 2) 25 dX11_rests_2 (by decide) (fun _ => ?_) (fun _ => ?_)
      · exact hk18 ()
      · refine WW.iload (pc := 5) (j := 4) rfl dX11_rests_5 ?_
        refine WW.iconst (pc := 7) 1 dX11_rests_7 rfl ?_
        refine WW.icmp_eq (pc := 8) 25 dX11_rests_8 (by decide) (fun _ => ?_) (fun _ => ?_)
        · exact hk18 ()
        · refine WW.iload (pc := 11) (j := 4) rfl dX11_rests_11 ?_
          refine WW.bipush (pc := 13) 10 dX11_rests_13 rfl ?_
          refine WW.join (pj := 29) (Lj := fun (x19 : Unit) => [(0, .ref 3), (1, .int a1), (2, .int a2), (3, .int a3), (4, .int a4)]) (sj := fun (x19 : Unit) => []) (hj := fun (x19 : Unit) => full d ρ) (fun x19 => ?_) (fun k20 hk20 => ?_)
          · refine WW.iconst (pc := 29) 0 dX11_rests_29 rfl ?_
            exact hk2 false
          · refine WW.icmp_lt (pc := 15) 29 dX11_rests_15 (by decide) (fun _ => ?_) (fun _ => ?_)
            · exact hk20 ()
            · refine WW.iload (pc := 18) (j := 4) rfl dX11_rests_18 ?_
              refine WW.bipush (pc := 20) 99 dX11_rests_20 rfl ?_
              refine WW.icmp_gt (pc := 22) 29 dX11_rests_22 (by decide) (fun _ => ?_) (fun _ => ?_)
              · exact hk20 ()
              · exact hk18 ()
