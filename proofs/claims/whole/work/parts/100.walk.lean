def fX7_letterOf (a0 : Int64) (a2 : Int32) : Option Int32 :=
  some (Int64.toInt32 ((jlushr a0 (8 * a2)) &&& 255))
set_option maxHeartbeats 4000000 in
set_option maxRecDepth 100000 in
theorem okX7_letterOf (g : Gx) (ρ : Rh) (hρ : Hr ρ) (d : Dd) (a0 : Int64) (a2 : Int32) : CallR g M_X7_letterOf (eIp ρ d) [.long a0, .int a2] (full d ρ) (fX7_letterOf a0 a2) := by
  refine CallR.intro rfl rfl (Nat.le_of_ble_eq_true rfl) (fun a ha => ⟨_, rfl⟩) ?_
  show WW g _ _ 0 [(0, .long a0), (2, .int a2)] [] (full d ρ) 0 0 _
  unfold fX7_letterOf
  refine WW.lload_n (pc := 0) (j := 0) rfl dX7_letterOf_0 ?_
  refine WW.bipush (pc := 1) 8 dX7_letterOf_1 rfl ?_
  refine WW.iload_n (pc := 3) (j := 1) rfl dX7_letterOf_3 ?_
  refine WW.imul (pc := 4) dX7_letterOf_4 ?_
  refine WW.lushr (pc := 5) dX7_letterOf_5 ?_
  refine WW.ldc2 (pc := 6) wd_278 dX7_letterOf_6 ?_
  refine WW.land (pc := 9) dX7_letterOf_9 ?_
  refine WW.l2i (pc := 10) dX7_letterOf_10 ?_
  exact WW.ret rfl rfl (show RetI M_X7_letterOf 11 from dX7_letterOf_11) ⟨Nat.le_refl _, Nat.le_refl _⟩ rfl
def fX7_lettersIn (a0 : Int64) : Option Int32 :=
  lp (fun self2 (x1 : Int32 × Int32) =>
    if 8 ≤ x1.2 then
      (some x1.1)
    else
      ((fX7_letterOf a0 x1.2).bind fun r3 =>
      if 126 < r3 then
        (some (-1))
      else
        (jn (fun (x4 : Unit) =>
          jn (fun (x6 : Bool) =>
            bnd ((x1.1 + (b2i x6)) : Int32) fun v8 =>
            self2 (v8, (x1.2 + 1))
            ) fun k7 =>
          if r3 = 0 then
            (k7 false)
          else
            (k7 true)
          ) fun k5 =>
        if r3 = 0 then
          (k5 ())
        else
          (if x1.2 ≤ x1.1 then
            (k5 ())
          else
            (some (-1)))))
    ) 6000 (0, 0)
set_option maxHeartbeats 4000000 in
set_option maxRecDepth 100000 in
theorem okX7_lettersIn (g : Gx) (ρ : Rh) (hρ : Hr ρ) (d : Dd) (a0 : Int64) : CallR g M_X7_lettersIn (eIp ρ d) [.long a0] (full d ρ) (fX7_lettersIn a0) := by
  refine CallR.intro rfl rfl (Nat.le_of_ble_eq_true rfl) (fun a ha => ⟨_, rfl⟩) ?_
  show WW g _ _ 0 [(0, .long a0)] [] (full d ρ) 0 0 _
  unfold fX7_lettersIn
  refine WW.iconst (pc := 0) 0 dX7_lettersIn_0 rfl ?_
  refine WW.istore_n (pc := 1) [(2, .int 0), (0, .long a0)] rfl (by decide) dX7_lettersIn_1 ?_
  refine WW.iconst (pc := 2) 0 dX7_lettersIn_2 rfl ?_
  refine WW.istore_n (pc := 3) [(3, .int 0), (2, .int 0), (0, .long a0)] rfl (by decide) dX7_lettersIn_3 ?_
  refine WW.sub [2, 1, 0] rfl ?_
  refine WW.loop (pc := 4) (Lj := fun (x1 : Int32 × Int32) => [(0, .long a0), (2, .int x1.1), (3, .int x1.2)]) (hj := fun (x1 : Int32 × Int32) => full d ρ) (fun self2 hself2 x1 => ?_) 6000 (0, 0)
  refine WW.iload_n (pc := 4) (j := 2) rfl dX7_lettersIn_4 ?_
  refine WW.bipush (pc := 5) 8 dX7_lettersIn_5 rfl ?_
  refine WW.icmp_ge (pc := 7) 55 dX7_lettersIn_7 (by decide) (fun _ => ?_) (fun _ => ?_)
  · refine WW.iload_n (pc := 55) (j := 1) rfl dX7_lettersIn_55 ?_
    exact WW.ret rfl rfl (show RetI M_X7_lettersIn 56 from dX7_lettersIn_56) ⟨Nat.le_refl _, Nat.le_refl _⟩ rfl
  · refine WW.lload_n (pc := 10) (j := 0) rfl dX7_lettersIn_10 ?_
    refine WW.iload_n (pc := 11) (j := 2) rfl dX7_lettersIn_11 ?_
    refine WW.callS (pc := 12) (As := [.long a0, .int x1.2]) (st := []) lk_X7_15 (okX7_letterOf g ρ hρ d a0 x1.2) rfl (Nat.le_of_ble_eq_true rfl) ⟨Nat.le_of_ble_eq_true rfl, Nat.le_of_ble_eq_true rfl, Nat.le_of_ble_eq_true rfl, Nat.le_of_ble_eq_true rfl⟩ dX7_lettersIn_12 rfl (fun r3 hr3 => ?_)
    show WW _ _ _ 15 _ [.int r3] (full d ρ) 0 0 _
    refine WW.istore (pc := 15) [(4, .int r3), (0, .long a0), (2, .int x1.1), (3, .int x1.2)] rfl (by decide) dX7_lettersIn_15 ?_
    refine WW.iload (pc := 17) (j := 0) rfl dX7_lettersIn_17 ?_
    refine WW.bipush (pc := 19) 126 dX7_lettersIn_19 rfl ?_
    refine WW.icmp_gt (pc := 21) 34 dX7_lettersIn_21 (by decide) (fun _ => ?_) (fun _ => ?_)
    · refine WW.iconst (pc := 34) (-1) dX7_lettersIn_34 rfl ?_
      exact WW.ret rfl rfl (show RetI M_X7_lettersIn 35 from dX7_lettersIn_35) ⟨Nat.le_refl _, Nat.le_refl _⟩ rfl
    · refine WW.iload (pc := 24) (j := 0) rfl dX7_lettersIn_24 ?_
      refine WW.join (pj := 36) (Lj := fun (x4 : Unit) => [(0, .long a0), (2, .int x1.1), (3, .int x1.2), (4, .int r3)]) (sj := fun (x4 : Unit) => []) (hj := fun (x4 : Unit) => full d ρ) (fun x4 => ?_) (fun k5 hk5 => ?_)
      · refine WW.iload_n (pc := 36) (j := 1) rfl dX7_lettersIn_36 ?_
        refine WW.iload (pc := 37) (j := 3) rfl dX7_lettersIn_37 ?_
        refine WW.join (pj := 47) (Lj := fun (x6 : Bool) => [(0, .long a0), (3, .int x1.2)]) (sj := fun (x6 : Bool) => [.int (b2i x6), .int x1.1]) (hj := fun (x6 : Bool) => full d ρ) (fun x6 => ?_) (fun k7 hk7 => ?_)
        · refine WW.iadd (pc := 47) dX7_lettersIn_47 ?_
          refine WW.nmi (fun v8 => ?_)
          refine WW.istore_n (pc := 48) [(2, .int v8), (0, .long a0), (3, .int x1.2)] rfl (by decide) dX7_lettersIn_48 ?_
          refine WW.iinc (pc := 49) (j := 2) (x1.2 + 1) [(3, .int (x1.2 + 1)), (2, .int v8), (0, .long a0)] rfl rfl rfl (by decide) dX7_lettersIn_49 ?_
          refine WW.goto (pc := 52) 4 dX7_lettersIn_52 (by decide) ?_
          refine WW.sub [2, 1, 0] rfl ?_
          exact hself2 (v8, (x1.2 + 1))
        · refine WW.if_eq (pc := 39) 46 dX7_lettersIn_39 (by decide) (fun _ => ?_) (fun _ => ?_)
          · refine WW.iconst (pc := 46) 0 dX7_lettersIn_46 rfl ?_
            refine WW.sub [0, 2] rfl ?_
            exact hk7 false
          · refine WW.iconst (pc := 42) 1 dX7_lettersIn_42 rfl ?_
            refine WW.goto (pc := 43) 47 dX7_lettersIn_43 (by decide) ?_
            refine WW.sub [0, 2] rfl ?_
            exact hk7 true
      · refine WW.if_eq (pc := 26) 36 dX7_lettersIn_26 (by decide) (fun _ => ?_) (fun _ => ?_)
        · refine WW.sub [1, 2, 3, 0] rfl ?_
          exact hk5 ()
        · refine WW.iload_n (pc := 29) (j := 2) rfl dX7_lettersIn_29 ?_
          refine WW.iload_n (pc := 30) (j := 3) rfl dX7_lettersIn_30 ?_
          refine WW.icmp_ge (pc := 31) 36 dX7_lettersIn_31 (by decide) (fun _ => ?_) (fun _ => ?_)
          · refine WW.sub [1, 2, 3, 0] rfl ?_
            exact hk5 ()
          · refine WW.iconst (pc := 34) (-1) dX7_lettersIn_34 rfl ?_
            exact WW.ret rfl rfl (show RetI M_X7_lettersIn 35 from dX7_lettersIn_35) ⟨Nat.le_refl _, Nat.le_refl _⟩ rfl
def fX7_append (ρ : Rh) (d : Dd) (a1 : Int64) (a3 : Int32) : Option (Bool × Dd) :=
  if (d_i d 4 1) < 0 then
    (some (false, d))
  else
    (if a3 ≤ (60 - (d_i d 4 1)) then
      (lp (fun self2 (x1 : Int32 × Dd) =>
        if a3 ≤ x1.1 then
          (some (true, x1.2))
        else
          (if 60 ≤ (d_i x1.2 4 1) then
            (some (true, x1.2))
          else
            ((fX7_letterOf a1 x1.1).bind fun r3 =>
            if inB (d_i x1.2 4 1) 60 = true then
              (bnd (dI x1.2 5 (ix (d_i x1.2 4 1)) r3) fun d4 =>
              bnd (dI d4 4 1 ((d_i d4 4 1) + 1)) fun d5 =>
              self2 ((x1.1 + 1), d5))
            else none))
        ) 6000 (0, d))
    else
      (some (false, d)))
set_option maxHeartbeats 4000000 in
set_option maxRecDepth 100000 in
theorem okX7_append (g : Gx) (ρ : Rh) (hρ : Hr ρ) (d : Dd) (a1 : Int64) (a3 : Int32) : CallR g M_X7_append (eZ ρ) [.ref 4, .long a1, .int a3] (full d ρ) (fX7_append ρ d a1 a3) := by
  refine CallR.intro rfl rfl (Nat.le_of_ble_eq_true rfl) (fun a ha => ⟨_, rfl⟩) ?_
  show WW g _ _ 0 [(0, .ref 4), (1, .long a1), (3, .int a3)] [] (full d ρ) 0 0 _
  unfold fX7_append
  refine WW.aload_n (pc := 0) (j := 0) rfl dX7_append_0 ?_
  refine WW.sgi (pc := 1) fl_X7_21_7 h3_4 (sh_4 ρ) (Or.inl gt_7_1) dX7_append_1 ?_
  refine WW.if_lt (pc := 4) 21 dX7_append_4 (by decide) (fun _ => ?_) (fun _ => ?_)
  · refine WW.iconst (pc := 21) 0 dX7_append_21 rfl ?_
    exact WW.ret rfl rfl (show RetI M_X7_append 22 from dX7_append_22) ⟨Nat.le_refl _, Nat.le_refl _⟩ rfl
  · refine WW.iload_n (pc := 7) (j := 2) rfl dX7_append_7 ?_
    refine WW.aload_n (pc := 8) (j := 0) rfl dX7_append_8 ?_
    refine WW.sgr (pc := 9) fl_X7_9_7 h3_4 (sh_4 ρ) (Or.inr ⟨_, gt_7_0⟩) (hr_4_0 ρ) dX7_append_9 ?_
    refine WW.alen (pc := 12) 60 (one_le h3_5) (Or.inl rfl) (sh_5 ρ) rfl dX7_append_12 ?_
    refine WW.aload_n (pc := 13) (j := 0) rfl dX7_append_13 ?_
    refine WW.sgi (pc := 14) fl_X7_21_7 h3_4 (sh_4 ρ) (Or.inl gt_7_1) dX7_append_14 ?_
    refine WW.isub (pc := 17) dX7_append_17 ?_
    refine WW.icmp_le (pc := 18) 23 dX7_append_18 (by decide) (fun _ => ?_) (fun _ => ?_)
    · refine WW.iconst (pc := 23) 0 dX7_append_23 rfl ?_
      refine WW.istore (pc := 24) [(4, .int 0), (0, .ref 4), (1, .long a1), (3, .int a3)] rfl (by decide) dX7_append_24 ?_
      refine WW.sub [1, 2, 3, 0] rfl ?_
      refine WW.loop (pc := 26) (Lj := fun (x1 : Int32 × Dd) => [(0, .ref 4), (1, .long a1), (3, .int a3), (4, .int x1.1)]) (hj := fun (x1 : Int32 × Dd) => full x1.2 ρ) (fun self2 hself2 x1 => ?_) 6000 (0, d)
      refine WW.iload (pc := 26) (j := 3) rfl dX7_append_26 ?_
      refine WW.iload_n (pc := 28) (j := 2) rfl dX7_append_28 ?_
      refine WW.icmp_ge (pc := 29) 75 dX7_append_29 (by decide) (fun _ => ?_) (fun _ => ?_)
      · refine WW.iconst (pc := 75) 1 dX7_append_75 rfl ?_
        exact WW.ret rfl rfl (show RetI M_X7_append 76 from dX7_append_76) ⟨Nat.le_refl _, Nat.le_refl _⟩ rfl
      · refine WW.aload_n (pc := 32) (j := 0) rfl dX7_append_32 ?_
        refine WW.sgi (pc := 33) fl_X7_21_7 h3_4 (sh_4 ρ) (Or.inl gt_7_1) dX7_append_33 ?_
        refine WW.aload_n (pc := 36) (j := 0) rfl dX7_append_36 ?_
        refine WW.sgr (pc := 37) fl_X7_9_7 h3_4 (sh_4 ρ) (Or.inr ⟨_, gt_7_0⟩) (hr_4_0 ρ) dX7_append_37 ?_
        refine WW.alen (pc := 40) 60 (one_le h3_5) (Or.inl rfl) (sh_5 ρ) rfl dX7_append_40 ?_
        refine WW.icmp_ge (pc := 41) 75 dX7_append_41 (by decide) (fun _ => ?_) (fun _ => ?_)
        · refine WW.iconst (pc := 75) 1 dX7_append_75 rfl ?_
          exact WW.ret rfl rfl (show RetI M_X7_append 76 from dX7_append_76) ⟨Nat.le_refl _, Nat.le_refl _⟩ rfl
        · refine WW.aload_n (pc := 44) (j := 0) rfl dX7_append_44 ?_
          refine WW.sgr (pc := 45) fl_X7_9_7 h3_4 (sh_4 ρ) (Or.inr ⟨_, gt_7_0⟩) (hr_4_0 ρ) dX7_append_45 ?_
          refine WW.aload_n (pc := 48) (j := 0) rfl dX7_append_48 ?_
          refine WW.sgi (pc := 49) fl_X7_21_7 h3_4 (sh_4 ρ) (Or.inl gt_7_1) dX7_append_49 ?_
          refine WW.lload_n (pc := 52) (j := 1) rfl dX7_append_52 ?_
          refine WW.iload (pc := 53) (j := 3) rfl dX7_append_53 ?_
          refine WW.callS (pc := 55) (As := [.long a1, .int x1.1]) (st := [.int (d_i x1.2 4 1), .ref 5]) lk_X7_15 (okX7_letterOf g ρ hρ x1.2 a1 x1.1) rfl (Nat.le_of_ble_eq_true rfl) ⟨Nat.le_of_ble_eq_true rfl, Nat.le_of_ble_eq_true rfl, Nat.le_of_ble_eq_true rfl, Nat.le_of_ble_eq_true rfl⟩ dX7_append_55 rfl (fun r3 hr3 => ?_)
          show WW _ _ _ 58 _ [.int r3, .int (d_i x1.2 4 1), .ref 5] (full x1.2 ρ) 0 0 _
          refine WW.siast (pc := 58) h3_5 (sh_5 ρ) dX7_append_58 (fun d4 => ?_)
          refine WW.aload_n (pc := 59) (j := 0) rfl dX7_append_59 ?_
          refine WW.dup (pc := 60) rfl dX7_append_60 ?_
          refine WW.sgi (pc := 61) fl_X7_21_7 h3_4 (sh_4 ρ) (Or.inl gt_7_1) dX7_append_61 ?_
          refine WW.iconst (pc := 64) 1 dX7_append_64 rfl ?_
          refine WW.iadd (pc := 65) dX7_append_65 ?_
          refine WW.spi (pc := 66) fp_X7_21_7 h3_4 (sh_4 ρ) gt_7_1 dX7_append_66 (fun d5 => ?_)
          refine WW.iinc (pc := 69) (j := 3) (x1.1 + 1) [(4, .int (x1.1 + 1)), (0, .ref 4), (1, .long a1), (3, .int a3)] rfl rfl rfl (by decide) dX7_append_69 ?_
          refine WW.goto (pc := 72) 26 dX7_append_72 (by decide) ?_
          refine WW.sub [1, 2, 3, 0] rfl ?_
          exact hself2 ((x1.1 + 1), d5)
    · refine WW.iconst (pc := 21) 0 dX7_append_21 rfl ?_
      exact WW.ret rfl rfl (show RetI M_X7_append 22 from dX7_append_22) ⟨Nat.le_refl _, Nat.le_refl _⟩ rfl
def fX11_letters (ρ : Rh) (d : Dd) (a1 : Int64) : Option (Int32 × Dd) :=
  (fX7_lettersIn a1).bind fun r1 =>
  if 0 ≤ r1 then
    ((fX7_append ρ d a1 r1).bind fun r2 =>
    if r2.1 = true then
      (some ((d_i r2.2 4 1), r2.2))
    else
      (some ((-104), r2.2)))
  else
    (some ((-102), d))
set_option maxHeartbeats 4000000 in
set_option maxRecDepth 100000 in
theorem okX11_letters (g : Gx) (ρ : Rh) (hρ : Hr ρ) (d : Dd) (a1 : Int64) : CallR g M_X11_letters (eI ρ) [.ref 3, .long a1] (full d ρ) (fX11_letters ρ d a1) := by
  refine CallR.intro rfl rfl (Nat.le_of_ble_eq_true rfl) (fun a ha => ⟨_, rfl⟩) ?_
  show WW g _ _ 0 [(0, .ref 3), (1, .long a1)] [] (full d ρ) 0 0 _
  unfold fX11_letters
  refine WW.lload_n (pc := 0) (j := 1) rfl dX11_letters_0 ?_
  refine WW.callS (pc := 1) (As := [.long a1]) (st := []) lk_X11_70 (okX7_lettersIn g ρ hρ d a1) rfl (Nat.le_of_ble_eq_true rfl) ⟨Nat.le_of_ble_eq_true rfl, Nat.le_of_ble_eq_true rfl, Nat.le_of_ble_eq_true rfl, Nat.le_of_ble_eq_true rfl⟩ dX11_letters_1 rfl (fun r1 hr1 => ?_)
  show WW _ _ _ 4 _ [.int r1] (full d ρ) 0 0 _
  refine WW.istore_n (pc := 4) [(3, .int r1), (0, .ref 3), (1, .long a1)] rfl (by decide) dX11_letters_4 ?_
  refine WW.iload_n (pc := 5) (j := 0) rfl dX11_letters_5 ?_
  refine WW.if_ge (pc := 6) 12 dX11_letters_6 (by decide) (fun _ => ?_) (fun _ => ?_)
  · refine WW.aload_n (pc := 12) (j := 1) rfl dX11_letters_12 ?_
    refine WW.sgr (pc := 13) fl_X11_10_11 h3_3 (sh_3 ρ) (Or.inl ⟨_, gt_11_0⟩) (hr_3_0 ρ) dX11_letters_13 ?_
    refine WW.lload_n (pc := 16) (j := 2) rfl dX11_letters_16 ?_
    refine WW.iload_n (pc := 17) (j := 0) rfl dX11_letters_17 ?_
    refine WW.callV (pc := 18) (As := [.long a1, .int r1]) (st := []) lk_X11_74 (okX7_append g ρ hρ d a1 r1) h3_4 (sh_4 ρ) ⟨_, _, clk7⟩ rfl (Nat.le_of_ble_eq_true rfl) ⟨Nat.le_of_ble_eq_true rfl, Nat.le_of_ble_eq_true rfl, Nat.le_of_ble_eq_true rfl, Nat.le_of_ble_eq_true rfl⟩ dX11_letters_18 rfl (fun r2 hr2 => ?_)
    show WW _ _ _ 21 _ [.int (b2i r2.1)] (full r2.2 ρ) 0 0 _
    refine WW.if_eqB (pc := 21) 34 dX11_letters_21 (by decide) (fun _ => ?_) (fun _ => ?_)
    · refine WW.aload_n (pc := 24) (j := 1) rfl dX11_letters_24 ?_
      refine WW.sgr (pc := 25) fl_X11_10_11 h3_3 (sh_3 ρ) (Or.inl ⟨_, gt_11_0⟩) (hr_3_0 ρ) dX11_letters_25 ?_
      refine WW.sgi (pc := 28) fl_X11_78_7 h3_4 (sh_4 ρ) (Or.inl gt_7_1) dX11_letters_28 ?_
      refine WW.goto (pc := 31) 36 dX11_letters_31 (by decide) ?_
      exact WW.ret rfl rfl (show RetI M_X11_letters 36 from dX11_letters_36) ⟨Nat.le_refl _, Nat.le_refl _⟩ rfl
    · refine WW.bipush (pc := 34) (-104) dX11_letters_34 rfl ?_
      exact WW.ret rfl rfl (show RetI M_X11_letters 36 from dX11_letters_36) ⟨Nat.le_refl _, Nat.le_refl _⟩ rfl
  · refine WW.bipush (pc := 9) (-102) dX11_letters_9 rfl ?_
    exact WW.ret rfl rfl (show RetI M_X11_letters 11 from dX11_letters_11) ⟨Nat.le_refl _, Nat.le_refl _⟩ rfl
def fX11_blank (ρ : Rh) (d : Dd) : Option (Int32 × Dd) :=
  bnd ((d_i d 4 1) : Int32) fun v1 =>
  bnd (dI d 4 1 0) fun d2 =>
  some (v1, d2)
set_option maxHeartbeats 4000000 in
set_option maxRecDepth 100000 in
theorem okX11_blank (g : Gx) (ρ : Rh) (hρ : Hr ρ) (d : Dd)  : CallR g M_X11_blank (eI ρ) [.ref 3] (full d ρ) (fX11_blank ρ d) := by
  refine CallR.intro rfl rfl (Nat.le_of_ble_eq_true rfl) (fun a ha => ⟨_, rfl⟩) ?_
  show WW g _ _ 0 [(0, .ref 3)] [] (full d ρ) 0 0 _
  unfold fX11_blank
  refine WW.aload_n (pc := 0) (j := 0) rfl dX11_blank_0 ?_
  refine WW.sgr (pc := 1) fl_X11_10_11 h3_3 (sh_3 ρ) (Or.inl ⟨_, gt_11_0⟩) (hr_3_0 ρ) dX11_blank_1 ?_
  refine WW.sgi (pc := 4) fl_X11_78_7 h3_4 (sh_4 ρ) (Or.inl gt_7_1) dX11_blank_4 ?_
  refine WW.nmi (fun v1 => ?_)
  refine WW.istore_n (pc := 7) [(1, .int v1), (0, .ref 3)] rfl (by decide) dX11_blank_7 ?_
  refine WW.aload_n (pc := 8) (j := 1) rfl dX11_blank_8 ?_
  refine WW.sgr (pc := 9) fl_X11_10_11 h3_3 (sh_3 ρ) (Or.inl ⟨_, gt_11_0⟩) (hr_3_0 ρ) dX11_blank_9 ?_
  refine WW.iconst (pc := 12) 0 dX11_blank_12 rfl ?_
  refine WW.spi (pc := 13) fp_X11_78_7 h3_4 (sh_4 ρ) gt_7_1 dX11_blank_13 (fun d2 => ?_)
  refine WW.iload_n (pc := 16) (j := 0) rfl dX11_blank_16 ?_
  exact WW.ret rfl rfl (show RetI M_X11_blank 17 from dX11_blank_17) ⟨Nat.le_refl _, Nat.le_refl _⟩ rfl
def fX7_letterHere (ρ : Rh) (d : Dd) : Option Int32 :=
  if (d_i d 4 2) < 0 then
    (some 0)
  else
    (if (d_i d 4 1) ≤ (d_i d 4 2) then
      (some 0)
    else
      (if 60 ≤ (d_i d 4 2) then
        (some 0)
      else
        (if inB (d_i d 4 2) 60 = true then
          (some (d_i d 5 (ix (d_i d 4 2))))
        else none)))
set_option maxHeartbeats 4000000 in
set_option maxRecDepth 100000 in
theorem okX7_letterHere (g : Gx) (ρ : Rh) (hρ : Hr ρ) (d : Dd)  : CallR g M_X7_letterHere (eIp ρ d) [.ref 4] (full d ρ) (fX7_letterHere ρ d) := by
  refine CallR.intro rfl rfl (Nat.le_of_ble_eq_true rfl) (fun a ha => ⟨_, rfl⟩) ?_
  show WW g _ _ 0 [(0, .ref 4)] [] (full d ρ) 0 0 _
  unfold fX7_letterHere
  refine WW.aload_n (pc := 0) (j := 0) rfl dX7_letterHere_0 ?_
  refine WW.sgi (pc := 1) fl_X7_25_7 h3_4 (sh_4 ρ) (Or.inl gt_7_2) dX7_letterHere_1 ?_
  refine WW.if_lt (pc := 4) 42 dX7_letterHere_4 (by decide) (fun _ => ?_) (fun _ => ?_)
  · refine WW.iconst (pc := 42) 0 dX7_letterHere_42 rfl ?_
    exact WW.ret rfl rfl (show RetI M_X7_letterHere 43 from dX7_letterHere_43) ⟨Nat.le_refl _, Nat.le_refl _⟩ rfl
  · refine WW.aload_n (pc := 7) (j := 0) rfl dX7_letterHere_7 ?_
    refine WW.sgi (pc := 8) fl_X7_25_7 h3_4 (sh_4 ρ) (Or.inl gt_7_2) dX7_letterHere_8 ?_
    refine WW.aload_n (pc := 11) (j := 0) rfl dX7_letterHere_11 ?_
    refine WW.sgi (pc := 12) fl_X7_21_7 h3_4 (sh_4 ρ) (Or.inl gt_7_1) dX7_letterHere_12 ?_
    refine WW.icmp_ge (pc := 15) 42 dX7_letterHere_15 (by decide) (fun _ => ?_) (fun _ => ?_)
    · refine WW.iconst (pc := 42) 0 dX7_letterHere_42 rfl ?_
      exact WW.ret rfl rfl (show RetI M_X7_letterHere 43 from dX7_letterHere_43) ⟨Nat.le_refl _, Nat.le_refl _⟩ rfl
    · refine WW.aload_n (pc := 18) (j := 0) rfl dX7_letterHere_18 ?_
      refine WW.sgi (pc := 19) fl_X7_25_7 h3_4 (sh_4 ρ) (Or.inl gt_7_2) dX7_letterHere_19 ?_
      refine WW.aload_n (pc := 22) (j := 0) rfl dX7_letterHere_22 ?_
      refine WW.sgr (pc := 23) fl_X7_9_7 h3_4 (sh_4 ρ) (Or.inr ⟨_, gt_7_0⟩) (hr_4_0 ρ) dX7_letterHere_23 ?_
      refine WW.alen (pc := 26) 60 (one_le h3_5) (Or.inl rfl) (sh_5 ρ) rfl dX7_letterHere_26 ?_
      refine WW.icmp_ge (pc := 27) 42 dX7_letterHere_27 (by decide) (fun _ => ?_) (fun _ => ?_)
      · refine WW.iconst (pc := 42) 0 dX7_letterHere_42 rfl ?_
        exact WW.ret rfl rfl (show RetI M_X7_letterHere 43 from dX7_letterHere_43) ⟨Nat.le_refl _, Nat.le_refl _⟩ rfl
      · refine WW.aload_n (pc := 30) (j := 0) rfl dX7_letterHere_30 ?_
        refine WW.sgr (pc := 31) fl_X7_9_7 h3_4 (sh_4 ρ) (Or.inr ⟨_, gt_7_0⟩) (hr_4_0 ρ) dX7_letterHere_31 ?_
        refine WW.aload_n (pc := 34) (j := 0) rfl dX7_letterHere_34 ?_
        refine WW.sgi (pc := 35) fl_X7_25_7 h3_4 (sh_4 ρ) (Or.inl gt_7_2) dX7_letterHere_35 ?_
        refine WW.siald (pc := 38) (one_le h3_5) (sh_5 ρ) dX7_letterHere_38 ?_
        refine WW.goto (pc := 39) 43 dX7_letterHere_39 (by decide) ?_
        exact WW.ret rfl rfl (show RetI M_X7_letterHere 43 from dX7_letterHere_43) ⟨Nat.le_refl _, Nat.le_refl _⟩ rfl
def fX7_reads (ρ : Rh) (d : Dd) (a1 : Int32) : Option (Bool × Dd) :=
  (fX7_letterHere ρ d).bind fun r1 =>
  jn (fun (x2 : Bool) =>
    jn (fun (x4 : Bool) =>
      bnd (dI d 4 2 ((d_i d 4 2) + (b2i x4))) fun d6 =>
      some (x2, d6)
      ) fun k5 =>
    if x2 = true then
      (k5 true)
    else
      (k5 false)
    ) fun k3 =>
  if r1 = a1 then
    (k3 true)
  else
    (k3 false)
set_option maxHeartbeats 4000000 in
set_option maxRecDepth 100000 in
theorem okX7_reads (g : Gx) (ρ : Rh) (hρ : Hr ρ) (d : Dd) (a1 : Int32) : CallR g M_X7_reads (eZ ρ) [.ref 4, .int a1] (full d ρ) (fX7_reads ρ d a1) := by
  refine CallR.intro rfl rfl (Nat.le_of_ble_eq_true rfl) (fun a ha => ⟨_, rfl⟩) ?_
  show WW g _ _ 0 [(0, .ref 4), (1, .int a1)] [] (full d ρ) 0 0 _
  unfold fX7_reads
  refine WW.aload_n (pc := 0) (j := 0) rfl dX7_reads_0 ?_
  refine WW.callV (pc := 1) (As := []) (st := []) lk_X7_54 (okX7_letterHere g ρ hρ d ) h3_4 (sh_4 ρ) ⟨_, _, clk7⟩ rfl (Nat.le_of_ble_eq_true rfl) ⟨Nat.le_of_ble_eq_true rfl, Nat.le_of_ble_eq_true rfl, Nat.le_of_ble_eq_true rfl, Nat.le_of_ble_eq_true rfl⟩ dX7_reads_1 rfl (fun r1 hr1 => ?_)
  show WW _ _ _ 4 _ [.int r1] (full d ρ) 0 0 _
  refine WW.iload_n (pc := 4) (j := 1) rfl dX7_reads_4 ?_
  refine WW.join (pj := 13) (Lj := fun (x2 : Bool) => [(0, .ref 4)]) (sj := fun (x2 : Bool) => [.int (b2i x2)]) (hj := fun (x2 : Bool) => full d ρ) (fun x2 => ?_) (fun k3 hk3 => ?_)
  · refine WW.istore_n (pc := 13) [(2, .int (b2i x2)), (0, .ref 4)] rfl (by decide) dX7_reads_13 ?_
    refine WW.aload_n (pc := 14) (j := 1) rfl dX7_reads_14 ?_
    refine WW.dup (pc := 15) rfl dX7_reads_15 ?_
    refine WW.sgi (pc := 16) fl_X7_25_7 h3_4 (sh_4 ρ) (Or.inl gt_7_2) dX7_reads_16 ?_
    refine WW.iload_n (pc := 19) (j := 0) rfl dX7_reads_19 ?_
    refine WW.join (pj := 28) (Lj := fun (x4 : Bool) => [(2, .int (b2i x2))]) (sj := fun (x4 : Bool) => [.int (b2i x4), .int (d_i d 4 2), .ref 4]) (hj := fun (x4 : Bool) => full d ρ) (fun x4 => ?_) (fun k5 hk5 => ?_)
    · refine WW.iadd (pc := 28) dX7_reads_28 ?_
      refine WW.spi (pc := 29) fp_X7_25_7 h3_4 (sh_4 ρ) gt_7_2 dX7_reads_29 (fun d6 => ?_)
      refine WW.iload_n (pc := 32) (j := 0) rfl dX7_reads_32 ?_
      exact WW.ret rfl rfl (show RetI M_X7_reads 33 from dX7_reads_33) ⟨Nat.le_refl _, Nat.le_refl _⟩ rfl
    · refine WW.if_eqB (pc := 20) 27 dX7_reads_20 (by decide) (fun _ => ?_) (fun _ => ?_)
      · refine WW.iconst (pc := 23) 1 dX7_reads_23 rfl ?_
        refine WW.goto (pc := 24) 28 dX7_reads_24 (by decide) ?_
        refine WW.sub [0] rfl ?_
        exact hk5 true
      · refine WW.iconst (pc := 27) 0 dX7_reads_27 rfl ?_
        refine WW.sub [0] rfl ?_
        exact hk5 false
  · refine WW.icmp_ne (pc := 5) 12 dX7_reads_5 (by decide) (fun _ => ?_) (fun _ => ?_)
    · refine WW.iconst (pc := 8) 1 dX7_reads_8 rfl ?_
      refine WW.goto (pc := 9) 13 dX7_reads_9 (by decide) ?_
      refine WW.sub [0] rfl ?_
      exact hk3 true
    · refine WW.iconst (pc := 12) 0 dX7_reads_12 rfl ?_
      refine WW.sub [0] rfl ?_
      exact hk3 false
def fX7_readNumber (ρ : Rh) (d : Dd) (a1 : Int32) (a2 : Int32) : Option (Int32 × Dd) :=
  lp (fun self2 (x1 : Int32 × Int32 × Dd) =>
    if a1 ≤ x1.2.1 then
      (some (x1.1, x1.2.2))
    else
      ((fX7_letterHere ρ x1.2.2).bind fun r3 =>
      jn (fun (x4 : Int32) =>
        if r3 < x4 then
          (some (x1.1, x1.2.2))
        else
          (if r3 ≤ 57 then
            (jn (fun (x6 : Int32) =>
              bnd (((x6 + r3) - 48) : Int32) fun v8 =>
              bnd (dI x1.2.2 4 2 ((d_i x1.2.2 4 2) + 1)) fun d9 =>
              self2 (v8, (x1.2.1 + 1), d9)
              ) fun k7 =>
            if x1.2.1 = 0 then
              (k7 0)
            else
              (k7 (x1.1 * 10)))
          else
            (some (x1.1, x1.2.2)))
        ) fun k5 =>
      if x1.2.1 = 0 then
        (k5 a2)
      else
        (k5 48))
    ) 6000 ((-1), 0, d)
set_option maxHeartbeats 4000000 in
set_option maxRecDepth 100000 in
theorem okX7_readNumber (g : Gx) (ρ : Rh) (hρ : Hr ρ) (d : Dd) (a1 : Int32) (a2 : Int32) : CallR g M_X7_readNumber (eI ρ) [.ref 4, .int a1, .int a2] (full d ρ) (fX7_readNumber ρ d a1 a2) := by
  refine CallR.intro rfl rfl (Nat.le_of_ble_eq_true rfl) (fun a ha => ⟨_, rfl⟩) ?_
  show WW g _ _ 0 [(0, .ref 4), (1, .int a1), (2, .int a2)] [] (full d ρ) 0 0 _
  unfold fX7_readNumber
  refine WW.iconst (pc := 0) (-1) dX7_readNumber_0 rfl ?_
  refine WW.istore_n (pc := 1) [(3, .int (-1)), (0, .ref 4), (1, .int a1), (2, .int a2)] rfl (by decide) dX7_readNumber_1 ?_
  refine WW.iconst (pc := 2) 0 dX7_readNumber_2 rfl ?_
  refine WW.istore (pc := 3) [(4, .int 0), (3, .int (-1)), (0, .ref 4), (1, .int a1), (2, .int a2)] rfl (by decide) dX7_readNumber_3 ?_
  refine WW.sub [2, 3, 4, 1, 0] rfl ?_
  refine WW.loop (pc := 5) (Lj := fun (x1 : Int32 × Int32 × Dd) => [(0, .ref 4), (1, .int a1), (2, .int a2), (3, .int x1.1), (4, .int x1.2.1)]) (hj := fun (x1 : Int32 × Int32 × Dd) => full x1.2.2 ρ) (fun self2 hself2 x1 => ?_) 6000 ((-1), 0, d)
  refine WW.iload (pc := 5) (j := 4) rfl dX7_readNumber_5 ?_
  refine WW.iload_n (pc := 7) (j := 1) rfl dX7_readNumber_7 ?_
  refine WW.icmp_ge (pc := 8) 78 dX7_readNumber_8 (by decide) (fun _ => ?_) (fun _ => ?_)
  · refine WW.iload_n (pc := 78) (j := 3) rfl dX7_readNumber_78 ?_
    exact WW.ret rfl rfl (show RetI M_X7_readNumber 79 from dX7_readNumber_79) ⟨Nat.le_refl _, Nat.le_refl _⟩ rfl
  · refine WW.aload_n (pc := 11) (j := 0) rfl dX7_readNumber_11 ?_
    refine WW.callV (pc := 12) (As := []) (st := []) lk_X7_54 (okX7_letterHere g ρ hρ x1.2.2 ) h3_4 (sh_4 ρ) ⟨_, _, clk7⟩ rfl (Nat.le_of_ble_eq_true rfl) ⟨Nat.le_of_ble_eq_true rfl, Nat.le_of_ble_eq_true rfl, Nat.le_of_ble_eq_true rfl, Nat.le_of_ble_eq_true rfl⟩ dX7_readNumber_12 rfl (fun r3 hr3 => ?_)
    show WW _ _ _ 15 _ [.int r3] (full x1.2.2 ρ) 0 0 _
    refine WW.istore (pc := 15) [(5, .int r3), (0, .ref 4), (1, .int a1), (2, .int a2), (3, .int x1.1), (4, .int x1.2.1)] rfl (by decide) dX7_readNumber_15 ?_
    refine WW.iload (pc := 17) (j := 0) rfl dX7_readNumber_17 ?_
    refine WW.iload (pc := 19) (j := 5) rfl dX7_readNumber_19 ?_
    refine WW.join (pj := 30) (Lj := fun (x4 : Int32) => [(0, .ref 4), (1, .int a1), (2, .int a2), (3, .int x1.1), (4, .int x1.2.1), (5, .int r3)]) (sj := fun (x4 : Int32) => [.int x4, .int r3]) (hj := fun (x4 : Int32) => full x1.2.2 ρ) (fun x4 => ?_) (fun k5 hk5 => ?_)
    · refine WW.icmp_lt (pc := 30) 40 dX7_readNumber_30 (by decide) (fun _ => ?_) (fun _ => ?_)
      · refine WW.iload_n (pc := 40) (j := 3) rfl dX7_readNumber_40 ?_
        exact WW.ret rfl rfl (show RetI M_X7_readNumber 41 from dX7_readNumber_41) ⟨Nat.le_refl _, Nat.le_refl _⟩ rfl
      · refine WW.iload (pc := 33) (j := 5) rfl dX7_readNumber_33 ?_
        refine WW.bipush (pc := 35) 57 dX7_readNumber_35 rfl ?_
        refine WW.icmp_le (pc := 37) 42 dX7_readNumber_37 (by decide) (fun _ => ?_) (fun _ => ?_)
        · refine WW.iload (pc := 42) (j := 4) rfl dX7_readNumber_42 ?_
          refine WW.join (pj := 55) (Lj := fun (x6 : Int32) => [(0, .ref 4), (1, .int a1), (2, .int a2), (4, .int x1.2.1), (5, .int r3)]) (sj := fun (x6 : Int32) => [.int x6]) (hj := fun (x6 : Int32) => full x1.2.2 ρ) (fun x6 => ?_) (fun k7 hk7 => ?_)
          · refine WW.iload (pc := 55) (j := 4) rfl dX7_readNumber_55 ?_
            refine WW.iadd (pc := 57) dX7_readNumber_57 ?_
            refine WW.bipush (pc := 58) 48 dX7_readNumber_58 rfl ?_
            refine WW.isub (pc := 60) dX7_readNumber_60 ?_
            refine WW.nmi (fun v8 => ?_)
            refine WW.istore_n (pc := 61) [(3, .int v8), (0, .ref 4), (1, .int a1), (2, .int a2), (4, .int x1.2.1), (5, .int r3)] rfl (by decide) dX7_readNumber_61 ?_
            refine WW.aload_n (pc := 62) (j := 1) rfl dX7_readNumber_62 ?_
            refine WW.dup (pc := 63) rfl dX7_readNumber_63 ?_
            refine WW.sgi (pc := 64) fl_X7_25_7 h3_4 (sh_4 ρ) (Or.inl gt_7_2) dX7_readNumber_64 ?_
            refine WW.iconst (pc := 67) 1 dX7_readNumber_67 rfl ?_
            refine WW.iadd (pc := 68) dX7_readNumber_68 ?_
            refine WW.spi (pc := 69) fp_X7_25_7 h3_4 (sh_4 ρ) gt_7_2 dX7_readNumber_69 (fun d9 => ?_)
            refine WW.iinc (pc := 72) (j := 4) (x1.2.1 + 1) [(4, .int (x1.2.1 + 1)), (3, .int v8), (0, .ref 4), (1, .int a1), (2, .int a2), (5, .int r3)] rfl rfl rfl (by decide) dX7_readNumber_72 ?_
            refine WW.goto (pc := 75) 5 dX7_readNumber_75 (by decide) ?_
            refine WW.sub [2, 3, 4, 1, 0] rfl ?_
            exact hself2 (v8, (x1.2.1 + 1), d9)
          · refine WW.if_ne (pc := 44) 51 dX7_readNumber_44 (by decide) (fun _ => ?_) (fun _ => ?_)
            · refine WW.iconst (pc := 47) 0 dX7_readNumber_47 rfl ?_
              refine WW.goto (pc := 48) 55 dX7_readNumber_48 (by decide) ?_
              refine WW.sub [0, 1, 2, 4, 5] rfl ?_
              exact hk7 0
            · refine WW.iload_n (pc := 51) (j := 3) rfl dX7_readNumber_51 ?_
              refine WW.bipush (pc := 52) 10 dX7_readNumber_52 rfl ?_
              refine WW.imul (pc := 54) dX7_readNumber_54 ?_
              refine WW.sub [0, 1, 2, 4, 5] rfl ?_
              exact hk7 (x1.1 * 10)
        · refine WW.iload_n (pc := 40) (j := 3) rfl dX7_readNumber_40 ?_
          exact WW.ret rfl rfl (show RetI M_X7_readNumber 41 from dX7_readNumber_41) ⟨Nat.le_refl _, Nat.le_refl _⟩ rfl
    · refine WW.if_ne (pc := 21) 28 dX7_readNumber_21 (by decide) (fun _ => ?_) (fun _ => ?_)
      · refine WW.iload_n (pc := 24) (j := 3) rfl dX7_readNumber_24 ?_
        refine WW.goto (pc := 25) 30 dX7_readNumber_25 (by decide) ?_
        refine WW.sub [1, 2, 3, 4, 5, 0] rfl ?_
        exact hk5 a2
      · refine WW.bipush (pc := 28) 48 dX7_readNumber_28 rfl ?_
        refine WW.sub [1, 2, 3, 4, 5, 0] rfl ?_
        exact hk5 48
def fX5_append (ρ : Rh) (d : Dd) (o : Nat) (a1 : Int32) (a2 : Int32) : Option (Bool × Dd) :=
  if (d_i d o 2) < 0 then
    (some (false, d))
  else
    (if 4 ≤ (d_i d o 2) then
      (some (false, d))
    else
      (if (d_i d o 2) < 4 then
        (if inB (d_i d o 2) 4 = true then
          (bnd (dI d (o + 1) (ix (d_i d o 2)) a1) fun d1 =>
          if inB (d_i d1 o 2) 4 = true then
            (bnd (dI d1 (o + 2) (ix (d_i d1 o 2)) a2) fun d2 =>
            bnd (dI d2 o 3 ((d_i d2 o 3) + a1)) fun d3 =>
            bnd (dI d3 o 2 ((d_i d3 o 2) + 1)) fun d4 =>
            some (true, d4))
          else none)
        else none)
      else
        (some (false, d))))
set_option maxHeartbeats 4000000 in
set_option maxRecDepth 100000 in
theorem okX5_append (g : Gx) (ρ : Rh) (hρ : Hr ρ) (d : Dd) (o : Nat) (a1 : Int32) (a2 : Int32) (ho : o = 6 ∨ o = 9) : CallR g M_X5_append (eZ ρ) [.ref o, .int a1, .int a2] (full d ρ) (fX5_append ρ d o a1 a2) := by
  refine CallR.intro rfl rfl (Nat.le_of_ble_eq_true rfl) (fun a ha => ⟨_, rfl⟩) ?_
  show WW g _ _ 0 [(0, .ref o), (1, .int a1), (2, .int a2)] [] (full d ρ) 0 0 _
  unfold fX5_append
  refine WW.aload_n (pc := 0) (j := 0) rfl dX5_append_0 ?_
  refine WW.sgi (pc := 1) fl_X5_18_5 (mk3 ho) (mkS ho) (Or.inl gt_5_2) dX5_append_1 ?_
  refine WW.if_lt (pc := 4) 31 dX5_append_4 (by decide) (fun _ => ?_) (fun _ => ?_)
  · refine WW.iconst (pc := 31) 0 dX5_append_31 rfl ?_
    exact WW.ret rfl rfl (show RetI M_X5_append 32 from dX5_append_32) ⟨Nat.le_refl _, Nat.le_refl _⟩ rfl
  · refine WW.aload_n (pc := 7) (j := 0) rfl dX5_append_7 ?_
    refine WW.sgi (pc := 8) fl_X5_18_5 (mk3 ho) (mkS ho) (Or.inl gt_5_2) dX5_append_8 ?_
    refine WW.aload_n (pc := 11) (j := 0) rfl dX5_append_11 ?_
    refine WW.sgr (pc := 12) fl_X5_9_5 (mk3 ho) (mkS ho) (Or.inr ⟨_, gt_5_4⟩) (hrM1 ρ ho) dX5_append_12 ?_
    refine WW.alen (pc := 15) 4 (one_le (mk31 ho)) (Or.inl rfl) (mkS1 ho) rfl dX5_append_15 ?_
    refine WW.icmp_ge (pc := 16) 31 dX5_append_16 (by decide) (fun _ => ?_) (fun _ => ?_)
    · refine WW.iconst (pc := 31) 0 dX5_append_31 rfl ?_
      exact WW.ret rfl rfl (show RetI M_X5_append 32 from dX5_append_32) ⟨Nat.le_refl _, Nat.le_refl _⟩ rfl
    · refine WW.aload_n (pc := 19) (j := 0) rfl dX5_append_19 ?_
      refine WW.sgi (pc := 20) fl_X5_18_5 (mk3 ho) (mkS ho) (Or.inl gt_5_2) dX5_append_20 ?_
      refine WW.aload_n (pc := 23) (j := 0) rfl dX5_append_23 ?_
      refine WW.sgr (pc := 24) fl_X5_15_5 (mk3 ho) (mkS ho) (Or.inr ⟨_, gt_5_5⟩) (hrM2 ρ ho) dX5_append_24 ?_
      refine WW.alen (pc := 27) 4 (one_le (mk32 ho)) (Or.inl rfl) (mkS2 ho) rfl dX5_append_27 ?_
      refine WW.icmp_lt (pc := 28) 33 dX5_append_28 (by decide) (fun _ => ?_) (fun _ => ?_)
      · refine WW.aload_n (pc := 33) (j := 0) rfl dX5_append_33 ?_
        refine WW.sgr (pc := 34) fl_X5_9_5 (mk3 ho) (mkS ho) (Or.inr ⟨_, gt_5_4⟩) (hrM1 ρ ho) dX5_append_34 ?_
        refine WW.aload_n (pc := 37) (j := 0) rfl dX5_append_37 ?_
        refine WW.sgi (pc := 38) fl_X5_18_5 (mk3 ho) (mkS ho) (Or.inl gt_5_2) dX5_append_38 ?_
        refine WW.iload_n (pc := 41) (j := 1) rfl dX5_append_41 ?_
        refine WW.siast (pc := 42) (mk31 ho) (mkS1 ho) dX5_append_42 (fun d1 => ?_)
        refine WW.aload_n (pc := 43) (j := 0) rfl dX5_append_43 ?_
        refine WW.sgr (pc := 44) fl_X5_15_5 (mk3 ho) (mkS ho) (Or.inr ⟨_, gt_5_5⟩) (hrM2 ρ ho) dX5_append_44 ?_
        refine WW.aload_n (pc := 47) (j := 0) rfl dX5_append_47 ?_
        refine WW.sgi (pc := 48) fl_X5_18_5 (mk3 ho) (mkS ho) (Or.inl gt_5_2) dX5_append_48 ?_
        refine WW.iload_n (pc := 51) (j := 2) rfl dX5_append_51 ?_
        refine WW.siast (pc := 52) (mk32 ho) (mkS2 ho) dX5_append_52 (fun d2 => ?_)
        refine WW.aload_n (pc := 53) (j := 0) rfl dX5_append_53 ?_
        refine WW.dup (pc := 54) rfl dX5_append_54 ?_
        refine WW.sgi (pc := 55) fl_X5_22_5 (mk3 ho) (mkS ho) (Or.inl gt_5_3) dX5_append_55 ?_
        refine WW.iload_n (pc := 58) (j := 1) rfl dX5_append_58 ?_
        refine WW.iadd (pc := 59) dX5_append_59 ?_
        refine WW.spi (pc := 60) fp_X5_22_5 (mk3 ho) (mkS ho) gt_5_3 dX5_append_60 (fun d3 => ?_)
        refine WW.aload_n (pc := 63) (j := 0) rfl dX5_append_63 ?_
        refine WW.dup (pc := 64) rfl dX5_append_64 ?_
        refine WW.sgi (pc := 65) fl_X5_18_5 (mk3 ho) (mkS ho) (Or.inl gt_5_2) dX5_append_65 ?_
        refine WW.iconst (pc := 68) 1 dX5_append_68 rfl ?_
        refine WW.iadd (pc := 69) dX5_append_69 ?_
        refine WW.spi (pc := 70) fp_X5_18_5 (mk3 ho) (mkS ho) gt_5_2 dX5_append_70 (fun d4 => ?_)
        refine WW.iconst (pc := 73) 1 dX5_append_73 rfl ?_
        exact WW.ret rfl rfl (show RetI M_X5_append 74 from dX5_append_74) ⟨Nat.le_refl _, Nat.le_refl _⟩ rfl
      · refine WW.iconst (pc := 31) 0 dX5_append_31 rfl ?_
        exact WW.ret rfl rfl (show RetI M_X5_append 32 from dX5_append_32) ⟨Nat.le_refl _, Nat.le_refl _⟩ rfl
def fX7_readInto (ρ : Rh) (d : Dd) (a1 : Nat) : Option (Bool × Dd) :=
  bnd (dI d 4 2 0) fun d1 =>
  bnd (dI d1 a1 2 0) fun d2 =>
  bnd (dI d2 a1 3 0) fun d3 =>
  (fX7_reads ρ d3 112).bind fun r4 =>
  if r4.1 = true then
    ((fX7_readNumber ρ r4.2 3 48).bind fun r5 =>
    bnd (dI r5.2 a1 0 r5.1) fun d6 =>
    if (d_i d6 a1 0) = (-1) then
      (some (false, d6))
    else
      ((fX7_reads ρ d6 115).bind fun r7 =>
      if r7.1 = true then
        ((fX7_readNumber ρ r7.2 1 49).bind fun r8 =>
        bnd (dI r8.2 a1 1 r8.1) fun d9 =>
        if (d_i d9 a1 1) = (-1) then
          (some (false, d9))
        else
          (jn (fun (x10 : Dd) =>
            if (d_i x10 a1 2) ≤ 0 then
              (some (false, x10))
            else
              (if (d_i x10 4 2) = (d_i x10 4 1) then
                (some (true, x10))
              else
                (some (false, x10)))
            ) fun k11 =>
          lp (fun self13 (x12 : Int32 × Dd) =>
            if 4 ≤ x12.1 then
              (k11 x12.2)
            else
              ((fX7_reads ρ x12.2 59).bind fun r14 =>
              if r14.1 = true then
                ((fX7_readNumber ρ r14.2 2 49).bind fun r15 =>
                if r15.1 = (-1) then
                  (some (false, r15.2))
                else
                  ((fX7_reads ρ r15.2 58).bind fun r16 =>
                  if r16.1 = true then
                    ((fX7_readNumber ρ r16.2 3 48).bind fun r17 =>
                    if r17.1 = (-1) then
                      (some (false, r17.2))
                    else
                      ((fX5_append ρ r17.2 a1 r15.1 r17.1).bind fun r18 =>
                      if r18.1 = true then
                        (self13 ((x12.1 + 1), r18.2))
                      else
                        (some (false, r18.2))))
                  else
                    (some (false, r16.2))))
              else
                (k11 r14.2))
            ) 6000 (0, d9)))
      else
        (some (false, r7.2))))
  else
    (some (false, r4.2))
set_option maxHeartbeats 4000000 in
set_option maxRecDepth 100000 in
theorem okX7_readInto (g : Gx) (ρ : Rh) (hρ : Hr ρ) (d : Dd) (a1 : Nat) (ho1 : a1 = 6 ∨ a1 = 9) : CallR g M_X7_readInto (eZ ρ) [.ref 4, .ref a1] (full d ρ) (fX7_readInto ρ d a1) := by
  refine CallR.intro rfl rfl (Nat.le_of_ble_eq_true rfl) (fun a ha => ⟨_, rfl⟩) ?_
  show WW g _ _ 0 [(0, .ref 4), (1, .ref a1)] [] (full d ρ) 0 0 _
  unfold fX7_readInto
  refine WW.aload_n (pc := 0) (j := 0) rfl dX7_readInto_0 ?_
  refine WW.iconst (pc := 1) 0 dX7_readInto_1 rfl ?_
  refine WW.spi (pc := 2) fp_X7_25_7 h3_4 (sh_4 ρ) gt_7_2 dX7_readInto_2 (fun d1 => ?_)
  refine WW.aload_n (pc := 5) (j := 1) rfl dX7_readInto_5 ?_
  refine WW.iconst (pc := 6) 0 dX7_readInto_6 rfl ?_
  refine WW.spi (pc := 7) fp_X7_28_5 (mk3 ho1) (mkS ho1) gt_5_2 dX7_readInto_7 (fun d2 => ?_)
  refine WW.aload_n (pc := 10) (j := 1) rfl dX7_readInto_10 ?_
  refine WW.iconst (pc := 11) 0 dX7_readInto_11 rfl ?_
  refine WW.spi (pc := 12) fp_X7_33_5 (mk3 ho1) (mkS ho1) gt_5_3 dX7_readInto_12 (fun d3 => ?_)
  refine WW.aload_n (pc := 15) (j := 0) rfl dX7_readInto_15 ?_
  refine WW.bipush (pc := 16) 112 dX7_readInto_16 rfl ?_
  refine WW.callV (pc := 18) (As := [.int 112]) (st := []) lk_X7_36 (okX7_reads g ρ hρ d3 112) h3_4 (sh_4 ρ) ⟨_, _, clk7⟩ rfl (Nat.le_of_ble_eq_true rfl) ⟨Nat.le_of_ble_eq_true rfl, Nat.le_of_ble_eq_true rfl, Nat.le_of_ble_eq_true rfl, Nat.le_of_ble_eq_true rfl⟩ dX7_readInto_18 rfl (fun r4 hr4 => ?_)
  show WW _ _ _ 21 _ [.int (b2i r4.1)] (full r4.2 ρ) 0 0 _
  refine WW.if_neB (pc := 21) 26 dX7_readInto_21 (by decide) (fun _ => ?_) (fun _ => ?_)
  · refine WW.aload_n (pc := 26) (j := 1) rfl dX7_readInto_26 ?_
    refine WW.aload_n (pc := 27) (j := 0) rfl dX7_readInto_27 ?_
    refine WW.iconst (pc := 28) 3 dX7_readInto_28 rfl ?_
    refine WW.bipush (pc := 29) 48 dX7_readInto_29 rfl ?_
    refine WW.callV (pc := 31) (As := [.int 3, .int 48]) (st := [.ref a1]) lk_X7_40 (okX7_readNumber g ρ hρ r4.2 3 48) h3_4 (sh_4 ρ) ⟨_, _, clk7⟩ rfl (Nat.le_of_ble_eq_true rfl) ⟨Nat.le_of_ble_eq_true rfl, Nat.le_of_ble_eq_true rfl, Nat.le_of_ble_eq_true rfl, Nat.le_of_ble_eq_true rfl⟩ dX7_readInto_31 rfl (fun r5 hr5 => ?_)
    show WW _ _ _ 34 _ [.int r5.1, .ref a1] (full r5.2 ρ) 0 0 _
    refine WW.spi (pc := 34) fp_X7_44_5 (mk3 ho1) (mkS ho1) gt_5_0 dX7_readInto_34 (fun d6 => ?_)
    refine WW.aload_n (pc := 37) (j := 1) rfl dX7_readInto_37 ?_
    refine WW.sgi (pc := 38) fl_X7_44_5 (mk3 ho1) (mkS ho1) (Or.inl gt_5_0) dX7_readInto_38 ?_
    refine WW.iconst (pc := 41) (-1) dX7_readInto_41 rfl ?_
    refine WW.icmp_eq (pc := 42) 54 dX7_readInto_42 (by decide) (fun _ => ?_) (fun _ => ?_)
    · refine WW.iconst (pc := 54) 0 dX7_readInto_54 rfl ?_
      exact WW.ret rfl rfl (show RetI M_X7_readInto 55 from dX7_readInto_55) ⟨Nat.le_refl _, Nat.le_refl _⟩ rfl
    · refine WW.aload_n (pc := 45) (j := 0) rfl dX7_readInto_45 ?_
      refine WW.bipush (pc := 46) 115 dX7_readInto_46 rfl ?_
      refine WW.callV (pc := 48) (As := [.int 115]) (st := []) lk_X7_36 (okX7_reads g ρ hρ d6 115) h3_4 (sh_4 ρ) ⟨_, _, clk7⟩ rfl (Nat.le_of_ble_eq_true rfl) ⟨Nat.le_of_ble_eq_true rfl, Nat.le_of_ble_eq_true rfl, Nat.le_of_ble_eq_true rfl, Nat.le_of_ble_eq_true rfl⟩ dX7_readInto_48 rfl (fun r7 hr7 => ?_)
      show WW _ _ _ 51 _ [.int (b2i r7.1)] (full r7.2 ρ) 0 0 _
      refine WW.if_neB (pc := 51) 56 dX7_readInto_51 (by decide) (fun _ => ?_) (fun _ => ?_)
      · refine WW.aload_n (pc := 56) (j := 1) rfl dX7_readInto_56 ?_
        refine WW.aload_n (pc := 57) (j := 0) rfl dX7_readInto_57 ?_
        refine WW.iconst (pc := 58) 1 dX7_readInto_58 rfl ?_
        refine WW.bipush (pc := 59) 49 dX7_readInto_59 rfl ?_
        refine WW.callV (pc := 61) (As := [.int 1, .int 49]) (st := [.ref a1]) lk_X7_40 (okX7_readNumber g ρ hρ r7.2 1 49) h3_4 (sh_4 ρ) ⟨_, _, clk7⟩ rfl (Nat.le_of_ble_eq_true rfl) ⟨Nat.le_of_ble_eq_true rfl, Nat.le_of_ble_eq_true rfl, Nat.le_of_ble_eq_true rfl, Nat.le_of_ble_eq_true rfl⟩ dX7_readInto_61 rfl (fun r8 hr8 => ?_)
        show WW _ _ _ 64 _ [.int r8.1, .ref a1] (full r8.2 ρ) 0 0 _
        refine WW.spi (pc := 64) fp_X7_47_5 (mk3 ho1) (mkS ho1) gt_5_1 dX7_readInto_64 (fun d9 => ?_)
        refine WW.aload_n (pc := 67) (j := 1) rfl dX7_readInto_67 ?_
        refine WW.sgi (pc := 68) fl_X7_47_5 (mk3 ho1) (mkS ho1) (Or.inl gt_5_1) dX7_readInto_68 ?_
        refine WW.iconst (pc := 71) (-1) dX7_readInto_71 rfl ?_
        refine WW.icmp_ne (pc := 72) 77 dX7_readInto_72 (by decide) (fun _ => ?_) (fun _ => ?_)
        · refine WW.iconst (pc := 75) 0 dX7_readInto_75 rfl ?_
          exact WW.ret rfl rfl (show RetI M_X7_readInto 76 from dX7_readInto_76) ⟨Nat.le_refl _, Nat.le_refl _⟩ rfl
        · refine WW.iconst (pc := 77) 0 dX7_readInto_77 rfl ?_
          refine WW.istore_n (pc := 78) [(2, .int 0), (0, .ref 4), (1, .ref a1)] rfl (by decide) dX7_readInto_78 ?_
          refine WW.join (pj := 150) (Lj := fun (x10 : Dd) => [(0, .ref 4), (1, .ref a1)]) (sj := fun (x10 : Dd) => []) (hj := fun (x10 : Dd) => full x10 ρ) (fun x10 => ?_) (fun k11 hk11 => ?_)
          · refine WW.aload_n (pc := 150) (j := 1) rfl dX7_readInto_150 ?_
            refine WW.sgi (pc := 151) fl_X7_28_5 (mk3 ho1) (mkS ho1) (Or.inl gt_5_2) dX7_readInto_151 ?_
            refine WW.if_le (pc := 154) 172 dX7_readInto_154 (by decide) (fun _ => ?_) (fun _ => ?_)
            · refine WW.iconst (pc := 172) 0 dX7_readInto_172 rfl ?_
              exact WW.ret rfl rfl (show RetI M_X7_readInto 173 from dX7_readInto_173) ⟨Nat.le_refl _, Nat.le_refl _⟩ rfl
            · refine WW.aload_n (pc := 157) (j := 0) rfl dX7_readInto_157 ?_
              refine WW.sgi (pc := 158) fl_X7_25_7 h3_4 (sh_4 ρ) (Or.inl gt_7_2) dX7_readInto_158 ?_
              refine WW.aload_n (pc := 161) (j := 0) rfl dX7_readInto_161 ?_
              refine WW.sgi (pc := 162) fl_X7_21_7 h3_4 (sh_4 ρ) (Or.inl gt_7_1) dX7_readInto_162 ?_
              refine WW.icmp_ne (pc := 165) 172 dX7_readInto_165 (by decide) (fun _ => ?_) (fun _ => ?_)
              · refine WW.iconst (pc := 168) 1 dX7_readInto_168 rfl ?_
                refine WW.goto (pc := 169) 173 dX7_readInto_169 (by decide) ?_
                exact WW.ret rfl rfl (show RetI M_X7_readInto 173 from dX7_readInto_173) ⟨Nat.le_refl _, Nat.le_refl _⟩ rfl
              · refine WW.iconst (pc := 172) 0 dX7_readInto_172 rfl ?_
                exact WW.ret rfl rfl (show RetI M_X7_readInto 173 from dX7_readInto_173) ⟨Nat.le_refl _, Nat.le_refl _⟩ rfl
          · refine WW.sub [1, 2, 0] rfl ?_
            refine WW.loop (pc := 79) (Lj := fun (x12 : Int32 × Dd) => [(0, .ref 4), (1, .ref a1), (2, .int x12.1)]) (hj := fun (x12 : Int32 × Dd) => full x12.2 ρ) (fun self13 hself13 x12 => ?_) 6000 (0, d9)
            refine WW.iload_n (pc := 79) (j := 2) rfl dX7_readInto_79 ?_
            refine WW.iconst (pc := 80) 4 dX7_readInto_80 rfl ?_
            refine WW.icmp_ge (pc := 81) 150 dX7_readInto_81 (by decide) (fun _ => ?_) (fun _ => ?_)
            · refine WW.sub [0, 1] rfl ?_
              exact hk11 x12.2
            · refine WW.aload_n (pc := 84) (j := 0) rfl dX7_readInto_84 ?_
              refine WW.bipush (pc := 85) 59 dX7_readInto_85 rfl ?_
              refine WW.callV (pc := 87) (As := [.int 59]) (st := []) lk_X7_36 (okX7_reads g ρ hρ x12.2 59) h3_4 (sh_4 ρ) ⟨_, _, clk7⟩ rfl (Nat.le_of_ble_eq_true rfl) ⟨Nat.le_of_ble_eq_true rfl, Nat.le_of_ble_eq_true rfl, Nat.le_of_ble_eq_true rfl, Nat.le_of_ble_eq_true rfl⟩ dX7_readInto_87 rfl (fun r14 hr14 => ?_)
              show WW _ _ _ 90 _ [.int (b2i r14.1)] (full r14.2 ρ) 0 0 _
              refine WW.if_eqB (pc := 90) 150 dX7_readInto_90 (by decide) (fun _ => ?_) (fun _ => ?_)
              · refine WW.aload_n (pc := 93) (j := 0) rfl dX7_readInto_93 ?_
                refine WW.iconst (pc := 94) 2 dX7_readInto_94 rfl ?_
                refine WW.bipush (pc := 95) 49 dX7_readInto_95 rfl ?_
                refine WW.callV (pc := 97) (As := [.int 2, .int 49]) (st := []) lk_X7_40 (okX7_readNumber g ρ hρ r14.2 2 49) h3_4 (sh_4 ρ) ⟨_, _, clk7⟩ rfl (Nat.le_of_ble_eq_true rfl) ⟨Nat.le_of_ble_eq_true rfl, Nat.le_of_ble_eq_true rfl, Nat.le_of_ble_eq_true rfl, Nat.le_of_ble_eq_true rfl⟩ dX7_readInto_97 rfl (fun r15 hr15 => ?_)
                show WW _ _ _ 100 _ [.int r15.1] (full r15.2 ρ) 0 0 _
                refine WW.istore_n (pc := 100) [(3, .int r15.1), (0, .ref 4), (1, .ref a1), (2, .int x12.1)] rfl (by decide) dX7_readInto_100 ?_
                refine WW.iload_n (pc := 101) (j := 0) rfl dX7_readInto_101 ?_
                refine WW.iconst (pc := 102) (-1) dX7_readInto_102 rfl ?_
                refine WW.icmp_eq (pc := 103) 115 dX7_readInto_103 (by decide) (fun _ => ?_) (fun _ => ?_)
                · refine WW.iconst (pc := 115) 0 dX7_readInto_115 rfl ?_
                  exact WW.ret rfl rfl (show RetI M_X7_readInto 116 from dX7_readInto_116) ⟨Nat.le_refl _, Nat.le_refl _⟩ rfl
                · refine WW.aload_n (pc := 106) (j := 1) rfl dX7_readInto_106 ?_
                  refine WW.bipush (pc := 107) 58 dX7_readInto_107 rfl ?_
                  refine WW.callV (pc := 109) (As := [.int 58]) (st := []) lk_X7_36 (okX7_reads g ρ hρ r15.2 58) h3_4 (sh_4 ρ) ⟨_, _, clk7⟩ rfl (Nat.le_of_ble_eq_true rfl) ⟨Nat.le_of_ble_eq_true rfl, Nat.le_of_ble_eq_true rfl, Nat.le_of_ble_eq_true rfl, Nat.le_of_ble_eq_true rfl⟩ dX7_readInto_109 rfl (fun r16 hr16 => ?_)
                  show WW _ _ _ 112 _ [.int (b2i r16.1)] (full r16.2 ρ) 0 0 _
                  refine WW.if_neB (pc := 112) 117 dX7_readInto_112 (by decide) (fun _ => ?_) (fun _ => ?_)
                  · refine WW.aload_n (pc := 117) (j := 1) rfl dX7_readInto_117 ?_
                    refine WW.iconst (pc := 118) 3 dX7_readInto_118 rfl ?_
                    refine WW.bipush (pc := 119) 48 dX7_readInto_119 rfl ?_
                    refine WW.callV (pc := 121) (As := [.int 3, .int 48]) (st := []) lk_X7_40 (okX7_readNumber g ρ hρ r16.2 3 48) h3_4 (sh_4 ρ) ⟨_, _, clk7⟩ rfl (Nat.le_of_ble_eq_true rfl) ⟨Nat.le_of_ble_eq_true rfl, Nat.le_of_ble_eq_true rfl, Nat.le_of_ble_eq_true rfl, Nat.le_of_ble_eq_true rfl⟩ dX7_readInto_121 rfl (fun r17 hr17 => ?_)
                    show WW _ _ _ 124 _ [.int r17.1] (full r17.2 ρ) 0 0 _
                    refine WW.istore (pc := 124) [(4, .int r17.1), (3, .int r15.1), (0, .ref 4), (1, .ref a1), (2, .int x12.1)] rfl (by decide) dX7_readInto_124 ?_
                    refine WW.iload (pc := 126) (j := 0) rfl dX7_readInto_126 ?_
                    refine WW.iconst (pc := 128) (-1) dX7_readInto_128 rfl ?_
                    refine WW.icmp_eq (pc := 129) 142 dX7_readInto_129 (by decide) (fun _ => ?_) (fun _ => ?_)
                    · refine WW.iconst (pc := 142) 0 dX7_readInto_142 rfl ?_
                      exact WW.ret rfl rfl (show RetI M_X7_readInto 143 from dX7_readInto_143) ⟨Nat.le_refl _, Nat.le_refl _⟩ rfl
                    · refine WW.aload_n (pc := 132) (j := 3) rfl dX7_readInto_132 ?_
                      refine WW.iload_n (pc := 133) (j := 1) rfl dX7_readInto_133 ?_
                      refine WW.iload (pc := 134) (j := 0) rfl dX7_readInto_134 ?_
                      refine WW.callV (pc := 136) (As := [.int r15.1, .int r17.1]) (st := []) lk_X7_50 (okX5_append g ρ hρ r17.2 a1 r15.1 r17.1 ho1) (mk3 ho1) (mkS ho1) ⟨_, _, clk5⟩ rfl (Nat.le_of_ble_eq_true rfl) ⟨Nat.le_of_ble_eq_true rfl, Nat.le_of_ble_eq_true rfl, Nat.le_of_ble_eq_true rfl, Nat.le_of_ble_eq_true rfl⟩ dX7_readInto_136 rfl (fun r18 hr18 => ?_)
                      show WW _ _ _ 139 _ [.int (b2i r18.1)] (full r18.2 ρ) 0 0 _
                      refine WW.if_neB (pc := 139) 144 dX7_readInto_139 (by decide) (fun _ => ?_) (fun _ => ?_)
                      · refine WW.iinc (pc := 144) (j := 4) (x12.1 + 1) [(2, .int (x12.1 + 1)), (4, .int r17.1), (3, .int r15.1), (0, .ref 4), (1, .ref a1)] rfl rfl rfl (by decide) dX7_readInto_144 ?_
                        refine WW.goto (pc := 147) 79 dX7_readInto_147 (by decide) ?_
                        refine WW.sub [3, 4, 0] rfl ?_
                        exact hself13 ((x12.1 + 1), r18.2)
                      · refine WW.iconst (pc := 142) 0 dX7_readInto_142 rfl ?_
                        exact WW.ret rfl rfl (show RetI M_X7_readInto 143 from dX7_readInto_143) ⟨Nat.le_refl _, Nat.le_refl _⟩ rfl
                  · refine WW.iconst (pc := 115) 0 dX7_readInto_115 rfl ?_
                    exact WW.ret rfl rfl (show RetI M_X7_readInto 116 from dX7_readInto_116) ⟨Nat.le_refl _, Nat.le_refl _⟩ rfl
              · refine WW.sub [0, 1] rfl ?_
                exact hk11 r14.2
      · refine WW.iconst (pc := 54) 0 dX7_readInto_54 rfl ?_
        exact WW.ret rfl rfl (show RetI M_X7_readInto 55 from dX7_readInto_55) ⟨Nat.le_refl _, Nat.le_refl _⟩ rfl
  · refine WW.iconst (pc := 24) 0 dX7_readInto_24 rfl ?_
    exact WW.ret rfl rfl (show RetI M_X7_readInto 25 from dX7_readInto_25) ⟨Nat.le_refl _, Nat.le_refl _⟩ rfl
def fX11_fault (ρ : Rh) (d : Dd) : Option (Int32 × Dd) :=
  (fX7_readInto ρ d (15 - ρ.1)).bind fun r1 =>
  some ((d_i r1.2 4 2), r1.2)
set_option maxHeartbeats 4000000 in
set_option maxRecDepth 100000 in
theorem okX11_fault (g : Gx) (ρ : Rh) (hρ : Hr ρ) (d : Dd)  : CallR g M_X11_fault (eI ρ) [.ref 3] (full d ρ) (fX11_fault ρ d) := by
  refine CallR.intro rfl rfl (Nat.le_of_ble_eq_true rfl) (fun a ha => ⟨_, rfl⟩) ?_
  show WW g _ _ 0 [(0, .ref 3)] [] (full d ρ) 0 0 _
  unfold fX11_fault
  refine WW.aload_n (pc := 0) (j := 0) rfl dX11_fault_0 ?_
  refine WW.sgr (pc := 1) fl_X11_10_11 h3_3 (sh_3 ρ) (Or.inl ⟨_, gt_11_0⟩) (hr_3_0 ρ) dX11_fault_1 ?_
  refine WW.aload_n (pc := 4) (j := 0) rfl dX11_fault_4 ?_
  refine WW.sgr (pc := 5) fl_X11_23_11 h3_3 (sh_3 ρ) (Or.inl ⟨_, gt_11_2⟩) (hr_dr ρ) dX11_fault_5 ?_
  refine WW.callV (pc := 8) (As := [.ref (15 - ρ.1)]) (st := []) lk_X11_82 (okX7_readInto g ρ hρ d (15 - ρ.1) (ho_dr hρ)) h3_4 (sh_4 ρ) ⟨_, _, clk7⟩ rfl (Nat.le_of_ble_eq_true rfl) ⟨Nat.le_of_ble_eq_true rfl, Nat.le_of_ble_eq_true rfl, Nat.le_of_ble_eq_true rfl, Nat.le_of_ble_eq_true rfl⟩ dX11_fault_8 rfl (fun r1 hr1 => ?_)
  show WW _ _ _ 11 _ [.int (b2i r1.1)] (full r1.2 ρ) 0 0 _
  refine WW.pop (pc := 11) rfl dX11_fault_11 ?_
  refine WW.aload_n (pc := 12) (j := 0) rfl dX11_fault_12 ?_
  refine WW.sgr (pc := 13) fl_X11_10_11 h3_3 (sh_3 ρ) (Or.inl ⟨_, gt_11_0⟩) (hr_3_0 ρ) dX11_fault_13 ?_
  refine WW.sgi (pc := 16) fl_X11_86_7 h3_4 (sh_4 ρ) (Or.inl gt_7_2) dX11_fault_16 ?_
  exact WW.ret rfl rfl (show RetI M_X11_fault 19 from dX11_fault_19) ⟨Nat.le_refl _, Nat.le_refl _⟩ rfl
def fX11_unsettle (ρ : Rh) (d : Dd) : Option Dd :=
  lp (fun self2 (x1 : Int32 × Dd) =>
    if 128 ≤ x1.1 then
      (some x1.2)
    else
      (if inB x1.1 128 = true then
        (bnd (dI x1.2 20 (ix x1.1) 0) fun d3 =>
        self2 ((x1.1 + 1), d3))
      else none)
    ) 6000 (0, d)
set_option maxHeartbeats 4000000 in
set_option maxRecDepth 100000 in
theorem okX11_unsettle (g : Gx) (ρ : Rh) (hρ : Hr ρ) (d : Dd)  : CallR g M_X11_unsettle (eV ρ) [.ref 3] (full d ρ) (fX11_unsettle ρ d) := by
  refine CallR.intro rfl rfl (Nat.le_of_ble_eq_true rfl) (fun a ha => rfl) ?_
  show WW g _ _ 0 [(0, .ref 3)] [] (full d ρ) 0 0 _
  unfold fX11_unsettle
  refine WW.iconst (pc := 0) 0 dX11_unsettle_0 rfl ?_
  refine WW.istore_n (pc := 1) [(1, .int 0), (0, .ref 3)] rfl (by decide) dX11_unsettle_1 ?_
  refine WW.sub [1, 0] rfl ?_
  refine WW.loop (pc := 2) (Lj := fun (x1 : Int32 × Dd) => [(0, .ref 3), (1, .int x1.1)]) (hj := fun (x1 : Int32 × Dd) => full x1.2 ρ) (fun self2 hself2 x1 => ?_) 6000 (0, d)
  refine WW.iload_n (pc := 2) (j := 1) rfl dX11_unsettle_2 ?_
  refine WW.aload_n (pc := 3) (j := 0) rfl dX11_unsettle_3 ?_
  refine WW.sgr (pc := 4) fl_X11_58_11 h3_3 (sh_3 ρ) (Or.inr ⟨_, gt_11_11⟩) (hr_3_11 ρ) dX11_unsettle_4 ?_
  refine WW.alen (pc := 7) 128 (one_le h3_20) (Or.inr (Or.inr (Or.inl rfl))) (sh_20 ρ) rfl dX11_unsettle_7 ?_
  refine WW.icmp_ge (pc := 8) 24 dX11_unsettle_8 (by decide) (fun _ => ?_) (fun _ => ?_)
  · exact WW.ret rfl rfl (show RetI M_X11_unsettle 24 from dX11_unsettle_24) ⟨Nat.le_refl _, Nat.le_refl _⟩ rfl
  · refine WW.aload_n (pc := 11) (j := 0) rfl dX11_unsettle_11 ?_
    refine WW.sgr (pc := 12) fl_X11_58_11 h3_3 (sh_3 ρ) (Or.inr ⟨_, gt_11_11⟩) (hr_3_11 ρ) dX11_unsettle_12 ?_
    refine WW.iload_n (pc := 15) (j := 1) rfl dX11_unsettle_15 ?_
    refine WW.iconst (pc := 16) 0 dX11_unsettle_16 rfl ?_
    refine WW.szast (pc := 17) h3_20 (sh_20 ρ) rfl dX11_unsettle_17 (fun d3 => ?_)
    refine WW.iinc (pc := 18) (j := 1) (x1.1 + 1) [(1, .int (x1.1 + 1)), (0, .ref 3)] rfl rfl rfl (by decide) dX11_unsettle_18 ?_
    refine WW.goto (pc := 21) 2 dX11_unsettle_21 (by decide) ?_
    refine WW.sub [1, 0] rfl ?_
    exact hself2 ((x1.1 + 1), d3)
def fX11_isCase (ρ : Rh) (d : Dd) (a1 : Int32) : Option Bool :=
  if a1 < 0 then
    (some false)
  else
    (if (d_i d ρ.1 2) ≤ a1 then
      (some false)
    else
      (some true))
set_option maxHeartbeats 4000000 in
set_option maxRecDepth 100000 in
theorem okX11_isCase (g : Gx) (ρ : Rh) (hρ : Hr ρ) (d : Dd) (a1 : Int32) : CallR g M_X11_isCase (eZp ρ d) [.ref 3, .int a1] (full d ρ) (fX11_isCase ρ d a1) := by
  refine CallR.intro rfl rfl (Nat.le_of_ble_eq_true rfl) (fun a ha => ⟨_, rfl⟩) ?_
  show WW g _ _ 0 [(0, .ref 3), (1, .int a1)] [] (full d ρ) 0 0 _
  unfold fX11_isCase
  refine WW.iload_n (pc := 0) (j := 1) rfl dX11_isCase_0 ?_
  refine WW.if_lt (pc := 1) 19 dX11_isCase_1 (by decide) (fun _ => ?_) (fun _ => ?_)
  · refine WW.iconst (pc := 19) 0 dX11_isCase_19 rfl ?_
    exact WW.ret rfl rfl (show RetI M_X11_isCase 20 from dX11_isCase_20) ⟨Nat.le_refl _, Nat.le_refl _⟩ rfl
  · refine WW.iload_n (pc := 4) (j := 1) rfl dX11_isCase_4 ?_
    refine WW.aload_n (pc := 5) (j := 0) rfl dX11_isCase_5 ?_
    refine WW.sgr (pc := 6) fl_X11_19_11 h3_3 (sh_3 ρ) (Or.inl ⟨_, gt_11_1⟩) (hr_mk ρ) dX11_isCase_6 ?_
    refine WW.sgi (pc := 9) fl_X11_96_5 (mk3 hρ.1) (mkS hρ.1) (Or.inl gt_5_2) dX11_isCase_9 ?_
    refine WW.icmp_ge (pc := 12) 19 dX11_isCase_12 (by decide) (fun _ => ?_) (fun _ => ?_)
    · refine WW.iconst (pc := 19) 0 dX11_isCase_19 rfl ?_
      exact WW.ret rfl rfl (show RetI M_X11_isCase 20 from dX11_isCase_20) ⟨Nat.le_refl _, Nat.le_refl _⟩ rfl
    · refine WW.iconst (pc := 15) 1 dX11_isCase_15 rfl ?_
      refine WW.goto (pc := 16) 20 dX11_isCase_16 (by decide) ?_
      exact WW.ret rfl rfl (show RetI M_X11_isCase 20 from dX11_isCase_20) ⟨Nat.le_refl _, Nat.le_refl _⟩ rfl
def fX5_weightOf (ρ : Rh) (d : Dd) (o : Nat) (a1 : Int32) : Option Int32 :=
  if a1 < 0 then
    (some 0)
  else
    (if (d_i d o 2) ≤ a1 then
      (some 0)
    else
      (if 4 ≤ a1 then
        (some 0)
      else
        (if inB a1 4 = true then
          (some (d_i d (o + 1) (ix a1)))
        else none)))
set_option maxHeartbeats 4000000 in
set_option maxRecDepth 100000 in
theorem okX5_weightOf (g : Gx) (ρ : Rh) (hρ : Hr ρ) (d : Dd) (o : Nat) (a1 : Int32) (ho : o = 6 ∨ o = 9) : CallR g M_X5_weightOf (eIp ρ d) [.ref o, .int a1] (full d ρ) (fX5_weightOf ρ d o a1) := by
  refine CallR.intro rfl rfl (Nat.le_of_ble_eq_true rfl) (fun a ha => ⟨_, rfl⟩) ?_
  show WW g _ _ 0 [(0, .ref o), (1, .int a1)] [] (full d ρ) 0 0 _
  unfold fX5_weightOf
  refine WW.iload_n (pc := 0) (j := 1) rfl dX5_weightOf_0 ?_
  refine WW.if_lt (pc := 1) 30 dX5_weightOf_1 (by decide) (fun _ => ?_) (fun _ => ?_)
  · refine WW.iconst (pc := 30) 0 dX5_weightOf_30 rfl ?_
    exact WW.ret rfl rfl (show RetI M_X5_weightOf 31 from dX5_weightOf_31) ⟨Nat.le_refl _, Nat.le_refl _⟩ rfl
  · refine WW.iload_n (pc := 4) (j := 1) rfl dX5_weightOf_4 ?_
    refine WW.aload_n (pc := 5) (j := 0) rfl dX5_weightOf_5 ?_
    refine WW.sgi (pc := 6) fl_X5_18_5 (mk3 ho) (mkS ho) (Or.inl gt_5_2) dX5_weightOf_6 ?_
    refine WW.icmp_ge (pc := 9) 30 dX5_weightOf_9 (by decide) (fun _ => ?_) (fun _ => ?_)
    · refine WW.iconst (pc := 30) 0 dX5_weightOf_30 rfl ?_
      exact WW.ret rfl rfl (show RetI M_X5_weightOf 31 from dX5_weightOf_31) ⟨Nat.le_refl _, Nat.le_refl _⟩ rfl
    · refine WW.iload_n (pc := 12) (j := 1) rfl dX5_weightOf_12 ?_
      refine WW.aload_n (pc := 13) (j := 0) rfl dX5_weightOf_13 ?_
      refine WW.sgr (pc := 14) fl_X5_9_5 (mk3 ho) (mkS ho) (Or.inr ⟨_, gt_5_4⟩) (hrM1 ρ ho) dX5_weightOf_14 ?_
      refine WW.alen (pc := 17) 4 (one_le (mk31 ho)) (Or.inl rfl) (mkS1 ho) rfl dX5_weightOf_17 ?_
      refine WW.icmp_ge (pc := 18) 30 dX5_weightOf_18 (by decide) (fun _ => ?_) (fun _ => ?_)
      · refine WW.iconst (pc := 30) 0 dX5_weightOf_30 rfl ?_
        exact WW.ret rfl rfl (show RetI M_X5_weightOf 31 from dX5_weightOf_31) ⟨Nat.le_refl _, Nat.le_refl _⟩ rfl
      · refine WW.aload_n (pc := 21) (j := 0) rfl dX5_weightOf_21 ?_
        refine WW.sgr (pc := 22) fl_X5_9_5 (mk3 ho) (mkS ho) (Or.inr ⟨_, gt_5_4⟩) (hrM1 ρ ho) dX5_weightOf_22 ?_
        refine WW.iload_n (pc := 25) (j := 1) rfl dX5_weightOf_25 ?_
        refine WW.siald (pc := 26) (one_le (mk31 ho)) (mkS1 ho) dX5_weightOf_26 ?_
        refine WW.goto (pc := 27) 31 dX5_weightOf_27 (by decide) ?_
        exact WW.ret rfl rfl (show RetI M_X5_weightOf 31 from dX5_weightOf_31) ⟨Nat.le_refl _, Nat.le_refl _⟩ rfl
def fX5_valueOf (ρ : Rh) (d : Dd) (o : Nat) (a1 : Int32) : Option Int32 :=
  if a1 < 0 then
    (some 0)
  else
    (if (d_i d o 2) ≤ a1 then
      (some 0)
    else
      (if 4 ≤ a1 then
        (some 0)
      else
        (if inB a1 4 = true then
          (some (d_i d (o + 2) (ix a1)))
        else none)))
set_option maxHeartbeats 4000000 in
set_option maxRecDepth 100000 in
theorem okX5_valueOf (g : Gx) (ρ : Rh) (hρ : Hr ρ) (d : Dd) (o : Nat) (a1 : Int32) (ho : o = 6 ∨ o = 9) : CallR g M_X5_valueOf (eIp ρ d) [.ref o, .int a1] (full d ρ) (fX5_valueOf ρ d o a1) := by
  refine CallR.intro rfl rfl (Nat.le_of_ble_eq_true rfl) (fun a ha => ⟨_, rfl⟩) ?_
  show WW g _ _ 0 [(0, .ref o), (1, .int a1)] [] (full d ρ) 0 0 _
  unfold fX5_valueOf
  refine WW.iload_n (pc := 0) (j := 1) rfl dX5_valueOf_0 ?_
  refine WW.if_lt (pc := 1) 30 dX5_valueOf_1 (by decide) (fun _ => ?_) (fun _ => ?_)
  · refine WW.iconst (pc := 30) 0 dX5_valueOf_30 rfl ?_
    exact WW.ret rfl rfl (show RetI M_X5_valueOf 31 from dX5_valueOf_31) ⟨Nat.le_refl _, Nat.le_refl _⟩ rfl
  · refine WW.iload_n (pc := 4) (j := 1) rfl dX5_valueOf_4 ?_
    refine WW.aload_n (pc := 5) (j := 0) rfl dX5_valueOf_5 ?_
    refine WW.sgi (pc := 6) fl_X5_18_5 (mk3 ho) (mkS ho) (Or.inl gt_5_2) dX5_valueOf_6 ?_
    refine WW.icmp_ge (pc := 9) 30 dX5_valueOf_9 (by decide) (fun _ => ?_) (fun _ => ?_)
    · refine WW.iconst (pc := 30) 0 dX5_valueOf_30 rfl ?_
      exact WW.ret rfl rfl (show RetI M_X5_valueOf 31 from dX5_valueOf_31) ⟨Nat.le_refl _, Nat.le_refl _⟩ rfl
    · refine WW.iload_n (pc := 12) (j := 1) rfl dX5_valueOf_12 ?_
      refine WW.aload_n (pc := 13) (j := 0) rfl dX5_valueOf_13 ?_
      refine WW.sgr (pc := 14) fl_X5_15_5 (mk3 ho) (mkS ho) (Or.inr ⟨_, gt_5_5⟩) (hrM2 ρ ho) dX5_valueOf_14 ?_
      refine WW.alen (pc := 17) 4 (one_le (mk32 ho)) (Or.inl rfl) (mkS2 ho) rfl dX5_valueOf_17 ?_
      refine WW.icmp_ge (pc := 18) 30 dX5_valueOf_18 (by decide) (fun _ => ?_) (fun _ => ?_)
      · refine WW.iconst (pc := 30) 0 dX5_valueOf_30 rfl ?_
        exact WW.ret rfl rfl (show RetI M_X5_valueOf 31 from dX5_valueOf_31) ⟨Nat.le_refl _, Nat.le_refl _⟩ rfl
      · refine WW.aload_n (pc := 21) (j := 0) rfl dX5_valueOf_21 ?_
        refine WW.sgr (pc := 22) fl_X5_15_5 (mk3 ho) (mkS ho) (Or.inr ⟨_, gt_5_5⟩) (hrM2 ρ ho) dX5_valueOf_22 ?_
        refine WW.iload_n (pc := 25) (j := 1) rfl dX5_valueOf_25 ?_
        refine WW.siald (pc := 26) (one_le (mk32 ho)) (mkS2 ho) dX5_valueOf_26 ?_
        refine WW.goto (pc := 27) 31 dX5_valueOf_27 (by decide) ?_
        exact WW.ret rfl rfl (show RetI M_X5_valueOf 31 from dX5_valueOf_31) ⟨Nat.le_refl _, Nat.le_refl _⟩ rfl
def fX11_told (ρ : Rh) (d : Dd) (a1 : Int32) (a2 : Int32) : Option Int32 :=
  if (d_i d 3 3) = 0 then
    (some (-101))
  else
    (jn (fun (x1 : Unit) =>
      jn (fun (x3 : Unit) =>
        if a1 = (-1) then
          (if a2 = 0 then
            (some (d_i d ρ.1 0))
          else
            (some (d_i d ρ.1 1)))
        else
          (if a2 = 0 then
            ((fX5_weightOf ρ d ρ.1 a1).bind fun r5 =>
            some r5)
          else
            ((fX5_valueOf ρ d ρ.1 a1).bind fun r6 =>
            some r6))
        ) fun k4 =>
      if a2 = 0 then
        (k4 ())
      else
        (if a2 = 1 then
          (k4 ())
        else
          (some (-102)))
      ) fun k2 =>
    if a1 = (-1) then
      (k2 ())
    else
      ((fX11_isCase ρ d a1).bind fun r7 =>
      if r7 = true then
        (k2 ())
      else
        (some (-101))))
set_option maxHeartbeats 4000000 in
set_option maxRecDepth 100000 in
theorem okX11_told (g : Gx) (ρ : Rh) (hρ : Hr ρ) (d : Dd) (a1 : Int32) (a2 : Int32) : CallR g M_X11_told (eIp ρ d) [.ref 3, .int a1, .int a2] (full d ρ) (fX11_told ρ d a1 a2) := by
  refine CallR.intro rfl rfl (Nat.le_of_ble_eq_true rfl) (fun a ha => ⟨_, rfl⟩) ?_
  show WW g _ _ 0 [(0, .ref 3), (1, .int a1), (2, .int a2)] [] (full d ρ) 0 0 _
  unfold fX11_told
  refine WW.aload_n (pc := 0) (j := 0) rfl dX11_told_0 ?_
  refine WW.sgi (pc := 1) fl_X11_89_11 h3_3 (sh_3 ρ) (Or.inr gt_11_3) dX11_told_1 ?_
  refine WW.if_eq (pc := 4) 20 dX11_told_4 (by decide) (fun _ => ?_) (fun _ => ?_)
  · refine WW.bipush (pc := 20) (-101) dX11_told_20 rfl ?_
    exact WW.ret rfl rfl (show RetI M_X11_told 22 from dX11_told_22) ⟨Nat.le_refl _, Nat.le_refl _⟩ rfl
  · refine WW.iload_n (pc := 7) (j := 1) rfl dX11_told_7 ?_
    refine WW.iconst (pc := 8) (-1) dX11_told_8 rfl ?_
    refine WW.join (pj := 23) (Lj := fun (x1 : Unit) => [(0, .ref 3), (1, .int a1), (2, .int a2)]) (sj := fun (x1 : Unit) => []) (hj := fun (x1 : Unit) => full d ρ) (fun x1 => ?_) (fun k2 hk2 => ?_)
    · refine WW.iload_n (pc := 23) (j := 2) rfl dX11_told_23 ?_
      refine WW.join (pj := 35) (Lj := fun (x3 : Unit) => [(0, .ref 3), (1, .int a1), (2, .int a2)]) (sj := fun (x3 : Unit) => []) (hj := fun (x3 : Unit) => full d ρ) (fun x3 => ?_) (fun k4 hk4 => ?_)
      · refine WW.iload_n (pc := 35) (j := 1) rfl dX11_told_35 ?_
        refine WW.iconst (pc := 36) (-1) dX11_told_36 rfl ?_
        refine WW.icmp_ne (pc := 37) 62 dX11_told_37 (by decide) (fun _ => ?_) (fun _ => ?_)
        · refine WW.iload_n (pc := 40) (j := 2) rfl dX11_told_40 ?_
          refine WW.if_ne (pc := 41) 54 dX11_told_41 (by decide) (fun _ => ?_) (fun _ => ?_)
          · refine WW.aload_n (pc := 44) (j := 0) rfl dX11_told_44 ?_
            refine WW.sgr (pc := 45) fl_X11_19_11 h3_3 (sh_3 ρ) (Or.inl ⟨_, gt_11_1⟩) (hr_mk ρ) dX11_told_45 ?_
            refine WW.sgi (pc := 48) fl_X11_103_5 (mk3 hρ.1) (mkS hρ.1) (Or.inl gt_5_0) dX11_told_48 ?_
            refine WW.goto (pc := 51) 61 dX11_told_51 (by decide) ?_
            exact WW.ret rfl rfl (show RetI M_X11_told 61 from dX11_told_61) ⟨Nat.le_refl _, Nat.le_refl _⟩ rfl
          · refine WW.aload_n (pc := 54) (j := 0) rfl dX11_told_54 ?_
            refine WW.sgr (pc := 55) fl_X11_19_11 h3_3 (sh_3 ρ) (Or.inl ⟨_, gt_11_1⟩) (hr_mk ρ) dX11_told_55 ?_
            refine WW.sgi (pc := 58) fl_X11_106_5 (mk3 hρ.1) (mkS hρ.1) (Or.inl gt_5_1) dX11_told_58 ?_
            exact WW.ret rfl rfl (show RetI M_X11_told 61 from dX11_told_61) ⟨Nat.le_refl _, Nat.le_refl _⟩ rfl
        · refine WW.iload_n (pc := 62) (j := 2) rfl dX11_told_62 ?_
          refine WW.if_ne (pc := 63) 77 dX11_told_63 (by decide) (fun _ => ?_) (fun _ => ?_)
          · refine WW.aload_n (pc := 66) (j := 0) rfl dX11_told_66 ?_
            refine WW.sgr (pc := 67) fl_X11_19_11 h3_3 (sh_3 ρ) (Or.inl ⟨_, gt_11_1⟩) (hr_mk ρ) dX11_told_67 ?_
            refine WW.iload_n (pc := 70) (j := 1) rfl dX11_told_70 ?_
            refine WW.callV (pc := 71) (As := [.int a1]) (st := []) lk_X11_109 (okX5_weightOf g ρ hρ d ρ.1 a1 hρ.1) (mk3 hρ.1) (mkS hρ.1) ⟨_, _, clk5⟩ rfl (Nat.le_of_ble_eq_true rfl) ⟨Nat.le_of_ble_eq_true rfl, Nat.le_of_ble_eq_true rfl, Nat.le_of_ble_eq_true rfl, Nat.le_of_ble_eq_true rfl⟩ dX11_told_71 rfl (fun r5 hr5 => ?_)
            show WW _ _ _ 74 _ [.int r5] (full d ρ) 0 0 _
            refine WW.goto (pc := 74) 85 dX11_told_74 (by decide) ?_
            exact WW.ret rfl rfl (show RetI M_X11_told 85 from dX11_told_85) ⟨Nat.le_refl _, Nat.le_refl _⟩ rfl
          · refine WW.aload_n (pc := 77) (j := 0) rfl dX11_told_77 ?_
            refine WW.sgr (pc := 78) fl_X11_19_11 h3_3 (sh_3 ρ) (Or.inl ⟨_, gt_11_1⟩) (hr_mk ρ) dX11_told_78 ?_
            refine WW.iload_n (pc := 81) (j := 1) rfl dX11_told_81 ?_
            refine WW.callV (pc := 82) (As := [.int a1]) (st := []) lk_X11_113 (okX5_valueOf g ρ hρ d ρ.1 a1 hρ.1) (mk3 hρ.1) (mkS hρ.1) ⟨_, _, clk5⟩ rfl (Nat.le_of_ble_eq_true rfl) ⟨Nat.le_of_ble_eq_true rfl, Nat.le_of_ble_eq_true rfl, Nat.le_of_ble_eq_true rfl, Nat.le_of_ble_eq_true rfl⟩ dX11_told_82 rfl (fun r6 hr6 => ?_)
            show WW _ _ _ 85 _ [.int r6] (full d ρ) 0 0 _
            exact WW.ret rfl rfl (show RetI M_X11_told 85 from dX11_told_85) ⟨Nat.le_refl _, Nat.le_refl _⟩ rfl
      · refine WW.if_eq (pc := 24) 35 dX11_told_24 (by decide) (fun _ => ?_) (fun _ => ?_)
        · exact hk4 ()
        · refine WW.iload_n (pc := 27) (j := 2) rfl dX11_told_27 ?_
          refine WW.iconst (pc := 28) 1 dX11_told_28 rfl ?_
          refine WW.icmp_eq (pc := 29) 35 dX11_told_29 (by decide) (fun _ => ?_) (fun _ => ?_)
          · exact hk4 ()
          · refine WW.bipush (pc := 32) (-102) dX11_told_32 rfl ?_
            exact WW.ret rfl rfl (show RetI M_X11_told 34 from dX11_told_34) ⟨Nat.le_refl _, Nat.le_refl _⟩ rfl
    · refine WW.icmp_eq (pc := 9) 23 dX11_told_9 (by decide) (fun _ => ?_) (fun _ => ?_)
      · exact hk2 ()
      · refine WW.aload_n (pc := 12) (j := 0) rfl dX11_told_12 ?_
        refine WW.iload_n (pc := 13) (j := 1) rfl dX11_told_13 ?_
        refine WW.callV (pc := 14) (As := [.int a1]) (st := []) lk_X11_99 (okX11_isCase g ρ hρ d a1) h3_3 (sh_3 ρ) ⟨_, _, clk11⟩ rfl (Nat.le_of_ble_eq_true rfl) ⟨Nat.le_of_ble_eq_true rfl, Nat.le_of_ble_eq_true rfl, Nat.le_of_ble_eq_true rfl, Nat.le_of_ble_eq_true rfl⟩ dX11_told_14 rfl (fun r7 hr7 => ?_)
        show WW _ _ _ 17 _ [.int (b2i r7)] (full d ρ) 0 0 _
        refine WW.if_neB (pc := 17) 23 dX11_told_17 (by decide) (fun _ => ?_) (fun _ => ?_)
        · exact hk2 ()
        · refine WW.bipush (pc := 20) (-101) dX11_told_20 rfl ?_
          exact WW.ret rfl rfl (show RetI M_X11_told 22 from dX11_told_22) ⟨Nat.le_refl _, Nat.le_refl _⟩ rfl
