def fX12_in (a0 : Int64) (a2 : Int64) (a4 : Int64) : Option Bool :=
  if a0 < a2 then
    (some false)
  else
    (if a4 < a0 then
      (some false)
    else
      (some true))
set_option maxHeartbeats 4000000 in
set_option maxRecDepth 100000 in
theorem okX12_in (g : Gx) (ρ : Rh) (hρ : Hr ρ) (d : Dd) (a0 : Int64) (a2 : Int64) (a4 : Int64) : CallR g M_X12_in (eZp ρ d) [.long a0, .long a2, .long a4] (full d ρ) (fX12_in a0 a2 a4) := by
  refine CallR.intro rfl rfl (Nat.le_of_ble_eq_true rfl) (fun a ha => ⟨_, rfl⟩) ?_
  show WW g _ _ 0 [(0, .long a0), (2, .long a2), (4, .long a4)] [] (full d ρ) 0 0 _
  unfold fX12_in
  refine WW.lload_n (pc := 0) (j := 0) rfl dX12_in_0 ?_
  refine WW.lload_n (pc := 1) (j := 1) rfl dX12_in_1 ?_
  refine WW.lcmp_lt (pc := 2) 17 dX12_in_2 dX12_in_3 (by decide) (fun _ => ?_) (fun _ => ?_)
  · refine WW.iconst (pc := 17) 0 dX12_in_17 rfl ?_
    exact WW.ret rfl rfl (show RetI M_X12_in 18 from dX12_in_18) ⟨Nat.le_refl _, Nat.le_refl _⟩ rfl
  · refine WW.lload_n (pc := 6) (j := 0) rfl dX12_in_6 ?_
    refine WW.lload (pc := 7) (j := 2) rfl dX12_in_7 ?_
    refine WW.lcmp_gt (pc := 9) 17 dX12_in_9 dX12_in_10 (by decide) (fun _ => ?_) (fun _ => ?_)
    · refine WW.iconst (pc := 17) 0 dX12_in_17 rfl ?_
      exact WW.ret rfl rfl (show RetI M_X12_in 18 from dX12_in_18) ⟨Nat.le_refl _, Nat.le_refl _⟩ rfl
    · refine WW.iconst (pc := 13) 1 dX12_in_13 rfl ?_
      refine WW.goto (pc := 14) 18 dX12_in_14 (by decide) ?_
      exact WW.ret rfl rfl (show RetI M_X12_in 18 from dX12_in_18) ⟨Nat.le_refl _, Nat.le_refl _⟩ rfl
def fX12_letters (ρ : Rh) (d : Dd) (a1 : Int64) : Option (Int32 × Dd) :=
  lp (fun self2 (x1 : Int32 × Bool × Int64 × Int32) =>
    if 8 ≤ x1.2.2.2 then
      (if x1.2.1 = true then
        (if ((d_i d 23 1) + x1.1) ≤ 60 then
          (lp (fun self4 (x3 : Int32 × Dd) =>
            if x1.1 ≤ x3.1 then
              (some ((d_i x3.2 23 1), x3.2))
            else
              (if inB (d_i x3.2 23 1) 60 = true then
                (bnd (dI x3.2 24 (ix (d_i x3.2 23 1)) (Int64.toInt32 ((jlushr a1 (8 * x3.1)) &&& 255))) fun d5 =>
                bnd (dI d5 23 1 ((d_i d5 23 1) + 1)) fun d6 =>
                self4 ((x3.1 + 1), d6))
              else none)
            ) 6000 (0, d))
        else
          (some ((-104), d)))
      else
        (some ((-102), d)))
    else
      (bnd ((Int64.toInt32 (x1.2.2.1 &&& 255)) : Int32) fun v7 =>
      bnd ((jlushr x1.2.2.1 8) : Int64) fun v8 =>
      jn (fun (x9 : Bool) =>
        jn (fun (x11 : Bool) =>
          bnd ((x1.1 + (b2i x11)) : Int32) fun v13 =>
          self2 (v13, x9, v8, (x1.2.2.2 + 1))
          ) fun k12 =>
        if v7 ≤ 0 then
          (k12 false)
        else
          (k12 true)
        ) fun k10 =>
      jn (fun (x14 : Unit) =>
        k10 false
        ) fun k15 =>
      if x1.2.1 = true then
        (if 126 < v7 then
          (k15 ())
        else
          (jn (fun (x16 : Unit) =>
            k10 true
            ) fun k17 =>
          if v7 = 0 then
            (k17 ())
          else
            (if x1.1 = x1.2.2.2 then
              (k17 ())
            else
              (k15 ()))))
      else
        (k15 ()))
    ) 6000 (0, true, a1, 0)
set_option maxHeartbeats 4000000 in
set_option maxRecDepth 100000 in
theorem okX12_letters (g : Gx) (ρ : Rh) (hρ : Hr ρ) (d : Dd) (a1 : Int64) : CallR g M_X12_letters (eI ρ) [.ref 23, .long a1] (full d ρ) (fX12_letters ρ d a1) := by
  refine CallR.intro rfl rfl (Nat.le_of_ble_eq_true rfl) (fun a ha => ⟨_, rfl⟩) ?_
  show WW g _ _ 0 [(0, .ref 23), (1, .long a1)] [] (full d ρ) 0 0 _
  unfold fX12_letters
  refine WW.iconst (pc := 0) 0 dX12_letters_0 rfl ?_
  refine WW.istore_n (pc := 1) [(3, .int 0), (0, .ref 23), (1, .long a1)] rfl (by decide) dX12_letters_1 ?_
  refine WW.iconst (pc := 2) 1 dX12_letters_2 rfl ?_
  refine WW.istore (pc := 3) [(4, .int 1), (3, .int 0), (0, .ref 23), (1, .long a1)] rfl (by decide) dX12_letters_3 ?_
  refine WW.lload_n (pc := 5) (j := 3) rfl dX12_letters_5 ?_
  refine WW.lstore (pc := 6) [(5, .long a1), (4, .int 1), (3, .int 0), (0, .ref 23), (1, .long a1)] rfl (by decide) dX12_letters_6 ?_
  refine WW.iconst (pc := 8) 0 dX12_letters_8 rfl ?_
  refine WW.istore (pc := 9) [(7, .int 0), (5, .long a1), (4, .int 1), (3, .int 0), (0, .ref 23), (1, .long a1)] rfl (by decide) dX12_letters_9 ?_
  refine WW.sub [4, 5, 3, 2, 1, 0] rfl ?_
  refine WW.loop (pc := 11) (Lj := fun (x1 : Int32 × Bool × Int64 × Int32) => [(0, .ref 23), (1, .long a1), (3, .int x1.1), (4, .int (b2i x1.2.1)), (5, .long x1.2.2.1), (7, .int x1.2.2.2)]) (hj := fun (x1 : Int32 × Bool × Int64 × Int32) => full d ρ) (fun self2 hself2 x1 => ?_) 6000 (0, true, a1, 0)
  refine WW.iload (pc := 11) (j := 5) rfl dX12_letters_11 ?_
  refine WW.bipush (pc := 13) 8 dX12_letters_13 rfl ?_
  refine WW.icmp_ge (pc := 15) 83 dX12_letters_15 (by decide) (fun _ => ?_) (fun _ => ?_)
  · refine WW.iload (pc := 83) (j := 3) rfl dX12_letters_83 ?_
    refine WW.if_neB (pc := 85) 91 dX12_letters_85 (by decide) (fun _ => ?_) (fun _ => ?_)
    · refine WW.aload_n (pc := 91) (j := 0) rfl dX12_letters_91 ?_
      refine WW.sgi (pc := 92) fl_X12_50_12 h3_23 (sh_23 ρ) (Or.inl gt_12_1) dX12_letters_92 ?_
      refine WW.iload_n (pc := 95) (j := 2) rfl dX12_letters_95 ?_
      refine WW.iadd (pc := 96) dX12_letters_96 ?_
      refine WW.bipush (pc := 97) 60 dX12_letters_97 rfl ?_
      refine WW.icmp_le (pc := 99) 105 dX12_letters_99 (by decide) (fun _ => ?_) (fun _ => ?_)
      · refine WW.iconst (pc := 105) 0 dX12_letters_105 rfl ?_
        refine WW.istore (pc := 106) [(7, .int 0), (0, .ref 23), (1, .long a1), (3, .int x1.1), (4, .int (b2i x1.2.1)), (5, .long x1.2.2.1)] rfl (by decide) dX12_letters_106 ?_
        refine WW.sub [1, 2, 3, 0] rfl ?_
        refine WW.loop (pc := 108) (Lj := fun (x3 : Int32 × Dd) => [(0, .ref 23), (1, .long a1), (3, .int x1.1), (7, .int x3.1)]) (hj := fun (x3 : Int32 × Dd) => full x3.2 ρ) (fun self4 hself4 x3 => ?_) 6000 (0, d)
        refine WW.iload (pc := 108) (j := 3) rfl dX12_letters_108 ?_
        refine WW.iload_n (pc := 110) (j := 2) rfl dX12_letters_110 ?_
        refine WW.icmp_ge (pc := 111) 151 dX12_letters_111 (by decide) (fun _ => ?_) (fun _ => ?_)
        · refine WW.aload_n (pc := 151) (j := 0) rfl dX12_letters_151 ?_
          refine WW.sgi (pc := 152) fl_X12_50_12 h3_23 (sh_23 ρ) (Or.inl gt_12_1) dX12_letters_152 ?_
          exact WW.ret rfl rfl (show RetI M_X12_letters 155 from dX12_letters_155) ⟨Nat.le_refl _, Nat.le_refl _⟩ rfl
        · refine WW.aload_n (pc := 114) (j := 0) rfl dX12_letters_114 ?_
          refine WW.sgr (pc := 115) fl_X12_7_12 h3_23 (sh_23 ρ) (Or.inr ⟨_, gt_12_0⟩) (hr_23_0 ρ) dX12_letters_115 ?_
          refine WW.aload_n (pc := 118) (j := 0) rfl dX12_letters_118 ?_
          refine WW.sgi (pc := 119) fl_X12_50_12 h3_23 (sh_23 ρ) (Or.inl gt_12_1) dX12_letters_119 ?_
          refine WW.lload_n (pc := 122) (j := 1) rfl dX12_letters_122 ?_
          refine WW.bipush (pc := 123) 8 dX12_letters_123 rfl ?_
          refine WW.iload (pc := 125) (j := 3) rfl dX12_letters_125 ?_
          refine WW.imul (pc := 127) dX12_letters_127 ?_
          refine WW.lushr (pc := 128) dX12_letters_128 ?_
          refine WW.ldc2 (pc := 129) wd_923 dX12_letters_129 ?_
          refine WW.land (pc := 132) dX12_letters_132 ?_
          refine WW.l2i (pc := 133) dX12_letters_133 ?_
          refine WW.siast (pc := 134) h3_24 (sh_24 ρ) dX12_letters_134 (fun d5 => ?_)
          refine WW.aload_n (pc := 135) (j := 0) rfl dX12_letters_135 ?_
          refine WW.dup (pc := 136) rfl dX12_letters_136 ?_
          refine WW.sgi (pc := 137) fl_X12_50_12 h3_23 (sh_23 ρ) (Or.inl gt_12_1) dX12_letters_137 ?_
          refine WW.iconst (pc := 140) 1 dX12_letters_140 rfl ?_
          refine WW.iadd (pc := 141) dX12_letters_141 ?_
          refine WW.spi (pc := 142) fp_X12_50_12 h3_23 (sh_23 ρ) gt_12_1 dX12_letters_142 (fun d6 => ?_)
          refine WW.iinc (pc := 145) (j := 3) (x3.1 + 1) [(7, .int (x3.1 + 1)), (0, .ref 23), (1, .long a1), (3, .int x1.1)] rfl rfl rfl (by decide) dX12_letters_145 ?_
          refine WW.goto (pc := 148) 108 dX12_letters_148 (by decide) ?_
          refine WW.sub [1, 2, 3, 0] rfl ?_
          exact hself4 ((x3.1 + 1), d6)
      · refine WW.bipush (pc := 102) (-104) dX12_letters_102 rfl ?_
        exact WW.ret rfl rfl (show RetI M_X12_letters 104 from dX12_letters_104) ⟨Nat.le_refl _, Nat.le_refl _⟩ rfl
    · refine WW.bipush (pc := 88) (-102) dX12_letters_88 rfl ?_
      exact WW.ret rfl rfl (show RetI M_X12_letters 90 from dX12_letters_90) ⟨Nat.le_refl _, Nat.le_refl _⟩ rfl
  · refine WW.lload (pc := 18) (j := 4) rfl dX12_letters_18 ?_
    refine WW.ldc2 (pc := 20) wd_923 dX12_letters_20 ?_
    refine WW.land (pc := 23) dX12_letters_23 ?_
    refine WW.l2i (pc := 24) dX12_letters_24 ?_
    refine WW.nmi (fun v7 => ?_)
    refine WW.istore (pc := 25) [(8, .int v7), (0, .ref 23), (1, .long a1), (3, .int x1.1), (4, .int (b2i x1.2.1)), (5, .long x1.2.2.1), (7, .int x1.2.2.2)] rfl (by decide) dX12_letters_25 ?_
    refine WW.lload (pc := 27) (j := 5) rfl dX12_letters_27 ?_
    refine WW.bipush (pc := 29) 8 dX12_letters_29 rfl ?_
    refine WW.lushr (pc := 31) dX12_letters_31 ?_
    refine WW.nml (fun v8 => ?_)
    refine WW.lstore (pc := 32) [(5, .long v8), (8, .int v7), (0, .ref 23), (1, .long a1), (3, .int x1.1), (4, .int (b2i x1.2.1)), (7, .int x1.2.2.2)] rfl (by decide) dX12_letters_32 ?_
    refine WW.iload (pc := 34) (j := 5) rfl dX12_letters_34 ?_
    refine WW.join (pj := 62) (Lj := fun (x9 : Bool) => [(0, .ref 23), (1, .long a1), (3, .int x1.1), (5, .long v8), (7, .int x1.2.2.2), (8, .int v7)]) (sj := fun (x9 : Bool) => [.int (b2i x9)]) (hj := fun (x9 : Bool) => full d ρ) (fun x9 => ?_) (fun k10 hk10 => ?_)
    · refine WW.istore (pc := 62) [(4, .int (b2i x9)), (0, .ref 23), (1, .long a1), (3, .int x1.1), (5, .long v8), (7, .int x1.2.2.2), (8, .int v7)] rfl (by decide) dX12_letters_62 ?_
      refine WW.iload_n (pc := 64) (j := 3) rfl dX12_letters_64 ?_
      refine WW.iload (pc := 65) (j := 6) rfl dX12_letters_65 ?_
      refine WW.join (pj := 75) (Lj := fun (x11 : Bool) => [(0, .ref 23), (1, .long a1), (4, .int (b2i x9)), (5, .long v8), (7, .int x1.2.2.2)]) (sj := fun (x11 : Bool) => [.int (b2i x11), .int x1.1]) (hj := fun (x11 : Bool) => full d ρ) (fun x11 => ?_) (fun k12 hk12 => ?_)
      · refine WW.iadd (pc := 75) dX12_letters_75 ?_
        refine WW.nmi (fun v13 => ?_)
        refine WW.istore_n (pc := 76) [(3, .int v13), (0, .ref 23), (1, .long a1), (4, .int (b2i x9)), (5, .long v8), (7, .int x1.2.2.2)] rfl (by decide) dX12_letters_76 ?_
        refine WW.iinc (pc := 77) (j := 5) (x1.2.2.2 + 1) [(7, .int (x1.2.2.2 + 1)), (3, .int v13), (0, .ref 23), (1, .long a1), (4, .int (b2i x9)), (5, .long v8)] rfl rfl rfl (by decide) dX12_letters_77 ?_
        refine WW.goto (pc := 80) 11 dX12_letters_80 (by decide) ?_
        refine WW.sub [2, 3, 1, 4, 5, 0] rfl ?_
        exact hself2 (v13, x9, v8, (x1.2.2.2 + 1))
      · refine WW.if_le (pc := 67) 74 dX12_letters_67 (by decide) (fun _ => ?_) (fun _ => ?_)
        · refine WW.iconst (pc := 74) 0 dX12_letters_74 rfl ?_
          refine WW.sub [1, 2, 0, 4, 5] rfl ?_
          exact hk12 false
        · refine WW.iconst (pc := 70) 1 dX12_letters_70 rfl ?_
          refine WW.goto (pc := 71) 75 dX12_letters_71 (by decide) ?_
          refine WW.sub [1, 2, 0, 4, 5] rfl ?_
          exact hk12 true
    · refine WW.join (pj := 61) (Lj := fun (x14 : Unit) => [(0, .ref 23), (1, .long a1), (3, .int x1.1), (5, .long v8), (7, .int x1.2.2.2), (8, .int v7)]) (sj := fun (x14 : Unit) => []) (hj := fun (x14 : Unit) => full d ρ) (fun x14 => ?_) (fun k15 hk15 => ?_)
      · refine WW.iconst (pc := 61) 0 dX12_letters_61 rfl ?_
        exact hk10 false
      · refine WW.if_eqB (pc := 36) 61 dX12_letters_36 (by decide) (fun _ => ?_) (fun _ => ?_)
        · refine WW.iload (pc := 39) (j := 1) rfl dX12_letters_39 ?_
          refine WW.bipush (pc := 41) 126 dX12_letters_41 rfl ?_
          refine WW.icmp_gt (pc := 43) 61 dX12_letters_43 (by decide) (fun _ => ?_) (fun _ => ?_)
          · refine WW.sub [2, 3, 4, 0, 6, 1] rfl ?_
            exact hk15 ()
          · refine WW.iload (pc := 46) (j := 1) rfl dX12_letters_46 ?_
            refine WW.join (pj := 57) (Lj := fun (x16 : Unit) => [(0, .ref 23), (1, .long a1), (3, .int x1.1), (5, .long v8), (7, .int x1.2.2.2), (8, .int v7)]) (sj := fun (x16 : Unit) => []) (hj := fun (x16 : Unit) => full d ρ) (fun x16 => ?_) (fun k17 hk17 => ?_)
            · refine WW.iconst (pc := 57) 1 dX12_letters_57 rfl ?_
              refine WW.goto (pc := 58) 62 dX12_letters_58 (by decide) ?_
              exact hk10 true
            · refine WW.if_eq (pc := 48) 57 dX12_letters_48 (by decide) (fun _ => ?_) (fun _ => ?_)
              · refine WW.sub [2, 3, 4, 0, 6, 1] rfl ?_
                exact hk17 ()
              · refine WW.iload_n (pc := 51) (j := 4) rfl dX12_letters_51 ?_
                refine WW.iload (pc := 52) (j := 6) rfl dX12_letters_52 ?_
                refine WW.icmp_ne (pc := 54) 61 dX12_letters_54 (by decide) (fun _ => ?_) (fun _ => ?_)
                · refine WW.sub [2, 3, 4, 0, 6, 1] rfl ?_
                  exact hk17 ()
                · refine WW.sub [2, 3, 4, 0, 6, 1] rfl ?_
                  exact hk15 ()
        · refine WW.sub [2, 3, 4, 0, 6, 1] rfl ?_
          exact hk15 ()
def fX12_blank (ρ : Rh) (d : Dd) : Option (Int32 × Dd) :=
  bnd ((d_i d 23 1) : Int32) fun v1 =>
  bnd (dI d 23 1 0) fun d2 =>
  some (v1, d2)
set_option maxHeartbeats 4000000 in
set_option maxRecDepth 100000 in
theorem okX12_blank (g : Gx) (ρ : Rh) (hρ : Hr ρ) (d : Dd)  : CallR g M_X12_blank (eI ρ) [.ref 23] (full d ρ) (fX12_blank ρ d) := by
  refine CallR.intro rfl rfl (Nat.le_of_ble_eq_true rfl) (fun a ha => ⟨_, rfl⟩) ?_
  show WW g _ _ 0 [(0, .ref 23)] [] (full d ρ) 0 0 _
  unfold fX12_blank
  refine WW.aload_n (pc := 0) (j := 0) rfl dX12_blank_0 ?_
  refine WW.sgi (pc := 1) fl_X12_50_12 h3_23 (sh_23 ρ) (Or.inl gt_12_1) dX12_blank_1 ?_
  refine WW.nmi (fun v1 => ?_)
  refine WW.istore_n (pc := 4) [(1, .int v1), (0, .ref 23)] rfl (by decide) dX12_blank_4 ?_
  refine WW.aload_n (pc := 5) (j := 1) rfl dX12_blank_5 ?_
  refine WW.iconst (pc := 6) 0 dX12_blank_6 rfl ?_
  refine WW.spi (pc := 7) fp_X12_50_12 h3_23 (sh_23 ρ) gt_12_1 dX12_blank_7 (fun d2 => ?_)
  refine WW.iload_n (pc := 10) (j := 0) rfl dX12_blank_10 ?_
  exact WW.ret rfl rfl (show RetI M_X12_blank 11 from dX12_blank_11) ⟨Nat.le_refl _, Nat.le_refl _⟩ rfl
def fX12_next (ρ : Rh) (d : Dd) (a1 : Int32) : Option Dd :=
  bnd (dI d 23 7 a1) fun d1 =>
  bnd (dI d1 23 8 0) fun d2 =>
  bnd (dI d2 23 9 0) fun d3 =>
  some d3
set_option maxHeartbeats 4000000 in
set_option maxRecDepth 100000 in
theorem okX12_next (g : Gx) (ρ : Rh) (hρ : Hr ρ) (d : Dd) (a1 : Int32) : CallR g M_X12_next (eV ρ) [.ref 23, .int a1] (full d ρ) (fX12_next ρ d a1) := by
  refine CallR.intro rfl rfl (Nat.le_of_ble_eq_true rfl) (fun a ha => rfl) ?_
  show WW g _ _ 0 [(0, .ref 23), (1, .int a1)] [] (full d ρ) 0 0 _
  unfold fX12_next
  refine WW.aload_n (pc := 0) (j := 0) rfl dX12_next_0 ?_
  refine WW.iload_n (pc := 1) (j := 1) rfl dX12_next_1 ?_
  refine WW.spi (pc := 2) fp_X12_53_12 h3_23 (sh_23 ρ) gt_12_7 dX12_next_2 (fun d1 => ?_)
  refine WW.aload_n (pc := 5) (j := 0) rfl dX12_next_5 ?_
  refine WW.iconst (pc := 6) 0 dX12_next_6 rfl ?_
  refine WW.spi (pc := 7) fp_X12_56_12 h3_23 (sh_23 ρ) gt_12_8 dX12_next_7 (fun d2 => ?_)
  refine WW.aload_n (pc := 10) (j := 0) rfl dX12_next_10 ?_
  refine WW.iconst (pc := 11) 0 dX12_next_11 rfl ?_
  refine WW.spi (pc := 12) fp_X12_59_12 h3_23 (sh_23 ρ) gt_12_9 dX12_next_12 (fun d3 => ?_)
  exact WW.ret rfl rfl (show RetI M_X12_next 15 from dX12_next_15) ⟨Nat.le_refl _, Nat.le_refl _⟩ rfl
def fX12_digit (ρ : Rh) (d : Dd) (a1 : Int32) (a2 : Int32) : Option (Bool × Dd) :=
  bnd (dI d 23 9 (((10 * (d_i d 23 9)) + a1) - 48)) fun d1 =>
  bnd (dI d1 23 8 ((d_i d1 23 8) + 1)) fun d2 =>
  if a2 < (d_i d2 23 8) then
    (some (false, d2))
  else
    (some (true, d2))
set_option maxHeartbeats 4000000 in
set_option maxRecDepth 100000 in
theorem okX12_digit (g : Gx) (ρ : Rh) (hρ : Hr ρ) (d : Dd) (a1 : Int32) (a2 : Int32) : CallR g M_X12_digit (eZ ρ) [.ref 23, .int a1, .int a2] (full d ρ) (fX12_digit ρ d a1 a2) := by
  refine CallR.intro rfl rfl (Nat.le_of_ble_eq_true rfl) (fun a ha => ⟨_, rfl⟩) ?_
  show WW g _ _ 0 [(0, .ref 23), (1, .int a1), (2, .int a2)] [] (full d ρ) 0 0 _
  unfold fX12_digit
  refine WW.aload_n (pc := 0) (j := 0) rfl dX12_digit_0 ?_
  refine WW.bipush (pc := 1) 10 dX12_digit_1 rfl ?_
  refine WW.aload_n (pc := 3) (j := 0) rfl dX12_digit_3 ?_
  refine WW.sgi (pc := 4) fl_X12_59_12 h3_23 (sh_23 ρ) (Or.inl gt_12_9) dX12_digit_4 ?_
  refine WW.imul (pc := 7) dX12_digit_7 ?_
  refine WW.iload_n (pc := 8) (j := 1) rfl dX12_digit_8 ?_
  refine WW.iadd (pc := 9) dX12_digit_9 ?_
  refine WW.bipush (pc := 10) 48 dX12_digit_10 rfl ?_
  refine WW.isub (pc := 12) dX12_digit_12 ?_
  refine WW.spi (pc := 13) fp_X12_59_12 h3_23 (sh_23 ρ) gt_12_9 dX12_digit_13 (fun d1 => ?_)
  refine WW.aload_n (pc := 16) (j := 0) rfl dX12_digit_16 ?_
  refine WW.dup (pc := 17) rfl dX12_digit_17 ?_
  refine WW.sgi (pc := 18) fl_X12_56_12 h3_23 (sh_23 ρ) (Or.inl gt_12_8) dX12_digit_18 ?_
  refine WW.iconst (pc := 21) 1 dX12_digit_21 rfl ?_
  refine WW.iadd (pc := 22) dX12_digit_22 ?_
  refine WW.spi (pc := 23) fp_X12_56_12 h3_23 (sh_23 ρ) gt_12_8 dX12_digit_23 (fun d2 => ?_)
  refine WW.aload_n (pc := 26) (j := 0) rfl dX12_digit_26 ?_
  refine WW.sgi (pc := 27) fl_X12_56_12 h3_23 (sh_23 ρ) (Or.inl gt_12_8) dX12_digit_27 ?_
  refine WW.iload_n (pc := 30) (j := 2) rfl dX12_digit_30 ?_
  refine WW.icmp_gt (pc := 31) 38 dX12_digit_31 (by decide) (fun _ => ?_) (fun _ => ?_)
  · refine WW.iconst (pc := 38) 0 dX12_digit_38 rfl ?_
    exact WW.ret rfl rfl (show RetI M_X12_digit 39 from dX12_digit_39) ⟨Nat.le_refl _, Nat.le_refl _⟩ rfl
  · refine WW.iconst (pc := 34) 1 dX12_digit_34 rfl ?_
    refine WW.goto (pc := 35) 39 dX12_digit_35 (by decide) ?_
    exact WW.ret rfl rfl (show RetI M_X12_digit 39 from dX12_digit_39) ⟨Nat.le_refl _, Nat.le_refl _⟩ rfl
def fX12_beginCase (ρ : Rh) (d : Dd) : Option (Bool × Dd) :=
  bnd (dI d 23 12 ((d_i d 23 12) + 1)) fun d1 =>
  (fX12_next ρ d1 4).bind fun r2 =>
  if 4 < (d_i r2 23 12) then
    (some (false, r2))
  else
    (some (true, r2))
set_option maxHeartbeats 4000000 in
set_option maxRecDepth 100000 in
theorem okX12_beginCase (g : Gx) (ρ : Rh) (hρ : Hr ρ) (d : Dd)  : CallR g M_X12_beginCase (eZ ρ) [.ref 23] (full d ρ) (fX12_beginCase ρ d) := by
  refine CallR.intro rfl rfl (Nat.le_of_ble_eq_true rfl) (fun a ha => ⟨_, rfl⟩) ?_
  show WW g _ _ 0 [(0, .ref 23)] [] (full d ρ) 0 0 _
  unfold fX12_beginCase
  refine WW.aload_n (pc := 0) (j := 0) rfl dX12_beginCase_0 ?_
  refine WW.dup (pc := 1) rfl dX12_beginCase_1 ?_
  refine WW.sgi (pc := 2) fl_X12_62_12 h3_23 (sh_23 ρ) (Or.inl gt_12_12) dX12_beginCase_2 ?_
  refine WW.iconst (pc := 5) 1 dX12_beginCase_5 rfl ?_
  refine WW.iadd (pc := 6) dX12_beginCase_6 ?_
  refine WW.spi (pc := 7) fp_X12_62_12 h3_23 (sh_23 ρ) gt_12_12 dX12_beginCase_7 (fun d1 => ?_)
  refine WW.aload_n (pc := 10) (j := 0) rfl dX12_beginCase_10 ?_
  refine WW.iconst (pc := 11) 4 dX12_beginCase_11 rfl ?_
  refine WW.callV (pc := 12) (As := [.int 4]) (st := []) lk_X12_65 (okX12_next g ρ hρ d1 4) h3_23 (sh_23 ρ) ⟨_, _, clk12⟩ rfl (Nat.le_of_ble_eq_true rfl) ⟨Nat.le_of_ble_eq_true rfl, Nat.le_of_ble_eq_true rfl, Nat.le_of_ble_eq_true rfl, Nat.le_of_ble_eq_true rfl⟩ dX12_beginCase_12 rfl (fun r2 hr2 => ?_)
  show WW _ _ _ 15 _ [] (full r2 ρ) 0 0 _
  refine WW.aload_n (pc := 15) (j := 0) rfl dX12_beginCase_15 ?_
  refine WW.sgi (pc := 16) fl_X12_62_12 h3_23 (sh_23 ρ) (Or.inl gt_12_12) dX12_beginCase_16 ?_
  refine WW.iconst (pc := 19) 4 dX12_beginCase_19 rfl ?_
  refine WW.icmp_gt (pc := 20) 27 dX12_beginCase_20 (by decide) (fun _ => ?_) (fun _ => ?_)
  · refine WW.iconst (pc := 27) 0 dX12_beginCase_27 rfl ?_
    exact WW.ret rfl rfl (show RetI M_X12_beginCase 28 from dX12_beginCase_28) ⟨Nat.le_refl _, Nat.le_refl _⟩ rfl
  · refine WW.iconst (pc := 23) 1 dX12_beginCase_23 rfl ?_
    refine WW.goto (pc := 24) 28 dX12_beginCase_24 (by decide) ?_
    exact WW.ret rfl rfl (show RetI M_X12_beginCase 28 from dX12_beginCase_28) ⟨Nat.le_refl _, Nat.le_refl _⟩ rfl
def fX12_go (ρ : Rh) (d : Dd) (a1 : Int32) : Option (Bool × Dd) :=
  (fX12_in (Int32.toInt64 a1) 48 57).bind fun r1 =>
  if (d_i d 23 7) = 0 then
    ((fX12_next ρ d 1).bind fun r7 =>
    if a1 = 112 then
      (some (true, r7))
    else
      (some (false, r7)))
  else
  if (d_i d 23 7) = 1 then
    (if r1 = true then
      ((fX12_digit ρ d a1 3).bind fun r8 =>
      some (r8.1, r8.2))
    else
      (bnd (dI d 23 10 (d_i d 23 9)) fun d9 =>
      jn (fun (x10 : Bool) =>
        (fX12_next ρ d9 2).bind fun r12 =>
        if x10 = true then
          (if a1 = 115 then
            (some (true, r12))
          else
            (some (false, r12)))
        else
          (some (false, r12))
        ) fun k11 =>
      if (d_i d9 23 8) ≤ 0 then
        (k11 false)
      else
        (k11 true)))
  else
  if (d_i d 23 7) = 2 then
    (bnd (dI d 23 11 (a1 - 48)) fun d13 =>
    (fX12_next ρ d13 3).bind fun r14 =>
    (fX12_in (Int32.toInt64 a1) 49 57).bind fun r15 =>
    some (r15, r14))
  else
  if (d_i d 23 7) = 3 then
    (if a1 = 59 then
      ((fX12_beginCase ρ d).bind fun r16 =>
      if r16.1 = true then
        (some (true, r16.2))
      else
        (some (false, r16.2)))
    else
      (some (false, d)))
  else
  if (d_i d 23 7) = 4 then
    (if r1 = true then
      (jn (fun (x17 : Unit) =>
        (fX12_digit ρ d a1 2).bind fun r19 =>
        if r19.1 = true then
          (some (true, r19.2))
        else
          (some (false, r19.2))
        ) fun k18 =>
      if 0 < (d_i d 23 8) then
        (k18 ())
      else
        (if a1 = 48 then
          (some (false, d))
        else
          (k18 ())))
    else
      (jn (fun (x20 : Bool) =>
        if inB ((d_i d 23 12) - 1) 4 = true then
          (bnd (dI d 27 (ix ((d_i d 23 12) - 1)) (d_i d 23 9)) fun d22 =>
          (fX12_next ρ d22 5).bind fun r23 =>
          if x20 = true then
            (if a1 = 58 then
              (some (true, r23))
            else
              (some (false, r23)))
          else
            (some (false, r23)))
        else none
        ) fun k21 =>
      if (d_i d 23 8) ≤ 0 then
        (k21 false)
      else
        (k21 true)))
  else
  (if r1 = true then
    ((fX12_digit ρ d a1 3).bind fun r24 =>
    if inB ((d_i r24.2 23 12) - 1) 4 = true then
      (bnd (dI r24.2 28 (ix ((d_i r24.2 23 12) - 1)) (d_i r24.2 23 9)) fun d25 =>
      some (r24.1, d25))
    else none)
  else
    (if (d_i d 23 8) ≤ 0 then
      (some (false, d))
    else
      (if a1 = 59 then
        ((fX12_beginCase ρ d).bind fun r26 =>
        if r26.1 = true then
          (some (true, r26.2))
        else
          (some (false, r26.2)))
      else
        (some (false, d)))))
set_option maxHeartbeats 4000000 in
set_option maxRecDepth 100000 in
theorem okX12_go (g : Gx) (ρ : Rh) (hρ : Hr ρ) (d : Dd) (a1 : Int32) : CallR g M_X12_go (eZ ρ) [.ref 23, .int a1] (full d ρ) (fX12_go ρ d a1) := by
  refine CallR.intro rfl rfl (Nat.le_of_ble_eq_true rfl) (fun a ha => ⟨_, rfl⟩) ?_
  show WW g _ _ 0 [(0, .ref 23), (1, .int a1)] [] (full d ρ) 0 0 _
  unfold fX12_go
  refine WW.iload_n (pc := 0) (j := 1) rfl dX12_go_0 ?_
  refine WW.i2l (pc := 1) dX12_go_1 ?_
  refine WW.ldc2 (pc := 2) wd_944 dX12_go_2 ?_
  refine WW.ldc2 (pc := 5) wd_945 dX12_go_5 ?_
  refine WW.callS (pc := 8) (As := [.long (Int32.toInt64 a1), .long 48, .long 57]) (st := []) lk_X12_73 (okX12_in g ρ hρ d (Int32.toInt64 a1) 48 57) rfl (Nat.le_of_ble_eq_true rfl) ⟨Nat.le_of_ble_eq_true rfl, Nat.le_of_ble_eq_true rfl, Nat.le_of_ble_eq_true rfl, Nat.le_of_ble_eq_true rfl⟩ dX12_go_8 rfl (fun r1 hr1 => ?_)
  show WW _ _ _ 11 _ [.int (b2i r1)] (full d ρ) 0 0 _
  refine WW.istore_n (pc := 11) [(2, .int (b2i r1)), (0, .ref 23), (1, .int a1)] rfl (by decide) dX12_go_11 ?_
  refine WW.aload_n (pc := 12) (j := 1) rfl dX12_go_12 ?_
  refine WW.sgi (pc := 13) fl_X12_53_12 h3_23 (sh_23 ρ) (Or.inl gt_12_7) dX12_go_13 ?_
  refine WW.ite (fun hs2 => ?_) (fun hs2 => ?_)
  · refine WW.tabIn (pc := 16) 0 52 hs2 dX12_go_16 (by decide) (by decide) rfl (by decide) ?_
    refine WW.aload_n (pc := 52) (j := 1) rfl dX12_go_52 ?_
    refine WW.iconst (pc := 53) 1 dX12_go_53 rfl ?_
    refine WW.callV (pc := 54) (As := [.int 1]) (st := []) lk_X12_65 (okX12_next g ρ hρ d 1) h3_23 (sh_23 ρ) ⟨_, _, clk12⟩ rfl (Nat.le_of_ble_eq_true rfl) ⟨Nat.le_of_ble_eq_true rfl, Nat.le_of_ble_eq_true rfl, Nat.le_of_ble_eq_true rfl, Nat.le_of_ble_eq_true rfl⟩ dX12_go_54 rfl (fun r7 hr7 => ?_)
    show WW _ _ _ 57 _ [] (full r7 ρ) 0 0 _
    refine WW.iload_n (pc := 57) (j := 2) rfl dX12_go_57 ?_
    refine WW.bipush (pc := 58) 112 dX12_go_58 rfl ?_
    refine WW.icmp_ne (pc := 60) 67 dX12_go_60 (by decide) (fun _ => ?_) (fun _ => ?_)
    · refine WW.iconst (pc := 63) 1 dX12_go_63 rfl ?_
      refine WW.goto (pc := 64) 68 dX12_go_64 (by decide) ?_
      exact WW.ret rfl rfl (show RetI M_X12_go 68 from dX12_go_68) ⟨Nat.le_refl _, Nat.le_refl _⟩ rfl
    · refine WW.iconst (pc := 67) 0 dX12_go_67 rfl ?_
      exact WW.ret rfl rfl (show RetI M_X12_go 68 from dX12_go_68) ⟨Nat.le_refl _, Nat.le_refl _⟩ rfl
  refine WW.ite (fun hs3 => ?_) (fun hs3 => ?_)
  · refine WW.tabIn (pc := 16) 1 69 hs3 dX12_go_16 (by decide) (by decide) rfl (by decide) ?_
    refine WW.iload_n (pc := 69) (j := 0) rfl dX12_go_69 ?_
    refine WW.if_eqB (pc := 70) 80 dX12_go_70 (by decide) (fun _ => ?_) (fun _ => ?_)
    · refine WW.aload_n (pc := 73) (j := 1) rfl dX12_go_73 ?_
      refine WW.iload_n (pc := 74) (j := 2) rfl dX12_go_74 ?_
      refine WW.iconst (pc := 75) 3 dX12_go_75 rfl ?_
      refine WW.callV (pc := 76) (As := [.int a1, .int 3]) (st := []) lk_X12_77 (okX12_digit g ρ hρ d a1 3) h3_23 (sh_23 ρ) ⟨_, _, clk12⟩ rfl (Nat.le_of_ble_eq_true rfl) ⟨Nat.le_of_ble_eq_true rfl, Nat.le_of_ble_eq_true rfl, Nat.le_of_ble_eq_true rfl, Nat.le_of_ble_eq_true rfl⟩ dX12_go_76 rfl (fun r8 hr8 => ?_)
      show WW _ _ _ 79 _ [.int (b2i r8.1)] (full r8.2 ρ) 0 0 _
      exact WW.ret rfl rfl (show RetI M_X12_go 79 from dX12_go_79) ⟨Nat.le_refl _, Nat.le_refl _⟩ rfl
    · refine WW.aload_n (pc := 80) (j := 1) rfl dX12_go_80 ?_
      refine WW.aload_n (pc := 81) (j := 1) rfl dX12_go_81 ?_
      refine WW.sgi (pc := 82) fl_X12_59_12 h3_23 (sh_23 ρ) (Or.inl gt_12_9) dX12_go_82 ?_
      refine WW.spi (pc := 85) fp_X12_81_12 h3_23 (sh_23 ρ) gt_12_10 dX12_go_85 (fun d9 => ?_)
      refine WW.aload_n (pc := 88) (j := 1) rfl dX12_go_88 ?_
      refine WW.sgi (pc := 89) fl_X12_56_12 h3_23 (sh_23 ρ) (Or.inl gt_12_8) dX12_go_89 ?_
      refine WW.join (pj := 100) (Lj := fun (x10 : Bool) => [(0, .ref 23), (1, .int a1)]) (sj := fun (x10 : Bool) => [.int (b2i x10)]) (hj := fun (x10 : Bool) => full d9 ρ) (fun x10 => ?_) (fun k11 hk11 => ?_)
      · refine WW.istore_n (pc := 100) [(3, .int (b2i x10)), (0, .ref 23), (1, .int a1)] rfl (by decide) dX12_go_100 ?_
        refine WW.aload_n (pc := 101) (j := 1) rfl dX12_go_101 ?_
        refine WW.iconst (pc := 102) 2 dX12_go_102 rfl ?_
        refine WW.callV (pc := 103) (As := [.int 2]) (st := []) lk_X12_65 (okX12_next g ρ hρ d9 2) h3_23 (sh_23 ρ) ⟨_, _, clk12⟩ rfl (Nat.le_of_ble_eq_true rfl) ⟨Nat.le_of_ble_eq_true rfl, Nat.le_of_ble_eq_true rfl, Nat.le_of_ble_eq_true rfl, Nat.le_of_ble_eq_true rfl⟩ dX12_go_103 rfl (fun r12 hr12 => ?_)
        show WW _ _ _ 106 _ [] (full r12 ρ) 0 0 _
        refine WW.iload_n (pc := 106) (j := 0) rfl dX12_go_106 ?_
        refine WW.if_eqB (pc := 107) 120 dX12_go_107 (by decide) (fun _ => ?_) (fun _ => ?_)
        · refine WW.iload_n (pc := 110) (j := 2) rfl dX12_go_110 ?_
          refine WW.bipush (pc := 111) 115 dX12_go_111 rfl ?_
          refine WW.icmp_ne (pc := 113) 120 dX12_go_113 (by decide) (fun _ => ?_) (fun _ => ?_)
          · refine WW.iconst (pc := 116) 1 dX12_go_116 rfl ?_
            refine WW.goto (pc := 117) 121 dX12_go_117 (by decide) ?_
            exact WW.ret rfl rfl (show RetI M_X12_go 121 from dX12_go_121) ⟨Nat.le_refl _, Nat.le_refl _⟩ rfl
          · refine WW.iconst (pc := 120) 0 dX12_go_120 rfl ?_
            exact WW.ret rfl rfl (show RetI M_X12_go 121 from dX12_go_121) ⟨Nat.le_refl _, Nat.le_refl _⟩ rfl
        · refine WW.iconst (pc := 120) 0 dX12_go_120 rfl ?_
          exact WW.ret rfl rfl (show RetI M_X12_go 121 from dX12_go_121) ⟨Nat.le_refl _, Nat.le_refl _⟩ rfl
      · refine WW.if_le (pc := 92) 99 dX12_go_92 (by decide) (fun _ => ?_) (fun _ => ?_)
        · refine WW.iconst (pc := 99) 0 dX12_go_99 rfl ?_
          refine WW.sub [1, 2] rfl ?_
          exact hk11 false
        · refine WW.iconst (pc := 95) 1 dX12_go_95 rfl ?_
          refine WW.goto (pc := 96) 100 dX12_go_96 (by decide) ?_
          refine WW.sub [1, 2] rfl ?_
          exact hk11 true
  refine WW.ite (fun hs4 => ?_) (fun hs4 => ?_)
  · refine WW.tabIn (pc := 16) 2 122 hs4 dX12_go_16 (by decide) (by decide) rfl (by decide) ?_
    refine WW.aload_n (pc := 122) (j := 1) rfl dX12_go_122 ?_
    refine WW.iload_n (pc := 123) (j := 2) rfl dX12_go_123 ?_
    refine WW.bipush (pc := 124) 48 dX12_go_124 rfl ?_
    refine WW.isub (pc := 126) dX12_go_126 ?_
    refine WW.spi (pc := 127) fp_X12_84_12 h3_23 (sh_23 ρ) gt_12_11 dX12_go_127 (fun d13 => ?_)
    refine WW.aload_n (pc := 130) (j := 1) rfl dX12_go_130 ?_
    refine WW.iconst (pc := 131) 3 dX12_go_131 rfl ?_
    refine WW.callV (pc := 132) (As := [.int 3]) (st := []) lk_X12_65 (okX12_next g ρ hρ d13 3) h3_23 (sh_23 ρ) ⟨_, _, clk12⟩ rfl (Nat.le_of_ble_eq_true rfl) ⟨Nat.le_of_ble_eq_true rfl, Nat.le_of_ble_eq_true rfl, Nat.le_of_ble_eq_true rfl, Nat.le_of_ble_eq_true rfl⟩ dX12_go_132 rfl (fun r14 hr14 => ?_)
    show WW _ _ _ 135 _ [] (full r14 ρ) 0 0 _
    refine WW.iload_n (pc := 135) (j := 2) rfl dX12_go_135 ?_
    refine WW.i2l (pc := 136) dX12_go_136 ?_
    refine WW.ldc2 (pc := 137) wd_953 dX12_go_137 ?_
    refine WW.ldc2 (pc := 140) wd_945 dX12_go_140 ?_
    refine WW.callS (pc := 143) (As := [.long (Int32.toInt64 a1), .long 49, .long 57]) (st := []) lk_X12_73 (okX12_in g ρ hρ r14 (Int32.toInt64 a1) 49 57) rfl (Nat.le_of_ble_eq_true rfl) ⟨Nat.le_of_ble_eq_true rfl, Nat.le_of_ble_eq_true rfl, Nat.le_of_ble_eq_true rfl, Nat.le_of_ble_eq_true rfl⟩ dX12_go_143 rfl (fun r15 hr15 => ?_)
    show WW _ _ _ 146 _ [.int (b2i r15)] (full r14 ρ) 0 0 _
    exact WW.ret rfl rfl (show RetI M_X12_go 146 from dX12_go_146) ⟨Nat.le_refl _, Nat.le_refl _⟩ rfl
  refine WW.ite (fun hs5 => ?_) (fun hs5 => ?_)
  · refine WW.tabIn (pc := 16) 3 147 hs5 dX12_go_16 (by decide) (by decide) rfl (by decide) ?_
    refine WW.iload_n (pc := 147) (j := 2) rfl dX12_go_147 ?_
    refine WW.bipush (pc := 148) 59 dX12_go_148 rfl ?_
    refine WW.icmp_ne (pc := 150) 164 dX12_go_150 (by decide) (fun _ => ?_) (fun _ => ?_)
    · refine WW.aload_n (pc := 153) (j := 1) rfl dX12_go_153 ?_
      refine WW.callV (pc := 154) (As := []) (st := []) lk_X12_89 (okX12_beginCase g ρ hρ d ) h3_23 (sh_23 ρ) ⟨_, _, clk12⟩ rfl (Nat.le_of_ble_eq_true rfl) ⟨Nat.le_of_ble_eq_true rfl, Nat.le_of_ble_eq_true rfl, Nat.le_of_ble_eq_true rfl, Nat.le_of_ble_eq_true rfl⟩ dX12_go_154 rfl (fun r16 hr16 => ?_)
      show WW _ _ _ 157 _ [.int (b2i r16.1)] (full r16.2 ρ) 0 0 _
      refine WW.if_eqB (pc := 157) 164 dX12_go_157 (by decide) (fun _ => ?_) (fun _ => ?_)
      · refine WW.iconst (pc := 160) 1 dX12_go_160 rfl ?_
        refine WW.goto (pc := 161) 165 dX12_go_161 (by decide) ?_
        exact WW.ret rfl rfl (show RetI M_X12_go 165 from dX12_go_165) ⟨Nat.le_refl _, Nat.le_refl _⟩ rfl
      · refine WW.iconst (pc := 164) 0 dX12_go_164 rfl ?_
        exact WW.ret rfl rfl (show RetI M_X12_go 165 from dX12_go_165) ⟨Nat.le_refl _, Nat.le_refl _⟩ rfl
    · refine WW.iconst (pc := 164) 0 dX12_go_164 rfl ?_
      exact WW.ret rfl rfl (show RetI M_X12_go 165 from dX12_go_165) ⟨Nat.le_refl _, Nat.le_refl _⟩ rfl
  refine WW.ite (fun hs6 => ?_) (fun hs6 => ?_)
  · refine WW.tabIn (pc := 16) 4 166 hs6 dX12_go_16 (by decide) (by decide) rfl (by decide) ?_
    refine WW.iload_n (pc := 166) (j := 0) rfl dX12_go_166 ?_
    refine WW.if_eqB (pc := 167) 198 dX12_go_167 (by decide) (fun _ => ?_) (fun _ => ?_)
    · refine WW.aload_n (pc := 170) (j := 1) rfl dX12_go_170 ?_
      refine WW.sgi (pc := 171) fl_X12_56_12 h3_23 (sh_23 ρ) (Or.inl gt_12_8) dX12_go_171 ?_
      refine WW.join (pj := 183) (Lj := fun (x17 : Unit) => [(0, .ref 23), (1, .int a1)]) (sj := fun (x17 : Unit) => []) (hj := fun (x17 : Unit) => full d ρ) (fun x17 => ?_) (fun k18 hk18 => ?_)
      · refine WW.aload_n (pc := 183) (j := 0) rfl dX12_go_183 ?_
        refine WW.iload_n (pc := 184) (j := 1) rfl dX12_go_184 ?_
        refine WW.iconst (pc := 185) 2 dX12_go_185 rfl ?_
        refine WW.callV (pc := 186) (As := [.int a1, .int 2]) (st := []) lk_X12_77 (okX12_digit g ρ hρ d a1 2) h3_23 (sh_23 ρ) ⟨_, _, clk12⟩ rfl (Nat.le_of_ble_eq_true rfl) ⟨Nat.le_of_ble_eq_true rfl, Nat.le_of_ble_eq_true rfl, Nat.le_of_ble_eq_true rfl, Nat.le_of_ble_eq_true rfl⟩ dX12_go_186 rfl (fun r19 hr19 => ?_)
        show WW _ _ _ 189 _ [.int (b2i r19.1)] (full r19.2 ρ) 0 0 _
        refine WW.if_eqB (pc := 189) 196 dX12_go_189 (by decide) (fun _ => ?_) (fun _ => ?_)
        · refine WW.iconst (pc := 192) 1 dX12_go_192 rfl ?_
          refine WW.goto (pc := 193) 197 dX12_go_193 (by decide) ?_
          exact WW.ret rfl rfl (show RetI M_X12_go 197 from dX12_go_197) ⟨Nat.le_refl _, Nat.le_refl _⟩ rfl
        · refine WW.iconst (pc := 196) 0 dX12_go_196 rfl ?_
          exact WW.ret rfl rfl (show RetI M_X12_go 197 from dX12_go_197) ⟨Nat.le_refl _, Nat.le_refl _⟩ rfl
      · refine WW.if_gt (pc := 174) 183 dX12_go_174 (by decide) (fun _ => ?_) (fun _ => ?_)
        · refine WW.sub [1, 2] rfl ?_
          exact hk18 ()
        · refine WW.iload_n (pc := 177) (j := 2) rfl dX12_go_177 ?_
          refine WW.bipush (pc := 178) 48 dX12_go_178 rfl ?_
          refine WW.icmp_eq (pc := 180) 196 dX12_go_180 (by decide) (fun _ => ?_) (fun _ => ?_)
          · refine WW.iconst (pc := 196) 0 dX12_go_196 rfl ?_
            exact WW.ret rfl rfl (show RetI M_X12_go 197 from dX12_go_197) ⟨Nat.le_refl _, Nat.le_refl _⟩ rfl
          · refine WW.sub [1, 2] rfl ?_
            exact hk18 ()
    · refine WW.aload_n (pc := 198) (j := 1) rfl dX12_go_198 ?_
      refine WW.sgi (pc := 199) fl_X12_56_12 h3_23 (sh_23 ρ) (Or.inl gt_12_8) dX12_go_199 ?_
      refine WW.join (pj := 210) (Lj := fun (x20 : Bool) => [(0, .ref 23), (1, .int a1)]) (sj := fun (x20 : Bool) => [.int (b2i x20)]) (hj := fun (x20 : Bool) => full d ρ) (fun x20 => ?_) (fun k21 hk21 => ?_)
      · refine WW.istore (pc := 210) [(4, .int (b2i x20)), (0, .ref 23), (1, .int a1)] rfl (by decide) dX12_go_210 ?_
        refine WW.aload_n (pc := 212) (j := 1) rfl dX12_go_212 ?_
        refine WW.sgr (pc := 213) fl_X12_19_12 h3_23 (sh_23 ρ) (Or.inr ⟨_, gt_12_13⟩) (hr_23_13 ρ) dX12_go_213 ?_
        refine WW.aload_n (pc := 216) (j := 1) rfl dX12_go_216 ?_
        refine WW.sgi (pc := 217) fl_X12_62_12 h3_23 (sh_23 ρ) (Or.inl gt_12_12) dX12_go_217 ?_
        refine WW.iconst (pc := 220) 1 dX12_go_220 rfl ?_
        refine WW.isub (pc := 221) dX12_go_221 ?_
        refine WW.aload_n (pc := 222) (j := 1) rfl dX12_go_222 ?_
        refine WW.sgi (pc := 223) fl_X12_59_12 h3_23 (sh_23 ρ) (Or.inl gt_12_9) dX12_go_223 ?_
        refine WW.siast (pc := 226) h3_27 (sh_27 ρ) dX12_go_226 (fun d22 => ?_)
        refine WW.aload_n (pc := 227) (j := 1) rfl dX12_go_227 ?_
        refine WW.iconst (pc := 228) 5 dX12_go_228 rfl ?_
        refine WW.callV (pc := 229) (As := [.int 5]) (st := []) lk_X12_65 (okX12_next g ρ hρ d22 5) h3_23 (sh_23 ρ) ⟨_, _, clk12⟩ rfl (Nat.le_of_ble_eq_true rfl) ⟨Nat.le_of_ble_eq_true rfl, Nat.le_of_ble_eq_true rfl, Nat.le_of_ble_eq_true rfl, Nat.le_of_ble_eq_true rfl⟩ dX12_go_229 rfl (fun r23 hr23 => ?_)
        show WW _ _ _ 232 _ [] (full r23 ρ) 0 0 _
        refine WW.iload (pc := 232) (j := 0) rfl dX12_go_232 ?_
        refine WW.if_eqB (pc := 234) 247 dX12_go_234 (by decide) (fun _ => ?_) (fun _ => ?_)
        · refine WW.iload_n (pc := 237) (j := 2) rfl dX12_go_237 ?_
          refine WW.bipush (pc := 238) 58 dX12_go_238 rfl ?_
          refine WW.icmp_ne (pc := 240) 247 dX12_go_240 (by decide) (fun _ => ?_) (fun _ => ?_)
          · refine WW.iconst (pc := 243) 1 dX12_go_243 rfl ?_
            refine WW.goto (pc := 244) 248 dX12_go_244 (by decide) ?_
            exact WW.ret rfl rfl (show RetI M_X12_go 248 from dX12_go_248) ⟨Nat.le_refl _, Nat.le_refl _⟩ rfl
          · refine WW.iconst (pc := 247) 0 dX12_go_247 rfl ?_
            exact WW.ret rfl rfl (show RetI M_X12_go 248 from dX12_go_248) ⟨Nat.le_refl _, Nat.le_refl _⟩ rfl
        · refine WW.iconst (pc := 247) 0 dX12_go_247 rfl ?_
          exact WW.ret rfl rfl (show RetI M_X12_go 248 from dX12_go_248) ⟨Nat.le_refl _, Nat.le_refl _⟩ rfl
      · refine WW.if_le (pc := 202) 209 dX12_go_202 (by decide) (fun _ => ?_) (fun _ => ?_)
        · refine WW.iconst (pc := 209) 0 dX12_go_209 rfl ?_
          refine WW.sub [1, 2] rfl ?_
          exact hk21 false
        · refine WW.iconst (pc := 205) 1 dX12_go_205 rfl ?_
          refine WW.goto (pc := 206) 210 dX12_go_206 (by decide) ?_
          refine WW.sub [1, 2] rfl ?_
          exact hk21 true
  refine WW.tabOut (pc := 16) 249 dX12_go_16 ?_ (by decide) ?_
  · have q0 : ¬ ((d_i d 23 7)).toInt = 0 := fun z => hs2 (Int32.toInt_inj.mp z)
    have q1 : ¬ ((d_i d 23 7)).toInt = 1 := fun z => hs3 (Int32.toInt_inj.mp z)
    have q2 : ¬ ((d_i d 23 7)).toInt = 2 := fun z => hs4 (Int32.toInt_inj.mp z)
    have q3 : ¬ ((d_i d 23 7)).toInt = 3 := fun z => hs5 (Int32.toInt_inj.mp z)
    have q4 : ¬ ((d_i d 23 7)).toInt = 4 := fun z => hs6 (Int32.toInt_inj.mp z)
    omega
  · refine WW.iload_n (pc := 249) (j := 0) rfl dX12_go_249 ?_
    refine WW.if_eqB (pc := 250) 279 dX12_go_250 (by decide) (fun _ => ?_) (fun _ => ?_)
    · refine WW.aload_n (pc := 253) (j := 1) rfl dX12_go_253 ?_
      refine WW.iload_n (pc := 254) (j := 2) rfl dX12_go_254 ?_
      refine WW.iconst (pc := 255) 3 dX12_go_255 rfl ?_
      refine WW.callV (pc := 256) (As := [.int a1, .int 3]) (st := []) lk_X12_77 (okX12_digit g ρ hρ d a1 3) h3_23 (sh_23 ρ) ⟨_, _, clk12⟩ rfl (Nat.le_of_ble_eq_true rfl) ⟨Nat.le_of_ble_eq_true rfl, Nat.le_of_ble_eq_true rfl, Nat.le_of_ble_eq_true rfl, Nat.le_of_ble_eq_true rfl⟩ dX12_go_256 rfl (fun r24 hr24 => ?_)
      show WW _ _ _ 259 _ [.int (b2i r24.1)] (full r24.2 ρ) 0 0 _
      refine WW.istore (pc := 259) [(5, .int (b2i r24.1)), (2, .int (b2i r1)), (0, .ref 23), (1, .int a1)] rfl (by decide) dX12_go_259 ?_
      refine WW.aload_n (pc := 261) (j := 2) rfl dX12_go_261 ?_
      refine WW.sgr (pc := 262) fl_X12_22_12 h3_23 (sh_23 ρ) (Or.inr ⟨_, gt_12_14⟩) (hr_23_14 ρ) dX12_go_262 ?_
      refine WW.aload_n (pc := 265) (j := 2) rfl dX12_go_265 ?_
      refine WW.sgi (pc := 266) fl_X12_62_12 h3_23 (sh_23 ρ) (Or.inl gt_12_12) dX12_go_266 ?_
      refine WW.iconst (pc := 269) 1 dX12_go_269 rfl ?_
      refine WW.isub (pc := 270) dX12_go_270 ?_
      refine WW.aload_n (pc := 271) (j := 2) rfl dX12_go_271 ?_
      refine WW.sgi (pc := 272) fl_X12_59_12 h3_23 (sh_23 ρ) (Or.inl gt_12_9) dX12_go_272 ?_
      refine WW.siast (pc := 275) h3_28 (sh_28 ρ) dX12_go_275 (fun d25 => ?_)
      refine WW.iload (pc := 276) (j := 0) rfl dX12_go_276 ?_
      exact WW.ret rfl rfl (show RetI M_X12_go 278 from dX12_go_278) ⟨Nat.le_refl _, Nat.le_refl _⟩ rfl
    · refine WW.aload_n (pc := 279) (j := 1) rfl dX12_go_279 ?_
      refine WW.sgi (pc := 280) fl_X12_56_12 h3_23 (sh_23 ρ) (Or.inl gt_12_8) dX12_go_280 ?_
      refine WW.if_le (pc := 283) 303 dX12_go_283 (by decide) (fun _ => ?_) (fun _ => ?_)
      · refine WW.iconst (pc := 303) 0 dX12_go_303 rfl ?_
        exact WW.ret rfl rfl (show RetI M_X12_go 304 from dX12_go_304) ⟨Nat.le_refl _, Nat.le_refl _⟩ rfl
      · refine WW.iload_n (pc := 286) (j := 2) rfl dX12_go_286 ?_
        refine WW.bipush (pc := 287) 59 dX12_go_287 rfl ?_
        refine WW.icmp_ne (pc := 289) 303 dX12_go_289 (by decide) (fun _ => ?_) (fun _ => ?_)
        · refine WW.aload_n (pc := 292) (j := 1) rfl dX12_go_292 ?_
          refine WW.callV (pc := 293) (As := []) (st := []) lk_X12_89 (okX12_beginCase g ρ hρ d ) h3_23 (sh_23 ρ) ⟨_, _, clk12⟩ rfl (Nat.le_of_ble_eq_true rfl) ⟨Nat.le_of_ble_eq_true rfl, Nat.le_of_ble_eq_true rfl, Nat.le_of_ble_eq_true rfl, Nat.le_of_ble_eq_true rfl⟩ dX12_go_293 rfl (fun r26 hr26 => ?_)
          show WW _ _ _ 296 _ [.int (b2i r26.1)] (full r26.2 ρ) 0 0 _
          refine WW.if_eqB (pc := 296) 303 dX12_go_296 (by decide) (fun _ => ?_) (fun _ => ?_)
          · refine WW.iconst (pc := 299) 1 dX12_go_299 rfl ?_
            refine WW.goto (pc := 300) 304 dX12_go_300 (by decide) ?_
            exact WW.ret rfl rfl (show RetI M_X12_go 304 from dX12_go_304) ⟨Nat.le_refl _, Nat.le_refl _⟩ rfl
          · refine WW.iconst (pc := 303) 0 dX12_go_303 rfl ?_
            exact WW.ret rfl rfl (show RetI M_X12_go 304 from dX12_go_304) ⟨Nat.le_refl _, Nat.le_refl _⟩ rfl
        · refine WW.iconst (pc := 303) 0 dX12_go_303 rfl ?_
          exact WW.ret rfl rfl (show RetI M_X12_go 304 from dX12_go_304) ⟨Nat.le_refl _, Nat.le_refl _⟩ rfl
def fX12_faultOf (ρ : Rh) (d : Dd) : Option (Int32 × Dd) :=
  bnd (dI d 23 12 0) fun d1 =>
  (fX12_next ρ d1 0).bind fun r2 =>
  lp (fun self4 (x3 : Int32 × Dd) =>
    if (d_i x3.2 23 1) ≤ x3.1 then
      (some (x3.1, x3.2))
    else
      (if inB x3.1 60 = true then
        ((fX12_go ρ x3.2 (d_i x3.2 24 (ix x3.1))).bind fun r5 =>
        if r5.1 = true then
          (self4 ((x3.1 + 1), r5.2))
        else
          (some (x3.1, r5.2)))
      else none)
    ) 6000 (0, r2)
set_option maxHeartbeats 4000000 in
set_option maxRecDepth 100000 in
theorem okX12_faultOf (g : Gx) (ρ : Rh) (hρ : Hr ρ) (d : Dd)  : CallR g M_X12_faultOf (eI ρ) [.ref 23] (full d ρ) (fX12_faultOf ρ d) := by
  refine CallR.intro rfl rfl (Nat.le_of_ble_eq_true rfl) (fun a ha => ⟨_, rfl⟩) ?_
  show WW g _ _ 0 [(0, .ref 23)] [] (full d ρ) 0 0 _
  unfold fX12_faultOf
  refine WW.aload_n (pc := 0) (j := 0) rfl dX12_faultOf_0 ?_
  refine WW.iconst (pc := 1) 0 dX12_faultOf_1 rfl ?_
  refine WW.spi (pc := 2) fp_X12_62_12 h3_23 (sh_23 ρ) gt_12_12 dX12_faultOf_2 (fun d1 => ?_)
  refine WW.aload_n (pc := 5) (j := 0) rfl dX12_faultOf_5 ?_
  refine WW.iconst (pc := 6) 0 dX12_faultOf_6 rfl ?_
  refine WW.callV (pc := 7) (As := [.int 0]) (st := []) lk_X12_65 (okX12_next g ρ hρ d1 0) h3_23 (sh_23 ρ) ⟨_, _, clk12⟩ rfl (Nat.le_of_ble_eq_true rfl) ⟨Nat.le_of_ble_eq_true rfl, Nat.le_of_ble_eq_true rfl, Nat.le_of_ble_eq_true rfl, Nat.le_of_ble_eq_true rfl⟩ dX12_faultOf_7 rfl (fun r2 hr2 => ?_)
  show WW _ _ _ 10 _ [] (full r2 ρ) 0 0 _
  refine WW.iconst (pc := 10) 0 dX12_faultOf_10 rfl ?_
  refine WW.istore_n (pc := 11) [(1, .int 0), (0, .ref 23)] rfl (by decide) dX12_faultOf_11 ?_
  refine WW.sub [1, 0] rfl ?_
  refine WW.loop (pc := 12) (Lj := fun (x3 : Int32 × Dd) => [(0, .ref 23), (1, .int x3.1)]) (hj := fun (x3 : Int32 × Dd) => full x3.2 ρ) (fun self4 hself4 x3 => ?_) 6000 (0, r2)
  refine WW.iload_n (pc := 12) (j := 1) rfl dX12_faultOf_12 ?_
  refine WW.aload_n (pc := 13) (j := 0) rfl dX12_faultOf_13 ?_
  refine WW.sgi (pc := 14) fl_X12_50_12 h3_23 (sh_23 ρ) (Or.inl gt_12_1) dX12_faultOf_14 ?_
  refine WW.icmp_ge (pc := 17) 39 dX12_faultOf_17 (by decide) (fun _ => ?_) (fun _ => ?_)
  · refine WW.iload_n (pc := 39) (j := 1) rfl dX12_faultOf_39 ?_
    exact WW.ret rfl rfl (show RetI M_X12_faultOf 40 from dX12_faultOf_40) ⟨Nat.le_refl _, Nat.le_refl _⟩ rfl
  · refine WW.aload_n (pc := 20) (j := 0) rfl dX12_faultOf_20 ?_
    refine WW.aload_n (pc := 21) (j := 0) rfl dX12_faultOf_21 ?_
    refine WW.sgr (pc := 22) fl_X12_7_12 h3_23 (sh_23 ρ) (Or.inr ⟨_, gt_12_0⟩) (hr_23_0 ρ) dX12_faultOf_22 ?_
    refine WW.iload_n (pc := 25) (j := 1) rfl dX12_faultOf_25 ?_
    refine WW.siald (pc := 26) (one_le h3_24) (sh_24 ρ) dX12_faultOf_26 ?_
    refine WW.callV (pc := 27) (As := [.int (d_i x3.2 24 (ix x3.1))]) (st := []) lk_X12_93 (okX12_go g ρ hρ x3.2 (d_i x3.2 24 (ix x3.1))) h3_23 (sh_23 ρ) ⟨_, _, clk12⟩ rfl (Nat.le_of_ble_eq_true rfl) ⟨Nat.le_of_ble_eq_true rfl, Nat.le_of_ble_eq_true rfl, Nat.le_of_ble_eq_true rfl, Nat.le_of_ble_eq_true rfl⟩ dX12_faultOf_27 rfl (fun r5 hr5 => ?_)
    show WW _ _ _ 30 _ [.int (b2i r5.1)] (full r5.2 ρ) 0 0 _
    refine WW.if_eqB (pc := 30) 39 dX12_faultOf_30 (by decide) (fun _ => ?_) (fun _ => ?_)
    · refine WW.iinc (pc := 33) (j := 1) (x3.1 + 1) [(1, .int (x3.1 + 1)), (0, .ref 23)] rfl rfl rfl (by decide) dX12_faultOf_33 ?_
      refine WW.goto (pc := 36) 12 dX12_faultOf_36 (by decide) ?_
      refine WW.sub [1, 0] rfl ?_
      exact hself4 ((x3.1 + 1), r5.2)
    · refine WW.iload_n (pc := 39) (j := 1) rfl dX12_faultOf_39 ?_
      exact WW.ret rfl rfl (show RetI M_X12_faultOf 40 from dX12_faultOf_40) ⟨Nat.le_refl _, Nat.le_refl _⟩ rfl
def fX12_fault (ρ : Rh) (d : Dd) : Option (Int32 × Dd) :=
  (fX12_faultOf ρ d).bind fun r1 =>
  some (r1.1, r1.2)
set_option maxHeartbeats 4000000 in
set_option maxRecDepth 100000 in
theorem okX12_fault (g : Gx) (ρ : Rh) (hρ : Hr ρ) (d : Dd)  : CallR g M_X12_fault (eI ρ) [.ref 23] (full d ρ) (fX12_fault ρ d) := by
  refine CallR.intro rfl rfl (Nat.le_of_ble_eq_true rfl) (fun a ha => ⟨_, rfl⟩) ?_
  show WW g _ _ 0 [(0, .ref 23)] [] (full d ρ) 0 0 _
  unfold fX12_fault
  refine WW.aload_n (pc := 0) (j := 0) rfl dX12_fault_0 ?_
  refine WW.callV (pc := 1) (As := []) (st := []) lk_X12_97 (okX12_faultOf g ρ hρ d ) h3_23 (sh_23 ρ) ⟨_, _, clk12⟩ rfl (Nat.le_of_ble_eq_true rfl) ⟨Nat.le_of_ble_eq_true rfl, Nat.le_of_ble_eq_true rfl, Nat.le_of_ble_eq_true rfl, Nat.le_of_ble_eq_true rfl⟩ dX12_fault_1 rfl (fun r1 hr1 => ?_)
  show WW _ _ _ 4 _ [.int r1.1] (full r1.2 ρ) 0 0 _
  exact WW.ret rfl rfl (show RetI M_X12_fault 4 from dX12_fault_4) ⟨Nat.le_refl _, Nat.le_refl _⟩ rfl
def fX12_market (ρ : Rh) (d : Dd) : Option (Int32 × Dd) :=
  (fX12_faultOf ρ d).bind fun r1 =>
  if r1.1 < (d_i r1.2 23 1) then
    (some ((-103), r1.2))
  else
    (if (d_i r1.2 23 7) = 5 then
      (if (d_i r1.2 23 8) = 0 then
        (some ((-103), r1.2))
      else
        (bnd (dI r1.2 23 2 (d_i r1.2 23 10)) fun d2 =>
        bnd (dI d2 23 3 (d_i d2 23 11)) fun d3 =>
        bnd (dI d3 23 4 (d_i d3 23 12)) fun d4 =>
        lp (fun self6 (x5 : Int32 × Dd) =>
          if 4 ≤ x5.1 then
            (bnd (dI x5.2 23 1 0) fun d7 =>
            some ((d_i d7 23 4), d7))
          else
            (if inB x5.1 4 = true then
              (if inB x5.1 4 = true then
                (bnd (dI x5.2 25 (ix x5.1) (d_i x5.2 27 (ix x5.1))) fun d8 =>
                if inB x5.1 4 = true then
                  (if inB x5.1 4 = true then
                    (bnd (dI d8 26 (ix x5.1) (d_i d8 28 (ix x5.1))) fun d9 =>
                    self6 ((x5.1 + 1), d9))
                  else none)
                else none)
              else none)
            else none)
          ) 6000 (0, d4)))
    else
      (some ((-103), r1.2)))
set_option maxHeartbeats 4000000 in
set_option maxRecDepth 100000 in
theorem okX12_market (g : Gx) (ρ : Rh) (hρ : Hr ρ) (d : Dd)  : CallR g M_X12_market (eI ρ) [.ref 23] (full d ρ) (fX12_market ρ d) := by
  refine CallR.intro rfl rfl (Nat.le_of_ble_eq_true rfl) (fun a ha => ⟨_, rfl⟩) ?_
  show WW g _ _ 0 [(0, .ref 23)] [] (full d ρ) 0 0 _
  unfold fX12_market
  refine WW.aload_n (pc := 0) (j := 0) rfl dX12_market_0 ?_
  refine WW.callV (pc := 1) (As := []) (st := []) lk_X12_97 (okX12_faultOf g ρ hρ d ) h3_23 (sh_23 ρ) ⟨_, _, clk12⟩ rfl (Nat.le_of_ble_eq_true rfl) ⟨Nat.le_of_ble_eq_true rfl, Nat.le_of_ble_eq_true rfl, Nat.le_of_ble_eq_true rfl, Nat.le_of_ble_eq_true rfl⟩ dX12_market_1 rfl (fun r1 hr1 => ?_)
  show WW _ _ _ 4 _ [.int r1.1] (full r1.2 ρ) 0 0 _
  refine WW.aload_n (pc := 4) (j := 0) rfl dX12_market_4 ?_
  refine WW.sgi (pc := 5) fl_X12_50_12 h3_23 (sh_23 ρ) (Or.inl gt_12_1) dX12_market_5 ?_
  refine WW.icmp_lt (pc := 8) 26 dX12_market_8 (by decide) (fun _ => ?_) (fun _ => ?_)
  · refine WW.bipush (pc := 26) (-103) dX12_market_26 rfl ?_
    exact WW.ret rfl rfl (show RetI M_X12_market 28 from dX12_market_28) ⟨Nat.le_refl _, Nat.le_refl _⟩ rfl
  · refine WW.aload_n (pc := 11) (j := 0) rfl dX12_market_11 ?_
    refine WW.sgi (pc := 12) fl_X12_53_12 h3_23 (sh_23 ρ) (Or.inl gt_12_7) dX12_market_12 ?_
    refine WW.iconst (pc := 15) 5 dX12_market_15 rfl ?_
    refine WW.icmp_ne (pc := 16) 26 dX12_market_16 (by decide) (fun _ => ?_) (fun _ => ?_)
    · refine WW.aload_n (pc := 19) (j := 0) rfl dX12_market_19 ?_
      refine WW.sgi (pc := 20) fl_X12_56_12 h3_23 (sh_23 ρ) (Or.inl gt_12_8) dX12_market_20 ?_
      refine WW.if_ne (pc := 23) 29 dX12_market_23 (by decide) (fun _ => ?_) (fun _ => ?_)
      · refine WW.bipush (pc := 26) (-103) dX12_market_26 rfl ?_
        exact WW.ret rfl rfl (show RetI M_X12_market 28 from dX12_market_28) ⟨Nat.le_refl _, Nat.le_refl _⟩ rfl
      · refine WW.aload_n (pc := 29) (j := 0) rfl dX12_market_29 ?_
        refine WW.aload_n (pc := 30) (j := 0) rfl dX12_market_30 ?_
        refine WW.sgi (pc := 31) fl_X12_81_12 h3_23 (sh_23 ρ) (Or.inl gt_12_10) dX12_market_31 ?_
        refine WW.spi (pc := 34) fp_X12_101_12 h3_23 (sh_23 ρ) gt_12_2 dX12_market_34 (fun d2 => ?_)
        refine WW.aload_n (pc := 37) (j := 0) rfl dX12_market_37 ?_
        refine WW.aload_n (pc := 38) (j := 0) rfl dX12_market_38 ?_
        refine WW.sgi (pc := 39) fl_X12_84_12 h3_23 (sh_23 ρ) (Or.inl gt_12_11) dX12_market_39 ?_
        refine WW.spi (pc := 42) fp_X12_104_12 h3_23 (sh_23 ρ) gt_12_3 dX12_market_42 (fun d3 => ?_)
        refine WW.aload_n (pc := 45) (j := 0) rfl dX12_market_45 ?_
        refine WW.aload_n (pc := 46) (j := 0) rfl dX12_market_46 ?_
        refine WW.sgi (pc := 47) fl_X12_62_12 h3_23 (sh_23 ρ) (Or.inl gt_12_12) dX12_market_47 ?_
        refine WW.spi (pc := 50) fp_X12_44_12 h3_23 (sh_23 ρ) gt_12_4 dX12_market_50 (fun d4 => ?_)
        refine WW.iconst (pc := 53) 0 dX12_market_53 rfl ?_
        refine WW.istore_n (pc := 54) [(1, .int 0), (0, .ref 23)] rfl (by decide) dX12_market_54 ?_
        refine WW.sub [1, 0] rfl ?_
        refine WW.loop (pc := 55) (Lj := fun (x5 : Int32 × Dd) => [(0, .ref 23), (1, .int x5.1)]) (hj := fun (x5 : Int32 × Dd) => full x5.2 ρ) (fun self6 hself6 x5 => ?_) 6000 (0, d4)
        refine WW.iload_n (pc := 55) (j := 1) rfl dX12_market_55 ?_
        refine WW.iconst (pc := 56) 4 dX12_market_56 rfl ?_
        refine WW.icmp_ge (pc := 57) 90 dX12_market_57 (by decide) (fun _ => ?_) (fun _ => ?_)
        · refine WW.aload_n (pc := 90) (j := 0) rfl dX12_market_90 ?_
          refine WW.iconst (pc := 91) 0 dX12_market_91 rfl ?_
          refine WW.spi (pc := 92) fp_X12_50_12 h3_23 (sh_23 ρ) gt_12_1 dX12_market_92 (fun d7 => ?_)
          refine WW.aload_n (pc := 95) (j := 0) rfl dX12_market_95 ?_
          refine WW.sgi (pc := 96) fl_X12_44_12 h3_23 (sh_23 ρ) (Or.inl gt_12_4) dX12_market_96 ?_
          exact WW.ret rfl rfl (show RetI M_X12_market 99 from dX12_market_99) ⟨Nat.le_refl _, Nat.le_refl _⟩ rfl
        · refine WW.aload_n (pc := 60) (j := 0) rfl dX12_market_60 ?_
          refine WW.sgr (pc := 61) fl_X12_13_12 h3_23 (sh_23 ρ) (Or.inr ⟨_, gt_12_5⟩) (hr_23_5 ρ) dX12_market_61 ?_
          refine WW.iload_n (pc := 64) (j := 1) rfl dX12_market_64 ?_
          refine WW.aload_n (pc := 65) (j := 0) rfl dX12_market_65 ?_
          refine WW.sgr (pc := 66) fl_X12_19_12 h3_23 (sh_23 ρ) (Or.inr ⟨_, gt_12_13⟩) (hr_23_13 ρ) dX12_market_66 ?_
          refine WW.iload_n (pc := 69) (j := 1) rfl dX12_market_69 ?_
          refine WW.siald (pc := 70) (one_le h3_27) (sh_27 ρ) dX12_market_70 ?_
          refine WW.siast (pc := 71) h3_25 (sh_25 ρ) dX12_market_71 (fun d8 => ?_)
          refine WW.aload_n (pc := 72) (j := 0) rfl dX12_market_72 ?_
          refine WW.sgr (pc := 73) fl_X12_16_12 h3_23 (sh_23 ρ) (Or.inr ⟨_, gt_12_6⟩) (hr_23_6 ρ) dX12_market_73 ?_
          refine WW.iload_n (pc := 76) (j := 1) rfl dX12_market_76 ?_
          refine WW.aload_n (pc := 77) (j := 0) rfl dX12_market_77 ?_
          refine WW.sgr (pc := 78) fl_X12_22_12 h3_23 (sh_23 ρ) (Or.inr ⟨_, gt_12_14⟩) (hr_23_14 ρ) dX12_market_78 ?_
          refine WW.iload_n (pc := 81) (j := 1) rfl dX12_market_81 ?_
          refine WW.siald (pc := 82) (one_le h3_28) (sh_28 ρ) dX12_market_82 ?_
          refine WW.siast (pc := 83) h3_26 (sh_26 ρ) dX12_market_83 (fun d9 => ?_)
          refine WW.iinc (pc := 84) (j := 1) (x5.1 + 1) [(1, .int (x5.1 + 1)), (0, .ref 23)] rfl rfl rfl (by decide) dX12_market_84 ?_
          refine WW.goto (pc := 87) 55 dX12_market_87 (by decide) ?_
          refine WW.sub [1, 0] rfl ?_
          exact hself6 ((x5.1 + 1), d9)
    · refine WW.bipush (pc := 26) (-103) dX12_market_26 rfl ?_
      exact WW.ret rfl rfl (show RetI M_X12_market 28 from dX12_market_28) ⟨Nat.le_refl _, Nat.le_refl _⟩ rfl
def fX12_isCase (ρ : Rh) (d : Dd) (a1 : Int32) : Option Bool :=
  (fX12_in (Int32.toInt64 a1) 0 (Int32.toInt64 ((d_i d 23 4) - 1))).bind fun r1 =>
  some r1
set_option maxHeartbeats 4000000 in
set_option maxRecDepth 100000 in
theorem okX12_isCase (g : Gx) (ρ : Rh) (hρ : Hr ρ) (d : Dd) (a1 : Int32) : CallR g M_X12_isCase (eZp ρ d) [.ref 23, .int a1] (full d ρ) (fX12_isCase ρ d a1) := by
  refine CallR.intro rfl rfl (Nat.le_of_ble_eq_true rfl) (fun a ha => ⟨_, rfl⟩) ?_
  show WW g _ _ 0 [(0, .ref 23), (1, .int a1)] [] (full d ρ) 0 0 _
  unfold fX12_isCase
  refine WW.iload_n (pc := 0) (j := 1) rfl dX12_isCase_0 ?_
  refine WW.i2l (pc := 1) dX12_isCase_1 ?_
  refine WW.lconst (pc := 2) 0 dX12_isCase_2 rfl ?_
  refine WW.aload_n (pc := 3) (j := 0) rfl dX12_isCase_3 ?_
  refine WW.sgi (pc := 4) fl_X12_44_12 h3_23 (sh_23 ρ) (Or.inl gt_12_4) dX12_isCase_4 ?_
  refine WW.iconst (pc := 7) 1 dX12_isCase_7 rfl ?_
  refine WW.isub (pc := 8) dX12_isCase_8 ?_
  refine WW.i2l (pc := 9) dX12_isCase_9 ?_
  refine WW.callS (pc := 10) (As := [.long (Int32.toInt64 a1), .long 0, .long (Int32.toInt64 ((d_i d 23 4) - 1))]) (st := []) lk_X12_73 (okX12_in g ρ hρ d (Int32.toInt64 a1) 0 (Int32.toInt64 ((d_i d 23 4) - 1))) rfl (Nat.le_of_ble_eq_true rfl) ⟨Nat.le_of_ble_eq_true rfl, Nat.le_of_ble_eq_true rfl, Nat.le_of_ble_eq_true rfl, Nat.le_of_ble_eq_true rfl⟩ dX12_isCase_10 rfl (fun r1 hr1 => ?_)
  show WW _ _ _ 13 _ [.int (b2i r1)] (full d ρ) 0 0 _
  exact WW.ret rfl rfl (show RetI M_X12_isCase 13 from dX12_isCase_13) ⟨Nat.le_refl _, Nat.le_refl _⟩ rfl
def fX12_told (ρ : Rh) (d : Dd) (a1 : Int32) (a2 : Int32) : Option Int32 :=
  jn (fun (x1 : Unit) =>
    (fX12_in (Int32.toInt64 a2) 0 1).bind fun r3 =>
    if r3 = true then
      (if a1 = (-1) then
        (if a2 = 0 then
          (some (d_i d 23 2))
        else
          (some (d_i d 23 3)))
      else
        (if a2 = 0 then
          (if inB a1 4 = true then
            (some (d_i d 25 (ix a1)))
          else none)
        else
          (if inB a1 4 = true then
            (some (d_i d 26 (ix a1)))
          else none)))
    else
      (some (-102))
    ) fun k2 =>
  if a1 = (-1) then
    (if (d_i d 23 4) = 0 then
      (some (-101))
    else
      (k2 ()))
  else
    ((fX12_isCase ρ d a1).bind fun r4 =>
    if r4 = true then
      (k2 ())
    else
      (some (-101)))
set_option maxHeartbeats 4000000 in
set_option maxRecDepth 100000 in
theorem okX12_told (g : Gx) (ρ : Rh) (hρ : Hr ρ) (d : Dd) (a1 : Int32) (a2 : Int32) : CallR g M_X12_told (eIp ρ d) [.ref 23, .int a1, .int a2] (full d ρ) (fX12_told ρ d a1 a2) := by
  refine CallR.intro rfl rfl (Nat.le_of_ble_eq_true rfl) (fun a ha => ⟨_, rfl⟩) ?_
  show WW g _ _ 0 [(0, .ref 23), (1, .int a1), (2, .int a2)] [] (full d ρ) 0 0 _
  unfold fX12_told
  refine WW.iload_n (pc := 0) (j := 1) rfl dX12_told_0 ?_
  refine WW.iconst (pc := 1) (-1) dX12_told_1 rfl ?_
  refine WW.join (pj := 26) (Lj := fun (x1 : Unit) => [(0, .ref 23), (1, .int a1), (2, .int a2)]) (sj := fun (x1 : Unit) => []) (hj := fun (x1 : Unit) => full d ρ) (fun x1 => ?_) (fun k2 hk2 => ?_)
  · refine WW.iload_n (pc := 26) (j := 2) rfl dX12_told_26 ?_
    refine WW.i2l (pc := 27) dX12_told_27 ?_
    refine WW.lconst (pc := 28) 0 dX12_told_28 rfl ?_
    refine WW.lconst (pc := 29) 1 dX12_told_29 rfl ?_
    refine WW.callS (pc := 30) (As := [.long (Int32.toInt64 a2), .long 0, .long 1]) (st := []) lk_X12_73 (okX12_in g ρ hρ d (Int32.toInt64 a2) 0 1) rfl (Nat.le_of_ble_eq_true rfl) ⟨Nat.le_of_ble_eq_true rfl, Nat.le_of_ble_eq_true rfl, Nat.le_of_ble_eq_true rfl, Nat.le_of_ble_eq_true rfl⟩ dX12_told_30 rfl (fun r3 hr3 => ?_)
    show WW _ _ _ 33 _ [.int (b2i r3)] (full d ρ) 0 0 _
    refine WW.if_neB (pc := 33) 39 dX12_told_33 (by decide) (fun _ => ?_) (fun _ => ?_)
    · refine WW.iload_n (pc := 39) (j := 1) rfl dX12_told_39 ?_
      refine WW.iconst (pc := 40) (-1) dX12_told_40 rfl ?_
      refine WW.icmp_ne (pc := 41) 62 dX12_told_41 (by decide) (fun _ => ?_) (fun _ => ?_)
      · refine WW.iload_n (pc := 44) (j := 2) rfl dX12_told_44 ?_
        refine WW.if_ne (pc := 45) 55 dX12_told_45 (by decide) (fun _ => ?_) (fun _ => ?_)
        · refine WW.aload_n (pc := 48) (j := 0) rfl dX12_told_48 ?_
          refine WW.sgi (pc := 49) fl_X12_101_12 h3_23 (sh_23 ρ) (Or.inl gt_12_2) dX12_told_49 ?_
          refine WW.goto (pc := 52) 81 dX12_told_52 (by decide) ?_
          exact WW.ret rfl rfl (show RetI M_X12_told 81 from dX12_told_81) ⟨Nat.le_refl _, Nat.le_refl _⟩ rfl
        · refine WW.aload_n (pc := 55) (j := 0) rfl dX12_told_55 ?_
          refine WW.sgi (pc := 56) fl_X12_104_12 h3_23 (sh_23 ρ) (Or.inl gt_12_3) dX12_told_56 ?_
          refine WW.goto (pc := 59) 81 dX12_told_59 (by decide) ?_
          exact WW.ret rfl rfl (show RetI M_X12_told 81 from dX12_told_81) ⟨Nat.le_refl _, Nat.le_refl _⟩ rfl
      · refine WW.iload_n (pc := 62) (j := 2) rfl dX12_told_62 ?_
        refine WW.if_ne (pc := 63) 75 dX12_told_63 (by decide) (fun _ => ?_) (fun _ => ?_)
        · refine WW.aload_n (pc := 66) (j := 0) rfl dX12_told_66 ?_
          refine WW.sgr (pc := 67) fl_X12_13_12 h3_23 (sh_23 ρ) (Or.inr ⟨_, gt_12_5⟩) (hr_23_5 ρ) dX12_told_67 ?_
          refine WW.iload_n (pc := 70) (j := 1) rfl dX12_told_70 ?_
          refine WW.siald (pc := 71) (one_le h3_25) (sh_25 ρ) dX12_told_71 ?_
          refine WW.goto (pc := 72) 81 dX12_told_72 (by decide) ?_
          exact WW.ret rfl rfl (show RetI M_X12_told 81 from dX12_told_81) ⟨Nat.le_refl _, Nat.le_refl _⟩ rfl
        · refine WW.aload_n (pc := 75) (j := 0) rfl dX12_told_75 ?_
          refine WW.sgr (pc := 76) fl_X12_16_12 h3_23 (sh_23 ρ) (Or.inr ⟨_, gt_12_6⟩) (hr_23_6 ρ) dX12_told_76 ?_
          refine WW.iload_n (pc := 79) (j := 1) rfl dX12_told_79 ?_
          refine WW.siald (pc := 80) (one_le h3_26) (sh_26 ρ) dX12_told_80 ?_
          exact WW.ret rfl rfl (show RetI M_X12_told 81 from dX12_told_81) ⟨Nat.le_refl _, Nat.le_refl _⟩ rfl
    · refine WW.bipush (pc := 36) (-102) dX12_told_36 rfl ?_
      exact WW.ret rfl rfl (show RetI M_X12_told 38 from dX12_told_38) ⟨Nat.le_refl _, Nat.le_refl _⟩ rfl
  · refine WW.icmp_ne (pc := 2) 15 dX12_told_2 (by decide) (fun _ => ?_) (fun _ => ?_)
    · refine WW.aload_n (pc := 5) (j := 0) rfl dX12_told_5 ?_
      refine WW.sgi (pc := 6) fl_X12_44_12 h3_23 (sh_23 ρ) (Or.inl gt_12_4) dX12_told_6 ?_
      refine WW.if_ne (pc := 9) 26 dX12_told_9 (by decide) (fun _ => ?_) (fun _ => ?_)
      · refine WW.goto (pc := 12) 23 dX12_told_12 (by decide) ?_
        refine WW.bipush (pc := 23) (-101) dX12_told_23 rfl ?_
        exact WW.ret rfl rfl (show RetI M_X12_told 25 from dX12_told_25) ⟨Nat.le_refl _, Nat.le_refl _⟩ rfl
      · exact hk2 ()
    · refine WW.aload_n (pc := 15) (j := 0) rfl dX12_told_15 ?_
      refine WW.iload_n (pc := 16) (j := 1) rfl dX12_told_16 ?_
      refine WW.callV (pc := 17) (As := [.int a1]) (st := []) lk_X12_107 (okX12_isCase g ρ hρ d a1) h3_23 (sh_23 ρ) ⟨_, _, clk12⟩ rfl (Nat.le_of_ble_eq_true rfl) ⟨Nat.le_of_ble_eq_true rfl, Nat.le_of_ble_eq_true rfl, Nat.le_of_ble_eq_true rfl, Nat.le_of_ble_eq_true rfl⟩ dX12_told_17 rfl (fun r4 hr4 => ?_)
      show WW _ _ _ 20 _ [.int (b2i r4)] (full d ρ) 0 0 _
      refine WW.if_neB (pc := 20) 26 dX12_told_20 (by decide) (fun _ => ?_) (fun _ => ?_)
      · exact hk2 ()
      · refine WW.bipush (pc := 23) (-101) dX12_told_23 rfl ?_
        exact WW.ret rfl rfl (show RetI M_X12_told 25 from dX12_told_25) ⟨Nat.le_refl _, Nat.le_refl _⟩ rfl
