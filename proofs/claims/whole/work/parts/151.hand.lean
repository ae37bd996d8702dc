abbrev M_X6_ofKind : Mx := (RX6, yX6_ofKind, cX6_ofKind, 2, (some (.object "SoldNews$News")), 4, 90, 1, 2)
abbrev M_X11_news : Mx := (RX11, yX11_news, cX11_news, 3, (some .int), 5, 111, 1, 2)
abbrev M_X11_market : Mx := (RX11, yX11_market, cX11_market, 2, (some .int), 3, 69, 0, 0)
theorem wd_384 : Cond.instantiable "SoldNews$Plain" 2 ∈ wB := wB_in 384 (by decide +kernel) (by decide +kernel)
theorem lkc_X6_18 : LkC RX6 18 9 := ⟨_, _, _, clk9, wd_383, wd_384, wd_75, (fun k hk => by match k, hk with | 0, _ => exact Or.inl rfl | 1, _ => exact Or.inl rfl | k + 2, h => exact absurd h (by omega))⟩
theorem wd_385 : Cond.methodLink "SoldNews$News" 20 yX9_init ∈ wB := wB_in 385 (by decide +kernel) (by decide +kernel)
theorem lki_X6_20 : LkI RX6 20 M_X9_init 2 := ⟨⟨Or.inl wd_385, wd_386, wd_75, wd_387, rfl, rfl⟩, by decide, by decide, by decide +kernel⟩
theorem wd_408 : Cond.instantiable "SoldNews$Part" 2 ∈ wB := wB_in 408 (by decide +kernel) (by decide +kernel)
theorem lkc_X6_23 : LkC RX6 23 8 := ⟨_, _, _, clk8, wd_407, wd_408, wd_76, (fun k hk => by match k, hk with | 0, _ => exact Or.inl rfl | 1, _ => exact Or.inl rfl | k + 2, h => exact absurd h (by omega))⟩
theorem wd_409 : Cond.methodLink "SoldNews$News" 25 yX8_init ∈ wB := wB_in 409 (by decide +kernel) (by decide +kernel)
theorem wd_410 : Cond.instanceMethod yX8_init ∈ wB := wB_in 410 (by decide +kernel) (by decide +kernel)
theorem wd_411 : Cond.code yX8_init cX8_init 3 Option.none ∈ wB := wB_in 411 (by decide +kernel) (by decide +kernel)
theorem lki_X6_25 : LkI RX6 25 M_X8_init 2 := ⟨⟨Or.inl wd_409, wd_410, wd_76, wd_411, rfl, rfl⟩, by decide, by decide, by decide +kernel⟩
theorem wd_417 : Cond.instantiable "SoldNews$Blur" 2 ∈ wB := wB_in 417 (by decide +kernel) (by decide +kernel)
theorem lkc_X6_26 : LkC RX6 26 0 := ⟨_, _, _, clk0, wd_416, wd_417, wd_77, (fun k hk => by match k, hk with | 0, _ => exact Or.inl rfl | 1, _ => exact Or.inl rfl | k + 2, h => exact absurd h (by omega))⟩
theorem wd_418 : Cond.methodLink "SoldNews$News" 28 yX0_init ∈ wB := wB_in 418 (by decide +kernel) (by decide +kernel)
theorem wd_419 : Cond.instanceMethod yX0_init ∈ wB := wB_in 419 (by decide +kernel) (by decide +kernel)
theorem wd_420 : Cond.code yX0_init cX0_init 3 Option.none ∈ wB := wB_in 420 (by decide +kernel) (by decide +kernel)
theorem lki_X6_28 : LkI RX6 28 M_X0_init 2 := ⟨⟨Or.inl wd_418, wd_419, wd_77, wd_420, rfl, rfl⟩, by decide, by decide, by decide +kernel⟩
theorem wd_426 : Cond.instantiable "SoldNews$Late" 2 ∈ wB := wB_in 426 (by decide +kernel) (by decide +kernel)
theorem lkc_X6_29 : LkC RX6 29 4 := ⟨_, _, _, clk4, wd_425, wd_426, wd_78, (fun k hk => by match k, hk with | 0, _ => exact Or.inl rfl | 1, _ => exact Or.inl rfl | k + 2, h => exact absurd h (by omega))⟩
theorem wd_427 : Cond.methodLink "SoldNews$News" 31 yX4_init ∈ wB := wB_in 427 (by decide +kernel) (by decide +kernel)
theorem wd_428 : Cond.instanceMethod yX4_init ∈ wB := wB_in 428 (by decide +kernel) (by decide +kernel)
theorem wd_429 : Cond.code yX4_init cX4_init 3 Option.none ∈ wB := wB_in 429 (by decide +kernel) (by decide +kernel)
theorem lki_X6_31 : LkI RX6 31 M_X4_init 2 := ⟨⟨Or.inl wd_427, wd_428, wd_78, wd_429, rfl, rfl⟩, by decide, by decide, by decide +kernel⟩
theorem wd_434 : Cond.classLink "SoldNews$News" 10 "SoldNews$News" ∈ wB := wB_in 434 (by decide +kernel) (by decide +kernel)
theorem wd_435 : Cond.instantiable "SoldNews$News" 2 ∈ wB := wB_in 435 (by decide +kernel) (by decide +kernel)
theorem lkc_X6_10 : LkC RX6 10 6 := ⟨_, _, _, clk6, wd_434, wd_435, wd_74, (fun k hk => by match k, hk with | 0, _ => exact Or.inl rfl | 1, _ => exact Or.inl rfl | k + 2, h => exact absurd h (by omega))⟩
theorem wd_436 : Cond.methodLink "SoldNews$News" 32 yX6_init ∈ wB := wB_in 436 (by decide +kernel) (by decide +kernel)
theorem lki_X6_32 : LkI RX6 32 M_X6_init 2 := ⟨⟨Or.inl wd_436, wd_389, wd_74, wd_390, rfl, rfl⟩, by decide, by decide, by decide +kernel⟩
theorem fp_X11_139_11 : FPk RX11 139 11 6 false := ⟨_, _, _, "SoldNews", clk11, by decide, Or.inl ⟨rfl, rfl, Or.inl wd_229⟩, rfl⟩
theorem wd_377 : Cond.methodLink "SoldNews" 136 yX6_mostOf ∈ wB := wB_in 377 (by decide +kernel) (by decide +kernel)
theorem wd_378 : Cond.static yX6_mostOf ∈ wB := wB_in 378 (by decide +kernel) (by decide +kernel)
theorem wd_379 : Cond.code yX6_mostOf cX6_mostOf 1 (some .int) ∈ wB := wB_in 379 (by decide +kernel) (by decide +kernel)
theorem lk_X11_136 : LkS RX11 136 M_X6_mostOf 1 := ⟨⟨wd_377, wd_378, wd_74, wd_379⟩, by decide, by decide, by decide +kernel⟩
theorem wd_380 : Cond.methodLink "SoldNews" 142 yX6_ofKind ∈ wB := wB_in 380 (by decide +kernel) (by decide +kernel)
theorem wd_381 : Cond.static yX6_ofKind ∈ wB := wB_in 381 (by decide +kernel) (by decide +kernel)
theorem wd_382 : Cond.code yX6_ofKind cX6_ofKind 2 (some (.object "SoldNews$News")) ∈ wB := wB_in 382 (by decide +kernel) (by decide +kernel)
theorem lk_X11_142 : LkS RX11 142 M_X6_ofKind 2 := ⟨⟨wd_380, wd_381, wd_74, wd_382⟩, by decide, by decide, by decide +kernel⟩
theorem fp_X11_89_11 : FPk RX11 89 11 3 false := ⟨_, _, _, "SoldNews", clk11, by decide, Or.inl ⟨rfl, rfl, Or.inl wd_226⟩, rfl⟩
def tagK (k : Int32) : Nat := if k = 1 then 9 else if k = 2 then 8 else if k = 3 then 0 else if k = 4 then 4 else 6
def eN (n : Nat) : HP → Option Value × HP := fun h => (some (.ref n), h)
set_option maxHeartbeats 4000000 in
set_option maxRecDepth 100000 in
theorem okX6_ofKind (g : Gx) (h : HP) (n : Nat) (a0 a1 : Int32) (h3 : 3 ≤ n) (hl : h.2.2.2.length = n) : CallR g M_X6_ofKind (eN n) [.int a0, .int a1] h (some (hX6_init (hp_nw h (tagK a0, 0)) n (n + 1) (tagK a0) a0 a1)) := by
  refine CallR.intro rfl rfl (Nat.le_of_ble_eq_true rfl) (fun a ha => ⟨_, rfl⟩) ?_
  show WW g _ _ 0 [(0, .int a0), (1, .int a1)] [] h 0 0 _
  refine WW.iload_n (pc := 0) (j := 0) rfl dX6_ofKind_0 ?_
  by_cases e1 : a0 = 1
  · rw [show tagK a0 = 9 from by rw [e1]; rfl]
    refine WW.tabIn (pc := 1) 1 32 e1 dX6_ofKind_1 (by decide) (by decide) rfl (by decide) ?_
    refine WW.newn (pc := 32) hl lkc_X6_18 ⟨(Nat.le_of_ble_eq_true rfl), (Nat.le_of_ble_eq_true rfl)⟩ dX6_ofKind_32 ?_
    refine WW.dup (pc := 35) rfl dX6_ofKind_35 ?_
    refine WW.iload_n (pc := 36) (j := 0) rfl dX6_ofKind_36 ?_
    refine WW.iload_n (pc := 37) (j := 1) rfl dX6_ofKind_37 ?_
    refine WW.callI1 (pc := 38) (As := [.int a0, .int a1]) (st := [.ref n]) lki_X6_20 (okX9_init g (hp_nw h (9, 0)) n (n + 1) 9 a0 a1 h3 (by omega) (nwl hl) (by omega) (by decide) (nwa hl)) h3 rfl (Nat.le_of_ble_eq_true rfl) ⟨Nat.le_of_ble_eq_true rfl, Nat.le_of_ble_eq_true rfl, Nat.le_of_ble_eq_true rfl, Nat.le_of_ble_eq_true rfl⟩ dX6_ofKind_38 rfl ?_
    exact WW.ret rfl rfl (show RetI M_X6_ofKind 41 from dX6_ofKind_41) ⟨(Nat.le_of_ble_eq_true rfl), (Nat.le_of_ble_eq_true rfl)⟩ rfl
  by_cases e2 : a0 = 2
  · rw [show tagK a0 = 8 from by rw [e2]; rfl]
    refine WW.tabIn (pc := 1) 2 42 e2 dX6_ofKind_1 (by decide) (by decide) rfl (by decide) ?_
    refine WW.newn (pc := 42) hl lkc_X6_23 ⟨(Nat.le_of_ble_eq_true rfl), (Nat.le_of_ble_eq_true rfl)⟩ dX6_ofKind_42 ?_
    refine WW.dup (pc := 45) rfl dX6_ofKind_45 ?_
    refine WW.iload_n (pc := 46) (j := 0) rfl dX6_ofKind_46 ?_
    refine WW.iload_n (pc := 47) (j := 1) rfl dX6_ofKind_47 ?_
    refine WW.callI1 (pc := 48) (As := [.int a0, .int a1]) (st := [.ref n]) lki_X6_25 (okX8_init g (hp_nw h (8, 0)) n (n + 1) 8 a0 a1 h3 (by omega) (nwl hl) (by omega) (by decide) (nwa hl)) h3 rfl (Nat.le_of_ble_eq_true rfl) ⟨Nat.le_of_ble_eq_true rfl, Nat.le_of_ble_eq_true rfl, Nat.le_of_ble_eq_true rfl, Nat.le_of_ble_eq_true rfl⟩ dX6_ofKind_48 rfl ?_
    exact WW.ret rfl rfl (show RetI M_X6_ofKind 51 from dX6_ofKind_51) ⟨(Nat.le_of_ble_eq_true rfl), (Nat.le_of_ble_eq_true rfl)⟩ rfl
  by_cases e3 : a0 = 3
  · rw [show tagK a0 = 0 from by rw [e3]; rfl]
    refine WW.tabIn (pc := 1) 3 52 e3 dX6_ofKind_1 (by decide) (by decide) rfl (by decide) ?_
    refine WW.newn (pc := 52) hl lkc_X6_26 ⟨(Nat.le_of_ble_eq_true rfl), (Nat.le_of_ble_eq_true rfl)⟩ dX6_ofKind_52 ?_
    refine WW.dup (pc := 55) rfl dX6_ofKind_55 ?_
    refine WW.iload_n (pc := 56) (j := 0) rfl dX6_ofKind_56 ?_
    refine WW.iload_n (pc := 57) (j := 1) rfl dX6_ofKind_57 ?_
    refine WW.callI1 (pc := 58) (As := [.int a0, .int a1]) (st := [.ref n]) lki_X6_28 (okX0_init g (hp_nw h (0, 0)) n (n + 1) 0 a0 a1 h3 (by omega) (nwl hl) (by omega) (by decide) (nwa hl)) h3 rfl (Nat.le_of_ble_eq_true rfl) ⟨Nat.le_of_ble_eq_true rfl, Nat.le_of_ble_eq_true rfl, Nat.le_of_ble_eq_true rfl, Nat.le_of_ble_eq_true rfl⟩ dX6_ofKind_58 rfl ?_
    exact WW.ret rfl rfl (show RetI M_X6_ofKind 61 from dX6_ofKind_61) ⟨(Nat.le_of_ble_eq_true rfl), (Nat.le_of_ble_eq_true rfl)⟩ rfl
  by_cases e4 : a0 = 4
  · rw [show tagK a0 = 4 from by rw [e4]; rfl]
    refine WW.tabIn (pc := 1) 4 62 e4 dX6_ofKind_1 (by decide) (by decide) rfl (by decide) ?_
    refine WW.newn (pc := 62) hl lkc_X6_29 ⟨(Nat.le_of_ble_eq_true rfl), (Nat.le_of_ble_eq_true rfl)⟩ dX6_ofKind_62 ?_
    refine WW.dup (pc := 65) rfl dX6_ofKind_65 ?_
    refine WW.iload_n (pc := 66) (j := 0) rfl dX6_ofKind_66 ?_
    refine WW.iload_n (pc := 67) (j := 1) rfl dX6_ofKind_67 ?_
    refine WW.callI1 (pc := 68) (As := [.int a0, .int a1]) (st := [.ref n]) lki_X6_31 (okX4_init g (hp_nw h (4, 0)) n (n + 1) 4 a0 a1 h3 (by omega) (nwl hl) (by omega) (by decide) (nwa hl)) h3 rfl (Nat.le_of_ble_eq_true rfl) ⟨Nat.le_of_ble_eq_true rfl, Nat.le_of_ble_eq_true rfl, Nat.le_of_ble_eq_true rfl, Nat.le_of_ble_eq_true rfl⟩ dX6_ofKind_68 rfl ?_
    exact WW.ret rfl rfl (show RetI M_X6_ofKind 71 from dX6_ofKind_71) ⟨(Nat.le_of_ble_eq_true rfl), (Nat.le_of_ble_eq_true rfl)⟩ rfl
  rw [show tagK a0 = 6 from by simp [tagK, e1, e2, e3, e4]]
  refine WW.tabOut (pc := 1) 72 dX6_ofKind_1 ?_ (by decide) ?_
  · have q1 : ¬ a0.toInt = 1 := fun z => e1 (Int32.toInt_inj.mp z)
    have q2 : ¬ a0.toInt = 2 := fun z => e2 (Int32.toInt_inj.mp z)
    have q3 : ¬ a0.toInt = 3 := fun z => e3 (Int32.toInt_inj.mp z)
    have q4 : ¬ a0.toInt = 4 := fun z => e4 (Int32.toInt_inj.mp z)
    omega
  · refine WW.newn (pc := 72) hl lkc_X6_10 ⟨(Nat.le_of_ble_eq_true rfl), (Nat.le_of_ble_eq_true rfl)⟩ dX6_ofKind_72 ?_
    refine WW.dup (pc := 75) rfl dX6_ofKind_75 ?_
    refine WW.iload_n (pc := 76) (j := 0) rfl dX6_ofKind_76 ?_
    refine WW.iload_n (pc := 77) (j := 1) rfl dX6_ofKind_77 ?_
    refine WW.callI1 (pc := 78) (As := [.int a0, .int a1]) (st := [.ref n]) lki_X6_32 (okX6_init g (hp_nw h (6, 0)) n (n + 1) 6 a0 a1 h3 (by omega) (nwl hl) (by omega) (by decide) (nwa hl)) h3 rfl (Nat.le_of_ble_eq_true rfl) ⟨Nat.le_of_ble_eq_true rfl, Nat.le_of_ble_eq_true rfl, Nat.le_of_ble_eq_true rfl, Nat.le_of_ble_eq_true rfl⟩ dX6_ofKind_78 rfl ?_
    exact WW.ret rfl rfl (show RetI M_X6_ofKind 81 from dX6_ofKind_81) ⟨(Nat.le_of_ble_eq_true rfl), (Nat.le_of_ble_eq_true rfl)⟩ rfl
def dZ (d : Dd) (n : Nat) : Dd := (fun j k => if j = n then 0 else d.1 j k, fun j k => if j = n then 0 else d.2 j k)
def rhN (ρ : Rh) (t : Nat) : Rh := (ρ.1, ρ.2.1 ++ [t], ρ.2.2)
def rhS (ρ : Rh) : Rh := (15 - ρ.1, ρ.2)
/-- answers where the picture's shape is another one -/
def eJ : Int32 × Dd × Rh → Option Value × HP := fun x => (some (.int x.1), full x.2.1 x.2.2)
theorem shS_len (ρ : Rh) : (shS ρ).length = 35 + ρ.2.1.length := by simp [shS]; omega
theorem tagK_nT (k : Int32) : tagK k ∈ nT := by
  unfold tagK
  (repeat' split) <;> decide
theorem rhN_ok {ρ : Rh} {t : Nat} (h : Hr ρ) (ht : t ∈ nT) (hl : ρ.2.1.length < 8) : Hr (rhN ρ t) := by
  refine ⟨h.1, by simp [rhN]; omega, fun x hx => ?_, h.2.2.2⟩
  rcases List.mem_append.mp hx with q | q
  · exact h.2.2.1 x q
  · rw [List.mem_singleton.mp q]; exact ht
theorem rhS_ok {ρ : Rh} (h : Hr ρ) : Hr (rhS ρ) := ⟨ho_dr h, h.2.1, h.2.2.1, h.2.2.2⟩
theorem hrR_35 (ρ : Rh) {o : Nat} (h : 35 ≤ o) : hrR ρ o = [] := by
  unfold hrR
  split <;> first | omega | rfl
theorem newsFull {ρ : Rh} {d : Dd} {c : Nat} {t : Nat} {a1 a2 v : Int32} (hc : c = ρ.2.1.length) (h8 : c < 8) :
    hp_pi (hp_pr (hX6_init (hp_nw (full d ρ) (t, 0)) (35 + ρ.2.1.length) (35 + ρ.2.1.length + 1) t a1 a2) 12 c (35 + ρ.2.1.length)) 3 6 v = full (dI (dI (dI (dZ d (35 + ρ.2.1.length)) (35 + ρ.2.1.length) 0 a1) (35 + ρ.2.1.length) 1 a2) 3 6 v) (rhN ρ t) := by
  subst hc
  have hlen : (full d ρ).2.2.2.length = 35 + ρ.2.1.length := shS_len ρ
  unfold hX6_init hp_pi hp_pr
  refine Prod.ext ?_ (Prod.ext ?_ (Prod.ext ?_ ?_))
  · show set2 (set2 (set2 (hp_nw (full d ρ) (t, 0)).1 _ _ _) _ _ _) _ _ _ = set2 (set2 (set2 (dZ d (35 + ρ.2.1.length)).1 _ _ _) _ _ _) _ _ _
    have : (hp_nw (full d ρ) (t, 0)).1 = (dZ d (35 + ρ.2.1.length)).1 := by
      funext j k; show (if j = (full d ρ).2.2.2.length then 0 else _) = _; rw [hlen]; rfl
    rw [this]
  · funext j k; show (if j = (full d ρ).2.2.2.length then 0 else _) = _; rw [hlen]; rfl
  · funext o k
    show set2 (hp_nw (full d ρ) (t, 0)).2.2.1 12 ρ.2.1.length (35 + ρ.2.1.length) o k = hrS (rhN ρ t) o k
    have hnw : (hp_nw (full d ρ) (t, 0)).2.2.1 o k = if o = 35 + ρ.2.1.length then 0 else hrS ρ o k := by
      show (if o = (full d ρ).2.2.2.length then 0 else _) = _; rw [hlen]; rfl
    unfold set2
    rw [hnw]
    by_cases h15 : o = 12
    · subst h15
      have h0 : ¬ 12 = 35 + ρ.2.1.length := by omega
      rw [if_neg h0]
      unfold hrS
      rw [if_pos rfl, if_pos rfl]
      have e : (rhN ρ t).2.1.length = ρ.2.1.length + 1 := by simp [rhN]
      rw [e]
      by_cases hk : k = ρ.2.1.length
      · subst hk
        rw [if_pos ⟨rfl, rfl⟩, if_pos (by omega)]
      · rw [if_neg (fun q => hk q.2)]
        by_cases hk2 : k < ρ.2.1.length
        · rw [if_pos hk2, if_pos (by omega)]
        · rw [if_neg hk2, if_neg (by omega)]
    · rw [if_neg (fun q => h15 q.1)]
      have e2 : hrS (rhN ρ t) o k = hrS ρ o k := by
        unfold hrS
        rw [if_neg h15, if_neg h15]
        rfl
      rw [e2]
      by_cases hn : o = 35 + ρ.2.1.length
      · rw [if_pos hn]
        unfold hrS
        rw [if_neg h15, hrR_35 ρ (by omega)]
        rfl
      · rw [if_neg hn]
  · show shS ρ ++ [(t, 0)] = shS (rhN ρ t)
    simp [shS, rhN]
theorem swapFull {ρ : Rh} {d : Dd} (hρ : Hr ρ) : hp_pr (hp_pr (full d ρ) 3 1 (15 - ρ.1)) 3 2 ρ.1 = full d (rhS ρ) := by
  have h15 : 15 - (15 - ρ.1) = ρ.1 := by rcases hρ.1 with h | h <;> omega
  refine Prod.ext rfl (Prod.ext rfl (Prod.ext ?_ rfl))
  funext o k
  show set2 (set2 (hrS ρ) 3 1 (15 - ρ.1)) 3 2 ρ.1 o k = hrS (rhS ρ) o k
  by_cases h3 : o = 3
  · subst h3
    unfold set2
    by_cases h2 : k = 2
    · subst h2; exact h15.symm
    · by_cases h1 : k = 1
      · subst h1; rfl
      · rw [if_neg (fun q => h2 q.2), if_neg (fun q => h1 q.2)]
        match k, h1, h2 with
        | 0, _, _ => rfl
        | 1, h1, _ => exact absurd rfl h1
        | 2, _, h2 => exact absurd rfl h2
        | k + 3, _, _ => rfl
  · unfold set2
    rw [if_neg (fun q => h3 q.1), if_neg (fun q => h3 q.1)]
    unfold hrS
    by_cases h15 : o = 12
    · subst h15; rfl
    · rw [if_neg h15, if_neg h15]
      have : hrR (rhS ρ) o = hrR ρ o := by
        unfold hrR
        split <;> first | rfl | exact absurd rfl h3
      rw [this]
def fX11_news (ρ : Rh) (d : Dd) (a1 : Int32) (a2 : Int32) : Option (Int32 × Dd × Rh) :=
  if a1 < 0 then some (-102, d, ρ) else if 5 ≤ a1 then some (-102, d, ρ) else if a2 < 0 then some (-102, d, ρ) else
  (fX6_mostOf a1).bind fun r1 =>
  if a2 ≤ r1 then (if d_i d 3 6 < 0 then some (-104, d, ρ) else if d_i d 3 6 < 8 then
    (if ix (d_i d 3 6) = ρ.2.1.length then some (d_i d 3 6, dI (dI (dI (dZ d (35 + ρ.2.1.length)) (35 + ρ.2.1.length) 0 a1) (35 + ρ.2.1.length) 1 a2) 3 6 (d_i d 3 6 + 1), rhN ρ (tagK a1)) else none)
    else some (-104, d, ρ))
  else some (-102, d, ρ)
theorem nwC {t : Nat} (h : t ∈ nT) : ∃ C T N, ClK t C T N ∧ (C = "SoldNews$News" ∨ (C, "SoldNews$News") ∈ caP) := by
  rcases mem5 h with rfl | rfl | rfl | rfl | rfl
  · exact ⟨_, _, _, clk0, Or.inr (by decide)⟩
  · exact ⟨_, _, _, clk4, Or.inr (by decide)⟩
  · exact ⟨_, _, _, clk6, Or.inl rfl⟩
  · exact ⟨_, _, _, clk8, Or.inr (by decide)⟩
  · exact ⟨_, _, _, clk9, Or.inr (by decide)⟩
section WWo
variable {α β : Type} {g : Gx} {M M' : Mx} {emb : α → Option Value × HP} {emb' : β → Option Value × HP} {pc : Nat} {L : List (Nat × Value)} {st : List Value} {h : HP} {kc ks : Nat} {res : Option α}
theorem WW.aastH {o n x ci z : Nat} {i : Int32} (hin : inB i n = true) (h3 : 3 ≤ o) (hs : h.2.2.2[o]? = some (23, n)) (hx3 : 3 ≤ x) (hx : h.2.2.2[x]? = some (ci, z)) (hC : ∃ C T N, ClK ci C T N ∧ (C = "SoldNews$News" ∨ (C, "SoldNews$News") ∈ caP)) (hd : decode (m_cc M) pc = .ok (.aastore, 1)) (kk : WW g M emb (pc + 1) L st (hp_pr h o (ix i) x) kc ks res) : WW g M emb pc L (.ref x :: .int i :: .ref o :: st) h kc ks res := by
  have q := WW.aast h3 hs hx3 hx hC hd kk (i := i)
  rw [if_pos hin] at q
  exact q
theorem WW.ialdH {o n : Nat} {i : Int32} (hin : inB i n = true) (h1 : 1 ≤ o) (hs : h.2.2.2[o]? = some (20, n)) (hd : decode (m_cc M) pc = .ok (.iaload, 1)) (kk : WW g M emb (pc + 1) L (.int (h.1 o (ix i)) :: st) h kc ks res) : WW g M emb pc L (.int i :: .ref o :: st) h kc ks res := by
  have q := WW.iald h1 hs hd kk
  rw [if_pos hin] at q
  exact q
theorem WW.icmpH {x : Int32} {off : Int} (tgt : Nat) (hd : decode (m_cc M) pc = .ok (.if_icmp .eq off, 3)) (ht : (pc : Int) + off = (tgt : Int)) (k1 : WW g M emb tgt L st h kc ks res) : WW g M emb pc L (.int x :: .int x :: st) h kc ks res := by
  have q := WW.icmp_eq (x := x) (y := x) (r2 := Option.none) tgt hd ht (fun _ => k1) (fun _ => WW.none)
  rw [if_pos rfl] at q
  exact q
theorem WW.lcmpH {x : Int64} {off : Int} (tgt : Nat) (hd0 : decode (m_cc M) pc = .ok (.lcmp, 1)) (hd : decode (m_cc M) (pc + 1) = .ok (.ifCond .eq off, 3)) (ht : ((pc + 1 : Nat) : Int) + off = (tgt : Int)) (k1 : WW g M emb tgt L st h kc ks res) : WW g M emb pc L (.long x :: .long x :: st) h kc ks res := by
  have q := WW.lcmp_eq (x := x) (y := x) (r2 := Option.none) tgt hd0 hd ht (fun _ => k1) (fun _ => WW.none)
  rw [if_pos rfl] at q
  exact q
theorem WW.callS1 {As : List Value} {ixx n : Nat} {b : β} (hlk : LkS (m_own M) ixx M' n) (hc : CallR g M' emb' As h (some b)) (hn : As.length = n) (hst : (st.map fun v => v.category).sum ≤ 8) (hfit : Fit M M' kc ks) (hd : decode (m_cc M) pc = .ok (.invokestatic ixx, 3)) {stk : List Value} (hstk : stk = As.reverse ++ st)
    (hk : WW g M emb (pc + 3) L ((emb' b).1.toList ++ st) (emb' b).2 (kc + m_mc M') (ks + m_ms M') res) : WW g M emb pc L stk h kc ks res :=
  WW.callS (κ := fun _ => res) hlk hc hn hst hfit hd hstk (fun b' hb => by cases hb; exact hk)
theorem WW.callN1 {As : List Value} {ixx n : Nat} {b : β} (hlk : LkN (m_own M) ixx M' n) (hc : CallR g M' emb' As h (some b)) (hn : As.length = n) (hst : (st.map fun v => v.category).sum ≤ 8) (hfit : Fit M M' kc ks) (hd : decode (m_cc M) pc = .ok (.invokestatic ixx, 3)) {stk : List Value} (hstk : stk = As.reverse ++ st)
    (hk : WW g M emb (pc + 3) L ((emb' b).1.toList ++ st) (emb' b).2 (kc + m_mc M') (ks + m_ms M') res) : WW g M emb pc L stk h kc ks res :=
  WW.callN (κ := fun _ => res) hlk hc hn hst hfit hd hstk (fun b' hb => by cases hb; exact hk)
theorem WW.callVH {As : List Value} {ixx n ci o z : Nat} {b : β} {res' : Option β} (hres : res' = some b) (hlk : LkV (m_own M) ixx M' n) (hc : CallR g M' emb' (.ref o :: As) h res') (h3 : 3 ≤ o) (hs : h.2.2.2[o]? = some (ci, z)) (hC : ∃ T N, ClK ci (m_y M').cls T N) (hn : As.length = n) (hst : (st.map fun v => v.category).sum ≤ 8) (hfit : Fit M M' kc ks) (hd : decode (m_cc M) pc = .ok (.invokevirtual ixx, 3)) {stk : List Value} (hstk : stk = As.reverse ++ .ref o :: st)
    (hk : WW g M emb (pc + 3) L ((emb' b).1.toList ++ st) (emb' b).2 (kc + m_mc M') (ks + m_ms M') res) : WW g M emb pc L stk h kc ks res := by
  subst hres
  exact WW.callV (κ := fun _ => res) hlk hc h3 hs hC hn hst hfit hd hstk (fun b' hb => by cases hb; exact hk)
/-- more room is used up than is told -/
theorem WW.wide {kc' ks' : Nat} (h1 : kc ≤ kc') (h2 : ks ≤ ks') (k : WW g M emb pc L st h kc' ks' res) : WW g M emb pc L st h kc ks res := by
  intro a ha p l e R s m args below meth c Q X hr H locs ls w hS hl
  exact W.widen (k := kc') (n := ks') h1 h2 (k a ha p l e R s m args below meth c Q X hr H locs ls w hS hl)
end WWo
set_option maxHeartbeats 4000000 in
set_option maxRecDepth 100000 in
theorem okX11_news (g : Gx) (ρ : Rh) (hρ : Hr ρ) (d : Dd) (a1 a2 : Int32) : CallR g M_X11_news eJ [.ref 3, .int a1, .int a2] (full d ρ) (fX11_news ρ d a1 a2) := by
  refine CallR.intro rfl rfl (Nat.le_of_ble_eq_true rfl) (fun a ha => ⟨_, rfl⟩) ?_
  show WW g _ _ 0 [(0, .ref 3), (1, .int a1), (2, .int a2)] [] (full d ρ) 0 0 _
  unfold fX11_news
  refine WW.iload_n (pc := 0) (j := 1) rfl dX11_news_0 ?_
  refine WW.if_lt (pc := 1) 21 dX11_news_1 (by decide) (fun _ => ?_) (fun _ => ?_)
  · refine WW.bipush (pc := 21) (-102) dX11_news_21 rfl ?_
    exact WW.ret rfl rfl (show RetI M_X11_news 23 from dX11_news_23) ⟨(Nat.le_of_ble_eq_true rfl), (Nat.le_of_ble_eq_true rfl)⟩ rfl
  refine WW.iload_n (pc := 4) (j := 1) rfl dX11_news_4 ?_
  refine WW.iconst (pc := 5) 5 dX11_news_5 rfl ?_
  refine WW.icmp_ge (pc := 6) 21 dX11_news_6 (by decide) (fun _ => ?_) (fun _ => ?_)
  · refine WW.bipush (pc := 21) (-102) dX11_news_21 rfl ?_
    exact WW.ret rfl rfl (show RetI M_X11_news 23 from dX11_news_23) ⟨(Nat.le_of_ble_eq_true rfl), (Nat.le_of_ble_eq_true rfl)⟩ rfl
  refine WW.iload_n (pc := 9) (j := 2) rfl dX11_news_9 ?_
  refine WW.if_lt (pc := 10) 21 dX11_news_10 (by decide) (fun _ => ?_) (fun _ => ?_)
  · refine WW.bipush (pc := 21) (-102) dX11_news_21 rfl ?_
    exact WW.ret rfl rfl (show RetI M_X11_news 23 from dX11_news_23) ⟨(Nat.le_of_ble_eq_true rfl), (Nat.le_of_ble_eq_true rfl)⟩ rfl
  refine WW.iload_n (pc := 13) (j := 2) rfl dX11_news_13 ?_
  refine WW.iload_n (pc := 14) (j := 1) rfl dX11_news_14 ?_
  refine WW.callS (pc := 15) (As := [.int a1]) (st := [.int a2]) lk_X11_136 (okX6_mostOf g ρ hρ d a1) rfl (Nat.le_of_ble_eq_true rfl) ⟨Nat.le_of_ble_eq_true rfl, Nat.le_of_ble_eq_true rfl, Nat.le_of_ble_eq_true rfl, Nat.le_of_ble_eq_true rfl⟩ dX11_news_15 rfl (fun r1 hr1 => ?_)
  show WW _ _ _ 18 _ [.int r1, .int a2] (full d ρ) 0 0 _
  refine WW.icmp_le (pc := 18) 24 dX11_news_18 (by decide) (fun _ => ?_) (fun _ => ?_)
  · refine WW.aload_n (pc := 24) (j := 0) rfl dX11_news_24 ?_
    refine WW.sgi (pc := 25) fl_X11_139_11 h3_3 (sh_3 ρ) (Or.inl gt_11_6) dX11_news_25 ?_
    refine WW.if_lt (pc := 28) 43 dX11_news_28 (by decide) (fun _ => ?_) (fun h0 => ?_)
    · refine WW.bipush (pc := 43) (-104) dX11_news_43 rfl ?_
      exact WW.ret rfl rfl (show RetI M_X11_news 45 from dX11_news_45) ⟨(Nat.le_of_ble_eq_true rfl), (Nat.le_of_ble_eq_true rfl)⟩ rfl
    refine WW.aload_n (pc := 31) (j := 0) rfl dX11_news_31 ?_
    refine WW.sgi (pc := 32) fl_X11_139_11 h3_3 (sh_3 ρ) (Or.inl gt_11_6) dX11_news_32 ?_
    refine WW.aload_n (pc := 35) (j := 0) rfl dX11_news_35 ?_
    refine WW.sgr (pc := 36) fl_X11_28_11 h3_3 (sh_3 ρ) (Or.inr ⟨_, gt_11_5⟩) (hr_3_5 ρ) dX11_news_36 ?_
    refine WW.alen (pc := 39) 8 (one_le h3_12) (Or.inr (Or.inr (Or.inr rfl))) (sh_12 ρ) rfl dX11_news_39 ?_
    refine WW.icmp_lt (pc := 40) 46 dX11_news_40 (by decide) (fun h8 => ?_) (fun _ => ?_)
    · refine WW.ite (fun hc => ?_) (fun _ => WW.none)
      have hc8 : ix (d_i d 3 6) < 8 := by
        have q0 : ¬ (d_i d 3 6).toInt < 0 := fun q => h0 (Int32.lt_iff_toInt_lt.mpr q)
        have q8 : (d_i d 3 6).toInt < 8 := Int32.lt_iff_toInt_lt.mp h8
        unfold ix
        rw [Int32.toNatClampNeg]
        show (d_i d 3 6).toInt.toNat < 8
        omega
      have hin : inB (d_i d 3 6) 8 = true := by
        have q0 : ¬ (d_i d 3 6).toInt < 0 := fun q => h0 (Int32.lt_iff_toInt_lt.mpr q)
        have q8 : (d_i d 3 6).toInt < 8 := Int32.lt_iff_toInt_lt.mp h8
        unfold inB
        rw [decide_eq_true (by omega), decide_eq_true (by omega)]; rfl
      refine WW.aload_n (pc := 46) (j := 0) rfl dX11_news_46 ?_
      refine WW.sgr (pc := 47) fl_X11_28_11 h3_3 (sh_3 ρ) (Or.inr ⟨_, gt_11_5⟩) (hr_3_5 ρ) dX11_news_47 ?_
      refine WW.aload_n (pc := 50) (j := 0) rfl dX11_news_50 ?_
      refine WW.sgi (pc := 51) fl_X11_139_11 h3_3 (sh_3 ρ) (Or.inl gt_11_6) dX11_news_51 ?_
      refine WW.iload_n (pc := 54) (j := 1) rfl dX11_news_54 ?_
      refine WW.iload_n (pc := 55) (j := 2) rfl dX11_news_55 ?_
      have hlen : (full d ρ).2.2.2.length = 35 + ρ.2.1.length := shS_len ρ
      refine WW.callS1 (pc := 56) (As := [.int a1, .int a2]) (st := [.int (d_i d 3 6), .ref 12]) lk_X11_142 (okX6_ofKind g (full d ρ) (35 + ρ.2.1.length) a1 a2 (by omega) hlen) rfl (Nat.le_of_ble_eq_true rfl) ⟨Nat.le_of_ble_eq_true rfl, Nat.le_of_ble_eq_true rfl, Nat.le_of_ble_eq_true rfl, Nat.le_of_ble_eq_true rfl⟩ dX11_news_56 rfl ?_
      show WW _ _ _ 59 _ [.ref (35 + ρ.2.1.length), .int (d_i d 3 6), .ref 12] (hX6_init (hp_nw (full d ρ) (tagK a1, 0)) (35 + ρ.2.1.length) (35 + ρ.2.1.length + 1) (tagK a1) a1 a2) 1 2 _
      have hnew : (shS ρ ++ [(tagK a1, 0)])[35 + ρ.2.1.length]? = some (tagK a1, 0) := nwa hlen
      refine WW.aastH (pc := 59) (n := 8) (o := 12) (x := 35 + ρ.2.1.length) (ci := tagK a1) (z := 0) hin h3_12 (nwo (sh_12 ρ)) (by omega) hnew (nwC (tagK_nT a1)) dX11_news_59 ?_
      refine WW.aload_n (pc := 60) (j := 0) rfl dX11_news_60 ?_
      refine WW.dup (pc := 61) rfl dX11_news_61 ?_
      have hn3 : (3 : Nat) ≠ 35 + ρ.2.1.length := by omega
      refine WW.getf (pc := 62) (o := 3) (ci := 11) (k := 6) (z := 0) (.int (d_i d 3 6)) fl_X11_139_11 h3_3 (nwo (sh_3 ρ)) ?_ dX11_news_62 ?_
      · rw [gt_11_6]
        show Value.int (set2 (set2 (hp_nw (full d ρ) (tagK a1, 0)).1 _ _ _) _ _ _ 3 6) = _
        rw [set2_ne hn3, set2_ne hn3, (hp_nw_old (h := full d ρ) (j := 3) (by rw [hlen]; exact hn3)).1]
        rfl
      · refine WW.dup_x1 (pc := 65) rfl rfl dX11_news_65 ?_
        refine WW.iconst (pc := 66) 1 dX11_news_66 rfl ?_
        refine WW.iadd (pc := 67) dX11_news_67 ?_
        refine WW.puti (pc := 68) (o := 3) (ci := 11) (k := 6) (z := 0) fp_X11_139_11 (fun h => by cases h) h3_3 (nwo (sh_3 ρ)) (Or.inl gt_11_6) dX11_news_68 ?_
        refine WW.ret (r := some (.int (d_i d 3 6))) rfl ?_ (show RetI M_X11_news 71 from dX11_news_71) ⟨(Nat.le_of_ble_eq_true rfl), (Nat.le_of_ble_eq_true rfl)⟩ rfl
        exact Prod.ext rfl (newsFull hc hc8).symm
    · refine WW.bipush (pc := 43) (-104) dX11_news_43 rfl ?_
      exact WW.ret rfl rfl (show RetI M_X11_news 45 from dX11_news_45) ⟨(Nat.le_of_ble_eq_true rfl), (Nat.le_of_ble_eq_true rfl)⟩ rfl
  · refine WW.bipush (pc := 21) (-102) dX11_news_21 rfl ?_
    exact WW.ret rfl rfl (show RetI M_X11_news 23 from dX11_news_23) ⟨(Nat.le_of_ble_eq_true rfl), (Nat.le_of_ble_eq_true rfl)⟩ rfl
def fX11_market (ρ : Rh) (d : Dd) : Option (Int32 × Dd × Rh) :=
  (fX7_readInto ρ d (15 - ρ.1)).bind fun r1 =>
  if r1.1 = true then (fX11_unsettle (rhS ρ) (dI (dI r1.2 3 3 1) 4 1 0)).bind fun d3 => some (d_i d3 (15 - ρ.1) 2, d3, rhS ρ)
  else some (-103, r1.2, ρ)
set_option maxHeartbeats 4000000 in
set_option maxRecDepth 100000 in
theorem okX11_market (g : Gx) (ρ : Rh) (hρ : Hr ρ) (d : Dd) : CallR g M_X11_market eJ [.ref 3] (full d ρ) (fX11_market ρ d) := by
  refine CallR.intro rfl rfl (Nat.le_of_ble_eq_true rfl) (fun a ha => ⟨_, rfl⟩) ?_
  show WW g _ _ 0 [(0, .ref 3)] [] (full d ρ) 0 0 _
  unfold fX11_market
  refine WW.aload_n (pc := 0) (j := 0) rfl dX11_market_0 ?_
  refine WW.sgr (pc := 1) fl_X11_10_11 h3_3 (sh_3 ρ) (Or.inl ⟨_, gt_11_0⟩) (hr_3_0 ρ) dX11_market_1 ?_
  refine WW.aload_n (pc := 4) (j := 0) rfl dX11_market_4 ?_
  refine WW.sgr (pc := 5) fl_X11_23_11 h3_3 (sh_3 ρ) (Or.inl ⟨_, gt_11_2⟩) (hr_dr ρ) dX11_market_5 ?_
  refine WW.callV (pc := 8) (As := [.ref (15 - ρ.1)]) (st := []) lk_X11_82 (okX7_readInto g ρ hρ d (15 - ρ.1) (ho_dr hρ)) h3_4 (sh_4 ρ) ⟨_, _, clk7⟩ rfl (Nat.le_of_ble_eq_true rfl) ⟨Nat.le_of_ble_eq_true rfl, Nat.le_of_ble_eq_true rfl, Nat.le_of_ble_eq_true rfl, Nat.le_of_ble_eq_true rfl⟩ dX11_market_8 rfl (fun r1 hr1 => ?_)
  show WW _ _ _ 11 _ [.int (b2i r1.1)] (full r1.2 ρ) 0 0 _
  refine WW.if_neB (pc := 11) 17 dX11_market_11 (by decide) (fun _ => ?_) (fun _ => ?_)
  · refine WW.aload_n (pc := 17) (j := 0) rfl dX11_market_17 ?_
    refine WW.sgr (pc := 18) fl_X11_19_11 h3_3 (sh_3 ρ) (Or.inl ⟨_, gt_11_1⟩) (hr_mk ρ) dX11_market_18 ?_
    refine WW.astore_n (pc := 21) [(1, .ref ρ.1), (0, .ref 3)] rfl (by decide) dX11_market_21 ?_
    refine WW.aload_n (pc := 22) (j := 1) rfl dX11_market_22 ?_
    refine WW.aload_n (pc := 23) (j := 1) rfl dX11_market_23 ?_
    refine WW.sgr (pc := 24) fl_X11_23_11 h3_3 (sh_3 ρ) (Or.inl ⟨_, gt_11_2⟩) (hr_dr ρ) dX11_market_24 ?_
    have hne : 15 - ρ.1 ≠ 0 := by have := ho_dr hρ; omega
    have hne2 : ρ.1 ≠ 0 := by have := hρ.1; omega
    refine WW.putr (pc := 27) fp_X11_19_11 (fun h => by cases h) h3_3 (sh_3 ρ) (Or.inl ⟨_, gt_11_1⟩) hne dX11_market_27 ?_
    refine WW.aload_n (pc := 30) (j := 1) rfl dX11_market_30 ?_
    refine WW.aload_n (pc := 31) (j := 0) rfl dX11_market_31 ?_
    refine WW.putr (pc := 32) fp_X11_23_11 (fun h => by cases h) h3_3 (sh_3 ρ) (Or.inl ⟨_, gt_11_2⟩) hne2 dX11_market_32 ?_
    rw [swapFull hρ]
    have hS := rhS_ok hρ
    refine WW.aload_n (pc := 35) (j := 1) rfl dX11_market_35 ?_
    refine WW.iconst (pc := 36) 1 dX11_market_36 rfl ?_
    refine WW.puti (pc := 37) fp_X11_89_11 (fun h => by cases h) h3_3 (sh_3 (rhS ρ)) (Or.inr ⟨gt_11_3, Or.inr rfl⟩) dX11_market_37 ?_
    show WW _ _ _ 40 _ [] (full (dI r1.2 3 3 1) (rhS ρ)) 0 0 _
    refine WW.aload_n (pc := 40) (j := 1) rfl dX11_market_40 ?_
    refine WW.sgr (pc := 41) fl_X11_10_11 h3_3 (sh_3 (rhS ρ)) (Or.inl ⟨_, gt_11_0⟩) (hr_3_0 (rhS ρ)) dX11_market_41 ?_
    refine WW.iconst (pc := 44) 0 dX11_market_44 rfl ?_
    refine WW.puti (pc := 45) fp_X11_78_7 (fun h => by cases h) h3_4 (sh_4 (rhS ρ)) (Or.inl gt_7_1) dX11_market_45 ?_
    show WW _ _ _ 48 _ [] (full (dI (dI r1.2 3 3 1) 4 1 0) (rhS ρ)) 0 0 _
    refine WW.aload_n (pc := 48) (j := 1) rfl dX11_market_48 ?_
    refine WW.callV (pc := 49) (As := []) (st := []) lk_X11_93 (okX11_unsettle g (rhS ρ) hS (dI (dI r1.2 3 3 1) 4 1 0)) h3_3 (sh_3 (rhS ρ)) ⟨_, _, clk11⟩ rfl (Nat.le_of_ble_eq_true rfl) ⟨Nat.le_of_ble_eq_true rfl, Nat.le_of_ble_eq_true rfl, Nat.le_of_ble_eq_true rfl, Nat.le_of_ble_eq_true rfl⟩ dX11_market_49 rfl (fun d3 hd3 => ?_)
    show WW _ _ _ 52 _ [] (full d3 (rhS ρ)) 0 0 _
    refine WW.aload_n (pc := 52) (j := 1) rfl dX11_market_52 ?_
    refine WW.sgr (pc := 53) fl_X11_19_11 h3_3 (sh_3 (rhS ρ)) (Or.inl ⟨_, gt_11_1⟩) (hr_mk (rhS ρ)) dX11_market_53 ?_
    refine WW.sgi (pc := 56) fl_X11_96_5 (mk3 hS.1) (mkS hS.1) (Or.inl gt_5_2) dX11_market_56 ?_
    exact WW.ret rfl rfl (show RetI M_X11_market 59 from dX11_market_59) ⟨Nat.le_refl _, Nat.le_refl _⟩ rfl
  · refine WW.bipush (pc := 14) (-103) dX11_market_14 rfl ?_
    exact WW.ret rfl rfl (show RetI M_X11_market 16 from dX11_market_16) ⟨Nat.le_refl _, Nat.le_refl _⟩ rfl
