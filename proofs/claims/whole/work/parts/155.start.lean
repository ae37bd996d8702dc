set_option maxHeartbeats 4000000 in
set_option maxRecDepth 100000 in
/-- from the law's first row to the loop's head -/
theorem law_head {g : Gx} {hf : HP} {xs : Nat → Int32} {L : Nat} (kk : WW g M_L_law (eF hf) 18 (LH (J 0)) [] (full (d00 xs) (6, [], L)) 32 1491 (some ())) : WW g M_L_law (eF hf) 0 [(0, .ref 2)] [] (h00 xs L) 0 0 (some ()) := by
  refine WW.newn (pc := 0) (n0 := 3) rfl lkc_L_7 ⟨(Nat.le_of_ble_eq_true rfl), (Nat.le_of_ble_eq_true rfl)⟩ dL_law_0 ?_
  refine WW.dup (pc := 3) rfl dL_law_3 ?_
  refine WW.callI1 (pc := 4) (As := []) (st := [.ref 3]) lki_L_9 (okX11_init g (hp_nw (h00 xs L) (11, 0)) 3 4 (by decide) (by decide) (nwl rfl) (by decide) (nwa rfl)) (by decide) rfl (Nat.le_of_ble_eq_true rfl) ⟨Nat.le_of_ble_eq_true rfl, Nat.le_of_ble_eq_true rfl, Nat.le_of_ble_eq_true rfl, Nat.le_of_ble_eq_true rfl⟩ dL_law_4 rfl ?_
  show WW _ _ _ 7 _ [.ref 3] (hX11_init (hp_nw (h00 xs L) (11, 0)) 3 4) 20 1291 _
  refine WW.astore_n (pc := 7) [(1, .ref 3), (0, .ref 2)] rfl (by decide) dL_law_7 ?_
  have hl1 : (hX11_init (hp_nw (h00 xs L) (11, 0)) 3 4).2.2.2.length = 23 := by
    unfold hX11_init hX10_init hX2_init hX3_init hX1_init hX5_init hX7_init
    simp only [nwS, prS, piS]
    simp [h00]
  refine WW.newn (pc := 8) (n0 := 23) hl1 lkc_L_10 ⟨(Nat.le_of_ble_eq_true rfl), (Nat.le_of_ble_eq_true rfl)⟩ dL_law_8 ?_
  refine WW.dup (pc := 11) rfl dL_law_11 ?_
  refine WW.callI1 (pc := 12) (As := []) (st := [.ref 23]) lki_L_12 (okX12_init g (hp_nw (hX11_init (hp_nw (h00 xs L) (11, 0)) 3 4) (12, 0)) 23 24 (by decide) (by decide) (nwl hl1) (by decide) (nwa hl1)) (by decide) rfl (Nat.le_of_ble_eq_true rfl) ⟨Nat.le_of_ble_eq_true rfl, Nat.le_of_ble_eq_true rfl, Nat.le_of_ble_eq_true rfl, Nat.le_of_ble_eq_true rfl⟩ dL_law_12 rfl ?_
  show WW _ _ _ 15 _ [.ref 23] (hA (h00 xs L)) 32 1491 _
  rw [hA_full]
  refine WW.astore_n (pc := 15) [(2, .ref 23), (1, .ref 3), (0, .ref 2)] rfl (by decide) dL_law_15 ?_
  refine WW.iconst (pc := 16) 0 dL_law_16 rfl ?_
  refine WW.istore_n (pc := 17) [(3, .int 0), (2, .ref 23), (1, .ref 3), (0, .ref 2)] rfl (by decide) dL_law_17 ?_
  refine WW.sub [3, 2, 1, 0] rfl ?_
  exact kk
theorem plc_of {args : Array Value} {s : State} (hgv : (Cond.and given_1 narrow_1).before args s = true) : ∃ a : Nat, (Term.static "SoldNews" "PLACES" "[I").eval args s none [] s = some (.ref a) ∧ a < s.heap.size ∧ OldA a 4 plc s s.heap := by
  have hs := flat_of_before _ hgv
  have e0 := eq_of_int (hs (.eq (.elem (.static "SoldNews" "PLACES" "[I") (.int 0)) (.int 1)) (by decide +kernel))
  have e1 := eq_of_int (hs (.eq (.elem (.static "SoldNews" "PLACES" "[I") (.int 1)) (.int 7)) (by decide +kernel))
  have e2 := eq_of_int (hs (.eq (.elem (.static "SoldNews" "PLACES" "[I") (.int 2)) (.int 49)) (by decide +kernel))
  have e3 := eq_of_int (hs (.eq (.elem (.static "SoldNews" "PLACES" "[I") (.int 3)) (.int 343)) (by decide +kernel))
  have el := eq_of_int (hs (.eq (.length (.static "SoldNews" "PLACES" "[I")) (.int 4)) (by decide +kernel))
  have ea : (Cond.arrayOf (.static "SoldNews" "PLACES" "[I") .int).before args s = true := hs _ (by decide +kernel)
  obtain ⟨a, j, cell, ha, hj, hat, -, hv0⟩ := Term.elem_spec e0
  obtain ⟨a1, j1, cell1, ha1, hj1, hat1, -, hv1⟩ := Term.elem_spec e1
  obtain ⟨a2, j2, cell2, ha2, hj2, hat2, -, hv2⟩ := Term.elem_spec e2
  obtain ⟨a3, j3, cell3, ha3, hj3, hat3, -, hv3⟩ := Term.elem_spec e3
  cases ha.symm.trans ha1
  cases ha.symm.trans ha2
  cases ha.symm.trans ha3
  cases hat.symm.trans hat1
  cases hat.symm.trans hat2
  cases hat.symm.trans hat3
  have q0 : j = 0 := by have : some (Value.int 0) = some (Value.int j) := hj; injection this with h; injection h with h; exact h.symm
  have q1 : j1 = 1 := by have : some (Value.int 1) = some (Value.int j1) := hj1; injection this with h; injection h with h; exact h.symm
  have q2 : j2 = 2 := by have : some (Value.int 2) = some (Value.int j2) := hj2; injection this with h; injection h with h; exact h.symm
  have q3 : j3 = 3 := by have : some (Value.int 3) = some (Value.int j3) := hj3; injection this with h; injection h with h; exact h.symm
  subst q0 q1 q2 q3
  obtain ⟨hcell, hkn, -, -⟩ := State.arrayAt?_spec hat
  have hsz := size_of_len (n := 4) (by decide) ha hat el
  have hof := Cond.arrayOf_spec ea ha hcell
  refine ⟨a, ha, (Array.getElem?_eq_some_iff.mp hcell).1, cell, hcell, hof.1, hkn, hsz, fun k hk => ?_⟩
  match k, hk with
  | 0, _ => exact hv0
  | 1, _ => exact hv1
  | 2, _ => exact hv2
  | 3, _ => exact hv3
  | k + 4, hk => exact absurd hk (by omega)
set_option maxHeartbeats 4000000 in
set_option maxRecDepth 100000 in
theorem start_of {Inv : Dd → Rh → Prop} (hO : Ops Inv) (hH : ∀ d ρ, Inv d ρ → Hr ρ) (hI0 : ∀ (xs : Nat → Int32) (L : Nat), L ≤ 3584 → Inv (d00 xs) (6, [], L))
    {p : Program} {e : Env} {s : State} {m : MethodId} {below : List Frame} {meth : Method} {c : Code} (l : Launch) {b L : Nat} {xs : Nat → Int32} (hL : L ≤ 3584)
    (hexec : p.tables.exec = Jvm.exec) (hcode : c.code = code) (hret : meth.sig.returnType = ret) (hml : c.maxLocals = 4) (hown : s.vm.findClass RL = some m.cls) (hts : ∀ w ∈ lw_tbl, w.before #[Value.ref b] s = true) (hX : va_X b L xs s s.heap) (hbl : b < s.heap.size) (hgv : (Jvm.Cond.and given_1 narrow_1).before #[Value.ref b] s = true) (Q : State → Prop)
    (hend : ∀ (pc : Nat) (H : Heap) (ls : Array Slot), decode code pc = .ok (.ireturn, 1) → W p l e room_1 s m #[Value.ref b] below meth c H [] 600000 7302250 Q (F0 m pc ls [.int 1])) : W p l e room_1 s m #[Value.ref b] below meth c s.heap [] 0 0 Q (entryFrame m ([Value.ref b] : List Value).toArray 4) := by
  have hk := kn_all hts
  obtain ⟨cI, aI, bI⟩ := ar_prim (hts _ (wB_tbl wd_106))
  obtain ⟨cL, aL, bL⟩ := ar_prim (hts _ (wB_tbl wd_267))
  obtain ⟨cZ, aZ, bZ⟩ := ar_prim (hts _ (wB_tbl wd_266))
  have hAO : (Cond.arrayOver (.object "SoldNews$News")).before #[Value.ref b] s = true := hts _ (tbl_at 143 (by decide +kernel))
  obtain ⟨cN, aN, bN⟩ := ar_news hAO
  obtain ⟨ap, hpe, hpl, hpo⟩ := plc_of hgv
  let g : Gx := ((fun c => Classical.choose (hk c), fun c => Classical.choose (Classical.choose_spec (hk c))), (cI, cL, cZ, cN), (ap, b, s.heap.size))
  have hT : Tb g s := by
    refine ⟨⟨fun c q hq => Classical.choose_spec (Classical.choose_spec (hk c)) q hq, fun k q hq => ?_⟩, fun w hw => ?_, fun q hq => ?_, fun q hq => ?_, va_AO.of hAO⟩
    · match k, hq with
      | 0, hq => cases hq; exact ⟨aI, bI⟩
      | 1, hq => cases hq; exact ⟨aL, bL⟩
      | 2, hq => cases hq; exact ⟨aZ, bZ⟩
      | 3, hq => cases hq; exact ⟨aN, bN⟩
      | k + 4, hq => exact absurd (List.getElem?_eq_some_iff.mp hq).1 (by show ¬ k + 4 < 4; omega)
    · exact va_Nw.of (List.all_eq_true.mp nWd_on w hw) (hts w (nWd_tbl w hw))
    · have hs := flat_of_before _ hgv
      simp only [ncP, List.mem_cons, List.not_mem_nil, or_false] at hq
      rcases hq with rfl | rfl | rfl | rfl | rfl | rfl | rfl | rfl | rfl | rfl | rfl | rfl | rfl | rfl
      · exact va_Nc.of (hs (Cond.not (.castable "SoldNews$Part" "SoldNews$Plain")) (by decide +kernel))
      · exact va_Nc.of (hs (Cond.not (.castable "SoldNews$News" "SoldNews$Plain")) (by decide +kernel))
      · exact va_Nc.of (hs (Cond.not (.castable "SoldNews$Plain" "SoldNews$Part")) (by decide +kernel))
      · exact va_Nc.of (hs (Cond.not (.castable "SoldNews$Blur" "SoldNews$Part")) (by decide +kernel))
      · exact va_Nc.of (hs (Cond.not (.castable "SoldNews$Late" "SoldNews$Part")) (by decide +kernel))
      · exact va_Nc.of (hs (Cond.not (.castable "SoldNews$News" "SoldNews$Part")) (by decide +kernel))
      · exact va_Nc.of (hs (Cond.not (.castable "SoldNews$Plain" "SoldNews$Blur")) (by decide +kernel))
      · exact va_Nc.of (hs (Cond.not (.castable "SoldNews$Part" "SoldNews$Blur")) (by decide +kernel))
      · exact va_Nc.of (hs (Cond.not (.castable "SoldNews$Late" "SoldNews$Blur")) (by decide +kernel))
      · exact va_Nc.of (hs (Cond.not (.castable "SoldNews$News" "SoldNews$Blur")) (by decide +kernel))
      · exact va_Nc.of (hs (Cond.not (.castable "SoldNews$Plain" "SoldNews$Late")) (by decide +kernel))
      · exact va_Nc.of (hs (Cond.not (.castable "SoldNews$Part" "SoldNews$Late")) (by decide +kernel))
      · exact va_Nc.of (hs (Cond.not (.castable "SoldNews$Blur" "SoldNews$Late")) (by decide +kernel))
      · exact va_Nc.of (hs (Cond.not (.castable "SoldNews$News" "SoldNews$Late")) (by decide +kernel))
    · have hm : Cond.castable q.1 q.2 ∈ caW := List.mem_map.mpr ⟨q, hq, rfl⟩
      exact va_Nw.of (List.all_eq_true.mp caW_on _ hm) (hts _ (caW_tbl _ hm))
  have hZ : gZ g s s.heap := va_Zof (hts (.laysStatic "SoldNews" "PLACES" "[I") (tbl_at 605 (by decide +kernel))) (hts (.initialized "SoldNews") (tbl_at 66 (by decide +kernel))) hpe (fun a ha q => by
    have : s.heap.size ≤ a := q
    omega)
  have hC : CX g M_L_law p room_1 s m #[Value.ref b] meth c := ⟨⟨hexec, hcode, hml, hown, fun w hw => hts w (wB_tbl hw)⟩, hT, hZ, Nat.le_refl _, ⟨by decide, by decide, by decide, by decide⟩, fun h => absurd h (by decide)⟩
  have hWP : WP g (h00 xs L) s s.heap := by
    refine ⟨⟨Nat.le_refl 3, rfl, hpl, hbl⟩, fun j t h3 h4 => ?_, fun j h3 => ?_⟩
    · have : j < 3 := (List.getElem?_eq_some_iff.mp h4).1
      omega
    · rcases h3 with rfl | rfl
      · exact ⟨4, rfl, hpo⟩
      · exact ⟨L, rfl, hX⟩
  obtain ⟨hf, hW⟩ := law_loop hO hH (L + 8) (d00 xs) (6, [], L) 0 (hI0 xs L hL) (by omega) (by show (0 : Int) ≤ (L : Int) + 7; omega) hL (by show (L : Int) + 8 - 0 ≤ ((L + 8 : Nat) : Int); omega)
  have hw := law_head (hW g)
  have hl := lv_entry ([Value.ref b]) (n := 4) (Nat.le_of_ble_eq_true rfl)
  rw [lg_entry_eq]
  refine hw () rfl p l e room_1 s m #[Value.ref b] below meth c Q hC (fun pc' ls' H' locs' kc' ks' hri h1 h2 _ hS' => ?_) s.heap [] _ hWP va_S.rf hl
  refine W.widen h1 h2 ?_
  exact va_forget hS'.2.2 (hend pc' H' ls' hri)
