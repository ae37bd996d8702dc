def CR (row o k : Nat) : Prop := (o = 13 ∨ o = 14 ∨ o = 18) ∨ (o = 20 ∧ k = row) ∨ ((o = 21 ∨ o = 22) ∧ row * 4 ≤ k ∧ k < row * 4 + 4)
theorem CR_CS {row o k : Nat} (h : CR row o k) : CS o k := by
  unfold CS; rcases h with h | h | h <;> omega
theorem Fr.wr {P : Nat → Nat → Prop} {d d1 : Dd} {row n : Nat} {f : Nat → Int} (h : ∀ k, row * 4 ≤ k → k < row * 4 + n → P 22 k) (a : Fr P d d1) : Fr P d (wr d1 row n f) := fun o k q => by
  refine ⟨(a o k q).1, ?_⟩
  show (if o = 22 ∧ row * 4 ≤ k ∧ k < row * 4 + n then _ else d1.2 o k) = _
  rw [if_neg (fun z => q (by rw [z.1]; exact h k z.2.1 z.2.2))]
  exact (a o k q).2
theorem settle_step {ρ : Rh} {d0 d : Dd} {μ : Mk} {ν : Nw} {β : By} {row set o : Nat} (P : PlAt d0) (M : MktAt d0 ρ.1 μ) (N : NewAt d0 ρ o ν) (B : BuyAt d0 β) (h : mkOK μ) (hn : nwOK ν) (hβ : byOK β) (hset : set < 2 ^ bN β) (hr : row < 128) (hm : ρ.1 = 6 ∨ ρ.1 = 9) (ho : 35 ≤ o) (f : Fr (CR row) d0 d) {s : Nat} (hs : s < 4) (h21 : ∀ s' : Nat, s' < s → d_i d 21 (row * 4 + s') = J (DT μ ν β set s')) (h22 : ∀ b, b < 4 → d_l d 22 (row * 4 + b) = K (sm s (fun s' => WO1 μ ν β set b s'))) (h20 : d_i d 20 row = 1) :
    ∃ d', Fr (CR row) d0 d' ∧ (∀ s' : Nat, s' < s + 1 → d_i d' 21 (row * 4 + s') = J (DT μ ν β set s')) ∧ (∀ b, b < 4 → d_l d' 22 (row * 4 + b) = K (sm (s + 1) (fun s' => WO1 μ ν β set b s'))) ∧ d_i d' 20 row = 1 ∧
    ∀ self : Int32 × Dd → Option Dd, (bnd (((J row * 4) + J s) : Int32) fun v9 =>
                    (fX3_take ρ d ρ.1 o (J s)).bind fun r10 =>
                    (fX3_isNever ρ r10).bind fun r11 =>
                    jn (fun (x12 : Int32 × Dd) =>
                      jn (fun (x14 : Dd) =>
                        self ((J s + 1), x14)
                        ) fun k15 =>
                      if v9 < 0 then
                        (k15 x12.2)
                      else
                        (if 512 ≤ v9 then
                          (k15 x12.2)
                        else
                          (if inB v9 512 = true then
                            (bnd (dI x12.2 21 (ix v9) x12.1) fun d16 =>
                            k15 d16)
                          else none))
                      ) fun k13 =>
                    if r11 = true then
                      (k13 ((-1), r10))
                    else
                      ((fX2_begin ρ r10 (d_i r10 ρ.1 1) (J set)).bind fun r17 =>
                      (fX2_look ρ r17 1).bind fun r18 =>
                      (fX2_deal ρ r18.2 r18.1).bind fun r19 =>
                      (fX11_keepWorths ρ r19 (J row) false).bind fun r20 =>
                      k13 (r18.1, r20))) = self (J ((s + 1 : Nat) : Int), d') := by
  have hN := hβ.1
  have hN2 := h.2.2.1
  have hWb := WS_bd h hn (show (0 : Int) ≤ (s : Int) by omega) _ (Nat.le_refl (kN μ))
  have hη := hgS_ok h hn (show (0 : Int) ≤ (s : Int) ∧ (s : Int) < 4 by omega)
  have nC : ∀ j k, (j < 13 ∨ (14 < j ∧ j < 18) ∨ 35 ≤ j) → ¬ CR row j k := fun j k hj => by unfold CR; omega
  have Md := M.fr f (fun k => ⟨nC _ _ (by omega), nC _ _ (by omega), nC _ _ (by omega)⟩)
  have Nd := N.fr f (fun k => nC _ _ (by omega))
  have htk := take_val (ρ := ρ) Md Nd h hn (by omega) (show (0 : Int) ≤ (s : Int) ∧ (s : Int) < 4 by omega)
  have h16 : ∀ k, CR row 13 k := fun k => Or.inl (by omega)
  have h17 : ∀ k, CR row 14 k := fun k => Or.inl (by omega)
  have h18 : ∀ k, CR row 18 k := fun k => Or.inl (by omega)
  have h21C : CR row 21 (row * 4 + s) := Or.inr (Or.inr (by omega))
  obtain ⟨k1, k2, k3, k4, k5⟩ := kw_pre (row := row) (i := s) hr hs
  have fh := f.hr (a := WS μ ν s) (b := VS μ ν s) (c := ES μ ν s) h16
  have hnev : fX3_isNever ρ (hr3 d (WS μ ν s) (VS μ ν s) (ES μ ν s)) = some (decide (WS μ ν s = 0)) := by
    unfold fX3_isNever
    rw [hr3_0, k0]
    have c0 : K (WS μ ν s) = K 0 ↔ WS μ ν s = 0 := K_eq (by unfold WS; omega) (by omega)
    by_cases q : WS μ ν s = 0
    · rw [if_pos (c0.mpr q), decide_eq_true q]
    · rw [if_neg (fun z => q (c0.mp z)), decide_eq_false q]
  by_cases hW : WS μ ν s = 0
  · refine ⟨dI (hr3 d (WS μ ν s) (VS μ ν s) (ES μ ν s)) 21 (row * 4 + s) (-1), fh.i h21C, fun s' hs' => ?_, fun b hb => ?_, ?_, fun self => ?_⟩
    · by_cases e : s' = s
      · subst e
        unfold DT
        rw [if_pos hW]
        simp [d_i, dI, set2]; rfl
      · have : d_i (dI (hr3 d (WS μ ν s) (VS μ ν s) (ES μ ν s)) 21 (row * 4 + s) (-1)) 21 (row * 4 + s') = d_i d 21 (row * 4 + s') := by
          simp [d_i, dI, set2, hr3, dL, e]
        rw [this]
        exact h21 s' (by omega)
    · have e1 : d_l (dI (hr3 d (WS μ ν s) (VS μ ν s) (ES μ ν s)) 21 (row * 4 + s) (-1)) 22 (row * 4 + b) = d_l d 22 (row * 4 + b) := hr3_o d (WS μ ν s) (VS μ ν s) (ES μ ν s) (o := 22) (k := row * 4 + b) (by decide)
      rw [e1, h22 b hb, sm_succ]
      have e2 : WO1 μ ν β set b (s : Int) = 0 := by unfold WO1; rw [if_pos hW]
      rw [e2, Int.add_zero]
    · have e1 : d_i (dI (hr3 d (WS μ ν s) (VS μ ν s) (ES μ ν s)) 21 (row * 4 + s) (-1)) 20 row = d_i d 20 row := by simp [d_i, dI, set2, hr3, dL]
      rw [e1]; exact h20
    · rw [bnd_eq, htk, Option.bind_some, hnev, Option.bind_some, decide_eq_true hW]
      simp only [jn, if_true, k1, k2, k3, k4, if_false, bnd, k5]
      rw [j1, J_add]; rfl
  · obtain ⟨d1, hb1, D1, fr1⟩ := begin_val (ρ := ρ) (d := d) (a := WS μ ν s) (b := VS μ ν s) (c := ES μ ν s) (S := kS μ) (set := set)
    have f1 := fr1 (CR row) d0 h16 h17 f
    have B1 := B.fr f1 (fun k => ⟨nC _ _ (by omega), nC _ _ (by omega), nC _ _ (by omega)⟩)
    have P1 := P.fr f1 (fun k => nC _ _ (by omega))
    obtain ⟨x, T, hlk⟩ := look_val (ρ := ρ) D1 B1 P1 hη hβ (set_ok hβ hset) (w := 1) (Or.inr (Or.inl rfl))
    have hRS : RS (WS μ ν s, ES μ ν s, kS μ) β set 1 = DT μ ν β set s := by
      unfold RS DT
      rw [if_neg (by decide), if_pos rfl, if_neg hW]; rfl
    rw [hRS] at hlk
    obtain ⟨z0, z1, z2⟩ := DT_ok (set := set) hβ hW
    have h7 := seven_le hN
    have hz : (((DT μ ν β set s).toNat : Nat) : Int) = DT μ ν β set s := by omega
    have hdl := deal_val (ρ := ρ) (B1.sv x T) (P1.sv x T) hβ (z := (DT μ ν β set s).toNat) (by omega)
    rw [sv_sv, hz] at hdl
    have f2 : Fr (CR row) d0 (sv d1 (xs β (DT μ ν β set s).toNat) (TT β (DT μ ν β set s).toNat)) := f1.sv ⟨h18, h17 2⟩
    have hTb := TT_bd hβ (DT μ ν β set s).toNat
    have fr22 : ∀ b, b < 4 → d_l d1 22 (row * 4 + b) = d_l d 22 (row * 4 + b) := fun b _ => by
      have := fr1 (fun o _ => o = 13 ∨ o = 14) d (fun _ => Or.inl rfl) (fun _ => Or.inr rfl) Fr.rf
      exact this.gl (by omega)
    have fr21 : ∀ k, d_i d1 21 k = d_i d 21 k := fun k => by
      have := fr1 (fun o _ => o = 13 ∨ o = 14) d (fun _ => Or.inl rfl) (fun _ => Or.inr rfl) Fr.rf
      exact this.gi (by omega)
    have fr20 : ∀ k, d_i d1 20 k = d_i d 20 k := fun k => by
      have := fr1 (fun o _ => o = 13 ∨ o = 14) d (fun _ => Or.inl rfl) (fun _ => Or.inr rfl) Fr.rf
      exact this.gi (by omega)
    have hgn : ∀ (b n : Nat) (F : Nat → Int), b < 4 → fX2_gain ρ (wr (sv d1 (xs β (DT μ ν β set s).toNat) (TT β (DT μ ν β set s).toNat)) row n F) (J b) 0 = some (K (WO1 μ ν β set b s)) := by
      intro b n F hb
      have hxb : -3 ≤ xs β (DT μ ν β set s).toNat b ∧ xs β (DT μ ν β set s).toNat b ≤ 3 := by
        have := st_bd (DT μ ν β set s).toNat b
        unfold xs; split <;> omega
      have q := D1.sv (xs β (DT μ ν β set s).toNat) (TT β (DT μ ν β set s).toNat)
      have D2 : DealAt (wr (sv d1 (xs β (DT μ ν β set s).toNat) (TT β (DT μ ν β set s).toNat)) row n F) (WS μ ν s, ES μ ν s, kS μ) set := ⟨(wr_n (by omega)).trans q.1, (wr_n (by omega)).trans q.2.1, q.2.2.1, q.2.2.2⟩
      have B2 : BuyAt (wr (sv d1 (xs β (DT μ ν β set s).toNat) (TT β (DT μ ν β set s).toNat)) row n F) β := B1.sv (xs β (DT μ ν β set s).toNat) (TT β (DT μ ν β set s).toNat)
      have s1 : d_i (wr (sv d1 (xs β (DT μ ν β set s).toNat) (TT β (DT μ ν β set s).toNat)) row n F) 18 b = J (xs β (DT μ ν β set s).toNat b) := sv_s (d := d1) (x := xs β (DT μ ν β set s).toNat) (T := TT β (DT μ ν β set s).toNat) hb
      have s2 : d_i (wr (sv d1 (xs β (DT μ ν β set s).toNat) (TT β (DT μ ν β set s).toNat)) row n F) 14 2 = J (TT β (DT μ ν β set s).toNat) := sv_t (d := d1) (x := xs β (DT μ ν β set s).toNat) (T := TT β (DT μ ν β set s).toNat)
      have g0 := gain_val (ρ := ρ) D2 B2 hη hβ hb (e := 0) s1 s2 hxb (by omega) (by omega)
      rw [Int.add_zero, Int.add_zero] at g0
      have e : WO1 μ ν β set b s = gn (WS μ ν s) (ES μ ν s) (kS μ) (fee β b) (xs β (DT μ ν β set s).toNat b) (TT β (DT μ ν β set s).toNat) := by unfold WO1; rw [if_neg hW]
      rw [e]
      exact g0
    have hkp := keep_f (ρ := ρ) (d := sv d1 (xs β (DT μ ν β set s).toNat) (TT β (DT μ ν β set s).toNat)) hr (f := fun b => sm s (fun s' => WO1 μ ν β set b s')) (gb := fun b => WO1 μ ν β set b s) (fun b hb => by rw [sv_l, fr22 b hb]; exact h22 b hb) hgn
    refine ⟨dI (wr (sv d1 (xs β (DT μ ν β set s).toNat) (TT β (DT μ ν β set s).toNat)) row 4 (fun b => sm s (fun s' => WO1 μ ν β set b s') + WO1 μ ν β set b s)) 21 (row * 4 + s) (J (DT μ ν β set s)), (f2.wr (fun k q1 q2 => Or.inr (Or.inr ⟨Or.inr rfl, q1, q2⟩))).i h21C, fun s' hs' => ?_, fun b hb => ?_, ?_, fun self => ?_⟩
    · by_cases e : s' = s
      · subst e
        simp [d_i, dI, set2]
      · have e1 : d_i (dI (wr (sv d1 (xs β (DT μ ν β set s).toNat) (TT β (DT μ ν β set s).toNat)) row 4 (fun b => sm s (fun s' => WO1 μ ν β set b s') + WO1 μ ν β set b s)) 21 (row * 4 + s) (J (DT μ ν β set s))) 21 (row * 4 + s') = d_i (sv d1 (xs β (DT μ ν β set s).toNat) (TT β (DT μ ν β set s).toNat)) 21 (row * 4 + s') := by
          simp [d_i, dI, set2, wr, e]
        rw [e1, sv_o (by decide) (by omega), fr21]
        exact h21 s' (by omega)
    · exact wr_g (d := sv d1 (xs β (DT μ ν β set s).toNat) (TT β (DT μ ν β set s).toNat)) (row := row) (n := 4) (f := fun b => sm s (fun s' => WO1 μ ν β set b s') + WO1 μ ν β set b s) hb
    · have e1 : d_i (dI (wr (sv d1 (xs β (DT μ ν β set s).toNat) (TT β (DT μ ν β set s).toNat)) row 4 (fun b => sm s (fun s' => WO1 μ ν β set b s') + WO1 μ ν β set b s)) 21 (row * 4 + s) (J (DT μ ν β set s))) 20 row = d_i (sv d1 (xs β (DT μ ν β set s).toNat) (TT β (DT μ ν β set s).toNat)) 20 row := by
        simp [d_i, dI, set2, wr]
      rw [e1, sv_o (by decide) (by omega), fr20]
      exact h20
    · rw [bnd_eq, htk, Option.bind_some, hnev, Option.bind_some, decide_eq_false hW, hr3_i, Md.2.1, hb1]
      simp only [jn, Bool.false_eq_true, if_false, Option.bind_some]
      rw [j1, hlk, Option.bind_some]
      simp only [hdl, Option.bind_some, hkp, k1, k2, k3, k4, if_false, if_true, bnd, k5]
      rw [J_add]; rfl
