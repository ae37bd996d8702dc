theorem sm_zero_from {n : Nat} {f : Nat → Int} : ∀ {m : Nat}, n ≤ m → (∀ b, n ≤ b → b < m → f b = 0) → sm m f = sm n f := by
  intro m
  induction m with
  | zero => intro h _; rw [show n = 0 by omega]
  | succ m ih =>
    intro h h0
    by_cases e : n = m + 1
    · rw [e]
    · rw [sm_succ, ih (by omega) (fun b h1 h2 => h0 b h1 (by omega)), h0 m (by omega) (by omega)]; omega
theorem lm_big {β : By} {set b : Nat} (h : bN β ≤ b) : lm β set b = 0 := by unfold lm; rw [if_neg (by omega)]
/-- steps in the box, and their number -/
theorem box_num {β : By} {set : Nat} (hβ : byOK β) {x : Nat → Int} (hx : ∀ b, b < 4 → -lm β set b ≤ x b ∧ x b ≤ lm β set b) : 0 ≤ num (bN β) x ∧ (num (bN β) x).toNat < 7 ^ bN β ∧ (∀ b, b < bN β → st (num (bN β) x).toNat b = x b) ∧ TT β (num (bN β) x).toNat = sm 4 x := by
  have hN := hβ.1
  have h := st_num (n := bN β) hN (x := x) (fun b hb => by have := hx b (by omega); have := lm_bd hβ set b; omega)
  refine ⟨h.1, h.2.1, h.2.2, ?_⟩
  unfold TT
  rw [sm_cong h.2.2]
  exact (sm_zero_from hN (fun b h1 h2 => by have := hx b h2; rw [lm_big h1] at this; omega)).symm
theorem box_in {β : By} {set : Nat} (hβ : byOK β) {x : Nat → Int} (hx : ∀ b, b < 4 → -lm β set b ≤ x b ∧ x b ≤ lm β set b) : inBox β set (num (bN β) x).toNat := fun b hb => by
  rw [(box_num hβ hx).2.2.1 b hb]; exact hx b (by have := hβ.1; omega)
theorem box_rest {η : Hg} {β : By} {set : Nat} (hη : hgOK η) (hβ : byOK β) (hs : setOK β set) {x : Nat → Int} (hx : ∀ b, b < 4 → -lm β set b ≤ x b ∧ x b ≤ lm β set b) : qz η β set (num (bN β) x).toNat = true ↔ ∀ b, b < 4 → set.testBit b = true → nearB η β x (sm 4 x) b := by
  rw [qz_iff, rest_near hβ hη.1.1 hη.2.2.1 (box_in hβ hx)]
  have hb := box_num hβ hx
  have hN := hβ.1
  constructor
  · rintro ⟨-, h⟩ b hb4 hbs
    have hbn := hs.2 b hbs
    have := h b hbn hbs
    rw [hb.2.2.1 b hbn, hb.2.2.2] at this
    unfold nearB lim fee
    rw [if_pos hbn, if_pos hbn]
    exact this
  · intro h
    refine ⟨box_in hβ hx, fun b hbn hbs => ?_⟩
    have := h b (by omega) hbs
    unfold nearB lim fee at this
    rw [if_pos hbn, if_pos hbn] at this
    rw [hb.2.2.1 b hbn, hb.2.2.2]
    exact this
theorem box_tz {η : Hg} {β : By} {set : Nat} (hβ : byOK β) {x : Nat → Int} (hx : ∀ b, b < 4 → -lm β set b ≤ x b ∧ x b ≤ lm β set b) : sm 4 (fun b => gn η.1 η.2.1 η.2.2 (fee β b) (x b) (sm 4 x)) = tz η β (num (bN β) x).toNat := by
  have hb := box_num hβ hx
  have hN := hβ.1
  unfold tz
  rw [hb.2.2.2]
  rw [sm_zero_from hN (fun b h1 h2 => by
    have h3 := hx b h2
    rw [lm_big h1] at h3
    have h4 : x b = 0 := by omega
    have h5 : fee β b = 0 := by unfold fee; rw [if_neg (by omega)]
    simp only [h4, h5]
    simp [gn, ab])]
  refine sm_cong (fun b hbn => ?_)
  simp only [hb.2.2.1 b hbn]
  unfold fee; rw [if_pos hbn]
/-- what rests() asks -/
noncomputable def RS (η : Hg) (β : By) (set : Nat) (w : Int) : Int :=
  if w = 0 then (scn (qz η β set) (tz η β) (7 ^ bN β)).1 else if w = 1 then (scn (qz η β set) (tz η β) (7 ^ bN β)).2.1 else ith (qz η β set) (tz η β) (w - 10) (7 ^ bN β)
theorem seven_le {n : Nat} (h : n ≤ 4) : 7 ^ n ≤ 2401 := by
  rcases (show n = 0 ∨ n = 1 ∨ n = 2 ∨ n = 3 ∨ n = 4 by omega) with rfl | rfl | rfl | rfl | rfl <;> decide
theorem tz_bd {η : Hg} {β : By} (hη : hgOK η) (hβ : byOK β) (z : Nat) : -20000000000 ≤ tz η β z ∧ tz η β z ≤ 20000000000 := by
  have hN := hβ.1
  unfold tz
  have hTT : -12 ≤ TT β z ∧ TT β z ≤ 12 := by
    unfold TT
    have := sm_bd (n := bN β) (f := st z) (lo := -3) (hi := 3) (fun b _ => st_bd z b)
    omega
  have := sm_bd (n := bN β) (f := fun b => gn η.1 η.2.1 η.2.2 (bF β b) (st z b) (TT β z)) (lo := -5000000000) (hi := 5000000000) (fun b hb => by
    have h1 := st_bd z b
    have h2 := (hβ.2 b hb).2
    exact (gn_bd hη.1 hη.2.1 hη.2.2 h2 (by omega) (by omega)).2.2.2.2.2.2)
  omega
theorem scn_succ_t {q : Nat → Bool} {t : Nat → Int} {z : Nat} (h : q z = true) : scn q t (z + 1) = ((scn q t z).1 + 1, if (scn q t z).1 = 0 ∨ (scn q t z).2.2 < t z then ((z : Int), t z) else (scn q t z).2) := by
  show (if q z = true then _ else scn q t z) = _
  rw [if_pos h]
theorem scn_succ_f {q : Nat → Bool} {t : Nat → Int} {z : Nat} (h : ¬ q z = true) : scn q t (z + 1) = scn q t z := by
  show (if q z = true then _ else scn q t z) = _
  rw [if_neg h]
theorem look_val {ρ : Rh} {d : Dd} {η : Hg} {β : By} {set : Nat} (D : DealAt d η set) (B : BuyAt d β) (P : PlAt d) (hη : hgOK η) (hβ : byOK β) (hs : setOK β set) {w : Int} (hw : w = 0 ∨ w = 1 ∨ (10 ≤ w ∧ w ≤ 99)) : ∃ x T, fX2_look ρ d (J w) = some (J (RS η β set w), sv d x T) := by
  have hN := hβ.1
  have h7 := seven_le hN
  unfold fX2_look
  rw [sellMost_val D B hβ hs, Option.bind_some]
  simp only [jn]
  have hx0 : ∀ b, b < 4 → -lm β set b ≤ (fun b => -lm β set b) b ∧ (fun b => -lm β set b) b ≤ lm β set b := fun b _ => by
    have := lm_bd hβ set b
    show -lm β set b ≤ -lm β set b ∧ -lm β set b ≤ lm β set b
    omega
  have low : ∀ y, y < (num (bN β) (fun b => -lm β set b)).toNat → ¬ qz η β set y = true := by
    intro y hy hq
    have hb := ((qz_iff _ _ _ _).mp hq).1
    have h1 := box_num hβ hx0
    have h2 : y < 7 ^ bN β := by omega
    have h3 := num_le (n := bN β) (x := fun b => -lm β set b) (y := st y) (fun b hbn => (hb b hbn).1)
    rw [num_st hN h2] at h3
    omega
  have s0 := scn_skip (q := qz η β set) (t := tz η β) (Nat.zero_le (num (bN β) (fun b => -lm β set b)).toNat) (fun z _ h => low z h)
  have i0 := ith_skip (q := qz η β set) (t := tz η β) (i := w - 10) (Nat.zero_le (num (bN β) (fun b => -lm β set b)).toNat) (fun z _ h => low z h)
  have fin : ∀ (f : Nat) (b : Int) (d' : Dd), (f : Int) = ((scn (qz η β set) (tz η β) (7 ^ bN β)).1 : Int) → b = (scn (qz η β set) (tz η β) (7 ^ bN β)).2.1 → (10 ≤ w → ith (qz η β set) (tz η β) (w - 10) (7 ^ bN β) = -1) → (∃ x T, d' = sv d x T) →
      ∃ x T, (if J w = 0 then some (J (f : Int), d') else if J w = 1 then some (J b, d') else some (-1, d')) = some (J (RS η β set w), sv d x T) := by
    rintro f b d' hf hb hi ⟨x, T, rfl⟩
    refine ⟨x, T, ?_⟩
    unfold RS
    rcases hw with rfl | rfl | hw
    · rw [if_pos (show J 0 = 0 from rfl), if_pos (show (0 : Int) = 0 from rfl), hf]
    · rw [if_neg (show ¬ J 1 = 0 by decide), if_pos (show J 1 = 1 from rfl), if_neg (show ¬ (1 : Int) = 0 by decide), if_pos (show (1 : Int) = 1 from rfl), hb]
    · rw [if_neg (by rw [J_lit, J_eq (by omega) (by omega)]; omega), if_neg (by rw [J_lit, J_eq (by omega) (by omega)]; omega), if_neg (by omega), if_neg (by omega), hi hw.1]
      rfl
  refine lp_n (fun n s => ∃ (x : Nat → Int) (i : Nat), (∀ b, b < 4 → -lm β set b ≤ x b ∧ x b ≤ lm β set b) ∧ n + (num (bN β) x).toNat = 2401 ∧ i ≤ (num (bN β) x).toNat ∧ (10 ≤ w → ith (qz η β set) (tz η β) (w - 10) (num (bN β) x).toNat = -1) ∧
    s = (J ((scn (qz η β set) (tz η β) (num (bN β) x).toNat).1 : Int), J (scn (qz η β set) (tz η β) (num (bN β) x).toNat).2.1, K (scn (qz η β set) (tz η β) (num (bN β) x).toNat).2.2, J (i : Int), sv d x (sm 4 x)))
    (fun o => ∃ x T, o = some (J (RS η β set w), sv d x T)) ?_ 6000 (2401 - (num (bN β) (fun b => -lm β set b)).toNat) _ ⟨fun b => -lm β set b, 0, hx0, by have := (box_num hβ hx0).2.1; omega, Nat.zero_le _, fun _ => by rw [i0]; rfl, by rw [s0]; rfl⟩ (by omega)
  rintro n s ⟨x, i, hx, hn, hi, hith, rfl⟩ self
  have hb := box_num hβ hx
  have h1 : ¬ (2401 : Int32) ≤ J (i : Int) := by rw [J_lit, J_le (by omega) (by omega)]; omega
  obtain ⟨r, hr, hrr⟩ := isAtRest_val (ρ := ρ) D B hη hβ hs hx
  rw [← box_rest hη hβ hs hx] at hrr
  have hnum := number_val (ρ := ρ) (T := sm 4 x) B P hβ (x := x)
  have hmade := madeTog_val (ρ := ρ) D B hη hβ hx
  rw [box_tz hβ hx] at hmade
  have hnz : num (bN β) x = (((num (bN β) x).toNat : Nat) : Int) := by omega
  rw [hnz] at hnum
  generalize hz : (num (bN β) x).toNat = z at *
  have hzz : z < 7 ^ bN β := hb.2.1
  have htz := tz_bd hη hβ z
  have hle := scn_le (q := qz η β set) (t := tz η β) z
  have c10 : J w - 10 = J ((scn (qz η β set) (tz η β) z).1 : Int) ↔ w - 10 = ((scn (qz η β set) (tz η β) z).1 : Int) := by
    rw [j10, J_sub]; exact J_eq (by omega) (by omega)
  have hbest := scn_best (q := qz η β set) (t := tz η β) z
  -- behind: on, or the end
  have cont : ∀ (f : Nat) (b m : Int), scn (qz η β set) (tz η β) (z + 1) = (f, b, m) → (10 ≤ w → ith (qz η β set) (tz η β) (w - 10) (z + 1) = -1) →
      ∀ o, o = ((fX2_goOn ρ (sv d x (sm 4 x))).bind fun r9 => if r9.1 = true then self (J (f : Int), J b, K m, J (i : Int) + 1, r9.2) else (if J w = 0 then some (J (f : Int), r9.2) else if J w = 1 then some (J b, r9.2) else some (-1, r9.2))) →
      (∃ s' n', n' < n ∧ (∃ (x : Nat → Int) (i : Nat), (∀ b, b < 4 → -lm β set b ≤ x b ∧ x b ≤ lm β set b) ∧ n' + (num (bN β) x).toNat = 2401 ∧ i ≤ (num (bN β) x).toNat ∧ (10 ≤ w → ith (qz η β set) (tz η β) (w - 10) (num (bN β) x).toNat = -1) ∧
        s' = (J ((scn (qz η β set) (tz η β) (num (bN β) x).toNat).1 : Int), J (scn (qz η β set) (tz η β) (num (bN β) x).toNat).2.1, K (scn (qz η β set) (tz η β) (num (bN β) x).toNat).2.2, J (i : Int), sv d x (sm 4 x))) ∧ o = self s') ∨ ∃ x T, o = some (J (RS η β set w), sv d x T) := by
    intro f b m hsc hit o ho
    by_cases hex : ∃ e, e < 4 ∧ (∀ b, b < e → x b = lm β set b) ∧ x e < lm β set e
    · obtain ⟨e, he, hf, hlt⟩ := hex
      have hen : e < bN β := by
        by_cases q : e < bN β
        · exact q
        · rw [lm_big (by omega)] at hlt
          have := hx e he; rw [lm_big (by omega)] at this; omega
      have hx' : ∀ b, b < 4 → -lm β set b ≤ nxt (lm β set) x e b ∧ nxt (lm β set) x e b ≤ lm β set b := by
        intro b hb4
        have h2 := hx b hb4
        have h3 := lm_bd hβ set b
        unfold nxt
        by_cases q1 : b < e
        · rw [if_pos q1]; omega
        · rw [if_neg q1]
          by_cases q2 : b = e
          · rw [if_pos q2]; subst q2; omega
          · rw [if_neg q2]; exact h2
      have hb' := box_num hβ hx'
      have hgap := fun y (hy : ∀ b, b < bN β → -lm β set b ≤ y b ∧ y b ≤ lm β set b) => nxt_gap (n := bN β) hN (l := lm β set) (x := x) (y := y) (fun b _ => lm_bd hβ set b) (fun b hb => hx b (by omega)) hy hen hf
      have hlt2 := (hgap x (fun b hb => hx b (by omega))).1
      have none' : ∀ y, z + 1 ≤ y → y < (num (bN β) (nxt (lm β set) x e)).toNat → ¬ qz η β set y = true := by
        intro y hy1 hy2 hq
        have hbx := ((qz_iff _ _ _ _).mp hq).1
        have h2 : y < 7 ^ bN β := by omega
        have h3 := (hgap (st y) hbx).2
        rw [num_st hN h2] at h3
        omega
      have s1 := scn_skip (q := qz η β set) (t := tz η β) (show z + 1 ≤ (num (bN β) (nxt (lm β set) x e)).toNat by omega) none'
      have i1 := ith_skip (q := qz η β set) (t := tz η β) (i := w - 10) (show z + 1 ≤ (num (bN β) (nxt (lm β set) x e)).toNat by omega) none'
      left
      refine ⟨_, n + z - (num (bN β) (nxt (lm β set) x e)).toNat, by omega, ⟨nxt (lm β set) x e, i + 1, hx', by omega, by omega, fun q => by rw [i1]; exact hit q, rfl⟩, ?_⟩
      rw [ho, goOn_t D B hβ hs hx he hf hlt, Option.bind_some, if_pos rfl, s1, hsc, J_lit, J_add]
      rfl
    · have hfull : ∀ b, b < 4 → x b = lm β set b := by
        have key : ∀ k, k ≤ 4 → ∀ b, b < k → x b = lm β set b := by
          intro k
          induction k with
          | zero => intro _ b hb; omega
          | succ k ih =>
            intro hk b hb
            by_cases q : b = k
            · subst q
              have h2 := hx b (by omega)
              by_cases q2 : x b < lm β set b
              · exact absurd ⟨b, by omega, ih (by omega), q2⟩ hex
              · omega
            · exact ih (by omega) b (by omega)
        exact key 4 (Nat.le_refl 4)
      obtain ⟨y, U, hg⟩ := goOn_f (ρ := ρ) D B hβ hs hx hfull
      have none' : ∀ y, z + 1 ≤ y → y < 7 ^ bN β → ¬ qz η β set y = true := by
        intro y hy1 hy2 hq
        have hbx := ((qz_iff _ _ _ _).mp hq).1
        have h3 := num_le (n := bN β) (x := st y) (y := x) (fun b hbn => by rw [hfull b (by omega)]; exact (hbx b hbn).2)
        rw [num_st hN hy2] at h3
        omega
      have s1 := scn_skip (q := qz η β set) (t := tz η β) (show z + 1 ≤ 7 ^ bN β by omega) none'
      have i1 := ith_skip (q := qz η β set) (t := tz η β) (i := w - 10) (show z + 1 ≤ 7 ^ bN β by omega) none'
      right
      rw [ho, hg, Option.bind_some]
      simp only [Bool.false_eq_true, if_false]
      exact fin f b _ (by rw [s1, hsc]) (by rw [s1, hsc]) (fun q => by rw [i1]; exact hit q) ⟨y, U, rfl⟩
  simp only [h1, if_false]
  rw [hr, Option.bind_some]
  by_cases hrt : r = true
  · have hq := hrr.mp hrt
    rw [if_pos hrt]
    by_cases hhit : w - 10 = ((scn (qz η β set) (tz η β) z).1 : Int)
    · right
      refine ⟨x, sm 4 x, ?_⟩
      rw [if_pos (c10.mpr hhit), hnum, Option.bind_some]
      have h9 := ith_hit (t := tz η β) hzz hq
      rw [← hhit] at h9
      unfold RS
      rw [if_neg (by omega), if_neg (by omega), h9]
    · rw [if_neg (fun q => hhit (c10.mp q)), hmade, Option.bind_some]
      have hit : 10 ≤ w → ith (qz η β set) (tz η β) (w - 10) (z + 1) = -1 := by
        intro q
        show (if qz η β set z = true ∧ _ then _ else ith _ _ _ z) = _
        rw [if_neg (fun h => hhit h.2.symm)]
        exact hith q
      rcases hbest with ⟨e1, e2⟩ | ⟨e1, z0, e2, e3, e4, e5⟩
      · rw [e2, if_pos (show J (-1) = -1 from rfl), hnum, Option.bind_some]
        refine cont ((scn (qz η β set) (tz η β) z).1 + 1) z (tz η β z) (by rw [scn_succ_t hq, if_pos (Or.inl e1)]) hit _ ?_
        rw [J_lit, J_add]; rfl
      · have hne : ¬ J (scn (qz η β set) (tz η β) z).2.1 = -1 := by
          have : (-1 : Int32) = J (-1) := rfl
          rw [this, J_eq (by omega) (by omega)]; omega
        rw [if_neg hne, hnum]
        have ht0 := tz_bd hη hβ z0
        by_cases hlt : (scn (qz η β set) (tz η β) z).2.2 < tz η β z
        · rw [if_neg (by rw [K_le (by omega) (by omega)]; omega), Option.bind_some]
          refine cont ((scn (qz η β set) (tz η β) z).1 + 1) z (tz η β z) (by rw [scn_succ_t hq, if_pos (Or.inr hlt)]) hit _ ?_
          rw [J_lit, J_add]; rfl
        · rw [if_pos (by rw [K_le (by omega) (by omega)]; omega)]
          refine cont ((scn (qz η β set) (tz η β) z).1 + 1) (scn (qz η β set) (tz η β) z).2.1 (scn (qz η β set) (tz η β) z).2.2 (by rw [scn_succ_t hq, if_neg (by omega)]) hit _ ?_
          rw [J_lit, J_add]; rfl
  · have hq : ¬ qz η β set z = true := fun q => hrt (hrr.mpr q)
    rw [if_neg hrt]
    refine cont (scn (qz η β set) (tz η β) z).1 (scn (qz η β set) (tz η β) z).2.1 (scn (qz η β set) (tz η β) z).2.2 (by rw [scn_succ_f hq]) (fun q => ?_) _ rfl
    show (if qz η β set z = true ∧ _ then _ else ith _ _ _ z) = _
    rw [if_neg (fun h => hq h.1)]
    exact hith q
