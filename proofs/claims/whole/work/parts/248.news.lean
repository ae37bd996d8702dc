/-! news more -/
theorem Fr.z {P : Nat → Nat → Prop} {d d1 : Dd} {n : Nat} (h : ∀ k, P n k) (f : Fr P d d1) : Fr P d (dZ d1 n) := fun o k q => by
  have hn : ¬ o = n := fun e => q (by rw [e]; exact h k)
  refine ⟨?_, ?_⟩
  · show (if o = n then (0 : Int32) else d1.1 o k) = _
    rw [if_neg hn]; exact (f o k q).1
  · show (if o = n then (0 : Int64) else d1.2 o k) = _
    rw [if_neg hn]; exact (f o k q).2
def sgN (σ : Sg) (ν : Nw) : Sg := (σ.1, σ.2.1, σ.2.2.1, (gN σ + 1, fun i => if i = gN σ then ν else gV σ i), σ.2.2.2.2)
theorem mostOf_val {a : Int} (ha : 0 ≤ a ∧ a ≤ 4) : fX6_mostOf (J a) = some (J (if 2 < a then 100 else 255)) := by
  rcases (show a = 0 ∨ a = 1 ∨ a = 2 ∨ a = 3 ∨ a = 4 by omega) with rfl | rfl | rfl | rfl | rfl <;> rfl
theorem tagK_val {a : Int} (ha : 0 ≤ a ∧ a ≤ 4) : tagK (J a) = tgK a := by
  rcases (show a = 0 ∨ a = 1 ∨ a = 2 ∨ a = 3 ∨ a = 4 by omega) with rfl | rfl | rfl | rfl | rfl <;> rfl
def PN (ln : Nat) (o k : Nat) : Prop := o = 35 + ln ∨ (o = 3 ∧ k = 6) ∨ (o = 23 ∧ k = 18) ∨ o = 31 ∨ o = 32
theorem op7 : Op7 Inv := by
  rintro d ρ ⟨σ, O, R, C, M⟩ x1 x2
  obtain ⟨a, ha, rfl⟩ := J_of x1
  obtain ⟨n, hn, rfl⟩ := J_of x2
  have hρ := R.1.2
  have hk8 := O.2.2.2.1.1
  have hlen : ρ.2.1.length = gN σ := R.2.2.2.2.1.2.1
  have ca0 : J a < 0 ↔ a < 0 := by rw [j0]; exact J_lt (by omega) (by omega)
  have ca5 : (5 : Int32) ≤ J a ↔ 5 ≤ a := by rw [j5]; exact J_le (by omega) (by omega)
  have ca2 : J a ≤ 2 ↔ a ≤ 2 := by rw [j2]; exact J_le (by omega) (by omega)
  have cn0 : J n < 0 ↔ n < 0 := by rw [j0]; exact J_lt (by omega) (by omega)
  have i1 : fX12_in (Int32.toInt64 (J a)) 0 4 = some (decide (0 ≤ a ∧ a ≤ 4)) := by
    rw [J_l (by omega), k0, show (4 : Int64) = K 4 from rfl]; exact in_val (by omega) (by omega) (by omega)
  have i2 : ∀ m : Int, 0 ≤ m ∧ m ≤ 300 → fX12_in (Int32.toInt64 (J n)) 0 (K m) = some (decide (0 ≤ n ∧ n ≤ m)) := fun m hm => by
    rw [J_l (by omega), k0]; exact in_val (by omega) (by omega) (by omega)
  unfold fX11_news fX12_news
  by_cases q1 : 0 ≤ a ∧ a ≤ 4
  · have m1 : ¬ J a < 0 := fun z => by have := ca0.mp z; omega
    have m2 : ¬ (5 : Int32) ≤ J a := fun z => by have := ca5.mp z; omega
    obtain ⟨mo, hmo⟩ : ∃ mo : Int, mo = (if 2 < a then 100 else 255) := ⟨_, rfl⟩
    have hmb : mo = 100 ∨ mo = 255 := by rw [hmo]; split <;> omega
    have em : ∀ {γ : Type} (F : Int64 → γ), (if J a ≤ 2 then F 255 else F 100) = F (K mo) := by
      intro γ F
      by_cases z : 2 < a
      · rw [if_neg (fun y => by have := ca2.mp y; omega), hmo, if_pos z]; rfl
      · rw [if_pos (ca2.mpr (by omega)), hmo, if_neg z]; rfl
    have cm : J n ≤ J mo ↔ n ≤ mo := J_le (by omega) (by omega)
    by_cases q2 : 0 ≤ n ∧ n ≤ mo
    · have m3 : ¬ J n < 0 := fun z => by have := cn0.mp z; omega
      by_cases q3 : gN σ < 8
      · obtain ⟨ln, hln⟩ : ∃ ln, ln = gN σ := ⟨_, rfl⟩
        have e36 : d_i d 3 6 = J (ln : Int) := by rw [hln]; exact R.2.2.2.2.1.1
        have g1 : ¬ J (ln : Int) < 0 := by rw [j0, J_lt (by omega) (by omega)]; omega
        have g2 : J (ln : Int) < 8 := by rw [j8, J_lt (by omega) (by omega)]; omega
        have gix : ix (J (ln : Int)) = ln := by rw [ix_J (by omega), Int.toNat_natCast]
        have gin : inB (J (ln : Int)) 8 = true := by rw [inB_J (by omega)]; omega
        have hlen' : ρ.2.1.length = ln := by rw [hln]; exact hlen
        obtain ⟨d1, hd1⟩ : ∃ d1, d1 = dI (dI (dI (dZ d (35 + ln)) (35 + ln) 0 (J a)) (35 + ln) 1 (J n)) 3 6 (J ((ln + 1 : Nat) : Int)) := ⟨_, rfl⟩
        have f1 : Fr (PN ln) d d1 := by
          rw [hd1]
          exact (((Fr.rf.z (fun k => Or.inl rfl)).i (Or.inl rfl)).i (Or.inl rfl)).i (Or.inr (Or.inl ⟨rfl, rfl⟩))
        have e18 : d_i d1 23 18 = J (ln : Int) := by
          rw [hln]; refine Eq.trans ?_ M.2.2.2.1.1
          rw [hd1, dI_o (by omega), dI_o (by omega), dI_o (by omega)]
          show (if 23 = 35 + ln then (0 : Int32) else d.1 23 18) = _
          rw [if_neg (by omega)]; rfl
        obtain ⟨d2, hd2⟩ : ∃ d2, d2 = dI (dI (dI d1 31 ln (J a)) 32 ln (J n)) 23 18 (J ((ln + 1 : Nat) : Int)) := ⟨_, rfl⟩
        have f3 : Fr (fun o k => o = 31 ∨ o = 32 ∨ (o = 23 ∧ k = 18)) d1 d2 := by
          rw [hd2]
          exact ((Fr.rf.i (Or.inl rfl)).i (Or.inr (Or.inl rfl))).i (Or.inr (Or.inr ⟨rfl, rfl⟩))
        have f2 : Fr (PN ln) d d2 := f1.tr (f3.mono (fun o k h => by unfold PN; omega))
        have hν : nwOK (a, n) := ⟨q1, ⟨q2.1, by show n ≤ 255; omega⟩, fun h => by
          have h' : 2 < a := h
          rw [if_pos h'] at hmo
          show n ≤ 100; omega⟩
        have gV' : ∀ i, i < ln → gV (sgN σ (a, n)) i = gV σ i := fun i hi => by
          show (if i = gN σ then (a, n) else gV σ i) = _
          rw [if_neg (by omega)]
        have gVn : gV (sgN σ (a, n)) ln = (a, n) := by
          show (if ln = gN σ then (a, n) else gV σ ln) = _
          rw [if_pos hln]
        have gNn : gN (sgN σ (a, n)) = ln + 1 := by rw [hln]; rfl
        have O' : sgOK (sgN σ (a, n)) := ⟨O.1, O.2.1, O.2.2.1, ⟨by rw [gNn]; omega, fun i hi => by
          rw [gNn] at hi
          by_cases e : i = ln
          · rw [e, gVn]; exact hν
          · rw [gV' i (by omega)]; exact O.2.2.2.1.2 i (by omega)⟩, O.2.2.2.2⟩
        have hρ' : Hr (rhN ρ (tagK (J a))) := rhN_ok hρ (tagK_nT _) (by omega)
        have ht1 : ∀ i, i < ln → tg (rhN ρ (tagK (J a))) (35 + i) = tg ρ (35 + i) := fun i hi => by
          unfold tg rhN
          show (ρ.2.1 ++ [tagK (J a)]).getD (35 + i - 35) 99 = ρ.2.1.getD (35 + i - 35) 99
          rw [Nat.add_sub_cancel_left, List.getD_eq_getElem?_getD, List.getD_eq_getElem?_getD, List.getElem?_append_left (by omega)]
        have ht2 : tg (rhN ρ (tagK (J a))) (35 + ln) = tgK a := by
          unfold tg rhN
          show (ρ.2.1 ++ [tagK (J a)]).getD (35 + ln - 35) 99 = tgK a
          rw [Nat.add_sub_cancel_left, List.getD_eq_getElem?_getD, ← hlen', List.getElem?_append_right (Nat.le_refl _), Nat.sub_self, ← tagK_val q1]; rfl
        obtain ⟨⟨r1, -⟩, ⟨r3, r4⟩, ⟨r5, r6⟩, r7, ⟨r8, r9, r10⟩, r11⟩ := R
        have hm := hρ.1
        have R2 : RC d2 (rhN ρ (tagK (J a))) (sgN σ (a, n)) := by
          refine ⟨⟨r1.fr f2 (fun k => by unfold PN; omega), hρ'⟩, ⟨(f2.gi (by unfold PN; omega)).trans r3, fun k hk => (f2.gi (by unfold PN; omega)).trans (r4 k hk)⟩, ⟨fun h => ?_, (f2.gi (by unfold PN; omega)).trans r6⟩, r7.fr f2 (fun k => ⟨by unfold PN; omega, by unfold PN; omega, by unfold PN; omega⟩), ⟨?_, ?_, fun i hi => ?_⟩, (f2.gi (by unfold PN; omega)).trans r11⟩
          · exact (r5 h).fr f2 (fun k => ⟨by unfold PN; omega, by unfold PN; omega, by unfold PN; omega⟩)
          · rw [f3.gi (by omega), hd1, dI_s, gNn]
          · rw [gNn]
            show (ρ.2.1 ++ [tagK (J a)]).length = ln + 1
            rw [List.length_append, hlen']; rfl
          · rw [gNn] at hi
            by_cases e : i = ln
            · subst e
              rw [gVn]
              refine ⟨?_, ?_, ht2⟩
              · rw [f3.gi (by omega), hd1, dI_o (by omega), dI_o (by omega), dI_s]
              · rw [f3.gi (by omega), hd1, dI_o (by omega), dI_s]
            · rw [gV' i (by omega)]
              have := r10 i (by omega)
              refine ⟨(f2.gi (by unfold PN; omega)).trans this.1, (f2.gi (by unfold PN; omega)).trans this.2.1, (ht1 i (by omega)).trans this.2.2⟩
        have z31 : ∀ o k, o < 35 → d_i (dZ d (35 + ln)) o k = d_i d o k := fun o k h => by
          show (if o = 35 + ln then (0 : Int32) else d.1 o k) = d.1 o k
          rw [if_neg (by omega)]
        obtain ⟨⟨w1, w2⟩, ⟨w3, w4⟩, w5, ⟨w7, w8⟩, w9⟩ := M
        have M2 : RM d2 (sgN σ (a, n)) := by
          refine ⟨⟨(f2.gi (by unfold PN; omega)).trans w1, fun k hk => (f2.gi (by unfold PN; omega)).trans (w2 k hk)⟩, ⟨fun hq => ?_, (f2.gi (by unfold PN; omega)).trans w4⟩, ⟨(f2.gi (by unfold PN; omega)).trans w5.1, fun b hb => ⟨(f2.gi (by unfold PN; omega)).trans (w5.2 b hb).1, (f2.gi (by unfold PN; omega)).trans (w5.2 b hb).2⟩⟩, ⟨?_, fun i hi => ?_⟩, (f2.gi (by unfold PN; omega)).trans w9⟩
          · obtain ⟨y1, y2, y3, y4⟩ := w3 hq
            exact ⟨(f2.gi (by unfold PN; omega)).trans y1, (f2.gi (by unfold PN; omega)).trans y2, (f2.gi (by unfold PN; omega)).trans y3, fun c hc => ⟨(f2.gi (by unfold PN; omega)).trans (y4 c hc).1, (f2.gi (by unfold PN; omega)).trans (y4 c hc).2⟩⟩
          · rw [hd2, dI_s, gNn]
          · rw [gNn] at hi
            by_cases e : i = ln
            · subst e
              rw [gVn]
              refine ⟨by omega, ?_, ?_⟩
              · rw [hd2, dI_o (by omega), dI_o (by omega), dI_s]
              · rw [hd2, dI_o (by omega), dI_s]
            · rw [gV' i (by omega)]
              have := w8 i (by omega)
              refine ⟨this.1, ?_, ?_⟩
              · rw [hd2, dI_o (by omega), dI_o (by omega), dI_o (by omega), hd1, dI_o (by omega), dI_o (by omega), dI_o (by omega)]
                exact (z31 31 i (by omega)).trans this.2.1
              · rw [hd2, dI_o (by omega), dI_o (by omega), dI_o (by omega), hd1, dI_o (by omega), dI_o (by omega), dI_o (by omega)]
                exact (z31 32 i (by omega)).trans this.2.2
        have C2 : CacheOK d2 (sgN σ (a, n)) := fun k2 set2 hk2 hs2 => by
          rcases C k2 set2 hk2 hs2 with y | ⟨y1, y2, y3, y4, y5, y6⟩
          · exact Or.inl ((f2.gi (by unfold PN; omega)).trans y)
          · refine Or.inr ⟨by rw [gNn]; omega, y2, y3, (f2.gi (by unfold PN; omega)).trans y4, fun s hs => ?_, fun b hb => ?_⟩
            · rw [gV' k2 (by omega)]; exact (f2.gi (by unfold PN; omega)).trans (y5 s hs)
            · rw [gV' k2 (by omega)]; exact (f2.gl (by unfold PN; omega)).trans (y6 b hb)
        refine ⟨J (ln : Int), d1, d2, rhN ρ (tagK (J a)), ?_, ?_, ⟨sgN σ (a, n), O', R2, C2, M2⟩, f1.c2 (fun k => by unfold PN; omega), rfl, hρ'⟩
        · rw [if_neg m1, if_neg m2, if_neg m3, mostOf_val q1, ← hmo, Option.bind_some, if_pos (cm.mpr q2.2), e36, if_neg g1, if_pos g2, gix, if_pos hlen'.symm, hlen', j1, J_add, hd1]; rfl
        · have n8 : ¬ d_i d1 23 18 = 8 := by rw [e18, j8, J_eq (by omega) (by omega)]; omega
          have s1 : d_i (dI d1 31 ln (J a)) 23 18 = J (ln : Int) := by rw [dI_o (by omega)]; exact e18
          have s2 : d_i (dI (dI d1 31 ln (J a)) 32 ln (J n)) 23 18 = J (ln : Int) := by rw [dI_o (by omega), dI_o (by omega)]; exact e18
          rw [i1, Option.bind_some, decide_eq_true q1, if_pos rfl, jn_eq, em (fun x2 => (fX12_in (Int32.toInt64 (J n)) 0 x2).bind _), i2 mo (by omega), Option.bind_some, decide_eq_true q2, if_pos rfl, if_neg n8, e18, if_pos gin, gix, bnd_eq, s1, if_pos gin, gix, bnd_eq, s2, bnd_eq, j1, J_add, dI_s, J_sub, hd2]
          have e : (ln : Int) + 1 - 1 = ln := by omega
          rw [e]; rfl
      · have e8 : gN σ = 8 := by omega
        have e36 : d_i d 3 6 = J ((8 : Nat) : Int) := by rw [← e8]; exact R.2.2.2.2.1.1
        have e18 : d_i d 23 18 = 8 := by rw [M.2.2.2.1.1, e8]; rfl
        have g1 : ¬ J ((8 : Nat) : Int) < 0 := by decide
        have g2 : ¬ J ((8 : Nat) : Int) < 8 := by decide
        refine ⟨-104, d, d, ρ, ?_, ?_, ⟨σ, O, R, C, M⟩, rfl, rfl, hρ⟩
        · rw [if_neg m1, if_neg m2, if_neg m3, mostOf_val q1, ← hmo, Option.bind_some, if_pos (cm.mpr q2.2), e36, if_neg g1, if_neg g2]
        · rw [i1, Option.bind_some, decide_eq_true q1, if_pos rfl, jn_eq, em (fun x2 => (fX12_in (Int32.toInt64 (J n)) 0 x2).bind _), i2 mo (by omega), Option.bind_some, decide_eq_true q2, if_pos rfl, if_pos e18]
    · refine ⟨-102, d, d, ρ, ?_, ?_, ⟨σ, O, R, C, M⟩, rfl, rfl, hρ⟩
      · by_cases z : n < 0
        · rw [if_neg m1, if_neg m2, if_pos (cn0.mpr z)]
        · rw [if_neg m1, if_neg m2, if_neg (fun y => z (cn0.mp y)), mostOf_val q1, ← hmo, Option.bind_some, if_neg (fun y => by have := cm.mp y; omega)]
      · rw [i1, Option.bind_some, decide_eq_true q1, if_pos rfl, jn_eq, em (fun x2 => (fX12_in (Int32.toInt64 (J n)) 0 x2).bind _), i2 mo (by omega), Option.bind_some, decide_eq_false q2, if_neg Bool.false_ne_true]
  · refine ⟨-102, d, d, ρ, ?_, ?_, ⟨σ, O, R, C, M⟩, rfl, rfl, hρ⟩
    · by_cases z : a < 0
      · rw [if_pos (ca0.mpr z)]
      · rw [if_neg (fun y => z (ca0.mp y)), if_pos (ca5.mpr (by omega))]
    · rw [i1, Option.bind_some, decide_eq_false q1, if_neg Bool.false_ne_true]
