/-! what lies between two calls -/
noncomputable def DT (μ : Mk) (ν : Nw) (β : By) (set : Nat) (s : Int) : Int := if WS μ ν s = 0 then -1 else (scn (qz (hgS μ ν s) β set) (tz (hgS μ ν s) β) (7 ^ bN β)).2.1
noncomputable def WO1 (μ : Mk) (ν : Nw) (β : By) (set b : Nat) (s : Int) : Int := if WS μ ν s = 0 then 0 else gn (WS μ ν s) (ES μ ν s) (kS μ) (fee β b) (xs β (DT μ ν β set s).toNat b) (TT β (DT μ ν β set s).toNat)
noncomputable def WO (μ : Mk) (ν : Nw) (β : By) (set b : Nat) : Int := sm 4 (fun s => WO1 μ ν β set b s)
theorem DT_ok {μ : Mk} {ν : Nw} {β : By} (hβ : byOK β) {set : Nat} {s : Int} (hW : ¬ WS μ ν s = 0) : 0 ≤ DT μ ν β set s ∧ (DT μ ν β set s).toNat < 7 ^ bN β ∧ qz (hgS μ ν s) β set (DT μ ν β set s).toNat = true := by
  obtain ⟨z, h1, h2⟩ := rest_ex (η := hgS μ ν s) (set := set) hβ
  have h3 := scn_pos (t := tz (hgS μ ν s) β) h1 h2
  rcases scn_best (q := qz (hgS μ ν s) β set) (t := tz (hgS μ ν s) β) (7 ^ bN β) with ⟨a1, -⟩ | ⟨-, z0, a2, a3, a4, -⟩
  · omega
  · unfold DT
    rw [if_neg hW, a4]
    exact ⟨by omega, by simpa using a2, by simpa using a3⟩
/-- the page; the market; the buyers; the news; the sales -/
abbrev Sg : Type := (Nat × (Nat → Int)) × Mk × By × (Nat × (Nat → Nw)) × Nat
def gP (σ : Sg) : Nat := σ.1.1
def gL (σ : Sg) : Nat → Int := σ.1.2
def gM (σ : Sg) : Mk := σ.2.1
def gB (σ : Sg) : By := σ.2.2.1
def gN (σ : Sg) : Nat := σ.2.2.2.1.1
def gV (σ : Sg) : Nat → Nw := σ.2.2.2.1.2
def gS (σ : Sg) : Nat := σ.2.2.2.2
def sgOK (σ : Sg) : Prop := (gP σ ≤ 60 ∧ ∀ k, k < gP σ → 1 ≤ gL σ k ∧ gL σ k ≤ 126) ∧ mkOK (gM σ) ∧ byOK (gB σ) ∧ (gN σ ≤ 8 ∧ ∀ k, k < gN σ → nwOK (gV σ k)) ∧ gS σ ≤ 40
def RC (d : Dd) (ρ : Rh) (σ : Sg) : Prop := (PlAt d ∧ Hr ρ) ∧ (d_i d 4 1 = J (gP σ) ∧ ∀ k, k < gP σ → d_i d 5 k = J (gL σ k)) ∧ ((0 < kN (gM σ) → MktAt d ρ.1 (gM σ)) ∧ d_i d 3 3 = J (if 0 < kN (gM σ) then 1 else 0)) ∧ BuyAt d (gB σ) ∧ (d_i d 3 6 = J (gN σ) ∧ ρ.2.1.length = gN σ ∧ ∀ k, k < gN σ → NewAt d ρ (35 + k) (gV σ k)) ∧ d_i d 3 7 = J (gS σ)
def RowOK (d : Dd) (σ : Sg) (k set : Nat) : Prop := d_i d 20 (k * 16 + set) = 1 ∧ (∀ s : Nat, s < 4 → d_i d 21 ((k * 16 + set) * 4 + s) = J (DT (gM σ) (gV σ k) (gB σ) set s)) ∧ ∀ b, b < 4 → d_l d 22 ((k * 16 + set) * 4 + b) = K (WO (gM σ) (gV σ k) (gB σ) set b)
def CacheOK (d : Dd) (σ : Sg) : Prop := ∀ k set, k < 8 → set < 16 → d_i d 20 (k * 16 + set) = 0 ∨ (k < gN σ ∧ set < 2 ^ bN (gB σ) ∧ 0 < kN (gM σ) ∧ RowOK d σ k set)
def CS (o _ : Nat) : Prop := (13 ≤ o ∧ o ≤ 14) ∨ (18 ≤ o ∧ o ≤ 22)
theorem RC.fr {d d1 : Dd} {ρ : Rh} {σ : Sg} (R : RC d ρ σ) (f : Fr CS d d1) : RC d1 ρ σ := by
  obtain ⟨⟨r1, r2⟩, ⟨r3, r4⟩, ⟨r5, r6⟩, r7, ⟨r8, r9, r10⟩, r11⟩ := R
  have hm := r2.1
  have hn : ∀ o k, ¬ ((13 ≤ o ∧ o ≤ 14) ∨ (18 ≤ o ∧ o ≤ 22)) → ¬ CS o k := fun o k h => h
  refine ⟨⟨r1.fr f (fun k => hn _ _ (by omega)), r2⟩, ⟨(f.gi (hn _ _ (by omega))).trans r3, fun k hk => (f.gi (hn _ _ (by omega))).trans (r4 k hk)⟩, ⟨fun h => (r5 h).fr f (fun k => ⟨hn _ _ (by omega), hn _ _ (by omega), hn _ _ (by omega)⟩), (f.gi (hn _ _ (by omega))).trans r6⟩, r7.fr f (fun k => ⟨hn _ _ (by omega), hn _ _ (by omega), hn _ _ (by omega)⟩), ⟨(f.gi (hn _ _ (by omega))).trans r8, r9, fun k hk => (r10 k hk).fr f (fun j => hn _ _ (by omega))⟩, (f.gi (hn _ _ (by omega))).trans r11⟩
theorem newsAt_in {d : Dd} {ρ : Rh} {σ : Sg} (R : RC d ρ σ) (O : sgOK σ) {k : Nat} (hk : k < gN σ) : fX11_newsAt ρ d (J k) = some (35 + k) := by
  have hn := O.2.2.2.1.1
  obtain ⟨-, -, -, -, ⟨r8, r9, -⟩, -⟩ := R
  have c1 : ¬ J (k : Int) < 0 := by rw [j0, J_lt (by omega) (by omega)]; omega
  have c2 : ¬ d_i d 3 6 ≤ J (k : Int) := by rw [r8, J_le (by omega) (by omega)]; omega
  have c3 : ¬ (8 : Int32) ≤ J (k : Int) := by rw [j8, J_le (by omega) (by omega)]; omega
  have c4 : inB (J (k : Int)) 8 = true := by rw [inB_J (by omega)]; omega
  unfold fX11_newsAt
  rw [if_neg c1, if_neg c2, if_neg c3, if_pos c4, ix_J (by omega), Int.toNat_natCast]
  unfold hrS
  rw [if_pos rfl, if_pos (by omega)]
theorem newsAt_out {d : Dd} {ρ : Rh} {σ : Sg} (R : RC d ρ σ) (O : sgOK σ) {a : Int} (ha : -2147483648 ≤ a ∧ a < 2147483648) (hk : ¬ (0 ≤ a ∧ a < gN σ)) : fX11_newsAt ρ d (J a) = some 0 := by
  have hn := O.2.2.2.1.1
  obtain ⟨-, -, -, -, ⟨r8, r9, -⟩, -⟩ := R
  have c1 : J a < 0 ↔ a < 0 := by rw [j0]; exact J_lt (by omega) (by omega)
  have c2 : d_i d 3 6 ≤ J a ↔ (gN σ : Int) ≤ a := by rw [r8]; exact J_le (by omega) (by omega)
  unfold fX11_newsAt
  by_cases q : a < 0
  · rw [if_pos (c1.mpr q)]
  · have q2 : (gN σ : Int) ≤ a := by omega
    rw [if_neg (fun z => q (c1.mp z)), if_pos (c2.mpr q2)]
theorem shl_val : ∀ n : Nat, n ≤ 4 → jshl 1 (J n) - 1 = J ((2 ^ n : Nat) - 1 : Int) := by decide +kernel
theorem two_le {n : Nat} (h : n ≤ 4) : 1 ≤ 2 ^ n ∧ 2 ^ n ≤ 16 := by
  rcases (show n = 0 ∨ n = 1 ∨ n = 2 ∨ n = 3 ∨ n = 4 by omega) with rfl | rfl | rfl | rfl | rfl <;> decide
theorem isSet_val {d : Dd} {ρ : Rh} {β : By} (B : BuyAt d β) (hβ : byOK β) {a : Int} (ha : -2147483648 ≤ a ∧ a < 2147483648) : fX11_isSet ρ d (J a) = some (decide (0 ≤ a ∧ a < ((2 ^ bN β : Nat) : Int))) := by
  have hN := hβ.1
  have h2 := two_le hN
  have c1 : J a < 0 ↔ a < 0 := by rw [j0]; exact J_lt (by omega) (by omega)
  unfold fX11_isSet fX1_everybody
  rw [B.1, shl_val _ hN, Option.bind_some]
  generalize 2 ^ bN β = N at h2 ⊢
  have c2 : J ((N : Int) - 1) < J a ↔ (N : Int) - 1 < a := J_lt (by omega) (by omega)
  by_cases q : a < 0
  · have q3 : ¬ (0 ≤ a ∧ a < (N : Int)) := by omega
    rw [if_pos (c1.mpr q), decide_eq_false q3]
  · rw [if_neg (fun z => q (c1.mp z))]
    by_cases q2 : (N : Int) - 1 < a
    · have q3 : ¬ (0 ≤ a ∧ a < (N : Int)) := by omega
      rw [if_pos (c2.mpr q2), decide_eq_false q3]
    · have q3 : 0 ≤ a ∧ a < (N : Int) := by omega
      rw [if_neg (fun z => q2 (c2.mp z)), decide_eq_true q3]
theorem set_ok {β : By} (hβ : byOK β) {set : Nat} (h : set < 2 ^ bN β) : setOK β set := by
  have h2 := two_le hβ.1
  refine ⟨by omega, fun b hb => ?_⟩
  have h3 := Nat.ge_two_pow_of_testBit hb
  exact (Nat.pow_lt_pow_iff_right (by decide)).mp (Nat.lt_of_le_of_lt h3 h)
