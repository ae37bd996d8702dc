/-! the reference's side, and what is refused -/
def RM (d : Dd) (σ : Sg) : Prop := (d_i d 23 1 = J (gP σ) ∧ ∀ k, k < gP σ → d_i d 24 k = J (gL σ k)) ∧ ((0 < kN (gM σ) → MdlAt d (gM σ)) ∧ d_i d 23 4 = J (kN (gM σ))) ∧ MdlB d (gB σ) ∧ (d_i d 23 18 = J (gN σ) ∧ ∀ k, k < gN σ → MdlN d k (gV σ k)) ∧ d_i d 23 26 = J (gS σ)
def MS (o k : Nat) : Prop := (o = 23 ∧ ((7 ≤ k ∧ k ≤ 12) ∨ (21 ≤ k ∧ k ≤ 24) ∨ 27 ≤ k)) ∨ o = 27 ∨ o = 28 ∨ o = 33 ∨ o = 34
def Inv (d : Dd) (ρ : Rh) : Prop := ∃ σ, sgOK σ ∧ RC d ρ σ ∧ CacheOK d σ ∧ RM d σ
theorem RM.gfr {P : Nat → Nat → Prop} {d d1 : Dd} {σ : Sg} (R : RM d σ) (f : Fr P d d1) (h : ∀ o k, 23 ≤ o → o < 35 → ¬ MS o k → ¬ P o k) : RM d1 σ := by
  obtain ⟨⟨r1, r2⟩, ⟨r3, r4⟩, ⟨r5, r6⟩, ⟨r7, r8⟩, r9⟩ := R
  have g : ∀ o k, 23 ≤ o → o < 35 → ¬ MS o k → d_i d1 o k = d_i d o k := fun o k h1 h2 h3 => f.gi (h o k h1 h2 h3)
  refine ⟨⟨(g _ _ (by omega) (by omega) (by unfold MS; omega)).trans r1, fun k hk => (g _ _ (by omega) (by omega) (by unfold MS; omega)).trans (r2 k hk)⟩, ⟨fun hq => ?_, (g _ _ (by omega) (by omega) (by unfold MS; omega)).trans r4⟩, ⟨(g _ _ (by omega) (by omega) (by unfold MS; omega)).trans r5, fun b hb => ⟨(g _ _ (by omega) (by omega) (by unfold MS; omega)).trans (r6 b hb).1, (g _ _ (by omega) (by omega) (by unfold MS; omega)).trans (r6 b hb).2⟩⟩, ⟨(g _ _ (by omega) (by omega) (by unfold MS; omega)).trans r7, fun k hk => ⟨(r8 k hk).1, (g _ _ (by omega) (by omega) (by unfold MS; omega)).trans (r8 k hk).2.1, (g _ _ (by omega) (by omega) (by unfold MS; omega)).trans (r8 k hk).2.2⟩⟩, (g _ _ (by omega) (by omega) (by unfold MS; omega)).trans r9⟩
  obtain ⟨m1, m2, m3, m4⟩ := r3 hq
  exact ⟨(g _ _ (by omega) (by omega) (by unfold MS; omega)).trans m1, (g _ _ (by omega) (by omega) (by unfold MS; omega)).trans m2, (g _ _ (by omega) (by omega) (by unfold MS; omega)).trans m3, fun c hc => ⟨(g _ _ (by omega) (by omega) (by unfold MS; omega)).trans (m4 c hc).1, (g _ _ (by omega) (by omega) (by unfold MS; omega)).trans (m4 c hc).2⟩⟩
theorem RM.frC {d d1 : Dd} {σ : Sg} (R : RM d σ) (f : Fr CS d d1) : RM d1 σ := R.gfr f (fun o k h1 h2 h3 h4 => by unfold CS at h4; omega)
theorem RM.frM {d d1 : Dd} {σ : Sg} (R : RM d σ) (f : Fr MS d d1) : RM d1 σ := R.gfr f (fun o k _ _ h3 h4 => h3 h4)
theorem RC.frM {d d1 : Dd} {ρ : Rh} {σ : Sg} (R : RC d ρ σ) (f : Fr MS d d1) : RC d1 ρ σ := by
  obtain ⟨⟨r1, r2⟩, ⟨r3, r4⟩, ⟨r5, r6⟩, r7, ⟨r8, r9, r10⟩, r11⟩ := R
  have hm := r2.1
  have hn : ∀ o k, (o < 23 ∨ 35 ≤ o) → ¬ MS o k := fun o k h => by unfold MS; omega
  refine ⟨⟨r1.fr f (fun k => hn _ _ (by omega)), r2⟩, ⟨(f.gi (hn _ _ (by omega))).trans r3, fun k hk => (f.gi (hn _ _ (by omega))).trans (r4 k hk)⟩, ⟨fun h => (r5 h).fr f (fun k => ⟨hn _ _ (by omega), hn _ _ (by omega), hn _ _ (by omega)⟩), (f.gi (hn _ _ (by omega))).trans r6⟩, r7.fr f (fun k => ⟨hn _ _ (by omega), hn _ _ (by omega), hn _ _ (by omega)⟩), ⟨(f.gi (hn _ _ (by omega))).trans r8, r9, fun k hk => (r10 k hk).fr f (fun j => hn _ _ (by omega))⟩, (f.gi (hn _ _ (by omega))).trans r11⟩
theorem CacheOK.gfr {P : Nat → Nat → Prop} {d d1 : Dd} {σ : Sg} (C : CacheOK d σ) (f : Fr P d d1) (h : ∀ k, ¬ P 20 k ∧ ¬ P 21 k ∧ ¬ P 22 k) : CacheOK d1 σ := fun k set hk hs => by
  rcases C k set hk hs with q | ⟨a1, a2, a3, a4, a5, a6⟩
  · exact Or.inl ((f.gi (h _).1).trans q)
  · exact Or.inr ⟨a1, a2, a3, (f.gi (h _).1).trans a4, fun s hs => (f.gi (h _).2.1).trans (a5 s hs), fun b hb => (f.gl (h _).2.2).trans (a6 b hb)⟩
theorem CacheOK.frM {d d1 : Dd} {σ : Sg} (C : CacheOK d σ) (f : Fr MS d d1) : CacheOK d1 σ := C.gfr f (fun k => by unfold MS; omega)
/-- the first refusal -/
def rfs (σ : Sg) (a : Int) (named inside : Bool) : Int := if ¬ (0 ≤ a ∧ a < gN σ) then -101 else if kN (gM σ) = 0 then -103 else if named = true then (if inside = true then 0 else -102) else -101
theorem refusal_c {ρ : Rh} {d : Dd} {σ : Sg} (R : RC d ρ σ) (O : sgOK σ) {a : Int} (ha : -2147483648 ≤ a ∧ a < 2147483648) (named inside : Bool) : fX11_refusal ρ d (J a) named inside = some (J (rfs σ a named inside)) := by
  have hn := O.2.2.2.1.1
  unfold fX11_refusal rfs
  by_cases q : 0 ≤ a ∧ a < gN σ
  · have e : a = ((a.toNat : Nat) : Int) := by omega
    have h1 := newsAt_in R O (k := a.toNat) (by omega)
    rw [← e] at h1
    have n0 : ¬ 35 + a.toNat = 0 := by omega
    have nq : ¬ ¬ (0 ≤ a ∧ a < gN σ) := fun z => z q
    rw [h1, Option.bind_some, if_neg n0, if_neg nq, R.2.2.1.2]
    by_cases p : 0 < kN (gM σ)
    · have n1 : ¬ kN (gM σ) = 0 := by omega
      have n2 : ¬ J 1 = 0 := by decide
      rw [if_pos p, if_neg n1, if_neg n2]
      cases named <;> cases inside <;> rfl
    · have n1 : kN (gM σ) = 0 := by omega
      have n2 : J 0 = 0 := rfl
      rw [if_neg p, if_pos n1, if_pos n2]; rfl
  · rw [newsAt_out R O ha q, Option.bind_some, if_pos rfl, if_pos q]; rfl
theorem isNews_val {ρ : Rh} {d : Dd} {σ : Sg} (R : RM d σ) (O : sgOK σ) {a : Int} (ha : -2147483648 ≤ a ∧ a < 2147483648) : fX12_isNews ρ d (J a) = some (decide (0 ≤ a ∧ a < gN σ)) := by
  have hn := O.2.2.2.1.1
  unfold fX12_isNews
  rw [R.2.2.2.1.1, j1, J_sub, J_l (by omega), J_l (by omega), k0, in_val (by omega) (by omega) (by omega), Option.bind_some]
  congr 1
  exact decide_eq_decide.mpr (by omega)
theorem refusal_m {ρ : Rh} {d : Dd} {σ : Sg} (R : RM d σ) (O : sgOK σ) {a : Int} (ha : -2147483648 ≤ a ∧ a < 2147483648) (named inside : Bool) : fX12_refusal ρ d (J a) named inside = some (J (rfs σ a named inside)) := by
  have hN := O.2.1.2.2.1
  unfold fX12_refusal rfs
  rw [isNews_val R O ha, Option.bind_some, R.2.1.2]
  by_cases q : 0 ≤ a ∧ a < gN σ
  · have nq : ¬ ¬ (0 ≤ a ∧ a < gN σ) := fun z => z q
    rw [decide_eq_true q, if_pos rfl, if_neg nq]
    have c0 : J (kN (gM σ) : Int) = 0 ↔ kN (gM σ) = 0 := by rw [j0, J_eq (by omega) (by omega)]; omega
    by_cases p : kN (gM σ) = 0
    · rw [if_pos (c0.mpr p), if_pos p]; rfl
    · rw [if_neg (fun z => p (c0.mp z)), if_neg p]
      cases named <;> cases inside <;> rfl
  · rw [decide_eq_false q, if_neg Bool.false_ne_true, if_pos q]; rfl
theorem rfs_cases (σ : Sg) (a : Int) (named inside : Bool) : (rfs σ a named inside = 0 ∧ 0 ≤ a ∧ a < gN σ ∧ 0 < kN (gM σ) ∧ named = true ∧ inside = true) ∨ rfs σ a named inside = -101 ∨ rfs σ a named inside = -102 ∨ rfs σ a named inside = -103 := by
  unfold rfs
  by_cases q : 0 ≤ a ∧ a < gN σ
  · have nq : ¬ ¬ (0 ≤ a ∧ a < gN σ) := fun z => z q
    rw [if_neg nq]
    by_cases p : kN (gM σ) = 0
    · rw [if_pos p]; exact Or.inr (Or.inr (Or.inr rfl))
    · rw [if_neg p]
      cases named
      · exact Or.inr (Or.inl rfl)
      · cases inside
        · exact Or.inr (Or.inr (Or.inl rfl))
        · exact Or.inl ⟨rfl, q.1, q.2, by omega, rfl, rfl⟩
  · rw [if_pos q]; exact Or.inr (Or.inl rfl)
def rfL (r : Int) : Int := if r = -101 then -1000000000000000001 else if r = -103 then -1000000000000000003 else -1000000000000000002
theorem refusedPart_val {r : Int} (h : r = -101 ∨ r = -102 ∨ r = -103) : fX11_refusedPart (J r) = some (K (rfL r)) := by
  rcases h with rfl | rfl | rfl <;> rfl
theorem asLong_val {r : Int} (h : r = -101 ∨ r = -102 ∨ r = -103) : fX12_asLong (J r) = some (K (rfL r)) := by
  rcases h with rfl | rfl | rfl <;> rfl
