/-! tools for the calls -/
theorem jn_b {γ : Type} (F : Bool → γ) (g : (Bool → γ) → γ) (b : Bool) (h : ∀ k, g k = k b) : jn F g = F b := (jn_eq F g).trans (h F)
theorem if2 {γ : Type} (A B : Prop) [Decidable A] [Decidable B] (k : Bool → γ) : (if decide A = true then (if decide B = true then k true else k false) else k false) = k (decide (A ∧ B)) := by
  by_cases hA : A <;> by_cases hB : B <;> simp [hA, hB]
theorem if3 {γ : Type} (A B C : Prop) [Decidable A] [Decidable B] [Decidable C] (k : Bool → γ) : (if decide A = true then (if decide B = true then (if decide C = true then k true else k false) else k false) else k false) = k (decide (A ∧ B ∧ C)) := by
  by_cases hA : A <;> by_cases hB : B <;> by_cases hC : C <;> simp [hA, hB, hC]
theorem lp_e {σ γ : Type} {f : (σ → Option γ) → σ → Option γ} (N : Nat) (I : Nat → σ → Prop) (Q : Option γ → Prop) (hs : ∀ i, i < N → ∀ s, I i s → ∀ self, (∃ s', I (i + 1) s' ∧ f self s = self s') ∨ Q (f self s)) (he : ∀ s, I N s → ∀ self, Q (f self s)) (F : Nat) (hF : N < F) (s0 : σ) (h0 : I 0 s0) : Q (lp f F s0) := by
  refine lp_n (fun n s => ∃ i, i + n = N ∧ I i s) Q ?_ F N s0 ⟨0, by omega, h0⟩ hF
  rintro n s ⟨i, hi, hI⟩ self
  by_cases e : i = N
  · subst e; exact Or.inr (he s hI self)
  · rcases hs i (by omega) s hI self with ⟨s', h1, h2⟩ | h
    · exact Or.inl ⟨s', n - 1, by omega, ⟨i + 1, by omega, h1⟩, h2⟩
    · exact Or.inr h
theorem lp_c {σ γ : Type} {f : (σ → Option γ) → σ → Option γ} (N : Nat) (I : Nat → σ → Prop) (Q : Option γ → Prop) (hs : ∀ i, i < N → ∀ s, I i s → ∀ self, ∃ s', I (i + 1) s' ∧ f self s = self s') (he : ∀ s, I N s → ∀ self, Q (f self s)) (F : Nat) (hF : N < F) (s0 : σ) (h0 : I 0 s0) : Q (lp f F s0) :=
  lp_e N I Q (fun i hi s h self => Or.inl (hs i hi s h self)) he F hF s0 h0
theorem Fr.c2 {P : Nat → Nat → Prop} {d d1 : Dd} (f : Fr P d d1) (h : ∀ k, ¬ P 2 k) : d1.1 2 = d.1 2 := funext fun k => (f 2 k (h k)).1
theorem Fr.cs2 {d d1 : Dd} (f : Fr CS d d1) : d1.1 2 = d.1 2 := f.c2 (fun k => by unfold CS; omega)
theorem inv_cm {d d1 d2 : Dd} {ρ : Rh} {σ : Sg} (O : sgOK σ) (R : RC d ρ σ) (M : RM d σ) (C : CacheOK d1 σ) (f1 : Fr CS d d1) (f2 : Fr MS d1 d2) : Inv d2 ρ := ⟨σ, O, (R.fr f1).frM f2, C.frM f2, (M.frC f1).frM f2⟩
theorem dL_o {d : Dd} {o k o' k' : Nat} {v : Int64} (h : ¬ (o' = o ∧ k' = k)) : d_l (dL d o k v) o' k' = d_l d o' k' := by
  unfold d_l dL
  show set2 _ _ _ _ o' k' = _
  unfold set2
  rw [if_neg h]
theorem dL_s {d : Dd} {o k : Nat} {v : Int64} : d_l (dL d o k v) o k = v := by
  unfold d_l dL
  show set2 _ _ _ _ o k = _
  unfold set2
  rw [if_pos ⟨rfl, rfl⟩]
theorem dI_o {d : Dd} {o k o' k' : Nat} {v : Int32} (h : ¬ (o' = o ∧ k' = k)) : d_i (dI d o k v) o' k' = d_i d o' k' := by
  unfold d_i dI
  show set2 _ _ _ _ o' k' = _
  unfold set2
  rw [if_neg h]
theorem dI_s {d : Dd} {o k : Nat} {v : Int32} : d_i (dI d o k v) o k = v := by
  unfold d_i dI
  show set2 _ _ _ _ o k = _
  unfold set2
  rw [if_pos ⟨rfl, rfl⟩]
theorem dL_i {d : Dd} {o k o' k' : Nat} {v : Int64} : d_i (dL d o k v) o' k' = d_i d o' k' := rfl
theorem dI_l {d : Dd} {o k o' k' : Nat} {v : Int32} : d_l (dI d o k v) o' k' = d_l d o' k' := rfl
theorem MdlAt.fm {d d1 : Dd} {μ : Mk} (M : MdlAt d μ) (f : Fr MS d d1) : MdlAt d1 μ :=
  ⟨(f.gi (by unfold MS; omega)).trans M.1, (f.gi (by unfold MS; omega)).trans M.2.1, (f.gi (by unfold MS; omega)).trans M.2.2.1, fun c hc => ⟨(f.gi (by unfold MS; omega)).trans (M.2.2.2 c hc).1, (f.gi (by unfold MS; omega)).trans (M.2.2.2 c hc).2⟩⟩
theorem MdlB.fm {d d1 : Dd} {β : By} (M : MdlB d β) (f : Fr MS d d1) : MdlB d1 β :=
  ⟨(f.gi (by unfold MS; omega)).trans M.1, fun c hc => ⟨(f.gi (by unfold MS; omega)).trans (M.2 c hc).1, (f.gi (by unfold MS; omega)).trans (M.2 c hc).2⟩⟩
theorem MdlN.fm {d d1 : Dd} {k : Nat} {ν : Nw} (M : MdlN d k ν) (f : Fr MS d d1) : MdlN d1 k ν :=
  ⟨M.1, (f.gi (by unfold MS; omega)).trans M.2.1, (f.gi (by unfold MS; omega)).trans M.2.2⟩
theorem has_c {ρ : Rh} {d : Dd} {β : By} (B : BuyAt d β) (hβ : byOK β) {a : Int} (ha : -2147483648 ≤ a ∧ a < 2147483648) : fX1_has ρ d (J a) = some (decide (0 ≤ a ∧ a < bN β)) := by
  have hN := hβ.1
  have c1 : J a < 0 ↔ a < 0 := by rw [j0]; exact J_lt (by omega) (by omega)
  have c2 : d_i d 15 2 ≤ J a ↔ (bN β : Int) ≤ a := by rw [B.1]; exact J_le (by omega) (by omega)
  unfold fX1_has
  by_cases q1 : a < 0
  · have q : ¬ (0 ≤ a ∧ a < bN β) := by omega
    rw [if_pos (c1.mpr q1), decide_eq_false q]
  · rw [if_neg (fun z => q1 (c1.mp z))]
    by_cases q2 : (bN β : Int) ≤ a
    · have q : ¬ (0 ≤ a ∧ a < bN β) := by omega
      rw [if_pos (c2.mpr q2), decide_eq_false q]
    · have q : 0 ≤ a ∧ a < bN β := by omega
      rw [if_neg (fun z => q2 (c2.mp z)), decide_eq_true q]
theorem isBuyer_m {ρ : Rh} {d : Dd} {β : By} (B : MdlB d β) (hβ : byOK β) {a : Int} (ha : -2147483648 ≤ a ∧ a < 2147483648) : fX12_isBuyer ρ d (J a) = some (decide (0 ≤ a ∧ a < bN β)) := by
  have hN := hβ.1
  unfold fX12_isBuyer
  rw [B.1, j1, J_sub, J_l (by omega), J_l (by omega), k0, in_val (by omega) (by omega) (by omega), Option.bind_some]
  congr 1
  exact decide_eq_decide.mpr (by omega)
theorem isSet_m {ρ : Rh} {d : Dd} {β : By} (B : MdlB d β) (hβ : byOK β) {a : Int} (ha : -2147483648 ≤ a ∧ a < 2147483648) : fX12_isSet ρ d (J a) = some (decide (0 ≤ a ∧ a < ((2 ^ bN β : Nat) : Int))) := by
  have hN := hβ.1
  have h2 := two_le hN
  unfold fX12_isSet
  rw [B.1, shl_val _ hN, J_l (by omega), J_l (by omega), k0, in_val (by omega) (by omega) (by omega), Option.bind_some]
  congr 1
  exact decide_eq_decide.mpr (by omega)
theorem isHow_c {a : Int} (ha : -2147483648 ≤ a ∧ a < 2147483648) : fX11_isHow (J a) = some (decide (a = 0 ∨ a = 1)) := by
  have c1 : J a = 0 ↔ a = 0 := by rw [j0]; exact J_eq (by omega) (by omega)
  have c2 : J a = 1 ↔ a = 1 := by rw [j1]; exact J_eq (by omega) (by omega)
  unfold fX11_isHow
  simp only [jn]
  by_cases q1 : a = 0
  · have q : a = 0 ∨ a = 1 := by omega
    rw [if_pos (c1.mpr q1), decide_eq_true q]
  · rw [if_neg (fun z => q1 (c1.mp z))]
    by_cases q2 : a = 1
    · have q : a = 0 ∨ a = 1 := by omega
      rw [if_pos (c2.mpr q2), decide_eq_true q]
    · have q : ¬ (a = 0 ∨ a = 1) := by omega
      rw [if_neg (fun z => q2 (c2.mp z)), decide_eq_false q]
theorem in01 {a : Int} (ha : -2147483648 ≤ a ∧ a < 2147483648) : fX12_in (Int32.toInt64 (J a)) 0 1 = some (decide (a = 0 ∨ a = 1)) := by
  rw [J_l (by omega), k0, k1, in_val (by omega) (by omega) (by omega)]
  congr 1
  exact decide_eq_decide.mpr (by omega)
theorem ev_val {ρ : Rh} {d : Dd} {β : By} (B : BuyAt d β) (hβ : byOK β) : fX1_everybody ρ d = some (J ((2 ^ bN β - 1 : Nat) : Int)) := by
  have h2 := two_le hβ.1
  unfold fX1_everybody
  rw [B.1, shl_val _ hβ.1]
  congr 2
  omega
theorem below_val {ρ : Rh} {d : Dd} {μ : Mk} (M : MdlAt d μ) (h : mkOK μ) : fX12_below ρ d = some (K (100 * (WT μ * (100 * oth μ)))) := by
  have hw := WT_bd h
  have ho := oth_bd μ h
  unfold fX12_below
  rw [unit_val M h, Option.bind_some, allW_val M h, Option.bind_some, J_l (by omega), J_l (by omega), k100, K_mul, K_mul]
  congr 2
  grind
theorem whole_bd {μ : Mk} (h : mkOK μ) (hop : 0 < kN μ) : 1 ≤ WT μ * (100 * oth μ) ∧ WT μ * (100 * oth μ) ≤ 118800 := by
  have hw := WT_bd h
  have ho := oth_bd μ h
  have h1 := hw.2 hop
  have hpos : 0 < WT μ * (100 * oth μ) := Int.mul_pos (by omega) (by omega)
  have hle := ab_mul 396 300 (x := WT μ) (y := 100 * oth μ) (by omega) (by omega)
  omega
/-- what is dealt for a sign that is heard -/
theorem DT_ex {μ : Mk} {ν : Nw} {β : By} (hβ : byOK β) {set : Nat} {s : Int} (hW : ¬ WS μ ν s = 0) : ∃ z : Nat, DT μ ν β set s = (z : Int) ∧ z < 7 ^ bN β ∧ z < 2401 ∧ (scn (qz (hgS μ ν s) β set) (tz (hgS μ ν s) β) (7 ^ bN β)).2.1 = (z : Int) ∧ inBox β set z ∧ ∀ b, b < bN β → WO1 μ ν β set b s = gn (WS μ ν s) (ES μ ν s) (kS μ) (bF β b) (st z b) (TT β z) := by
  obtain ⟨h1, h2, h3⟩ := DT_ok (set := set) hβ hW
  have h7 := seven_le hβ.1
  have e : DT μ ν β set s = (((DT μ ν β set s).toNat : Nat) : Int) := by omega
  refine ⟨(DT μ ν β set s).toNat, e, h2, by omega, ?_, ((qz_iff _ _ _ _).mp h3).1, fun b hb => ?_⟩
  · refine Eq.trans ?_ e
    unfold DT
    rw [if_neg hW]
  · unfold WO1
    rw [if_neg hW]
    have e1 : fee β b = bF β b := by unfold fee; rw [if_pos hb]
    have e2 : xs β (DT μ ν β set s).toNat b = st (DT μ ν β set s).toNat b := by unfold xs; rw [if_pos hb]
    rw [e1, e2]
theorem DT_never {μ : Mk} {ν : Nw} {β : By} {set : Nat} {s : Int} (hW : WS μ ν s = 0) : DT μ ν β set s = -1 := by
  unfold DT; rw [if_pos hW]
theorem WO1_bd {μ : Mk} {ν : Nw} {β : By} (h : mkOK μ) (hn : nwOK ν) (hβ : byOK β) {set b : Nat} (hb : b < bN β) {s : Int} (hs : 0 ≤ s ∧ s < 4) : -5000000000 ≤ WO1 μ ν β set b s ∧ WO1 μ ν β set b s ≤ 5000000000 := by
  by_cases hW : WS μ ν s = 0
  · unfold WO1; rw [if_pos hW]; omega
  · obtain ⟨z, -, -, -, -, -, e⟩ := DT_ex (set := set) hβ hW
    have hg := hgS_ok h hn hs
    have h1 := st_bd z b
    have h2 := TT_bd hβ z
    have h3 := (hβ.2 b hb).2
    rw [e b hb]
    exact (gn_bd hg.1 hg.2.1 hg.2.2 (by omega) (by omega) (by omega)).2.2.2.2.2.2
theorem WO_bd {μ : Mk} {ν : Nw} {β : By} (h : mkOK μ) (hn : nwOK ν) (hβ : byOK β) {set b : Nat} (hb : b < bN β) : -20000000000 ≤ WO μ ν β set b ∧ WO μ ν β set b ≤ 20000000000 := by
  have := sm_bd (n := 4) (f := fun s => WO1 μ ν β set b s) (lo := -5000000000) (hi := 5000000000) (fun i hi => WO1_bd h hn hβ hb (by omega))
  unfold WO
  omega
