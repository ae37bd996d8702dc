/-- what a hearing holds -/
def hr3 (d : Dd) (a b c : Int) : Dd := dL (dL (dL d 13 0 (K a)) 13 1 (K b)) 13 2 (K c)
theorem hr3_i (d : Dd) (a b c : Int) (o k : Nat) : d_i (hr3 d a b c) o k = d_i d o k := rfl
theorem hr3_0 (d : Dd) (a b c : Int) : d_l (hr3 d a b c) 13 0 = K a := by simp [hr3, d_l, dL, set2]
theorem hr3_1 (d : Dd) (a b c : Int) : d_l (hr3 d a b c) 13 1 = K b := by simp [hr3, d_l, dL, set2]
theorem hr3_2 (d : Dd) (a b c : Int) : d_l (hr3 d a b c) 13 2 = K c := by simp [hr3, d_l, dL, set2]
theorem hr3_o (d : Dd) (a b c : Int) {o k : Nat} (h : o ≠ 13) : d_l (hr3 d a b c) o k = d_l d o k := by simp [hr3, d_l, dL, set2, h]
theorem hr3_s0 (d : Dd) (a b c x : Int) : dL (hr3 d a b c) 13 0 (K x) = hr3 d x b c := by
  unfold hr3 dL
  congr 1
  funext o k
  simp only [set2]
  repeat' split <;> simp_all
theorem hr3_s1 (d : Dd) (a b c x : Int) : dL (hr3 d a b c) 13 1 (K x) = hr3 d a x c := by
  unfold hr3 dL
  congr 1
  funext o k
  simp only [set2]
  repeat' split <;> simp_all
theorem hr3_s2 (d : Dd) (a b c x : Int) : dL (hr3 d a b c) 13 2 (K x) = hr3 d a b x := by
  unfold hr3 dL
  congr 1
  funext o k
  simp only [set2]
  repeat' split <;> simp_all
theorem MktAt.hr {d : Dd} {o : Nat} {μ : Mk} (M : MktAt d o μ) (a b c : Int) : MktAt (hr3 d a b c) o μ := M
theorem NewAt.hr {d : Dd} {ρ : Rh} {o : Nat} {ν : Nw} (M : NewAt d ρ o ν) (a b c : Int) : NewAt (hr3 d a b c) ρ o ν := M
theorem tdiv_100 {x y : Int} (h : 100 * y = x) : x.tdiv 100 = x / 100 := Int.tdiv_eq_ediv_of_dvd ⟨y, h.symm⟩
theorem narrow_val {ρ : Rh} {d : Dd} {m o : Nat} {μ : Mk} {ν : Nw} (M : MktAt d m μ) (N : NewAt d ρ o ν) (h : mkOK μ) (hn : nwOK ν) {a b c e : Int} (ha : -200000 ≤ a ∧ a ≤ 200000) (hb : -200000000 ≤ b ∧ b ≤ 200000000) (he : 100 * e = (b - a * kB μ) * (100 - nr ν)) : fX3_narrow ρ (hr3 d a b c) m o = some (hr3 d a b e) := by
  have hB := h.1
  have hab := ab_mul 200000 999 ha (show -999 ≤ kB μ ∧ kB μ ≤ 999 by omega)
  have hnr : 0 ≤ 100 - nr ν ∧ 100 - nr ν ≤ 100 := by
    unfold nr
    by_cases e : ν.1 = 4
    · have := hn.2.2 (by omega); have := hn.2.1; rw [if_pos e]; omega
    · rw [if_neg e]; omega
  have hp := ab_mul 400000000 100 (x := b - a * kB μ) (y := 100 - nr ν) (by omega) (by omega)
  unfold fX3_narrow
  rw [nearer_val (N.hr a b c) hn, Option.bind_some]
  simp only [bnd, hr3_0, hr3_1, hr3_i, M.1]
  rw [J_lit, J_sub, J_l (by omega), J_l (by omega), K_mul, K_sub, K_mul, K_lit, K_div (by omega) (by omega) (by decide), tdiv_100 he, ← he, Int.mul_ediv_cancel_left _ (by decide), hr3_s2]
theorem take_val {ρ : Rh} {d : Dd} {m o : Nat} {μ : Mk} {ν : Nw} (M : MktAt d m μ) (N : NewAt d ρ o ν) (h : mkOK μ) (hn : nwOK ν) (ho : o ≠ 0) {s : Int} (hs : 0 ≤ s ∧ s < 4) : fX3_take ρ d m o (J s) = some (hr3 d (WS μ ν s) (VS μ ν s) (ES μ ν s)) := by
  have hN := h.2.2.1
  unfold fX3_take
  simp only [bnd]
  rw [if_neg ho]
  have h0 : dL (dL (dL d 13 0 0) 13 1 0) 13 2 0 = hr3 d 0 0 0 := rfl
  rw [h0]
  refine lp_up (kN μ) (fun i => (J (i : Int), hr3 d (sm i fun c => kW μ c * shr μ ν c s) (sm i fun c => kW μ c * shr μ ν c s * kV μ c) 0)) (fun i hi self => ?_) (fun self => ?_) 6000 (by omega)
  · have hW := WS_bd h hn hs.1 i (by omega)
    have hV := VS_bd h hn hs.1 i (by omega)
    have hb := shr_bd h hn i hs.1
    obtain ⟨hw, hv⟩ := h.2.2.2 i hi
    have hws := ab_mul 99 300 (x := kW μ i) (y := shr μ ν i s) (by omega) (by omega)
    have hwv := ab_mul 29700 999 (x := kW μ i * shr μ ν i s) (y := kV μ i) (by omega) (by omega)
    have h1 : ¬ d_i (hr3 d (sm i fun c => kW μ c * shr μ ν c s) (sm i fun c => kW μ c * shr μ ν c s * kV μ c) 0) m 2 ≤ J (i : Int) := by
      rw [hr3_i, M.2.2.1, J_le (by omega) (by omega)]; omega
    simp only [h1, if_false]
    rw [weightOf_val (M.hr _ _ _) h hi, Option.bind_some, hr3_i, M.2.2.1, share_val (N.hr _ _ _) h hn hi hs, Option.bind_some]
    simp only [hr3_0]
    rw [J_l (by omega), J_l (by omega), K_mul, K_add, hr3_s0, valueOf_val (M.hr _ _ _) h hi, Option.bind_some]
    simp only [hr3_1]
    rw [J_l (by omega), K_mul, K_add, hr3_s1, J_lit, J_add]
    rfl
  · have h1 : d_i (hr3 d (sm (kN μ) fun c => kW μ c * shr μ ν c s) (sm (kN μ) fun c => kW μ c * shr μ ν c s * kV μ c) 0) m 2 ≤ J (kN μ : Int) := by
      rw [hr3_i, M.2.2.1, J_le (by omega) (by omega)]; omega
    have hW := WS_bd h hn hs.1 _ (Nat.le_refl (kN μ))
    have hV := VS_bd h hn hs.1 _ (Nat.le_refl (kN μ))
    simp only [h1, if_true]
    have hq := narrow_val (c := 0) M N h hn (a := WS μ ν s) (b := VS μ ν s) (e := ES μ ν s) (by unfold WS; omega) (by unfold VS; omega) (EH_dvd hn s)
    unfold WS VS at hq
    rw [hq]
    rfl
/-- the reference -/
theorem others_val {ρ : Rh} {d : Dd} {μ : Mk} (M : MdlAt d μ) (h : mkOK μ) : fX12_others ρ d = some (J (oth μ)) := by
  have hN := h.2.2.1
  unfold fX12_others oth
  rw [M.2.2.1]
  by_cases e : kN μ ≤ 1
  · rw [if_pos (by rw [J_lit, J_le (by omega) (by omega)]; omega), if_pos e]; rfl
  · rw [if_neg (by rw [J_lit, J_le (by omega) (by omega)]; omega), if_neg e, J_lit, J_sub]
theorem unit_val {ρ : Rh} {d : Dd} {μ : Mk} (M : MdlAt d μ) (h : mkOK μ) : fX12_unit ρ d = some (J (100 * oth μ)) := by
  unfold fX12_unit
  rw [others_val M h, Option.bind_some, J_lit, J_mul]
theorem often_val {ρ : Rh} {d : Dd} {k : Nat} {μ : Mk} {ν : Nw} (M : MdlAt d μ) (N : MdlN d k ν) (h : mkOK μ) (hn : nwOK ν) {c : Nat} (hc : c < kN μ) {s : Int} (hs : 0 ≤ s ∧ s < 4) : fX12_often ρ d (J k) (J c) (J s) = some (J (shr μ ν c s)) := by
  have hN := h.2.2.1
  obtain ⟨N0, N1, N2⟩ := N
  have hk := hn.1
  have hk2 := hn.2.1
  have hx : inB (J (k : Int)) 8 = true := by rw [inB_J (by omega)]; omega
  have hi : ix (J (k : Int)) = k := by rw [ix_J (by omega), Int.toNat_natCast]
  unfold fX12_often
  simp only [hx, if_true, hi, bnd, jn, N1, N2]
  have hcd : ¬ kN μ ≤ 1 → oth μ = (kN μ : Int) - 1 := fun q => by unfold oth; rw [if_neg q]
  have tail : ∀ r : Int, 0 ≤ r ∧ r < 4 → hAs ν c = r → ¬ (ν.1 = 3 ∧ 2 ≤ kN μ) → (if J r = J s then ((fX12_unit ρ d).bind fun r6 => some r6) else (some 0)) = some (J (shr μ ν c s)) := by
    intro r hr e1 e3
    unfold shr
    rw [if_neg e3, e1, unit_val M h]
    by_cases q : r = s
    · rw [if_pos (by rw [q]), if_pos q]; rfl
    · rw [if_neg (by rw [J_eq (by omega) (by omega)]; exact q), if_neg q]; rfl
  have mid : ¬ (ν.1 = 3 ∧ 2 ≤ kN μ) → (if J ν.1 = 0 then (if (0 : Int32) = J s then ((fX12_unit ρ d).bind fun r6 => some r6) else (some 0)) else (if J ν.1 = 2 then (if ((jshr (J ν.2) (2 * J c)) &&& 3) = J s then ((fX12_unit ρ d).bind fun r6 => some r6) else (some 0)) else (if J c = J s then ((fX12_unit ρ d).bind fun r6 => some r6) else (some 0)))) = some (J (shr μ ν c s)) := by
    intro e3
    by_cases q0 : ν.1 = 0
    · rw [if_pos (by rw [q0]; rfl)]
      have := tail 0 (by omega) (by unfold hAs; rw [if_pos q0]) e3
      exact this
    · rw [if_neg (by rw [J_lit, J_eq (by omega) (by omega)]; exact q0)]
      by_cases q2 : ν.1 = 2
      · rw [if_pos (by rw [q2]; rfl), hAs_part hn q2 (by omega)]
        exact tail _ (hAs_bd (by omega)) rfl e3
      · rw [if_neg (by rw [J_lit, J_eq (by omega) (by omega)]; exact q2)]
        exact tail c (by omega) (by unfold hAs; rw [if_neg q0, if_neg q2]) e3
  by_cases k3 : ν.1 = 3
  · have hb := hn.2.2 (by omega)
    have e0 : J ν.1 = 3 := by rw [k3]; rfl
    rw [if_pos e0]
    by_cases e : kN μ ≤ 1
    · have e1 : d_i d 23 4 ≤ 1 := by rw [M.2.2.1, J_lit, J_le (by omega) (by omega)]; omega
      rw [if_pos e1]
      exact mid (by omega)
    · have e1 : ¬ d_i d 23 4 ≤ 1 := by rw [M.2.2.1, J_lit, J_le (by omega) (by omega)]; omega
      rw [if_neg e1]
      have c2 : J s = J (c : Int) ↔ s = c := J_eq (by omega) (by omega)
      have c1 : d_i d 23 4 ≤ J s ↔ (kN μ : Int) ≤ s := by rw [M.2.2.1]; exact J_le (by omega) (by omega)
      have hS : shr μ ν c s = if s = c then (100 - ν.2) * oth μ else if s < kN μ then ν.2 else 0 := by
        have hc : ν.1 = 3 ∧ 2 ≤ kN μ := ⟨k3, by omega⟩
        unfold shr; rw [if_pos hc]
      rw [hS]
      by_cases q : s = c
      · rw [if_pos (c2.mpr q), if_pos q, others_val M h, Option.bind_some, J_lit, J_sub, J_mul]
      · rw [if_neg (fun z => q (c2.mp z)), if_neg q]
        by_cases q2 : s < kN μ
        · have q3 : ¬ (kN μ : Int) ≤ s := by omega
          rw [if_neg (fun z => q3 (c1.mp z)), if_pos q2]
        · have q3 : (kN μ : Int) ≤ s := by omega
          rw [if_pos (c1.mpr q3), if_neg q2]; rfl
  · rw [if_neg (by rw [J_lit, J_eq (by omega) (by omega)]; exact k3)]
    exact mid (by omega)
theorem heardOf_val {ρ : Rh} {d : Dd} {k : Nat} {μ : Mk} {ν : Nw} (M : MdlAt d μ) (N : MdlN d k ν) (h : mkOK μ) (hn : nwOK ν) {s : Int} (hs : 0 ≤ s ∧ s < 4) : fX12_heardOf ρ d (J k) (J s) = some (J (WS μ ν s)) := by
  have hN := h.2.2.1
  unfold fX12_heardOf
  refine lp_up (kN μ) (fun i => (J (sm i fun c => kW μ c * shr μ ν c s), J (i : Int))) (fun i hi self => ?_) (fun self => ?_) 6000 (by omega)
  · have h1 : ¬ d_i d 23 4 ≤ J (i : Int) := by rw [M.2.2.1, J_le (by omega) (by omega)]; omega
    have h3 : inB (J (i : Int)) 4 = true := by rw [inB_J (by omega)]; omega
    simp only [h1, if_false, h3, if_true, bnd]
    rw [often_val M N h hn hi hs, Option.bind_some, ix_J (by omega), Int.toNat_natCast, (M.2.2.2 i hi).1, J_mul, J_add, J_lit, J_add]
    rfl
  · have h1 : d_i d 23 4 ≤ J (kN μ : Int) := by rw [M.2.2.1, J_le (by omega) (by omega)]; omega
    simp only [h1, if_true]
    rfl
theorem baseOf_val {ρ : Rh} {d : Dd} {k : Nat} {μ : Mk} {ν : Nw} (M : MdlAt d μ) (N : MdlN d k ν) (h : mkOK μ) (hn : nwOK ν) {c : Nat} (hc : c < kN μ) : fX12_baseOf ρ d (J k) (J c) = some (J (100 * kB μ + nr ν * (kV μ c - kB μ))) := by
  have hN := h.2.2.1
  obtain ⟨N0, N1, N2⟩ := N
  have hk := hn.1
  have hx : inB (J (k : Int)) 8 = true := by rw [inB_J (by omega)]; omega
  have hi : ix (J (k : Int)) = k := by rw [ix_J (by omega), Int.toNat_natCast]
  have h3 : inB (J (c : Int)) 4 = true := by rw [inB_J (by omega)]; omega
  have hi2 : ix (J (c : Int)) = c := by rw [ix_J (by omega), Int.toNat_natCast]
  unfold fX12_baseOf nr
  simp only [hx, if_true, hi, N1, N2, h3, hi2, M.1, (M.2.2.2 c hc).2]
  by_cases e : ν.1 = 4
  · rw [if_pos (by rw [e]; rfl), if_pos e, J_lit, J_mul, J_sub, J_mul, J_add]
  · rw [if_neg (by rw [J_lit, J_eq (by omega) (by omega)]; exact e), if_neg e, J_lit, J_lit, J_mul, J_add, Int.zero_mul]
theorem EH_sum (μ : Mk) (ν : Nw) (s : Int) (n : Nat) : sm n (fun c => kW μ c * shr μ ν c s * (100 * kV μ c - (100 * kB μ + nr ν * (kV μ c - kB μ)))) = (sm n (fun c => kW μ c * shr μ ν c s * kV μ c) - sm n (fun c => kW μ c * shr μ ν c s) * kB μ) * (100 - nr ν) := by
  induction n with
  | zero => simp [sm]
  | succ n ih =>
    show sm n _ + kW μ n * shr μ ν n s * (100 * kV μ n - (100 * kB μ + nr ν * (kV μ n - kB μ))) = ((sm n _ + kW μ n * shr μ ν n s * kV μ n) - (sm n _ + kW μ n * shr μ ν n s) * kB μ) * (100 - nr ν)
    rw [ih]
    generalize sm n (fun c => kW μ c * shr μ ν c s * kV μ c) = A
    generalize sm n (fun c => kW μ c * shr μ ν c s) = B
    generalize kW μ n * shr μ ν n s = C
    generalize kV μ n = V
    generalize kB μ = E
    generalize nr ν = F
    grind
theorem edgeOf_val {ρ : Rh} {d : Dd} {k : Nat} {μ : Mk} {ν : Nw} (M : MdlAt d μ) (N : MdlN d k ν) (h : mkOK μ) (hn : nwOK ν) {s : Int} (hs : 0 ≤ s ∧ s < 4) : fX12_edgeOf ρ d (J k) (J s) = some (K (EH μ ν s)) := by
  have hN := h.2.2.1
  have hB := h.1
  unfold fX12_edgeOf
  refine lp_up (kN μ) (fun i => (K (sm i (fun c => kW μ c * shr μ ν c s * (100 * kV μ c - (100 * kB μ + nr ν * (kV μ c - kB μ))))), J (i : Int))) (fun i hi self => ?_) (fun self => ?_) 6000 (by omega)
  · have h1 : ¬ d_i d 23 4 ≤ J (i : Int) := by rw [M.2.2.1, J_le (by omega) (by omega)]; omega
    have h3 : inB (J (i : Int)) 4 = true := by rw [inB_J (by omega)]; omega
    have hb := shr_bd h hn i hs.1
    obtain ⟨hw, hv⟩ := h.2.2.2 i hi
    have hnr : 0 ≤ nr ν ∧ nr ν ≤ 100 := by
      unfold nr
      by_cases e : ν.1 = 4
      · have := hn.2.2 (by omega); have := hn.2.1; rw [if_pos e]; omega
      · rw [if_neg e]; omega
    have hq := ab_mul 100 999 (x := nr ν) (y := kV μ i - kB μ) (by omega) (by omega)
    simp only [h1, if_false, h3, if_true, bnd]
    rw [often_val M N h hn hi hs, Option.bind_some, baseOf_val M N h hn hi, Option.bind_some, ix_J (by omega), Int.toNat_natCast, (M.2.2.2 i hi).1, (M.2.2.2 i hi).2, J_l (by omega), J_l (by omega), show (100 : Int32) = J 100 from rfl, J_mul, J_sub, J_l (by omega), K_mul, K_mul, K_add, J_lit 1, J_add]
    rfl
  · have h1 : d_i d 23 4 ≤ J (kN μ : Int) := by rw [M.2.2.1, J_le (by omega) (by omega)]; omega
    simp only [h1, if_true]
    rw [EH_sum]
    rfl
