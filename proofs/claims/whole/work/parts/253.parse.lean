/-! the page is read alike -/
theorem g1d {dg nm rb rs rc c : Int} {W V : Nat → Int} (q : 48 ≤ c ∧ c ≤ 57) : gs (1, dg, nm, rb, rs, rc, W, V) c = (decide (dg < 3), (1, dg + 1, 10 * nm + c - 48, rb, rs, rc, W, V)) := by
  show (if 48 ≤ c ∧ c ≤ 57 then _ else _ : Bool × Mst) = _
  rw [if_pos q]
theorem g1n {dg nm rb rs rc c : Int} {W V : Nat → Int} (q : ¬ (48 ≤ c ∧ c ≤ 57)) : gs (1, dg, nm, rb, rs, rc, W, V) c = (decide (0 < dg ∧ c = 115), (2, 0, 0, nm, rs, rc, W, V)) := by
  show (if 48 ≤ c ∧ c ≤ 57 then _ else _ : Bool × Mst) = _
  rw [if_neg q]
theorem g3t {dg nm rb rs rc c : Int} {W V : Nat → Int} (q : c = 59) : gs (3, dg, nm, rb, rs, rc, W, V) c = (decide (rc < 4), (4, 0, 0, rb, rs, rc + 1, W, V)) := by
  show (if c = 59 then _ else _ : Bool × Mst) = _
  rw [if_pos q]
theorem g3f {dg nm rb rs rc c : Int} {W V : Nat → Int} (q : ¬ c = 59) : gs (3, dg, nm, rb, rs, rc, W, V) c = (false, (3, dg, nm, rb, rs, rc, W, V)) := by
  show (if c = 59 then _ else _ : Bool × Mst) = _
  rw [if_neg q]
theorem g4d {dg nm rb rs rc c : Int} {W V : Nat → Int} (q : 48 ≤ c ∧ c ≤ 57) (w : 0 < dg ∨ ¬ c = 48) : gs (4, dg, nm, rb, rs, rc, W, V) c = (decide (dg < 2), (4, dg + 1, 10 * nm + c - 48, rb, rs, rc, W, V)) := by
  show (if 48 ≤ c ∧ c ≤ 57 then (if 0 < dg ∨ ¬ c = 48 then _ else _) else _ : Bool × Mst) = _
  rw [if_pos q, if_pos w]
theorem g4z {dg nm rb rs rc c : Int} {W V : Nat → Int} (q : 48 ≤ c ∧ c ≤ 57) (w : ¬ (0 < dg ∨ ¬ c = 48)) : gs (4, dg, nm, rb, rs, rc, W, V) c = (false, (4, dg, nm, rb, rs, rc, W, V)) := by
  show (if 48 ≤ c ∧ c ≤ 57 then (if 0 < dg ∨ ¬ c = 48 then _ else _) else _ : Bool × Mst) = _
  rw [if_pos q, if_neg w]
theorem g4n {dg nm rb rs rc c : Int} {W V : Nat → Int} (q : ¬ (48 ≤ c ∧ c ≤ 57)) : gs (4, dg, nm, rb, rs, rc, W, V) c = (decide (0 < dg ∧ c = 58), (5, 0, 0, rb, rs, rc, updI W (rc - 1) nm, V)) := by
  show (if 48 ≤ c ∧ c ≤ 57 then _ else _ : Bool × Mst) = _
  rw [if_neg q]
theorem g5d {dg nm rb rs rc c : Int} {W V : Nat → Int} (q : 48 ≤ c ∧ c ≤ 57) : gs (5, dg, nm, rb, rs, rc, W, V) c = (decide (dg < 3), (5, dg + 1, 10 * nm + c - 48, rb, rs, rc, W, updI V (rc - 1) (10 * nm + c - 48))) := by
  show (if 48 ≤ c ∧ c ≤ 57 then _ else _ : Bool × Mst) = _
  rw [if_pos q]
theorem g5z {dg nm rb rs rc c : Int} {W V : Nat → Int} (q : ¬ (48 ≤ c ∧ c ≤ 57)) (w : dg ≤ 0) : gs (5, dg, nm, rb, rs, rc, W, V) c = (false, (5, dg, nm, rb, rs, rc, W, V)) := by
  show (if 48 ≤ c ∧ c ≤ 57 then _ else (if dg ≤ 0 then _ else _) : Bool × Mst) = _
  rw [if_neg q, if_pos w]
theorem g5s {dg nm rb rs rc c : Int} {W V : Nat → Int} (q : ¬ (48 ≤ c ∧ c ≤ 57)) (w : ¬ dg ≤ 0) (y : c = 59) : gs (5, dg, nm, rb, rs, rc, W, V) c = (decide (rc < 4), (4, 0, 0, rb, rs, rc + 1, W, V)) := by
  show (if 48 ≤ c ∧ c ≤ 57 then _ else (if dg ≤ 0 then _ else (if c = 59 then _ else _)) : Bool × Mst) = _
  rw [if_neg q, if_neg w, if_pos y]
theorem g5f {dg nm rb rs rc c : Int} {W V : Nat → Int} (q : ¬ (48 ≤ c ∧ c ≤ 57)) (w : ¬ dg ≤ 0) (y : ¬ c = 59) : gs (5, dg, nm, rb, rs, rc, W, V) c = (false, (5, dg, nm, rb, rs, rc, W, V)) := by
  show (if 48 ≤ c ∧ c ≤ 57 then _ else (if dg ≤ 0 then _ else (if c = 59 then _ else _)) : Bool × Mst) = _
  rw [if_neg q, if_neg w, if_neg y]
theorem updI_s {f : Nat → Int} {i v : Int} {k : Nat} (h : (k : Int) = i) : updI f i v k = v := by unfold updI; rw [if_pos h]
theorem updI_o {f : Nat → Int} {i v : Int} {k : Nat} (h : ¬ (k : Int) = i) : updI f i v k = f k := by unfold updI; rw [if_neg h]
theorem updI_u (f : Nat → Int) (i v w : Int) : updI (updI f i v) i w = updI f i w := by
  funext k
  by_cases h : (k : Int) = i
  · rw [updI_s h, updI_s h]
  · rw [updI_o h, updI_o h, updI_o h]
def PO (dr : Nat) (o k : Nat) : Prop := (o = 4 ∧ k = 2) ∨ o = dr ∨ o = dr + 1 ∨ o = dr + 2
def Gd (np : Nat) (R : Nat × Mst) : Prop := R.1 = np ∧ R.2.1 = 5 ∧ ¬ R.2.2.1 = 0
def OKm (np : Nat) (R : Nat × Mst) (d' : Dd) (dr : Nat) : Prop := ∃ (dg nm : Int) (μ : Mk) (W V : Nat → Int), R = (np, (5, dg, nm, kB μ, kS μ, (kN μ : Int), W, V)) ∧ 0 < dg ∧ mkOK μ ∧ 0 < kN μ ∧ MktAt d' dr μ ∧ ∀ c, c < kN μ → W c = kW μ c ∧ V c = kV μ c
def Rz (np : Nat) (R : Nat × Mst) (d : Dd) (dr : Nat) (o : Option (Bool × Dd)) : Prop := ∃ ok d', o = some (ok, d') ∧ Fr (PO dr) d d' ∧ d_i d' 4 2 = J (R.1 : Int) ∧ ((ok = false ∧ ¬ Gd np R) ∨ (ok = true ∧ OKm np R d' dr))
theorem Rz_bad {np : Nat} {R : Nat × Mst} {d d' : Dd} {dr k : Nat} (f : Fr (PO dr) d d') (h42 : d_i d' 4 2 = J (k : Int)) (h : R.1 = k ∧ ¬ Gd np R) : Rz np R d dr (some (false, d')) :=
  ⟨false, d', rfl, f, by rw [h.1]; exact h42, Or.inl ⟨rfl, h.2⟩⟩
theorem stopR {pg : Nat → Int} {np k : Nat} {τ : Mst} {R : Nat × Mst} (hk : k < np) (hR : mgo pg (np - k) k τ = R) (hs : ¬ (gs τ (pg k)).1 = true) : R.1 = k ∧ ¬ Gd np R := by
  rw [show np - k = (np - (k + 1)) + 1 by omega, mgo_f hs] at hR
  rw [← hR]
  refine ⟨rfl, fun z => ?_⟩
  have : k = np := z.1
  omega
theorem stuckR {pg : Nat → Int} {np k : Nat} {τ : Mst} {R : Nat × Mst} (hk : k ≤ np) (hR : mgo pg (np - k) k τ = R) (hs : k < np → ¬ (gs τ (pg k)).1 = true) (he : ¬ (τ.1 = 5 ∧ ¬ τ.2.1 = 0)) : R.1 = k ∧ ¬ Gd np R := by
  by_cases q : k < np
  · exact stopR q hR (hs q)
  · rw [show np - k = 0 by omega] at hR
    have hR' : (k, τ) = R := hR
    rw [← hR']
    exact ⟨rfl, fun z => he z.2⟩
theorem stepR {pg : Nat → Int} {np k : Nat} {τ τ' : Mst} {R : Nat × Mst} (hk : k < np) (hR : mgo pg (np - k) k τ = R) (hg : gs τ (pg k) = (true, τ')) : mgo pg (np - (k + 1)) (k + 1) τ' = R := by
  rw [show np - k = (np - (k + 1)) + 1 by omega, mgo_t (by rw [hg]), hg] at hR
  exact hR
theorem Lt_in {pg : Nat → Int} {np k : Nat} (h : k < np) : Lt pg np k = pg k := by unfold Lt; rw [if_pos h]
theorem append5 {ρ : Rh} {d : Dd} {o c : Nat} (h2 : d_i d o 2 = J (c : Int)) (hc : c < 4) {s : Int} (h3 : d_i d o 3 = J s) (w v : Int) : fX5_append ρ d o (J w) (J v) = some (true, dI (dI (dI (dI d (o + 1) c (J w)) (o + 2) c (J v)) o 3 (J (s + w))) o 2 (J ((c + 1 : Nat) : Int))) := by
  have c1 : ¬ J (c : Int) < 0 := by rw [j0, J_lt (by omega) (by omega)]; omega
  have c2 : ¬ (4 : Int32) ≤ J (c : Int) := by rw [j4, J_le (by omega) (by omega)]; omega
  have c3 : J (c : Int) < 4 := by rw [j4, J_lt (by omega) (by omega)]; omega
  have hin : inB (J (c : Int)) 4 = true := by rw [inB_J (by omega)]; omega
  have hix : ix (J (c : Int)) = c := by rw [ix_J (by omega), Int.toNat_natCast]
  have g1 : d_i (dI d (o + 1) c (J w)) o 2 = J (c : Int) := by rw [dI_o (by omega)]; exact h2
  have g2 : d_i (dI (dI d (o + 1) c (J w)) (o + 2) c (J v)) o 3 = J s := by rw [dI_o (by omega), dI_o (by omega)]; exact h3
  have g3 : d_i (dI (dI (dI d (o + 1) c (J w)) (o + 2) c (J v)) o 3 (J (s + w))) o 2 = J (c : Int) := by rw [dI_o (by omega), dI_o (by omega), dI_o (by omega)]; exact h2
  unfold fX5_append
  rw [h2, if_neg c1, if_neg c2, if_pos c3, if_pos hin, hix, bnd_eq, g1, if_pos hin, hix, bnd_eq, g2, J_add, bnd_eq, g3, j1, J_add, bnd_eq]; rfl
theorem readInto_val {ρ : Rh} {d : Dd} {dr np : Nat} {pg : Nat → Int} (hdr : dr = 6 ∨ dr = 9) (hp : PgAt d pg np) (hnp : np ≤ 60) (hpg : ∀ k, k < np → 1 ≤ pg k ∧ pg k ≤ 126) {rb rs : Int} {rw' rv : Nat → Int} {R : Nat × Mst} (hR : mgo pg np 0 (0, 0, 0, rb, rs, 0, rw', rv) = R) : Rz np R d dr (fX7_readInto ρ d dr) := by
  unfold fX7_readInto
  rw [bnd_eq, bnd_eq, bnd_eq]
  obtain ⟨d3, hd3⟩ : ∃ d3, d3 = dI (dI (dI d 4 2 0) dr 2 0) dr 3 0 := ⟨_, rfl⟩
  rw [← hd3]
  have f3 : Fr (PO dr) d d3 := by
    rw [hd3]; exact ((Fr.rf.i (Or.inl ⟨rfl, rfl⟩)).i (Or.inr (Or.inl rfl))).i (Or.inr (Or.inl rfl))
  have e3_42 : d_i d3 4 2 = J ((0 : Nat) : Int) := by rw [hd3, dI_o (by omega), dI_o (by omega), dI_s]; rfl
  have e3_2 : d_i d3 dr 2 = J ((0 : Nat) : Int) := by rw [hd3, dI_o (by omega), dI_s]; rfl
  have e3_3 : d_i d3 dr 3 = J 0 := by rw [hd3, dI_s]; rfl
  have pof : ∀ {d1 d2 : Dd}, Fr P42 d1 d2 → Fr (PO dr) d1 d2 := fun f => f.mono (fun o k h => Or.inl h)
  have pgf : ∀ {d2 : Dd}, Fr (PO dr) d d2 → PgAt d2 pg np := fun f => hp.fr f ⟨by unfold PO; omega, fun k => by unfold PO; omega⟩
  have nf : ∀ {d1 d2 : Dd} {o k : Nat}, Fr P42 d1 d2 → ¬ o = 4 → d_i d2 o k = d_i d1 o k := fun f h => f.gi (by unfold P42; omega)
  have hR0 : mgo pg (np - 0) 0 (0, 0, 0, rb, rs, 0, rw', rv) = R := hR
  rcases reads_val (ρ := ρ) (pgf f3) hnp hpg (Nat.zero_le np) e3_42 (x := 112) (by omega) with ⟨q, hlt, ep, d4, r4, f4, e4⟩ | ⟨q, qn, d4, r4, f4, e4⟩
  rotate_left
  · have r4' : fX7_reads ρ d3 112 = some (false, d4) := r4
    rw [r4', Option.bind_some, if_neg Bool.false_ne_true]
    exact Rz_bad (f3.tr (pof f4)) e4 (stuckR (Nat.zero_le np) hR0 (fun h z => qn h (of_decide_eq_true z)) (fun z => by have := z.1; omega))
  have r4' : fX7_reads ρ d3 112 = some (true, d4) := r4
  have R1 := stepR hlt hR0 (τ' := (1, 0, 0, rb, rs, 0, rw', rv)) (by
    show (decide (pg 0 = 112), _) = _
    rw [decide_eq_true ep])
  have F4 := f3.tr (pof f4)
  obtain ⟨d5, r5, f5, e5⟩ := readN_val (ρ := ρ) (pgf F4) hnp hpg (show 0 + 1 ≤ np by omega) e4 (m := 3) (by omega) (lo := 48) (by omega)
  have r5' : fX7_readNumber ρ d4 3 48 = some (J (rdN (Lt pg np) 3 48 (0 + 1)).1, d5) := r5
  have F5 := F4.tr (pof f5)
  rw [r4', Option.bind_some, if_pos rfl, r5', Option.bind_some, bnd_eq, dI_s]
  rcases num_run (pg := pg) (np := np) (m := 3) (T := fun dg nm => (1, dg, nm, rb, rs, 0, rw', rv)) (S := (1, 0, 0, rb, rs, 0, rw', rv)) (lo := 48) (by omega) (by omega) (fun c hc => by
      rw [g1d hc]
      show (true, ((1 : Int), (0 : Int) + 1, 10 * 0 + c - 48, rb, rs, (0 : Int), rw', rv)) = (true, ((1 : Int), (1 : Int), c - 48, rb, rs, (0 : Int), rw', rv))
      rw [show (10 * 0 + c - 48 : Int) = c - 48 by omega]; rfl) (fun dg nm c h1 h2 h3 => by
      show gs (1, dg, nm, rb, rs, 0, rw', rv) c = _
      rw [g1d h3, decide_eq_true (by omega)]) (show 0 + 1 ≤ np by omega) with ⟨er, q1⟩ | ⟨B, k1, er, hk1, hk1n, hk1m, hB0, hB1, R2, hst⟩
  · rw [er] at e5
    rw [er, if_pos jm1.symm]
    refine Rz_bad (F5.i (Or.inr (Or.inl rfl))) (k := 0 + 1) (by rw [dI_o (by omega)]; exact e5) (stuckR (show 0 + 1 ≤ np by omega) R1 (fun h z => ?_) (fun z => by have := z.1; omega))
    rw [Lt_in h] at q1
    rw [g1n q1] at z
    have z' : (0 : Int) < 0 ∧ pg (0 + 1) = 115 := of_decide_eq_true z
    omega
  rw [er] at e5
  have R2' := R2.symm.trans R1
  have nB : ¬ J B = -1 := by rw [jm1, J_eq (by omega) (by omega)]; omega
  obtain ⟨d6, hd6⟩ : ∃ d6, d6 = dI d5 dr 0 (J B) := ⟨_, rfl⟩
  have F6 : Fr (PO dr) d d6 := by rw [hd6]; exact F5.i (Or.inr (Or.inl rfl))
  have e6 : d_i d6 4 2 = J (k1 : Int) := by rw [hd6, dI_o (by omega)]; exact e5
  have e6_0 : d_i d6 dr 0 = J B := by rw [hd6, dI_s]
  have e6_2 : d_i d6 dr 2 = J ((0 : Nat) : Int) := by rw [hd6, dI_o (by omega), nf f5 (by omega), nf f4 (by omega)]; exact e3_2
  have e6_3 : d_i d6 dr 3 = J 0 := by rw [hd6, dI_o (by omega), nf f5 (by omega), nf f4 (by omega)]; exact e3_3
  rw [er, if_neg nB, ← hd6]
  rcases reads_val (ρ := ρ) (pgf F6) hnp hpg hk1n e6 (x := 115) (by omega) with ⟨q, hlt1, ep1, d7, r7, f7, e7⟩ | ⟨q, qn, d7, r7, f7, e7⟩
  rotate_left
  · have r7' : fX7_reads ρ d6 115 = some (false, d7) := r7
    rw [r7', Option.bind_some, if_neg Bool.false_ne_true]
    refine Rz_bad (F6.tr (pof f7)) e7 (stuckR hk1n R2' (fun h z => ?_) (fun z => by have := z.1; omega))
    by_cases w : 48 ≤ pg k1 ∧ pg k1 ≤ 57
    · rw [g1d w] at z
      have z' := of_decide_eq_true z
      rcases hst with y | y
      · omega
      · rw [Lt_in h] at y; exact y w
    · rw [g1n w] at z
      exact qn h (of_decide_eq_true z).2
  have r7' : fX7_reads ρ d6 115 = some (true, d7) := r7
  have R3 := stepR hlt1 R2' (τ' := (2, 0, 0, B, rs, 0, rw', rv)) (by
    rw [g1n (by omega), decide_eq_true ⟨by omega, ep1⟩])
  have F7 := F6.tr (pof f7)
  obtain ⟨d8, r8, f8, e8⟩ := readN_val (ρ := ρ) (pgf F7) hnp hpg (show k1 + 1 ≤ np by omega) e7 (m := 1) (by omega) (lo := 49) (by omega)
  have r8' : fX7_readNumber ρ d7 1 49 = some (J (rdN (Lt pg np) 1 49 (k1 + 1)).1, d8) := r8
  have F8 := F7.tr (pof f8)
  rw [r7', Option.bind_some, if_pos rfl, r8', Option.bind_some, bnd_eq, dI_s]
  by_cases q2 : 49 ≤ Lt pg np (k1 + 1) ∧ Lt pg np (k1 + 1) ≤ 57
  rotate_left
  · have er2 : rdN (Lt pg np) 1 49 (k1 + 1) = (-1, k1 + 1) := by unfold rdN; rw [if_neg q2]
    rw [er2] at e8
    rw [er2, if_pos jm1.symm]
    refine Rz_bad (F8.i (Or.inr (Or.inl rfl))) (k := k1 + 1) (by rw [dI_o (by omega)]; exact e8) (stuckR (show k1 + 1 ≤ np by omega) R3 (fun h z => ?_) (fun z => by have := z.1; omega))
    rw [Lt_in h] at q2
    exact q2 (of_decide_eq_true z)
  have hlt2 : k1 + 1 < np := by
    by_cases w : k1 + 1 < np
    · exact w
    · have : Lt pg np (k1 + 1) = 0 := by unfold Lt; rw [if_neg w]
      omega
  have eL2 : Lt pg np (k1 + 1) = pg (k1 + 1) := Lt_in hlt2
  have er2 : rdN (Lt pg np) 1 49 (k1 + 1) = (pg (k1 + 1) - 48, k1 + 1 + 1) := by unfold rdN; rw [if_pos q2, eL2]; rfl
  rw [er2] at e8
  obtain ⟨S, hS⟩ : ∃ S, S = pg (k1 + 1) - 48 := ⟨_, rfl⟩
  have hSb : 1 ≤ S ∧ S ≤ 9 := by omega
  have R4 := stepR hlt2 R3 (τ' := (3, 0, 0, B, S, 0, rw', rv)) (by
    show (decide (49 ≤ pg (k1 + 1) ∧ pg (k1 + 1) ≤ 57), _) = _
    rw [decide_eq_true (by rw [← eL2]; exact q2), hS])
  have nS : ¬ J S = -1 := by rw [jm1, J_eq (by omega) (by omega)]; omega
  obtain ⟨d9, hd9⟩ : ∃ d9, d9 = dI d8 dr 1 (J S) := ⟨_, rfl⟩
  have F9 : Fr (PO dr) d d9 := by rw [hd9]; exact F8.i (Or.inr (Or.inl rfl))
  have e9 : d_i d9 4 2 = J ((k1 + 1 + 1 : Nat) : Int) := by rw [hd9, dI_o (by omega)]; exact e8
  have e9_0 : d_i d9 dr 0 = J B := by rw [hd9, dI_o (by omega), nf f8 (by omega), nf f7 (by omega)]; exact e6_0
  have e9_1 : d_i d9 dr 1 = J S := by rw [hd9, dI_s]
  have e9_2 : d_i d9 dr 2 = J ((0 : Nat) : Int) := by rw [hd9, dI_o (by omega), nf f8 (by omega), nf f7 (by omega)]; exact e6_2
  have e9_3 : d_i d9 dr 3 = J 0 := by rw [hd9, dI_o (by omega), nf f8 (by omega), nf f7 (by omega)]; exact e6_3
  have er2' : (rdN (Lt pg np) 1 49 (k1 + 1)).1 = S := by rw [er2, hS]
  rw [er2', if_neg nS, ← hd9, jn_eq]
  clear r4 r5 r7 r8 r4' r5' r7' r8' er er2 er2' R1 R2 R2' R3 hR hR0
  have fin : ∀ (c : Nat) (d' : Dd) (k : Nat) (st dg nm : Int) (W V : Nat → Int), c ≤ 4 → Fr (PO dr) d d' → k ≤ np → d_i d' 4 2 = J (k : Int) → mgo pg (np - k) k (st, dg, nm, B, S, (c : Int), W, V) = R → d_i d' dr 0 = J B → d_i d' dr 1 = J S → d_i d' dr 2 = J (c : Int) → d_i d' dr 3 = J (sm c W) → (∀ c', c' < c → d_i d' (dr + 1) c' = J (W c') ∧ d_i d' (dr + 2) c' = J (V c') ∧ (1 ≤ W c' ∧ W c' ≤ 99) ∧ (0 ≤ V c' ∧ V c' ≤ 999)) → ((c = 0 ∧ st = 3) ∨ (0 < c ∧ st = 5 ∧ 1 ≤ dg ∧ dg ≤ 3 ∧ (dg = 3 ∨ ¬ (48 ≤ Lt pg np k ∧ Lt pg np k ≤ 57)))) → (c = 4 ∨ ¬ Lt pg np k = 59) → Rz np R d dr (if d_i d' dr 2 ≤ 0 then some (false, d') else (if d_i d' 4 2 = d_i d' 4 1 then some (true, d') else some (false, d'))) := by
    intro c d' k st dg nm W V hc F hk e42 hRk g0 g1 g2 g3 gc hst hex
    have e41 := (pgf F).1
    rw [g2, e42, e41]
    rcases hst with ⟨hc0, hst3⟩ | ⟨hc0, hst5, hd1, hd3, hdd⟩
    · have n0 : J (c : Int) ≤ 0 := by rw [hc0]; decide
      rw [if_pos n0]
      subst hst3
      refine Rz_bad F e42 (stuckR hk hRk (fun h z => ?_) (fun z => by have := z.1; omega))
      have q59 : ¬ pg k = 59 := by
        rcases hex with y | y
        · omega
        · rw [Lt_in h] at y; exact y
      rw [g3f q59] at z
      exact Bool.false_ne_true z
    · have n0 : ¬ J (c : Int) ≤ 0 := by rw [j0, J_le (by omega) (by omega)]; omega
      subst hst5
      rw [if_neg n0]
      by_cases hkn : k = np
      · have hR' := hRk
        rw [hkn, Nat.sub_self] at hR'
        have hR'' : (np, ((5 : Int), dg, nm, B, S, (c : Int), W, V)) = R := hR'
        have ck : J (k : Int) = J (np : Int) := by rw [hkn]
        rw [if_pos ck]
        refine ⟨true, d', rfl, F, ?_, Or.inr ⟨rfl, dg, nm, (B, S, c, W, V), W, V, hR''.symm, by omega, ⟨⟨by show 0 ≤ B; omega, by show B ≤ 999; omega⟩, ⟨by show 0 ≤ S; omega, by show S ≤ 9; omega⟩, hc, fun c' hc' => (gc c' hc').2.2⟩, hc0, ⟨g0, g1, g2, g3, fun c' hc' => ⟨(gc c' hc').1, (gc c' hc').2.1⟩⟩, fun c' hc' => ⟨rfl, rfl⟩⟩⟩
        rw [← hR'', e42, hkn]
      · have ck : ¬ J (k : Int) = J (np : Int) := by rw [J_eq (by omega) (by omega)]; omega
        rw [if_neg ck]
        have h : k < np := by omega
        refine Rz_bad F e42 (stopR h hRk (fun z => ?_))
        by_cases w : 48 ≤ pg k ∧ pg k ≤ 57
        · rw [g5d w] at z
          have z' := of_decide_eq_true z
          rcases hdd with y | y
          · omega
          · rw [Lt_in h] at y; exact y w
        · by_cases q59 : pg k = 59
          · rw [g5s w (by omega) q59] at z
            have z' := of_decide_eq_true z
            rcases hex with y | y
            · omega
            · rw [Lt_in h] at y; exact y q59
          · rw [g5f w (by omega) q59] at z
            exact Bool.false_ne_true z
  refine lp_e 4 (fun c x => ∃ (d' : Dd) (k : Nat) (st dg nm : Int) (W V : Nat → Int), x = (J (c : Int), d') ∧ Fr (PO dr) d d' ∧ k ≤ np ∧ d_i d' 4 2 = J (k : Int) ∧ mgo pg (np - k) k (st, dg, nm, B, S, (c : Int), W, V) = R ∧ d_i d' dr 0 = J B ∧ d_i d' dr 1 = J S ∧ d_i d' dr 2 = J (c : Int) ∧ d_i d' dr 3 = J (sm c W) ∧ (∀ c', c' < c → d_i d' (dr + 1) c' = J (W c') ∧ d_i d' (dr + 2) c' = J (V c') ∧ (1 ≤ W c' ∧ W c' ≤ 99) ∧ (0 ≤ V c' ∧ V c' ≤ 999)) ∧ ((c = 0 ∧ st = 3) ∨ (0 < c ∧ st = 5 ∧ 1 ≤ dg ∧ dg ≤ 3 ∧ (dg = 3 ∨ ¬ (48 ≤ Lt pg np k ∧ Lt pg np k ≤ 57))))) (fun o => Rz np R d dr o) ?_ ?_ 6000 (by omega) _ ⟨d9, k1 + 1 + 1, 3, 0, 0, rw', rv, rfl, F9, hlt2, e9, R4, e9_0, e9_1, e9_2, e9_3, fun c' hc' => absurd hc' (Nat.not_lt_zero c'), Or.inl ⟨rfl, rfl⟩⟩
  · rintro c hc x ⟨d', k, st, dg, nm, W, V, rfl, F, hk, e42, hRk, g0, g1, g2, g3, gc, hst⟩ self
    have n4 : ¬ (4 : Int32) ≤ J (c : Int) := by rw [j4, J_le (by omega) (by omega)]; omega
    simp only [n4, if_false]
    rcases reads_val (ρ := ρ) (pgf F) hnp hpg hk e42 (x := 59) (by omega) with ⟨q, hltk, epk, da, ra, fa, ea⟩ | ⟨q, qn, da, ra, fa, ea⟩
    rotate_left
    · have ra' : fX7_reads ρ d' 59 = some (false, da) := ra
      rw [ra', Option.bind_some, if_neg Bool.false_ne_true]
      right
      exact fin c da k st dg nm W V (by omega) (F.tr (pof fa)) hk ea hRk (by rw [nf fa (by omega)]; exact g0) (by rw [nf fa (by omega)]; exact g1) (by rw [nf fa (by omega)]; exact g2) (by rw [nf fa (by omega)]; exact g3) (fun c' hc' => ⟨by rw [nf fa (by omega)]; exact (gc c' hc').1, by rw [nf fa (by omega)]; exact (gc c' hc').2.1, (gc c' hc').2.2⟩) hst (Or.inr q)
    have ra' : fX7_reads ρ d' 59 = some (true, da) := ra
    have Fa := F.tr (pof fa)
    have Ra : mgo pg (np - (k + 1)) (k + 1) (4, 0, 0, B, S, (c : Int) + 1, W, V) = R := by
      refine stepR hltk hRk ?_
      rcases hst with ⟨-, y⟩ | ⟨-, y, y1, -, -⟩
      · subst y
        rw [g3t epk, decide_eq_true (by omega)]
      · subst y
        rw [g5s (by omega) (by omega) epk, decide_eq_true (by omega)]
    obtain ⟨db, rb', fb, eb⟩ := readN_val (ρ := ρ) (pgf Fa) hnp hpg (show k + 1 ≤ np by omega) ea (m := 2) (by omega) (lo := 49) (by omega)
    have rb'' : fX7_readNumber ρ da 2 49 = some (J (rdN (Lt pg np) 2 49 (k + 1)).1, db) := rb'
    have Fb := Fa.tr (pof fb)
    simp only [ra', Option.bind_some, if_true, rb'']
    rcases num_run (pg := pg) (np := np) (m := 2) (T := fun dg nm => (4, dg, nm, B, S, (c : Int) + 1, W, V)) (S := (4, 0, 0, B, S, (c : Int) + 1, W, V)) (lo := 49) (by omega) (by omega) (fun x hx => by
        rw [g4d (by omega) (Or.inr (by omega))]
        show (true, ((4 : Int), (0 : Int) + 1, 10 * 0 + x - 48, B, S, (c : Int) + 1, W, V)) = (true, ((4 : Int), (1 : Int), x - 48, B, S, (c : Int) + 1, W, V))
        rw [show (10 * 0 + x - 48 : Int) = x - 48 by omega]; rfl) (fun dg nm x h1 h2 h3 => by
        show gs (4, dg, nm, B, S, (c : Int) + 1, W, V) x = _
        rw [g4d h3 (Or.inl (by omega)), decide_eq_true (by omega)]) (show k + 1 ≤ np by omega) with ⟨er, q1⟩ | ⟨w, k2, er, hk2, hk2n, hk2m, hw0, hw1, Rb, hstb⟩
    · rw [er] at eb
      rw [er, if_pos jm1.symm]
      right
      refine Rz_bad Fb (k := k + 1) eb (stuckR (show k + 1 ≤ np by omega) Ra (fun h z => ?_) (fun z => by have := z.1; omega))
      rw [Lt_in h] at q1
      by_cases w : 48 ≤ pg (k + 1) ∧ pg (k + 1) ≤ 57
      · rw [g4z w (by omega)] at z
        exact Bool.false_ne_true z
      · rw [g4n w] at z
        have z' : (0 : Int) < 0 ∧ pg (k + 1) = 58 := of_decide_eq_true z
        omega
    rw [er] at eb
    have Rb' := Rb.symm.trans Ra
    have nw : ¬ J w = -1 := by rw [jm1, J_eq (by omega) (by omega)]; omega
    rw [er, if_neg nw]
    rcases reads_val (ρ := ρ) (pgf Fb) hnp hpg hk2n eb (x := 58) (by omega) with ⟨q2', hlt2', ep2, dc, rc, fc, ec⟩ | ⟨q2', qn2, dc, rc, fc, ec⟩
    rotate_left
    · have rc' : fX7_reads ρ db 58 = some (false, dc) := rc
      rw [rc', Option.bind_some, if_neg Bool.false_ne_true]
      right
      refine Rz_bad (Fb.tr (pof fc)) ec (stuckR hk2n Rb' (fun h z => ?_) (fun z => by have := z.1; omega))
      by_cases y : 48 ≤ pg k2 ∧ pg k2 ≤ 57
      · rw [g4d y (Or.inl (by omega))] at z
        have z' := of_decide_eq_true z
        rcases hstb with y1 | y1
        · omega
        · rw [Lt_in h] at y1; exact y1 y
      · rw [g4n y] at z
        exact qn2 h (of_decide_eq_true z).2
    have rc' : fX7_reads ρ db 58 = some (true, dc) := rc
    have Fc := Fb.tr (pof fc)
    have Rc := stepR hlt2' Rb' (τ' := (5, 0, 0, B, S, (c : Int) + 1, updI W ((c : Int) + 1 - 1) w, V)) (by
      rw [g4n (by omega), decide_eq_true ⟨by omega, ep2⟩])
    obtain ⟨de, re, fe, ee⟩ := readN_val (ρ := ρ) (pgf Fc) hnp hpg (show k2 + 1 ≤ np by omega) ec (m := 3) (by omega) (lo := 48) (by omega)
    have re' : fX7_readNumber ρ dc 3 48 = some (J (rdN (Lt pg np) 3 48 (k2 + 1)).1, de) := re
    have Fe := Fc.tr (pof fe)
    simp only [rc', Option.bind_some, if_true, re']
    rcases num_run (pg := pg) (np := np) (m := 3) (T := fun dg nm => (5, dg, nm, B, S, (c : Int) + 1, updI W ((c : Int) + 1 - 1) w, updI V ((c : Int) + 1 - 1) nm)) (S := (5, 0, 0, B, S, (c : Int) + 1, updI W ((c : Int) + 1 - 1) w, V)) (lo := 48) (by omega) (by omega) (fun x hx => by
        rw [g5d hx]
        show (true, ((5 : Int), (0 : Int) + 1, 10 * 0 + x - 48, B, S, (c : Int) + 1, updI W ((c : Int) + 1 - 1) w, updI V ((c : Int) + 1 - 1) (10 * 0 + x - 48))) = (true, ((5 : Int), (1 : Int), x - 48, B, S, (c : Int) + 1, updI W ((c : Int) + 1 - 1) w, updI V ((c : Int) + 1 - 1) (x - 48)))
        rw [show (10 * 0 + x - 48 : Int) = x - 48 by omega]; rfl) (fun dg nm x h1 h2 h3 => by
        show gs (5, dg, nm, B, S, (c : Int) + 1, updI W ((c : Int) + 1 - 1) w, updI V ((c : Int) + 1 - 1) nm) x = _
        rw [g5d h3, decide_eq_true (by omega), updI_u]) (show k2 + 1 ≤ np by omega) with ⟨er3, q3⟩ | ⟨u, k3, er3, hk3, hk3n, hk3m, hu0, hu1, Re, hste⟩
    · rw [er3] at ee
      rw [er3, if_pos jm1.symm]
      right
      refine Rz_bad Fe (k := k2 + 1) ee (stuckR (show k2 + 1 ≤ np by omega) Rc (fun h z => ?_) (fun z => z.2 rfl))
      rw [Lt_in h] at q3
      rw [g5z q3 (by omega)] at z
      exact Bool.false_ne_true z
    rw [er3] at ee
    have Re' := Re.symm.trans Rc
    have nu : ¬ J u = -1 := by rw [jm1, J_eq (by omega) (by omega)]; omega
    have k2e : d_i de dr 2 = J (c : Int) := by rw [nf fe (by omega), nf fc (by omega), nf fb (by omega), nf fa (by omega)]; exact g2
    have k3e : d_i de dr 3 = J (sm c W) := by rw [nf fe (by omega), nf fc (by omega), nf fb (by omega), nf fa (by omega)]; exact g3
    have k0e : d_i de dr 0 = J B := by rw [nf fe (by omega), nf fc (by omega), nf fb (by omega), nf fa (by omega)]; exact g0
    have k1e : d_i de dr 1 = J S := by rw [nf fe (by omega), nf fc (by omega), nf fb (by omega), nf fa (by omega)]; exact g1
    have kce : ∀ c', c' < c → d_i de (dr + 1) c' = J (W c') ∧ d_i de (dr + 2) c' = J (V c') := fun c' hc' => ⟨by rw [nf fe (by omega), nf fc (by omega), nf fb (by omega), nf fa (by omega)]; exact (gc c' hc').1, by rw [nf fe (by omega), nf fc (by omega), nf fb (by omega), nf fa (by omega)]; exact (gc c' hc').2.1⟩
    have happ := append5 (ρ := ρ) k2e hc k3e w u
    obtain ⟨dz, hdz⟩ : ∃ dz, dz = dI (dI (dI (dI de (dr + 1) c (J w)) (dr + 2) c (J u)) dr 3 (J (sm c W + w))) dr 2 (J ((c + 1 : Nat) : Int)) := ⟨_, rfl⟩
    rw [← hdz] at happ
    have Fz : Fr (PO dr) d dz := by
      rw [hdz]
      exact (((Fe.i (Or.inr (Or.inr (Or.inl rfl)))).i (Or.inr (Or.inr (Or.inr rfl)))).i (Or.inr (Or.inl rfl))).i (Or.inr (Or.inl rfl))
    have ez : d_i dz 4 2 = J (k3 : Int) := by rw [hdz, dI_o (by omega), dI_o (by omega), dI_o (by omega), dI_o (by omega)]; exact ee
    rw [er3, if_neg nu, happ, Option.bind_some, if_pos rfl]
    left
    refine ⟨(J ((c + 1 : Nat) : Int), dz), ⟨dz, k3, 5, (k3 : Int) - ((k2 + 1 : Nat) : Int), u, updI W ((c : Int) + 1 - 1) w, updI V ((c : Int) + 1 - 1) u, rfl, Fz, hk3n, ez, Re', ?_, ?_, ?_, ?_, fun c' hc' => ?_, Or.inr ⟨by omega, rfl, by omega, by omega, ?_⟩⟩, ?_⟩
    · rw [hdz, dI_o (by omega), dI_o (by omega), dI_o (by omega), dI_o (by omega)]; exact k0e
    · rw [hdz, dI_o (by omega), dI_o (by omega), dI_o (by omega), dI_o (by omega)]; exact k1e
    · rw [hdz, dI_s]
    · rw [hdz, dI_o (by omega), dI_s, sm_succ]
      have ew : updI W ((c : Int) + 1 - 1) w c = w := updI_s (by omega)
      have es : sm c (updI W ((c : Int) + 1 - 1) w) = sm c W := sm_cong (fun c' hc' => updI_o (by omega))
      rw [ew, es]
    · by_cases e : c' = c
      · subst e
        have ew : updI W ((c' : Int) + 1 - 1) w c' = w := updI_s (by omega)
        have ev : updI V ((c' : Int) + 1 - 1) u c' = u := updI_s (by omega)
        rw [ew, ev]
        refine ⟨?_, ?_, by omega, by omega⟩
        · rw [hdz, dI_o (by omega), dI_o (by omega), dI_o (by omega), dI_s]
        · rw [hdz, dI_o (by omega), dI_o (by omega), dI_s]
      · have ew : updI W ((c : Int) + 1 - 1) w c' = W c' := updI_o (by omega)
        have ev : updI V ((c : Int) + 1 - 1) u c' = V c' := updI_o (by omega)
        have h' := gc c' (by omega)
        have hk' := kce c' (by omega)
        rw [ew, ev]
        refine ⟨?_, ?_, h'.2.2⟩
        · rw [hdz, dI_o (by omega), dI_o (by omega), dI_o (by omega), dI_o (by omega)]; exact hk'.1
        · rw [hdz, dI_o (by omega), dI_o (by omega), dI_o (by omega), dI_o (by omega)]; exact hk'.2
    · rcases hste with y | y
      · left; omega
      · exact Or.inr y
    · rw [j1, J_add]; rfl
  · rintro x ⟨d', k, st, dg, nm, W, V, rfl, F, hk, e42, hRk, g0, g1, g2, g3, gc, hst⟩ self
    have n4 : (4 : Int32) ≤ J ((4 : Nat) : Int) := by decide
    simp only [n4, if_true]
    exact fin 4 d' k st dg nm W V (by omega) F hk e42 hRk g0 g1 g2 g3 gc hst (Or.inl rfl)
