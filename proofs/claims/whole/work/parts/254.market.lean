/-! fault; market -/
theorem mgo_vl (pg : Nat → Int) : ∀ n k τ, Vl τ → (mgo pg n k τ).1 = k + n → Vl (mgo pg n k τ).2 := by
  intro n
  induction n with
  | zero => intro k τ h _; exact h
  | succ n ih =>
    intro k τ h he
    by_cases q : (gs τ (pg k)).1 = true
    · rw [mgo_t q] at he ⊢
      exact ih (k + 1) _ (gs_vl h q) (by omega)
    · rw [mgo_f q] at he
      have he' : k = k + (n + 1) := he
      omega
theorem RC.po {d d1 : Dd} {ρ : Rh} {σ : Sg} (R : RC d ρ σ) (f : Fr (PO (15 - ρ.1)) d d1) : RC d1 ρ σ := by
  obtain ⟨⟨r1, r2⟩, ⟨r3, r4⟩, ⟨r5, r6⟩, r7, ⟨r8, r9, r10⟩, r11⟩ := R
  have hm := r2.1
  have hn : ∀ o k, ¬ ((o = 4 ∧ k = 2) ∨ o = 15 - ρ.1 ∨ o = 15 - ρ.1 + 1 ∨ o = 15 - ρ.1 + 2) → ¬ PO (15 - ρ.1) o k := fun o k h => h
  refine ⟨⟨r1.fr f (fun k => hn _ _ (by omega)), r2⟩, ⟨(f.gi (hn _ _ (by omega))).trans r3, fun k hk => (f.gi (hn _ _ (by omega))).trans (r4 k hk)⟩, ⟨fun h => (r5 h).fr f (fun k => ⟨hn _ _ (by omega), hn _ _ (by omega), hn _ _ (by omega)⟩), (f.gi (hn _ _ (by omega))).trans r6⟩, r7.fr f (fun k => ⟨hn _ _ (by omega), hn _ _ (by omega), hn _ _ (by omega)⟩), ⟨(f.gi (hn _ _ (by omega))).trans r8, r9, fun k hk => (r10 k hk).fr f (fun j => hn _ _ (by omega))⟩, (f.gi (hn _ _ (by omega))).trans r11⟩
theorem read_any {ρ : Rh} {d : Dd} {σ : Sg} (R : RC d ρ σ) (O : sgOK σ) : ∃ ok d1, fX7_readInto ρ d (15 - ρ.1) = some (ok, d1) ∧ Fr (PO (15 - ρ.1)) d d1 ∧ ∀ (rb rs : Int) (rw' rv : Nat → Int), d_i d1 4 2 = J ((mgo (gL σ) (gP σ) 0 (0, 0, 0, rb, rs, 0, rw', rv)).1 : Int) ∧ ((ok = false ∧ ¬ Gd (gP σ) (mgo (gL σ) (gP σ) 0 (0, 0, 0, rb, rs, 0, rw', rv))) ∨ (ok = true ∧ OKm (gP σ) (mgo (gL σ) (gP σ) 0 (0, 0, 0, rb, rs, 0, rw', rv)) d1 (15 - ρ.1))) := by
  have hm := R.1.2.1
  have hdr : 15 - ρ.1 = 6 ∨ 15 - ρ.1 = 9 := by omega
  obtain ⟨ok, d1, hr, f1, -, -⟩ := readInto_val (ρ := ρ) hdr R.2.1 O.1.1 O.1.2 (rb := 0) (rs := 0) (rw' := fun _ => 0) (rv := fun _ => 0) rfl
  refine ⟨ok, d1, hr, f1, fun rb rs rw' rv => ?_⟩
  obtain ⟨ok', d1', hr', f', e', h'⟩ := readInto_val (ρ := ρ) hdr R.2.1 O.1.1 O.1.2 (rb := rb) (rs := rs) (rw' := rw') (rv := rv) rfl
  rw [hr] at hr'
  have h1 := Option.some.inj hr'
  have h2 : ok = ok' := congrArg Prod.fst h1
  have h3 : d1 = d1' := congrArg Prod.snd h1
  rw [h2, h3]
  exact ⟨e', h'⟩
theorem Fr.pm {d d1 : Dd} (f : Fr PM d d1) : Fr MS d d1 := f.mono (fun o k h => by unfold PM at h; unfold MS; omega)
theorem op2 : Op2 Inv := by
  rintro d ρ ⟨σ, O, R, C, M⟩
  have hm := R.1.2.1
  obtain ⟨ok, d1, hr, f1, ha⟩ := read_any (ρ := ρ) R O
  have M1 : RM d1 σ := M.gfr f1 (fun o k h1 h2 h3 h4 => by unfold PO at h4; omega)
  have C1 : CacheOK d1 σ := C.gfr f1 (fun k => ⟨by unfold PO; omega, by unfold PO; omega, by unfold PO; omega⟩)
  have R1 := R.po f1
  obtain ⟨d2, rb, rs, rw', rv, hf, hMR, f2⟩ := faultOf_val (ρ := ρ) M1.1.1 M1.1.2 O.1.1 O.1.2
  have h := (ha rb rs rw' rv).1
  refine ⟨J ((mgo (gL σ) (gP σ) 0 (0, 0, 0, rb, rs, 0, rw', rv)).1 : Int), d1, d2, ?_, ?_, ⟨σ, O, R1.frM f2.pm, C1.frM f2.pm, M1.frM f2.pm⟩, f1.c2 (fun k => by unfold PO; omega)⟩
  · unfold fX11_fault
    rw [hr, Option.bind_some, h]
  · unfold fX12_fault
    rw [hf, Option.bind_some]
def sgM (σ : Sg) (μ : Mk) : Sg := ((0, gL σ), μ, σ.2.2)
def PX (dr : Nat) (o k : Nat) : Prop := (o = 4 ∧ (k = 1 ∨ k = 2)) ∨ o = dr ∨ o = dr + 1 ∨ o = dr + 2 ∨ (o = 3 ∧ k = 3) ∨ o = 20
def PY (o k : Nat) : Prop := (o = 23 ∧ ((1 ≤ k ∧ k ≤ 4) ∨ (7 ≤ k ∧ k ≤ 12))) ∨ o = 25 ∨ o = 26 ∨ o = 27 ∨ o = 28
theorem op3 : Op3 Inv := by
  rintro d ρ ⟨σ, O, R, C, M⟩
  have hρ := R.1.2
  have hm := hρ.1
  have hP := O.1.1
  obtain ⟨ok, d1, hr, f1, ha⟩ := read_any (ρ := ρ) R O
  cases ok
  · have M1 : RM d1 σ := M.gfr f1 (fun o k h1 h2 h3 h4 => by unfold PO at h4; omega)
    have C1 : CacheOK d1 σ := C.gfr f1 (fun k => ⟨by unfold PO; omega, by unfold PO; omega, by unfold PO; omega⟩)
    have R1 := R.po f1
    obtain ⟨d2, rb, rs, rw', rv, hf, hMR, f2⟩ := faultOf_val (ρ := ρ) M1.1.1 M1.1.2 O.1.1 O.1.2
    have hb : ¬ Gd (gP σ) (mgo (gL σ) (gP σ) 0 (0, 0, 0, rb, rs, 0, rw', rv)) := by
      rcases (ha rb rs rw' rv).2 with ⟨-, h⟩ | ⟨h, -⟩
      · exact h
      · exact absurd h Bool.false_ne_true
    have hle := (mgo_le (gL σ) (gP σ) 0 (0, 0, 0, rb, rs, 0, rw', rv)).2
    have hvl := mgo_vl (gL σ) (gP σ) 0 (0, 0, 0, rb, rs, 0, rw', rv) ⟨by omega, by omega, by omega, fun z => by omega⟩
    refine ⟨-103, d1, d2, ρ, ?_, ?_, ⟨σ, O, R1.frM f2.pm, C1.frM f2.pm, M1.frM f2.pm⟩, f1.c2 (fun k => by unfold PO; omega), rfl, hρ⟩
    · unfold fX11_market
      rw [hr, Option.bind_some, if_neg Bool.false_ne_true]
    · have e1 : d_i d2 23 1 = J (gP σ : Int) := (f2.gi (by unfold PM; omega)).trans M1.1.1
      unfold fX12_market
      rw [hf, Option.bind_some, e1]
      generalize mgo (gL σ) (gP σ) 0 (0, 0, 0, rb, rs, 0, rw', rv) = Rm at hMR hb hle hvl
      obtain ⟨k, st, dg, nm, b, s, c, W, V⟩ := Rm
      have hle' : k ≤ 0 + gP σ := hle
      have hvl' : k = 0 + gP σ → Vl (st, dg, nm, b, s, c, W, V) := hvl
      have hb' : ¬ (k = gP σ ∧ st = 5 ∧ ¬ dg = 0) := hb
      obtain ⟨m1, m2, -⟩ := hMR
      have ck : J (k : Int) < J (gP σ : Int) ↔ k < gP σ := (J_lt (by omega) (by omega)).trans (by omega)
      show (if J (k : Int) < J (gP σ : Int) then _ else _) = _
      by_cases q : k < gP σ
      · rw [if_pos (ck.mpr q)]
      · obtain ⟨v1, v2, -⟩ := hvl' (by omega)
        have c5 : J st = 5 ↔ st = 5 := by rw [j5]; exact J_eq (by omega) (by omega)
        have c0 : J dg = 0 ↔ dg = 0 := by rw [j0]; exact J_eq (by omega) (by omega)
        rw [if_neg (fun z => q (ck.mp z)), m1, m2]
        by_cases q5 : st = 5
        · have q0 : dg = 0 := by
            by_cases w : dg = 0
            · exact w
            · exact absurd ⟨by omega, q5, w⟩ hb'
          rw [if_pos (c5.mpr q5), if_pos (c0.mpr q0)]
        · rw [if_neg (fun z => q5 (c5.mp z))]
  · obtain ⟨dr, hdr⟩ : ∃ dr, dr = 15 - ρ.1 := ⟨_, rfl⟩
    have hdr2 : dr = 6 ∨ dr = 9 := by omega
    rw [← hdr] at hr f1 ha
    obtain ⟨d3, hd3⟩ : ∃ d3, d3 = uz (dI (dI d1 3 3 1) 4 1 0) 128 := ⟨_, rfl⟩
    have f3 : Fr (PX dr) d d3 := by
      rw [hd3]
      exact uz_fr (fun k => by unfold PX; omega) (((f1.mono (fun o k h => by unfold PO at h; unfold PX; omega)).i (by unfold PX; omega)).i (by unfold PX; omega))
    have f13 : Fr (fun o k => (o = 4 ∧ k = 1) ∨ (o = 3 ∧ k = 3) ∨ o = 20) d1 d3 := by
      rw [hd3]
      exact uz_fr (fun k => Or.inr (Or.inr rfl)) ((Fr.rf.i (Or.inr (Or.inl ⟨rfl, rfl⟩))).i (Or.inl ⟨rfl, rfl⟩))
    have M3 : RM d3 σ := M.gfr f3 (fun o k h1 h2 h3 h4 => by unfold PX at h4; omega)
    obtain ⟨d2, rb, rs, rw', rv, hf, hMR, f2⟩ := faultOf_val (ρ := rhS ρ) M3.1.1 M3.1.2 O.1.1 O.1.2
    have hb : OKm (gP σ) (mgo (gL σ) (gP σ) 0 (0, 0, 0, rb, rs, 0, rw', rv)) d1 dr := by
      rcases (ha rb rs rw' rv).2 with ⟨h, -⟩ | ⟨-, h⟩
      · exact absurd h (by decide)
      · exact h
    have hvl := mgo_vl (gL σ) (gP σ) 0 (0, 0, 0, rb, rs, 0, rw', rv) ⟨by omega, by omega, by omega, fun z => by omega⟩
    obtain ⟨dg, nm, μ, W, V, hRm, hdg, hμ, hop, hMk, hWV⟩ := hb
    rw [hRm] at hMR hvl hf
    obtain ⟨-, v2, -⟩ := hvl (by show gP σ = 0 + gP σ; omega)
    obtain ⟨m1, m2, m3, m4, m5, m6, m7⟩ := hMR
    have hkN := hμ.2.2.1
    have e1 : d_i d2 23 1 = J (gP σ : Int) := (f2.gi (by unfold PM; omega)).trans M3.1.1
    obtain ⟨d4, hd4⟩ : ∃ d4, d4 = dI (dI (dI d2 23 2 (J (kB μ))) 23 3 (J (kS μ))) 23 4 (J (kN μ : Int)) := ⟨_, rfl⟩
    have f4 : Fr PY d2 d4 := by
      rw [hd4]
      exact ((Fr.rf.i (by unfold PY; omega)).i (by unfold PY; omega)).i (by unfold PY; omega)
    have hml : ∃ d5, fX12_market (rhS ρ) d3 = some (J (kN μ : Int), d5) ∧ Fr PY d4 d5 ∧ (∀ k, ¬ k = 1 → d_i d5 23 k = d_i d4 23 k) ∧ d_i d5 23 1 = J ((0 : Nat) : Int) ∧ ∀ c, c < 4 → d_i d5 25 c = J (W c) ∧ d_i d5 26 c = J (V c) := by
      have n1 : ¬ J (gP σ : Int) < J (gP σ : Int) := by rw [J_lt (by omega) (by omega)]; omega
      have c5 : J (5 : Int) = 5 := rfl
      have c0 : ¬ J dg = 0 := by rw [j0, J_eq (by omega) (by omega)]; omega
      have g11 : d_i (dI d2 23 2 (J (kB μ))) 23 11 = J (kS μ) := by rw [dI_o (by omega)]; exact m5
      have g12 : d_i (dI (dI d2 23 2 (J (kB μ))) 23 3 (J (kS μ))) 23 12 = J (kN μ : Int) := by rw [dI_o (by omega), dI_o (by omega)]; exact m6
      unfold fX12_market
      rw [hf, Option.bind_some, e1, if_neg n1, m1, if_pos c5, m2, if_neg c0, m4, bnd_eq, g11, bnd_eq, g12, bnd_eq, ← hd4]
      have e27 : ∀ c, c < 4 → d_i d4 27 c = J (W c) ∧ d_i d4 28 c = J (V c) := fun c hc => by
        rw [hd4, dI_o (by omega), dI_o (by omega), dI_o (by omega), dI_o (by omega), dI_o (by omega), dI_o (by omega)]
        exact m7 c hc
      have e4 : d_i d4 23 4 = J (kN μ : Int) := by rw [hd4, dI_s]
      refine lp_c 4 (fun i x => ∃ d', x = (J (i : Int), d') ∧ Fr (fun o _ => o = 25 ∨ o = 26) d4 d' ∧ ∀ c, c < i → d_i d' 25 c = J (W c) ∧ d_i d' 26 c = J (V c)) (fun o => ∃ d5, o = some (J (kN μ : Int), d5) ∧ Fr PY d4 d5 ∧ (∀ k, ¬ k = 1 → d_i d5 23 k = d_i d4 23 k) ∧ d_i d5 23 1 = J ((0 : Nat) : Int) ∧ ∀ c, c < 4 → d_i d5 25 c = J (W c) ∧ d_i d5 26 c = J (V c)) ?_ ?_ 6000 (by omega) _ ⟨d4, rfl, Fr.rf, fun c hc => absurd hc (Nat.not_lt_zero c)⟩
      · rintro i hi x ⟨d', rfl, f, hc⟩ self
        have n4 : ¬ (4 : Int32) ≤ J (i : Int) := by rw [j4, J_le (by omega) (by omega)]; omega
        have hin : inB (J (i : Int)) 4 = true := by rw [inB_J (by omega)]; omega
        have hix : ix (J (i : Int)) = i := by rw [ix_J (by omega), Int.toNat_natCast]
        have w1 : d_i d' 27 i = J (W i) := (f.gi (by omega)).trans (e27 i hi).1
        have w2 : ∀ v, d_i (dI d' 25 i v) 28 i = J (V i) := fun v => by rw [dI_o (by omega)]; exact (f.gi (by omega)).trans (e27 i hi).2
        simp only [n4, if_false, hin, if_true, hix, bnd_eq, w1, w2]
        refine ⟨_, ⟨dI (dI d' 25 i (J (W i))) 26 i (J (V i)), rfl, (f.i (Or.inl rfl)).i (Or.inr rfl), fun c hc' => ?_⟩, ?_⟩
        · by_cases e : c = i
          · subst e
            exact ⟨by rw [dI_o (by omega), dI_s], by rw [dI_s]⟩
          · rw [dI_o (by omega), dI_o (by omega), dI_o (by omega), dI_o (by omega)]
            exact hc c (by omega)
        · rw [j1, J_add]; rfl
      · rintro x ⟨d', rfl, f, hc⟩ self
        have n4 : (4 : Int32) ≤ J ((4 : Nat) : Int) := by decide
        have w4 : d_i (dI d' 23 1 0) 23 4 = J (kN μ : Int) := by rw [dI_o (by omega)]; exact (f.gi (by omega)).trans e4
        simp only [n4, if_true, bnd_eq, w4]
        refine ⟨dI d' 23 1 0, rfl, (f.mono (fun o k h => by unfold PY; omega)).i (by unfold PY; omega), fun k hk => ?_, ?_, fun c hc' => ?_⟩
        · rw [dI_o (by omega)]; exact f.gi (by omega)
        · rw [dI_s]; rfl
        · rw [dI_o (by omega), dI_o (by omega)]; exact hc c hc'
    obtain ⟨d5, w5, f5, k5, p5, c5⟩ := hml
    have f35 : Fr PY d3 d5 := ((f2.mono (fun o k h => by unfold PM at h; unfold PY; omega)).tr f4).tr f5
    have f35' : Fr (fun o k => PX dr o k ∨ PY o k) d d5 := (f3.mono (fun o k h => Or.inl h)).tr (f35.mono (fun o k h => Or.inr h))
    have hn : ∀ o k, ¬ PX dr o k → ¬ PY o k → ¬ (PX dr o k ∨ PY o k) := fun o k h1 h2 h => h.elim h1 h2
    have O' : sgOK (sgM σ μ) := ⟨⟨Nat.zero_le _, fun k hk => absurd hk (Nat.not_lt_zero k)⟩, hμ, O.2.2⟩
    have C5 : CacheOK d5 (sgM σ μ) := by
      have : CacheOK d3 (sgM σ μ) := by rw [hd3]; exact uz_cache _ _
      exact this.gfr f35 (fun k => ⟨by unfold PY; omega, by unfold PY; omega, by unfold PY; omega⟩)
    obtain ⟨⟨r1, r2⟩, ⟨r3, r4⟩, ⟨r5, r6⟩, r7, ⟨r8, r9, r10⟩, r11⟩ := R
    have gg : ∀ o k, ¬ PX dr o k → ¬ PY o k → d_i d5 o k = d_i d o k := fun o k h1 h2 => f35'.gi (hn o k h1 h2)
    have hm15 : (rhS ρ).1 = dr := hdr.symm
    have R5 : RC d5 (rhS ρ) (sgM σ μ) := by
      refine ⟨⟨r1.fr f35' (fun k => hn _ _ (by unfold PX; omega) (by unfold PY; omega)), rhS_ok r2⟩, ⟨?_, fun k hk => absurd hk (Nat.not_lt_zero k)⟩, ⟨fun _ => ?_, ?_⟩, r7.fr f35' (fun k => ⟨hn _ _ (by unfold PX; omega) (by unfold PY; omega), hn _ _ (by unfold PX; omega) (by unfold PY; omega), hn _ _ (by unfold PX; omega) (by unfold PY; omega)⟩), ⟨(gg _ _ (by unfold PX; omega) (by unfold PY; omega)).trans r8, r9, fun k hk => ?_⟩, (gg _ _ (by unfold PX; omega) (by unfold PY; omega)).trans r11⟩
      · rw [f35.gi (by unfold PY; omega), hd3, uz_o (by omega), dI_s]; rfl
      · rw [hm15]
        exact (hMk.fr f13 (fun k => ⟨by omega, by omega, by omega⟩)).fr f35 (fun k => ⟨by unfold PY; omega, by unfold PY; omega, by unfold PY; omega⟩)
      · have : 0 < kN (gM (sgM σ μ)) := hop
        rw [if_pos this, f35.gi (by unfold PY; omega), hd3, uz_o (by omega), dI_o (by omega), dI_s]; rfl
      · exact (r10 k hk).fr f35' (fun j => hn _ _ (by unfold PX; omega) (by unfold PY; omega))
    obtain ⟨⟨w1, w2⟩, ⟨w3, w4⟩, w6, ⟨w7, w8⟩, w9⟩ := M
    have M5 : RM d5 (sgM σ μ) := by
      refine ⟨⟨p5, fun k hk => absurd hk (Nat.not_lt_zero k)⟩, ⟨fun _ => ⟨?_, ?_, ?_, fun c hc => ?_⟩, ?_⟩, ⟨(gg _ _ (by unfold PX; omega) (by unfold PY; omega)).trans w6.1, fun b hb => ⟨(gg _ _ (by unfold PX; omega) (by unfold PY; omega)).trans (w6.2 b hb).1, (gg _ _ (by unfold PX; omega) (by unfold PY; omega)).trans (w6.2 b hb).2⟩⟩, ⟨(gg _ _ (by unfold PX; omega) (by unfold PY; omega)).trans w7, fun k hk => ⟨(w8 k hk).1, (gg _ _ (by unfold PX; omega) (by unfold PY; omega)).trans (w8 k hk).2.1, (gg _ _ (by unfold PX; omega) (by unfold PY; omega)).trans (w8 k hk).2.2⟩⟩, (gg _ _ (by unfold PX; omega) (by unfold PY; omega)).trans w9⟩
      · rw [k5 _ (by omega), hd4, dI_o (by omega), dI_o (by omega), dI_s]; rfl
      · rw [k5 _ (by omega), hd4, dI_o (by omega), dI_s]; rfl
      · rw [k5 _ (by omega), hd4, dI_s]; rfl
      · have hc' : c < kN μ := hc
        have h1 := c5 c (by omega)
        have h2 := hWV c hc'
        rw [h2.1, h2.2] at h1
        exact h1
      · rw [k5 _ (by omega), hd4, dI_s]; rfl
    refine ⟨J (kN μ : Int), d3, d5, rhS ρ, ?_, w5, ⟨sgM σ μ, O', R5, C5, M5⟩, f3.c2 (fun k => by unfold PX; omega), rfl, rhS_ok hρ⟩
    unfold fX11_market
    have e2 : d_i (uz (dI (dI d1 3 3 1) 4 1 0) 128) dr 2 = J (kN μ : Int) := by
      rw [uz_o (by omega), dI_o (by omega), dI_o (by omega)]; exact hMk.2.2.1
    rw [← hdr, hr, Option.bind_some, if_pos rfl, unsettle_val, Option.bind_some, e2, hd3]
theorem ops_ok : Ops Inv := ⟨op0, op1, op2, op3, op4, op5, op6, op7, op8, op9, op10, op11, op12, op13, op14, op15, op16, op17, op18, op19, op20, op21, op22, op23, op24, op25, op26⟩
