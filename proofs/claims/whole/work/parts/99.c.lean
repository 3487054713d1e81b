/-- policy, domain -/
def polV (t : Nat → Nat) (len i : Nat) : Nat := if WW t len 2 i = true then 0 else if WW t len 3 i = true then 1 else if WW t len 4 i = true then 2 else if WW t len 5 i = true then 3 else 4
def polE (t : Nat → Nat) (len i : Nat) : Nat := if polV t len i = 4 then 1 else 0
def sq (X Y : Option (Nat × Nat)) : Option (Nat × Nat) := match X with
  | none => Y
  | some e => some e
theorem stp_sq (X : Option (Nat × Nat)) (c i : Nat) : stp X c i = sq X (stp none c i) := by cases X <;> rfl
theorem sq_a (X Y Z : Option (Nat × Nat)) : sq (sq X Y) Z = sq X (sq Y Z) := by cases X <;> rfl
theorem sq_n {X Y : Option (Nat × Nat)} (h : X = none) : sq X Y = Y := by rw [h]; rfl
theorem sq_s {X Y : Option (Nat × Nat)} {e : Nat × Nat} (h : X = some e) : sq X Y = some e := by rw [h]; rfl
theorem c_polN {N : Nat → Nat → Int32} {r : Int64 × UInt64} {t : Nat → Nat} {len i d : Nat} (x : Int32) (h : PC N t len i) : ∃ N', f_X7_readNext 16 (mw (st N 12 d x) r) = some (mw N' r) ∧ (FD d N N' ∧ FZ 12 12 N N') ∧ PC N' t len (i + 1) ∧ N' 12 d = x := by
  have hP : PC (st N 12 d x) t len i := PC_s (by omega) (by omega) h
  obtain ⟨N', g1, ⟨g2, g3, _⟩, g4⟩ := c_next (r := r) hP.1 hP.2.2.2.1 hP.2.2.2.2
  exact ⟨N', g1, ⟨FD_t (FD_w (by omega) (by omega)) (FD_S g2), FZ_t (FZ_w (by omega) (by omega)) (FZ_S g2)⟩, g3 rfl, by rw [g4 12 (by omega), st_self]⟩
theorem c_pol {N : Nat → Nat → Int32} {r : Int64 × UInt64} {t : Nat → Nat} {len i d : Nat} (hd : d < 4) (h : PC N t len i) : ∃ N', f_X5_readPolicy 3 (nI d) (mw N r) = some (bI (stp none (polE t len i) i).isNone, mw N' r) ∧ (FD d N N' ∧ FZ 12 12 N N') ∧ CX N' t len (stp none (polE t len i) i) (i + 1) ∧ (stp none (polE t len i) i = none → N' 12 d = nI (polV t len i)) := by
  have w2 := c_isw (r := r) (c := 2) (by omega) h
  have w3 := c_isw (r := r) (c := 3) (by omega) h
  have w4 := c_isw (r := r) (c := 4) (by omega) h
  have w5 := c_isw (r := r) (c := 5) (by omega) h
  have fin : ∀ v : Nat, v < 4 → polV t len i = v → (∀ N', f_X7_readNext 16 (mw (st N 12 d (nI v)) r) = some (mw N' r) → f_X5_readPolicy 3 (nI d) (mw N r) = some (1, mw N' r)) → ∃ N', f_X5_readPolicy 3 (nI d) (mw N r) = some (bI (stp none (polE t len i) i).isNone, mw N' r) ∧ (FD d N N' ∧ FZ 12 12 N N') ∧ CX N' t len (stp none (polE t len i) i) (i + 1) ∧ (stp none (polE t len i) i = none → N' 12 d = nI (polV t len i)) := by
    intro v hv hp hr
    obtain ⟨N', g1, g2, g3, g4⟩ := c_polN (r := r) (d := d) (nI v) h
    have hX : stp none (polE t len i) i = none := by
      unfold polE
      rw [hp, if_neg (by omega)]
      rfl
    exact ⟨N', by rw [hX]; exact hr N' g1, g2, by rw [hX]; exact g3, fun _ => by rw [hp]; exact g4⟩
  cases h2 : WW t len 2 i with
  | true =>
    refine fin 0 (by omega) (by unfold polV; rw [if_pos h2]) (fun N' g => ?_)
    have g' : f_X7_readNext 16 (mw (st N 12 d 0) r) = some (mw N' r) := g
    simp (disch := omega) only [f_X5_readPolicy, P3, PX, P4, A4, w2, h2, e_b, bI_t, i10, if_false, g', e_bv, e_isb1]
  | false =>
    have n2 : ¬ WW t len 2 i = true := by rw [h2]; decide
    cases h3 : WW t len 3 i with
    | true =>
      refine fin 1 (by omega) (by unfold polV; rw [if_neg n2, if_pos h3]) (fun N' g => ?_)
      have g' : f_X7_readNext 16 (mw (st N 12 d 1) r) = some (mw N' r) := g
      simp (disch := omega) only [f_X5_readPolicy, P3, PX, P4, A4, w2, h2, w3, h3, e_b, bI_t, bI_f, i10, if_false, if_true, g', e_bv, e_isb1]
    | false =>
      have n3 : ¬ WW t len 3 i = true := by rw [h3]; decide
      cases h4 : WW t len 4 i with
      | true =>
        refine fin 2 (by omega) (by unfold polV; rw [if_neg n2, if_neg n3, if_pos h4]) (fun N' g => ?_)
        have g' : f_X7_readNext 16 (mw (st N 12 d 2) r) = some (mw N' r) := g
        simp (disch := omega) only [f_X5_readPolicy, P3, PX, P4, A4, w2, h2, w3, h3, w4, h4, e_b, bI_t, bI_f, i10, if_false, if_true, g', e_bv, e_isb1]
      | false =>
        have n4 : ¬ WW t len 4 i = true := by rw [h4]; decide
        cases h5 : WW t len 5 i with
        | true =>
          refine fin 3 (by omega) (by unfold polV; rw [if_neg n2, if_neg n3, if_neg n4, if_pos h5]) (fun N' g => ?_)
          have g' : f_X7_readNext 16 (mw (st N 12 d 3) r) = some (mw N' r) := g
          simp (disch := omega) only [f_X5_readPolicy, P3, PX, P4, A4, w2, h2, w3, h3, w4, h4, w5, h5, e_b, bI_t, bI_f, i10, if_false, if_true, g', e_bv, e_isb1]
        | false =>
          have n5 : ¬ WW t len 5 i = true := by rw [h5]; decide
          obtain ⟨N', g1, g2, g3, g4⟩ := c_fail (r := r) (x := 1) (c := 1) h rfl (by omega)
          have hX : stp none (polE t len i) i = some (1, i) := by
            unfold polE polV
            rw [if_neg n2, if_neg n3, if_neg n4, if_neg n5]
            rfl
          refine ⟨N', ?_, ⟨FD_S g2, FZ_S g2⟩, by rw [hX]; exact ⟨by omega, g4 (by omega)⟩, fun q => by rw [hX] at q; cases q⟩
          rw [hX]
          simp (disch := omega) only [f_X5_readPolicy, P3, PX, P4, A4, w2, h2, w3, h3, w4, h4, w5, h5, e_b, bI_f, if_true, g1, e_isb0, Option.isNone]
def hX (t : Nat → Nat) (len i : Nat) : Option (Nat × Nat) := (stp (stp (stp (stp none (numE t len i 1 4) i) (numE t len (i + 1) 0 99999) (i + 1)) (numE t len (i + 2) 0 999) (i + 2)) (numE t len (i + 3) 1 999) (i + 3))
def pX (t : Nat → Nat) (len i : Nat) : Option (Nat × Nat) := (stp (stp (stp none (numE t len i 0 99) i) (numE t len (i + 1) 0 4) (i + 1)) (numE t len (i + 2) 0 99) (i + 2))
def hdX (t : Nat → Nat) (len b : Nat) : Option (Nat × Nat) := sq (stp none (wrdE t len 0 b) b) (sq (hX t len (b + 1)) (sq (pX t len (b + 5)) (sq (stp none (polE t len (b + 8)) (b + 8)) (stp none (semE t len (b + 9)) (b + 9)))))
def DH (N : Nat → Nat → Int32) (t : Nat → Nat) (len d b : Nat) : Prop := N 5 d = nI (VV t len (b + 1)) ∧ N 6 d = nI (VV t len (b + 2)) ∧ N 7 d = nI (VV t len (b + 3)) ∧ N 8 d = nI (VV t len (b + 4)) ∧ N 9 d = nI (VV t len (b + 5)) ∧ N 10 d = nI (VV t len (b + 6)) ∧ N 11 d = nI (VV t len (b + 7)) ∧ N 12 d = nI (polV t len (b + 8))
theorem hX_d (t : Nat → Nat) (len b : Nat) : hdX t len b = sq (stp none (wrdE t len 0 b) b) (sq (hX t len (b + 1)) (sq (pX t len (b + 5)) (sq (stp none (polE t len (b + 8)) (b + 8)) (stp none (semE t len (b + 9)) (b + 9))))) := rfl
theorem c_dom {N : Nat → Nat → Int32} {r : Int64 × UInt64} {t : Nat → Nat} {len b d : Nat} (hd : d < 4) (h : PC N t len b) : ∃ N', f_X5_readDomain 3 (nI d) (mw N r) = some (bI (hdX t len b).isNone, mw N' r) ∧ FD d N N' ∧ FZ 5 12 N N' ∧ CX N' t len (hdX t len b) (b + 10) ∧ (hdX t len b = none → DH N' t len d b) := by
  obtain ⟨N0, g0, f0, p0, q0⟩ := c_wrd (r := r) (c := 0) (by omega) h
  by_cases c0 : wrdE t len 0 b = 0
  rotate_left
  · have hx : hdX t len b = some (wrdE t len 0 b, b) := by rw [hX_d]; exact sq_s (stp_n c0)
    rw [hx]
    refine ⟨N0, ?_, FD_S f0, FZ_S f0, ⟨c0, q0 c0⟩, fun z => by cases z⟩
    simp only [f_X5_readDomain, P3, g0, decide_eq_false c0, e_b, bI_f, if_true, e_bd, e_isb0, Option.isNone]
  have s0 : stp none (wrdE t len 0 b) b = none := stp_z c0
  obtain ⟨N1, g1, f1, z1, x1, v1⟩ := c_heat (r := r) hd (p0 c0)
  change f_X5_readHeat 3 (nI d) (mw N0 r) = some (bI (hX t len (b + 1)).isNone, mw N1 r) at g1
  change CX N1 t len (hX t len (b + 1)) (b + 5) at x1
  change hX t len (b + 1) = none → _ at v1
  cases c1 : hX t len (b + 1) with
  | some e =>
    have hx : hdX t len b = some e := by rw [hX_d, sq_n s0]; exact sq_s c1
    rw [hx]
    rw [c1] at g1 x1
    refine ⟨N1, ?_, FD_t (FD_S f0) f1, FZ_t (FZ_S f0) (fun a q1 q2 q3 => z1 a q1 q2 (by omega)), x1, fun z => by cases z⟩
    simp only [f_X5_readDomain, P3, g0, decide_eq_true c0, e_b, bI_t, i10, if_false, g1, Option.isNone, bI_f, if_true, e_bd, e_isb0]
  | none =>
    rw [c1] at g1 x1
    have d1 := v1 c1
    obtain ⟨N2, g2, f2, z2, x2, v2⟩ := c_powr (r := r) hd x1
    change f_X5_readPower 3 (nI d) (mw N1 r) = some (bI (pX t len (b + 5)).isNone, mw N2 r) at g2
    change CX N2 t len (pX t len (b + 5)) (b + 8) at x2
    change pX t len (b + 5) = none → _ at v2
    cases c2 : pX t len (b + 5) with
    | some e =>
      have hx : hdX t len b = some e := by rw [hX_d, sq_n s0, sq_n c1]; exact sq_s c2
      rw [hx]
      rw [c2] at g2 x2
      refine ⟨N2, ?_, FD_t (FD_t (FD_S f0) f1) f2, FZ_t (FZ_t (FZ_S f0) (fun a q1 q2 q3 => z1 a q1 q2 (by omega))) (fun a q1 q2 q3 => z2 a q1 q2 (by omega)), x2, fun z => by cases z⟩
      simp only [f_X5_readDomain, P3, g0, decide_eq_true c0, e_b, bI_t, i10, if_false, g1, g2, Option.isNone, bI_f, if_true, e_bd, e_isb0]
    | none =>
      rw [c2] at g2 x2
      have d2 := v2 c2
      obtain ⟨N3, g3, ⟨f3, z3⟩, x3, v3⟩ := c_pol (r := r) hd x2
      have F3 : FD d N N3 := FD_t (FD_t (FD_t (FD_S f0) f1) f2) f3
      have Z3 : FZ 5 12 N N3 := FZ_t (FZ_t (FZ_t (FZ_S f0) (fun a q1 q2 q3 => z1 a q1 q2 (by omega))) (fun a q1 q2 q3 => z2 a q1 q2 (by omega))) (fun a q1 q2 q3 => z3 a q1 q2 (by omega))
      cases c3 : stp none (polE t len (b + 8)) (b + 8) with
      | some e =>
        have hx : hdX t len b = some e := by rw [hX_d, sq_n s0, sq_n c1, sq_n c2]; exact sq_s c3
        rw [hx]
        rw [c3] at g3 x3
        refine ⟨N3, ?_, F3, Z3, x3, fun z => by cases z⟩
        simp only [f_X5_readDomain, P3, g0, decide_eq_true c0, e_b, bI_t, i10, if_false, g1, g2, g3, Option.isNone, bI_f, if_true, e_bd, e_isb0]
      | none =>
        have d3 := v3 c3
        rw [c3] at g3 x3
        obtain ⟨N4, g4, f4, p4, q4⟩ := c_sem (r := r) (i := b + 9) x3
        have hx : hdX t len b = stp none (semE t len (b + 9)) (b + 9) := by rw [hX_d, sq_n s0, sq_n c1, sq_n c2, sq_n c3]
        rw [hx]
        by_cases c4 : semE t len (b + 9) = 0
        · rw [stp_z c4]
          refine ⟨N4, ?_, FD_t F3 (FD_S f4), FZ_t Z3 (FZ_S f4), p4 c4, fun _ => ?_⟩
          · simp only [f_X5_readDomain, P3, g0, decide_eq_true c0, e_b, bI_t, i10, if_false, g1, g2, g3, g4, decide_eq_true c4, Option.isNone, e_bd, e_isb1]
          · have e : ∀ a, a ≠ 3 → a ≠ 16 → N4 a = N3 a := f4
            refine ⟨?_, ?_, ?_, ?_, ?_, ?_, ?_, ?_⟩
            · rw [e 5 (by omega) (by omega), z3 5 (by omega) (by omega) (by omega), z2 5 (by omega) (by omega) (by omega)]; exact d1.1
            · rw [e 6 (by omega) (by omega), z3 6 (by omega) (by omega) (by omega), z2 6 (by omega) (by omega) (by omega)]; exact d1.2.1
            · rw [e 7 (by omega) (by omega), z3 7 (by omega) (by omega) (by omega), z2 7 (by omega) (by omega) (by omega)]; exact d1.2.2.1
            · rw [e 8 (by omega) (by omega), z3 8 (by omega) (by omega) (by omega), z2 8 (by omega) (by omega) (by omega)]; exact d1.2.2.2
            · rw [e 9 (by omega) (by omega), z3 9 (by omega) (by omega) (by omega)]; exact d2.1
            · rw [e 10 (by omega) (by omega), z3 10 (by omega) (by omega) (by omega)]; exact d2.2.1
            · rw [e 11 (by omega) (by omega), z3 11 (by omega) (by omega) (by omega)]; exact d2.2.2
            · rw [e 12 (by omega) (by omega)]; exact d3
        · rw [stp_n c4]
          refine ⟨N4, ?_, FD_t F3 (FD_S f4), FZ_t Z3 (FZ_S f4), ⟨c4, q4 c4⟩, fun z => by cases z⟩
          simp only [f_X5_readDomain, P3, g0, decide_eq_true c0, e_b, bI_t, i10, if_false, g1, g2, g3, g4, decide_eq_false c4, Option.isNone, bI_f, if_true, e_bd, e_isb0]
