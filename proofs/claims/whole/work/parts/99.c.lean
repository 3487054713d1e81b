/-- policy, domain -/
def polV (t : Nat → Nat) (len i : Nat) : Nat := if WW t len 2 i = true then 0 else if WW t len 3 i = true then 1 else if WW t len 4 i = true then 2 else if WW t len 5 i = true then 3 else 4
def polE (t : Nat → Nat) (len i : Nat) : Nat := if polV t len i = 4 then 1 else 0
def sq (X Y : Option (Nat × Nat)) : Option (Nat × Nat) := match X with
  | none => Y
  | some e => some e
theorem stp_sq (X : Option (Nat × Nat)) (c i : Nat) : stp X c i = sq X (stp none c i) := by cases X <;> rfl
theorem sq_a (X Y Z : Option (Nat × Nat)) : sq (sq X Y) Z = sq X (sq Y Z) := by cases X <;> rfl
theorem sq_n {X Y : Option (Nat × Nat)} (h : X = none) : sq X Y = Y := by rw [h]; rfl
theorem sq_s {X Y : Option (Nat × Nat)} {e : Nat × Nat} (h : X = some e) : sq X Y = some e := by rw [h]; rfl
theorem c_polN {N : Nat → Nat → Int32} {r : Int64 × UInt64} {t : Nat → Nat} {len i d : Nat} (x : Int32) (h : PC N t len i) : ∃ N', f_X7_readNext 16 (mw (st N 12 d x) r) = some (mw N' r) ∧ FD d N N' ∧ PC N' t len (i + 1) ∧ N' 12 d = x := by
  have hP : PC (st N 12 d x) t len i := PC_s (by omega) (by omega) h
  obtain ⟨N', g1, ⟨g2, g3, _⟩, g4⟩ := c_next (r := r) hP.1 hP.2.2.2
  exact ⟨N', g1, FD_t (FD_w (by omega) (by omega)) (FD_S g2), g3 rfl, by rw [g4 12 (by omega), st_self]⟩
theorem c_pol {N : Nat → Nat → Int32} {r : Int64 × UInt64} {t : Nat → Nat} {len i d : Nat} (hd : d < 4) (h : PC N t len i) : ∃ N', f_X5_readPolicy 3 (nI d) (mw N r) = some (bI (stp none (polE t len i) i).isNone, mw N' r) ∧ FD d N N' ∧ CX N' t len (stp none (polE t len i) i) (i + 1) ∧ (stp none (polE t len i) i = none → N' 12 d = nI (polV t len i)) := by
  have w2 := c_isw (r := r) (c := 2) (by omega) h
  have w3 := c_isw (r := r) (c := 3) (by omega) h
  have w4 := c_isw (r := r) (c := 4) (by omega) h
  have w5 := c_isw (r := r) (c := 5) (by omega) h
  have fin : ∀ v : Nat, v < 4 → polV t len i = v → (∀ N', f_X7_readNext 16 (mw (st N 12 d (nI v)) r) = some (mw N' r) → f_X5_readPolicy 3 (nI d) (mw N r) = some (1, mw N' r)) → ∃ N', f_X5_readPolicy 3 (nI d) (mw N r) = some (bI (stp none (polE t len i) i).isNone, mw N' r) ∧ FD d N N' ∧ CX N' t len (stp none (polE t len i) i) (i + 1) ∧ (stp none (polE t len i) i = none → N' 12 d = nI (polV t len i)) := by
    intro v hv hp hr
    obtain ⟨N', g1, g2, g3, g4⟩ := c_polN (r := r) (d := d) (nI v) h
    have hX : stp none (polE t len i) i = none := by
      unfold polE
      rw [hp, if_neg (by omega)]
      rfl
    exact ⟨N', by rw [hX]; exact hr N' g1, g2, by rw [hX]; exact g3, fun _ => by rw [hp]; exact g4⟩
  cases h2 : WW t len 2 i with
  | true =>
    refine fin 0 (by omega) (by unfold polV; rw [if_pos h2]) (fun N' g => ?_)
    have g' : f_X7_readNext 16 (mw (st N 12 d 0) r) = some (mw N' r) := g
    simp (disch := omega) only [f_X5_readPolicy, P3, PX, P4, A4, w2, h2, e_b, bI_t, i10, if_false, g', e_bv, e_isb1]
  | false =>
    have n2 : ¬ WW t len 2 i = true := by rw [h2]; decide
    cases h3 : WW t len 3 i with
    | true =>
      refine fin 1 (by omega) (by unfold polV; rw [if_neg n2, if_pos h3]) (fun N' g => ?_)
      have g' : f_X7_readNext 16 (mw (st N 12 d 1) r) = some (mw N' r) := g
      simp (disch := omega) only [f_X5_readPolicy, P3, PX, P4, A4, w2, h2, w3, h3, e_b, bI_t, bI_f, i10, if_false, if_true, g', e_bv, e_isb1]
    | false =>
      have n3 : ¬ WW t len 3 i = true := by rw [h3]; decide
      cases h4 : WW t len 4 i with
      | true =>
        refine fin 2 (by omega) (by unfold polV; rw [if_neg n2, if_neg n3, if_pos h4]) (fun N' g => ?_)
        have g' : f_X7_readNext 16 (mw (st N 12 d 2) r) = some (mw N' r) := g
        simp (disch := omega) only [f_X5_readPolicy, P3, PX, P4, A4, w2, h2, w3, h3, w4, h4, e_b, bI_t, bI_f, i10, if_false, if_true, g', e_bv, e_isb1]
      | false =>
        have n4 : ¬ WW t len 4 i = true := by rw [h4]; decide
        cases h5 : WW t len 5 i with
        | true =>
          refine fin 3 (by omega) (by unfold polV; rw [if_neg n2, if_neg n3, if_neg n4, if_pos h5]) (fun N' g => ?_)
          have g' : f_X7_readNext 16 (mw (st N 12 d 3) r) = some (mw N' r) := g
          simp (disch := omega) only [f_X5_readPolicy, P3, PX, P4, A4, w2, h2, w3, h3, w4, h4, w5, h5, e_b, bI_t, bI_f, i10, if_false, if_true, g', e_bv, e_isb1]
        | false =>
          have n5 : ¬ WW t len 5 i = true := by rw [h5]; decide
          obtain ⟨N', g1, g2, g3, g4⟩ := c_fail (r := r) (x := 1) (c := 1) h rfl (by omega)
          have hX : stp none (polE t len i) i = some (1, i) := by
            unfold polE polV
            rw [if_neg n2, if_neg n3, if_neg n4, if_neg n5]
            rfl
          refine ⟨N', ?_, FD_S g2, by rw [hX]; exact ⟨by omega, g4 (by omega)⟩, fun q => by rw [hX] at q; cases q⟩
          rw [hX]
          simp (disch := omega) only [f_X5_readPolicy, P3, PX, P4, A4, w2, h2, w3, h3, w4, h4, w5, h5, e_b, bI_f, if_true, g1, e_isb0, Option.isNone]
def hX (t : Nat → Nat) (len i : Nat) : Option (Nat × Nat) := (stp (stp (stp (stp none (numE t len i 1 4) i) (numE t len (i + 1) 0 99999) (i + 1)) (numE t len (i + 2) 0 999) (i + 2)) (numE t len (i + 3) 1 999) (i + 3))
def pX (t : Nat → Nat) (len i : Nat) : Option (Nat × Nat) := (stp (stp (stp none (numE t len i 0 99) i) (numE t len (i + 1) 0 4) (i + 1)) (numE t len (i + 2) 0 99) (i + 2))
def hdX (t : Nat → Nat) (len b : Nat) : Option (Nat × Nat) := sq (stp none (wrdE t len 0 b) b) (sq (hX t len (b + 1)) (sq (pX t len (b + 5)) (sq (stp none (polE t len (b + 8)) (b + 8)) (stp none (semE t len (b + 9)) (b + 9)))))
def DH (N : Nat → Nat → Int32) (t : Nat → Nat) (len d b : Nat) : Prop := N 5 d = nI (VV t len (b + 1)) ∧ N 6 d = nI (VV t len (b + 2)) ∧ N 7 d = nI (VV t len (b + 3)) ∧ N 8 d = nI (VV t len (b + 4)) ∧ N 9 d = nI (VV t len (b + 5)) ∧ N 10 d = nI (VV t len (b + 6)) ∧ N 11 d = nI (VV t len (b + 7)) ∧ N 12 d = nI (polV t len (b + 8))
