/-- levels, class -/
def lX (t : Nat → Nat) (len i prev : Nat) : Option (Nat × Nat) := sq (stp none (wrdE t len 6 i) i) (sq (stp none (numE t len (i + 1) (prev + 1) 999) (i + 1)) (sq (stp none (numE t len (i + 2) 0 999) (i + 2)) (stp none (semE t len (i + 3)) (i + 3))))
theorem lX_d (t : Nat → Nat) (len i prev : Nat) : lX t len i prev = sq (stp none (wrdE t len 6 i) i) (sq (stp none (numE t len (i + 1) (prev + 1) 999) (i + 1)) (sq (stp none (numE t len (i + 2) 0 999) (i + 2)) (stp none (semE t len (i + 3)) (i + 3)))) := rfl
def FL (q : Nat) (N N' : Nat → Nat → Int32) : Prop := (∀ a, a ≠ 3 → a ≠ 16 → a ≠ 14 → a ≠ 15 → N' a = N a) ∧ ∀ a k, a = 14 ∨ a = 15 → k ≠ q → N' a k = N a k
theorem FL_t {q : Nat} {N N1 N2 : Nat → Nat → Int32} (h : FL q N N1) (h2 : FL q N1 N2) : FL q N N2 := ⟨fun a q1 q2 q3 q4 => (h2.1 a q1 q2 q3 q4).trans (h.1 a q1 q2 q3 q4), fun a k q1 q2 => (h2.2 a k q1 q2).trans (h.2 a k q1 q2)⟩
theorem FL_S {q : Nat} {N N' : Nat → Nat → Int32} (h : FS N N') : FL q N N' := ⟨fun a q1 q2 _ _ => h a q1 q2, fun a k q1 _ => by rw [h a (by omega) (by omega)]⟩
theorem FL_w {q a : Nat} {N : Nat → Nat → Int32} {x : Int32} (h : a = 14 ∨ a = 15) : FL q N (st N a q x) := ⟨fun a' _ _ q3 q4 => st_cell (by omega), fun a' k _ q2 => st_slot q2⟩
theorem c_lvl {N : Nat → Nat → Int32} {r : Int64 × UInt64} {t : Nat → Nat} {len i d n prev : Nat} (hd : d < 4) (hn : n < 5) (hpv : prev ≤ 99999) (h0 : n = 0 → prev = 0) (h1 : n ≠ 0 → N 14 (d * 5 + n - 1) = nI prev) (h : PC N t len i) : ∃ N', f_X5_readLevel 3 (nI d) (nI n) (mw N r) = some (bI (lX t len i prev).isNone, mw N' r) ∧ FD d N N' ∧ FL (d * 5 + n) N N' ∧ CX N' t len (lX t len i prev) (i + 4) ∧ (lX t len i prev = none → N' 14 (d * 5 + n) = nI (VV t len (i + 1)) ∧ N' 15 (d * 5 + n) = nI (VV t len (i + 2))) := by
  have hlow : ∀ (K : Int32 → Option (Int32 × MW)), Option.bind (if nI n = 0 then some 1 else hz_ldp (mw N r) 3 0 358 3 (fun b17 => hz_ldp (mw N r) b17 11 358 20 (fun b18 => hz_lda (mw N r) b18 (nI (d * 5 + n) - 1) (fun v19 => some (v19 + 1))))) K = K (nI (prev + 1)) := by
    intro K
    by_cases c : n = 0
    · rw [if_pos (by rw [c]; rfl), h0 c]
      rfl
    · rw [if_neg (show ¬ nI n = 0 from fun q => c ((nI_eq (b := 0) (by omega) (by omega)).mp q))]
      simp (disch := omega) only [PX, P4, nI_m1, A4, h1 c, nI_p1, e_bd]
  obtain ⟨N0, g0, f0, p0, q0⟩ := c_wrd (r := r) (c := 6) (by omega) h
  by_cases c0 : wrdE t len 6 i = 0
  rotate_left
  · have hx : lX t len i prev = some (wrdE t len 6 i, i) := by rw [lX_d]; exact sq_s (stp_n c0)
    rw [hx]
    refine ⟨N0, ?_, FD_S f0, FL_S f0, ⟨c0, q0 c0⟩, fun z => by cases z⟩
    simp only [f_X5_readLevel, P3, e_let, nI_m5, nI_add, hlow, g0, decide_eq_false c0, e_b, bI_f, if_true, e_isb0, Option.isNone]
  have s0 : stp none (wrdE t len 6 i) i = none := stp_z c0
  obtain ⟨N1, g1, ⟨f1, p1, q1⟩, v1⟩ := c_num (r := r) (x := nI (prev + 1)) (y := 999) (lo := prev + 1) (hi := 999) rfl rfl (by omega) (by omega) (p0 c0)
  by_cases c1 : numE t len (i + 1) (prev + 1) 999 = 0
  rotate_left
  · have hx : lX t len i prev = some (numE t len (i + 1) (prev + 1) 999, i + 1) := by rw [lX_d, sq_n s0]; exact sq_s (stp_n c1)
    rw [hx]
    refine ⟨N1, ?_, FD_S (FS_t f0 f1), FL_S (FS_t f0 f1), ⟨c1, q1 c1⟩, fun z => by cases z⟩
    simp only [f_X5_readLevel, P3, e_let, nI_m5, nI_add, hlow, g0, decide_eq_true c0, e_b, bI_t, i10, if_false, g1, decide_eq_false c1, bI_f, if_true, e_isb0, Option.isNone]
  have s1 : stp none (numE t len (i + 1) (prev + 1) 999) (i + 1) = none := stp_z c1
  have P1 : PC (st N1 14 (d * 5 + n) (nI (VV t len (i + 1)))) t len (i + 2) := PC_s (by omega) (by omega) (p1 c1)
  have F1 : FD d N (st N1 14 (d * 5 + n) (nI (VV t len (i + 1)))) := FD_t (FD_S (FS_t f0 f1)) (FD_v (.inl rfl) hn)
  have L1 : FL (d * 5 + n) N (st N1 14 (d * 5 + n) (nI (VV t len (i + 1)))) := FL_t (FL_S (FS_t f0 f1)) (FL_w (.inl rfl))
  obtain ⟨N2, g2, ⟨f2, p2, q2⟩, v2⟩ := c_num (r := r) (x := 0) (y := 999) (lo := 0) (hi := 999) rfl rfl (by omega) (by omega) P1
  by_cases c2 : numE t len (i + 2) 0 999 = 0
  rotate_left
  · have hx : lX t len i prev = some (numE t len (i + 2) 0 999, i + 2) := by rw [lX_d, sq_n s0, sq_n s1]; exact sq_s (stp_n c2)
    rw [hx]
    refine ⟨N2, ?_, FD_t F1 (FD_S f2), FL_t L1 (FL_S f2), ⟨c2, q2 c2⟩, fun z => by cases z⟩
    simp only [f_X5_readLevel, P3, e_let, nI_m5, nI_add, hlow]
    simp (disch := omega) only [P3, PX, P4, A4, e_let, g0, decide_eq_true c0, e_b, bI_t, i10, if_false, g1, decide_eq_true c1, mw_1, v1 c1, g2, decide_eq_false c2, bI_f, if_true, e_isb0, Option.isNone]
  have s2 : stp none (numE t len (i + 2) 0 999) (i + 2) = none := stp_z c2
  have P2 : PC (st N2 15 (d * 5 + n) (nI (VV t len (i + 2)))) t len (i + 3) := PC_s (by omega) (by omega) (p2 c2)
  have F2 : FD d N (st N2 15 (d * 5 + n) (nI (VV t len (i + 2)))) := FD_t (FD_t F1 (FD_S f2)) (FD_v (.inr rfl) hn)
  have L2 : FL (d * 5 + n) N (st N2 15 (d * 5 + n) (nI (VV t len (i + 2)))) := FL_t (FL_t L1 (FL_S f2)) (FL_w (.inr rfl))
  obtain ⟨N3, g3, f3, p3, q3⟩ := c_sem (r := r) P2
  have hx : lX t len i prev = stp none (semE t len (i + 3)) (i + 3) := by rw [lX_d, sq_n s0, sq_n s1, sq_n s2]
  have hrun : f_X5_readLevel 3 (nI d) (nI n) (mw N r) = some (bI (decide (semE t len (i + 3) = 0)), mw N3 r) := by
    simp only [f_X5_readLevel, P3, e_let, nI_m5, nI_add, hlow]
    simp (disch := omega) only [P3, PX, P4, A4, e_let, g0, decide_eq_true c0, e_b, bI_t, i10, if_false, g1, decide_eq_true c1, mw_1, v1 c1, g2, decide_eq_true c2, v2 c2, g3, bI_isb]
  rw [hx]
  by_cases c3 : semE t len (i + 3) = 0
  · rw [stp_z c3]
    refine ⟨N3, by rw [hrun, decide_eq_true c3]; rfl, FD_t F2 (FD_S f3), FL_t L2 (FL_S f3), p3 c3, fun _ => ⟨?_, ?_⟩⟩
    · rw [f3 14 (by omega) (by omega), st_cell (by omega), f2 14 (by omega) (by omega), st_self]
    · rw [f3 15 (by omega) (by omega), st_self]
  · rw [stp_n c3]
    exact ⟨N3, by rw [hrun, decide_eq_false c3]; rfl, FD_t F2 (FD_S f3), FL_t L2 (FL_S f3), ⟨c3, q3 c3⟩, fun z => by cases z⟩
/-- the run of levels: what it ends with, how many, and the token behind -/
def lvR (t : Nat → Nat) (len : Nat) : Nat → Nat → Nat → Nat → Option (Nat × Nat) × (Nat × Nat)
  | 0, i, j, _ => if WW t len 6 i = true then (some (3, i), (j, i)) else (none, (j, i))
  | m + 1, i, j, prev => if WW t len 6 i = true then (match lX t len i prev with
      | some e => (some e, (j, i))
      | none => lvR t len m (i + 4) (j + 1) (VV t len (i + 1))) else (if j = 0 then (some (1, i), (j, i)) else (none, (j, i)))
def mnS (a b : Nat) : Nat := if a < b then a else b
theorem mnS_nI {a b : Nat} (ha : a < 2 ^ 31) (hb : b < 2 ^ 31) : (if nI a < nI b then nI a else nI b) = nI (mnS a b) := by
  unfold mnS
  by_cases h : a < b
  · rw [if_pos h, if_pos (nI_lt h hb)]
  · rw [if_neg h, if_neg (fun q => h ((nI_ltI ha hb).mp q))]
