/-- class parser -/
def CX (N : Nat → Nat → Int32) (t : Nat → Nat) (len : Nat) (X : Option (Nat × Nat)) (i : Nat) : Prop := match X with
  | none => PC N t len i
  | some e => e.1 ≠ 0 ∧ ER N t len e.1 e.2
def FD (d : Nat) (N N' : Nat → Nat → Int32) : Prop := (∀ a, a ≠ 3 → a ≠ 16 → (a < 5 ∨ 15 < a) → N' a = N a) ∧ (∀ a k, 5 ≤ a → a ≤ 13 → k ≠ d → N' a k = N a k) ∧ ∀ a k, a = 14 ∨ a = 15 → k < d * 5 ∨ d * 5 + 5 ≤ k → N' a k = N a k
theorem FD_r {d : Nat} {N : Nat → Nat → Int32} : FD d N N := ⟨fun _ _ _ _ => rfl, fun _ _ _ _ _ => rfl, fun _ _ _ _ => rfl⟩
theorem FD_t {d : Nat} {N N1 N2 : Nat → Nat → Int32} (h : FD d N N1) (h2 : FD d N1 N2) : FD d N N2 := ⟨fun a q1 q2 q3 => (h2.1 a q1 q2 q3).trans (h.1 a q1 q2 q3), fun a k q1 q2 q3 => (h2.2.1 a k q1 q2 q3).trans (h.2.1 a k q1 q2 q3), fun a k q1 q2 => (h2.2.2 a k q1 q2).trans (h.2.2 a k q1 q2)⟩
theorem FD_S {d : Nat} {N N' : Nat → Nat → Int32} (h : FS N N') : FD d N N' := ⟨fun a q1 q2 _ => h a q1 q2, fun a k q1 q2 _ => by rw [h a (by omega) (by omega)], fun a k q1 _ => by rw [h a (by omega) (by omega)]⟩
theorem FD_w {d a : Nat} {N : Nat → Nat → Int32} {x : Int32} (h1 : 5 ≤ a) (h2 : a ≤ 13) : FD d N (st N a d x) := ⟨fun a' q1 q2 q3 => st_cell (by omega), fun a' k q1 q2 q3 => st_slot q3, fun a' k q1 q2 => by rw [st_cell (by omega)]⟩
theorem FD_v {d a n : Nat} {N : Nat → Nat → Int32} {x : Int32} (h1 : a = 14 ∨ a = 15) (hn : n < 5) : FD d N (st N a (d * 5 + n) x) := ⟨fun a' q1 q2 q3 => st_cell (by omega), fun a' k q1 q2 q3 => by rw [st_cell (by omega)], fun a' k q1 q2 => st_slot (by omega)⟩
def FZ (lo hi : Nat) (N N' : Nat → Nat → Int32) : Prop := ∀ a, a ≠ 3 → a ≠ 16 → (a < lo ∨ hi < a) → N' a = N a
theorem FZ_r {lo hi : Nat} {N : Nat → Nat → Int32} : FZ lo hi N N := fun _ _ _ _ => rfl
theorem FZ_t {lo hi : Nat} {N N1 N2 : Nat → Nat → Int32} (h : FZ lo hi N N1) (h2 : FZ lo hi N1 N2) : FZ lo hi N N2 := fun a q1 q2 q3 => (h2 a q1 q2 q3).trans (h a q1 q2 q3)
theorem FZ_S {lo hi : Nat} {N N' : Nat → Nat → Int32} (h : FS N N') : FZ lo hi N N' := fun a q1 q2 _ => h a q1 q2
theorem FZ_w {lo hi a k : Nat} {N : Nat → Nat → Int32} {x : Int32} (h1 : lo ≤ a) (h2 : a ≤ hi) : FZ lo hi N (st N a k x) := fun a' _ _ q3 => st_cell (by omega)
theorem PC_x {N N' : Nat → Nat → Int32} {t : Nat → Nat} {len i : Nat} (h1 : N' 1 = N 1) (h2 : N' 2 = N 2) (h3 : N' 16 = N 16) (h4 : N' 3 = N 3) (h : PC N t len i) : PC N' t len i := by
  unfold PC CB at h ⊢
  rw [h1, h2, h3, h4]
  exact h
theorem PC_s {N : Nat → Nat → Int32} {t : Nat → Nat} {len i a k : Nat} {x : Int32} (ha : 4 ≤ a) (ha2 : a ≠ 16) (h : PC N t len i) : PC (st N a k x) t len i := PC_x (st_cell (by omega)) (st_cell (by omega)) (st_cell (by omega)) (st_cell (by omega)) h
theorem stp_n {c i : Nat} (h : c ≠ 0) : stp none c i = some (c, i) := if_neg h
theorem stp_z {X : Option (Nat × Nat)} {c i : Nat} (h : c = 0) : stp X c i = X := by rw [h]; exact stp_0
theorem stp_e {e : Nat × Nat} {c i : Nat} : stp (some e) c i = some e := rfl
theorem c_heat {N : Nat → Nat → Int32} {r : Int64 × UInt64} {t : Nat → Nat} {len i d : Nat} (hd : d < 4) (h : PC N t len i) : ∃ N', f_X5_readHeat 3 (nI d) (mw N r) = some (bI (stp (stp (stp (stp none (numE t len i 1 4) i) (numE t len (i + 1) 0 99999) (i + 1)) (numE t len (i + 2) 0 999) (i + 2)) (numE t len (i + 3) 1 999) (i + 3)).isNone, mw N' r) ∧ FD d N N' ∧ FZ 5 8 N N' ∧ CX N' t len (stp (stp (stp (stp none (numE t len i 1 4) i) (numE t len (i + 1) 0 99999) (i + 1)) (numE t len (i + 2) 0 999) (i + 2)) (numE t len (i + 3) 1 999) (i + 3)) (i + 4) ∧ ((stp (stp (stp (stp none (numE t len i 1 4) i) (numE t len (i + 1) 0 99999) (i + 1)) (numE t len (i + 2) 0 999) (i + 2)) (numE t len (i + 3) 1 999) (i + 3)) = none → N' 5 d = nI (VV t len i) ∧ N' 6 d = nI (VV t len (i + 1)) ∧ N' 7 d = nI (VV t len (i + 2)) ∧ N' 8 d = nI (VV t len (i + 3))) := by
  obtain ⟨N0, g0, ⟨f0, p0, q0⟩, v0⟩ := c_num (r := r) (x := 1) (y := 4) (lo := 1) (hi := 4) rfl rfl (by omega) (by omega) h
  by_cases c0 : numE t len i 1 4 = 0
  rotate_left
  · have hX : (stp (stp (stp (stp none (numE t len i 1 4) i) (numE t len (i + 1) 0 99999) (i + 1)) (numE t len (i + 2) 0 999) (i + 2)) (numE t len (i + 3) 1 999) (i + 3)) = some (numE t len i 1 4, i) := by simp only [stp_n c0, stp_e]
    refine ⟨N0, ?_, FD_S f0, FZ_S f0, by rw [hX]; exact ⟨c0, q0 c0⟩, fun z => by rw [hX] at z; cases z⟩
    rw [hX]
    simp (disch := omega) only [f_X5_readHeat, P3, PX, P4, A4, g0, decide_eq_false c0, e_b, bI_t, bI_f, i10, if_true, if_false, mw_1, e_isb0, Option.isNone]
  · have hp0 : PC (st N0 5 d (nI (VV t len i))) t len (i + 1) := PC_s (by omega) (by omega) (p0 c0)
    have fd0 : FD d N (st N0 5 d (nI (VV t len i))) := FD_t (FD_S f0) (FD_w (by omega) (by omega))
    have fz0 : FZ 5 8 N (st N0 5 d (nI (VV t len i))) := FZ_t (FZ_S f0) (FZ_w (by omega) (by omega))
    obtain ⟨N1, g1, ⟨f1, p1, q1⟩, v1⟩ := c_num (r := r) (x := 0) (y := 99999) (lo := 0) (hi := 99999) rfl rfl (by omega) (by omega) hp0
    by_cases c1 : numE t len (i + 1) 0 99999 = 0
    rotate_left
    · have hX : (stp (stp (stp (stp none (numE t len i 1 4) i) (numE t len (i + 1) 0 99999) (i + 1)) (numE t len (i + 2) 0 999) (i + 2)) (numE t len (i + 3) 1 999) (i + 3)) = some (numE t len (i + 1) 0 99999, (i + 1)) := by simp only [stp_z c0, stp_n c1, stp_e]
      refine ⟨N1, ?_, FD_t fd0 (FD_S f1), FZ_t fz0 (FZ_S f1), by rw [hX]; exact ⟨c1, q1 c1⟩, fun z => by rw [hX] at z; cases z⟩
      rw [hX]
      simp (disch := omega) only [f_X5_readHeat, P3, PX, P4, A4, g0, decide_eq_true c0, v0 c0, g1, decide_eq_false c1, e_b, bI_t, bI_f, i10, if_true, if_false, mw_1, e_isb0, Option.isNone]
    · have hp1 : PC (st N1 6 d (nI (VV t len (i + 1)))) t len (i + 2) := PC_s (by omega) (by omega) (p1 c1)
      have fd1 : FD d N (st N1 6 d (nI (VV t len (i + 1)))) := FD_t (FD_t fd0 (FD_S f1)) (FD_w (by omega) (by omega))
      have fz1 : FZ 5 8 N (st N1 6 d (nI (VV t len (i + 1)))) := FZ_t (FZ_t fz0 (FZ_S f1)) (FZ_w (by omega) (by omega))
      obtain ⟨N2, g2, ⟨f2, p2, q2⟩, v2⟩ := c_num (r := r) (x := 0) (y := 999) (lo := 0) (hi := 999) rfl rfl (by omega) (by omega) hp1
      by_cases c2 : numE t len (i + 2) 0 999 = 0
      rotate_left
      · have hX : (stp (stp (stp (stp none (numE t len i 1 4) i) (numE t len (i + 1) 0 99999) (i + 1)) (numE t len (i + 2) 0 999) (i + 2)) (numE t len (i + 3) 1 999) (i + 3)) = some (numE t len (i + 2) 0 999, (i + 2)) := by simp only [stp_z c0, stp_z c1, stp_n c2, stp_e]
        refine ⟨N2, ?_, FD_t fd1 (FD_S f2), FZ_t fz1 (FZ_S f2), by rw [hX]; exact ⟨c2, q2 c2⟩, fun z => by rw [hX] at z; cases z⟩
        rw [hX]
        simp (disch := omega) only [f_X5_readHeat, P3, PX, P4, A4, g0, decide_eq_true c0, v0 c0, g1, decide_eq_true c1, v1 c1, g2, decide_eq_false c2, e_b, bI_t, bI_f, i10, if_true, if_false, mw_1, e_isb0, Option.isNone]
      · have hp2 : PC (st N2 7 d (nI (VV t len (i + 2)))) t len (i + 3) := PC_s (by omega) (by omega) (p2 c2)
        have fd2 : FD d N (st N2 7 d (nI (VV t len (i + 2)))) := FD_t (FD_t fd1 (FD_S f2)) (FD_w (by omega) (by omega))
        have fz2 : FZ 5 8 N (st N2 7 d (nI (VV t len (i + 2)))) := FZ_t (FZ_t fz1 (FZ_S f2)) (FZ_w (by omega) (by omega))
        obtain ⟨N3, g3, ⟨f3, p3, q3⟩, v3⟩ := c_num (r := r) (x := 1) (y := 999) (lo := 1) (hi := 999) rfl rfl (by omega) (by omega) hp2
        by_cases c3 : numE t len (i + 3) 1 999 = 0
        rotate_left
        · have hX : (stp (stp (stp (stp none (numE t len i 1 4) i) (numE t len (i + 1) 0 99999) (i + 1)) (numE t len (i + 2) 0 999) (i + 2)) (numE t len (i + 3) 1 999) (i + 3)) = some (numE t len (i + 3) 1 999, (i + 3)) := by simp only [stp_z c0, stp_z c1, stp_z c2, stp_n c3, stp_e]
          refine ⟨N3, ?_, FD_t fd2 (FD_S f3), FZ_t fz2 (FZ_S f3), by rw [hX]; exact ⟨c3, q3 c3⟩, fun z => by rw [hX] at z; cases z⟩
          rw [hX]
          simp (disch := omega) only [f_X5_readHeat, P3, PX, P4, A4, g0, decide_eq_true c0, v0 c0, g1, decide_eq_true c1, v1 c1, g2, decide_eq_true c2, v2 c2, g3, decide_eq_false c3, e_b, bI_t, bI_f, i10, if_true, if_false, mw_1, e_isb0, Option.isNone]
        · have hp3 : PC (st N3 8 d (nI (VV t len (i + 3)))) t len (i + 4) := PC_s (by omega) (by omega) (p3 c3)
          have fd3 : FD d N (st N3 8 d (nI (VV t len (i + 3)))) := FD_t (FD_t fd2 (FD_S f3)) (FD_w (by omega) (by omega))
          have fz3 : FZ 5 8 N (st N3 8 d (nI (VV t len (i + 3)))) := FZ_t (FZ_t fz2 (FZ_S f3)) (FZ_w (by omega) (by omega))
          have hX : (stp (stp (stp (stp none (numE t len i 1 4) i) (numE t len (i + 1) 0 99999) (i + 1)) (numE t len (i + 2) 0 999) (i + 2)) (numE t len (i + 3) 1 999) (i + 3)) = none := by simp only [stp_z c0, stp_z c1, stp_z c2, stp_z c3]
          refine ⟨_, ?_, fd3, fz3, by rw [hX]; exact hp3, fun _ => ?_⟩
          · rw [hX]
            simp (disch := omega) only [f_X5_readHeat, P3, PX, P4, A4, g0, decide_eq_true c0, v0 c0, g1, decide_eq_true c1, v1 c1, g2, decide_eq_true c2, v2 c2, g3, decide_eq_true c3, v3 c3, e_b, bI_t, i10, if_true, if_false, mw_1, e_isb1, Option.isNone]
          · unfold FS at f1 f2 f3
            refine ⟨?_, ?_, ?_, ?_⟩
            all_goals simp (disch := omega) only [st_cell, st_self, f1, f2, f3]
theorem c_powr {N : Nat → Nat → Int32} {r : Int64 × UInt64} {t : Nat → Nat} {len i d : Nat} (hd : d < 4) (h : PC N t len i) : ∃ N', f_X5_readPower 3 (nI d) (mw N r) = some (bI (stp (stp (stp none (numE t len i 0 99) i) (numE t len (i + 1) 0 4) (i + 1)) (numE t len (i + 2) 0 99) (i + 2)).isNone, mw N' r) ∧ FD d N N' ∧ FZ 9 11 N N' ∧ CX N' t len (stp (stp (stp none (numE t len i 0 99) i) (numE t len (i + 1) 0 4) (i + 1)) (numE t len (i + 2) 0 99) (i + 2)) (i + 3) ∧ ((stp (stp (stp none (numE t len i 0 99) i) (numE t len (i + 1) 0 4) (i + 1)) (numE t len (i + 2) 0 99) (i + 2)) = none → N' 9 d = nI (VV t len i) ∧ N' 10 d = nI (VV t len (i + 1)) ∧ N' 11 d = nI (VV t len (i + 2))) := by
  obtain ⟨N0, g0, ⟨f0, p0, q0⟩, v0⟩ := c_num (r := r) (x := 0) (y := 99) (lo := 0) (hi := 99) rfl rfl (by omega) (by omega) h
  by_cases c0 : numE t len i 0 99 = 0
  rotate_left
  · have hX : (stp (stp (stp none (numE t len i 0 99) i) (numE t len (i + 1) 0 4) (i + 1)) (numE t len (i + 2) 0 99) (i + 2)) = some (numE t len i 0 99, i) := by simp only [stp_n c0, stp_e]
    refine ⟨N0, ?_, FD_S f0, FZ_S f0, by rw [hX]; exact ⟨c0, q0 c0⟩, fun z => by rw [hX] at z; cases z⟩
    rw [hX]
    simp (disch := omega) only [f_X5_readPower, P3, PX, P4, A4, g0, decide_eq_false c0, e_b, bI_t, bI_f, i10, if_true, if_false, mw_1, e_isb0, Option.isNone]
  · have hp0 : PC (st N0 9 d (nI (VV t len i))) t len (i + 1) := PC_s (by omega) (by omega) (p0 c0)
    have fd0 : FD d N (st N0 9 d (nI (VV t len i))) := FD_t (FD_S f0) (FD_w (by omega) (by omega))
    have fz0 : FZ 9 11 N (st N0 9 d (nI (VV t len i))) := FZ_t (FZ_S f0) (FZ_w (by omega) (by omega))
    obtain ⟨N1, g1, ⟨f1, p1, q1⟩, v1⟩ := c_num (r := r) (x := 0) (y := 4) (lo := 0) (hi := 4) rfl rfl (by omega) (by omega) hp0
    by_cases c1 : numE t len (i + 1) 0 4 = 0
    rotate_left
    · have hX : (stp (stp (stp none (numE t len i 0 99) i) (numE t len (i + 1) 0 4) (i + 1)) (numE t len (i + 2) 0 99) (i + 2)) = some (numE t len (i + 1) 0 4, (i + 1)) := by simp only [stp_z c0, stp_n c1, stp_e]
      refine ⟨N1, ?_, FD_t fd0 (FD_S f1), FZ_t fz0 (FZ_S f1), by rw [hX]; exact ⟨c1, q1 c1⟩, fun z => by rw [hX] at z; cases z⟩
      rw [hX]
      simp (disch := omega) only [f_X5_readPower, P3, PX, P4, A4, g0, decide_eq_true c0, v0 c0, g1, decide_eq_false c1, e_b, bI_t, bI_f, i10, if_true, if_false, mw_1, e_isb0, Option.isNone]
    · have hp1 : PC (st N1 10 d (nI (VV t len (i + 1)))) t len (i + 2) := PC_s (by omega) (by omega) (p1 c1)
      have fd1 : FD d N (st N1 10 d (nI (VV t len (i + 1)))) := FD_t (FD_t fd0 (FD_S f1)) (FD_w (by omega) (by omega))
      have fz1 : FZ 9 11 N (st N1 10 d (nI (VV t len (i + 1)))) := FZ_t (FZ_t fz0 (FZ_S f1)) (FZ_w (by omega) (by omega))
      obtain ⟨N2, g2, ⟨f2, p2, q2⟩, v2⟩ := c_num (r := r) (x := 0) (y := 99) (lo := 0) (hi := 99) rfl rfl (by omega) (by omega) hp1
      by_cases c2 : numE t len (i + 2) 0 99 = 0
      rotate_left
      · have hX : (stp (stp (stp none (numE t len i 0 99) i) (numE t len (i + 1) 0 4) (i + 1)) (numE t len (i + 2) 0 99) (i + 2)) = some (numE t len (i + 2) 0 99, (i + 2)) := by simp only [stp_z c0, stp_z c1, stp_n c2, stp_e]
        refine ⟨N2, ?_, FD_t fd1 (FD_S f2), FZ_t fz1 (FZ_S f2), by rw [hX]; exact ⟨c2, q2 c2⟩, fun z => by rw [hX] at z; cases z⟩
        rw [hX]
        simp (disch := omega) only [f_X5_readPower, P3, PX, P4, A4, g0, decide_eq_true c0, v0 c0, g1, decide_eq_true c1, v1 c1, g2, decide_eq_false c2, e_b, bI_t, bI_f, i10, if_true, if_false, mw_1, e_isb0, Option.isNone]
      · have hp2 : PC (st N2 11 d (nI (VV t len (i + 2)))) t len (i + 3) := PC_s (by omega) (by omega) (p2 c2)
        have fd2 : FD d N (st N2 11 d (nI (VV t len (i + 2)))) := FD_t (FD_t fd1 (FD_S f2)) (FD_w (by omega) (by omega))
        have fz2 : FZ 9 11 N (st N2 11 d (nI (VV t len (i + 2)))) := FZ_t (FZ_t fz1 (FZ_S f2)) (FZ_w (by omega) (by omega))
        have hX : (stp (stp (stp none (numE t len i 0 99) i) (numE t len (i + 1) 0 4) (i + 1)) (numE t len (i + 2) 0 99) (i + 2)) = none := by simp only [stp_z c0, stp_z c1, stp_z c2]
        refine ⟨_, ?_, fd2, fz2, by rw [hX]; exact hp2, fun _ => ?_⟩
        · rw [hX]
          simp (disch := omega) only [f_X5_readPower, P3, PX, P4, A4, g0, decide_eq_true c0, v0 c0, g1, decide_eq_true c1, v1 c1, g2, decide_eq_true c2, v2 c2, e_b, bI_t, i10, if_true, if_false, mw_1, e_isb1, Option.isNone]
        · unfold FS at f1 f2
          refine ⟨?_, ?_, ?_⟩
          all_goals simp (disch := omega) only [st_cell, st_self, f1, f2]
