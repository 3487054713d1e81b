theorem c_sys {N : Nat → Nat → Int32} {r : Int64 × UInt64} {t : Nat → Nat} {len : Nat} (h : PC N t len 0) : ∃ N', f_X5_readSystem 3 (mw N r) = some (bI (sysX t len).isNone, mw N' r) ∧ (∀ a, a ≠ 3 → a ≠ 16 → a ≠ 4 → N' a = N a) ∧ CX N' t len (sysX t len) 3 ∧ (sysX t len = none → N' 4 0 = nI (VV t len 1)) := by
  have hsd : sysX t len = sq (stp none (wrdE t len 1 0) 0) (sq (stp none (numE t len 1 0 9999) 1) (stp none (semE t len 2) 2)) := rfl
  obtain ⟨N0, g0, f0, p0, q0⟩ := c_wrd (r := r) (c := 1) (by omega) h
  by_cases c0 : wrdE t len 1 0 = 0
  rotate_left
  · have hx : sysX t len = some (wrdE t len 1 0, 0) := by rw [hsd]; exact sq_s (stp_n c0)
    rw [hx]
    refine ⟨N0, ?_, fun a q1 q2 _ => f0 a q1 q2, ⟨c0, q0 c0⟩, fun z => by cases z⟩
    simp only [f_X5_readSystem, P3, g0, decide_eq_false c0, e_b, bI_f, if_true, e_isb0, Option.isNone]
  have s0 : stp none (wrdE t len 1 0) 0 = none := stp_z c0
  obtain ⟨N1, g1, ⟨f1, p1, q1⟩, v1⟩ := c_num (r := r) (x := 0) (y := 9999) (lo := 0) (hi := 9999) rfl rfl (by omega) (by omega) (p0 c0)
  by_cases c1 : numE t len 1 0 9999 = 0
  rotate_left
  · have hx : sysX t len = some (numE t len 1 0 9999, 1) := by rw [hsd, sq_n s0]; exact sq_s (stp_n c1)
    rw [hx]
    refine ⟨N1, ?_, fun a q1 q2 _ => FS_t f0 f1 a q1 q2, ⟨c1, q1 c1⟩, fun z => by cases z⟩
    simp only [f_X5_readSystem, P3, g0, decide_eq_true c0, e_b, bI_t, i10, if_false, g1, decide_eq_false c1, bI_f, if_true, e_isb0, Option.isNone]
  have s1 : stp none (numE t len 1 0 9999) 1 = none := stp_z c1
  have P1 : PC (st N1 4 0 (nI (VV t len 1))) t len 2 := PC_s (by omega) (by omega) (p1 c1)
  obtain ⟨N2, g2, f2, p2, q2⟩ := c_sem (r := r) P1
  have hF : ∀ a, a ≠ 3 → a ≠ 16 → a ≠ 4 → N2 a = N a := fun a q1 q2 q3 => by rw [f2 a q1 q2, st_cell q3, FS_t f0 f1 a q1 q2]
  have hrun : f_X5_readSystem 3 (mw N r) = some (bI (decide (semE t len 2 = 0)), mw N2 r) := by
    simp (disch := omega) only [f_X5_readSystem, P3, PX, g0, decide_eq_true c0, e_b, bI_t, i10, if_false, g1, decide_eq_true c1, mw_1, v1 c1, e_let, mw_pn, g2, bI_isb]
  have hx : sysX t len = stp none (semE t len 2) 2 := by rw [hsd, sq_n s0, sq_n s1]
  rw [hx]
  by_cases c2 : semE t len 2 = 0
  · rw [stp_z c2]
    exact ⟨N2, by rw [hrun, decide_eq_true c2]; rfl, hF, p2 c2, fun _ => by rw [f2 4 (by omega) (by omega), st_self]⟩
  · rw [stp_n c2]
    exact ⟨N2, by rw [hrun, decide_eq_false c2]; rfl, hF, ⟨c2, q2 c2⟩, fun z => by cases z⟩
def prX (t : Nat → Nat) (len : Nat) : Option (Nat × Nat) := sq (sysX t len) (dmR t len 4 0).1
theorem c_parse {N : Nat → Nat → Int32} {r : Int64 × UInt64} {t : Nat → Nat} {len : Nat} (hc : CB N t len) : ∃ N', f_X5_parseText 3 (mw N r) = some (bI (prX t len).isNone, mw N' r) ∧ (∀ a, (a < 3 ∨ 16 < a) → N' a = N a) ∧ (∀ e, prX t len = some e → e.1 ≠ 0 ∧ ER N' t len e.1 e.2) ∧ (prX t len = none → N' 3 2 = -1 ∧ N' 4 0 = nI (VV t len 1) ∧ N' 4 1 = nI (dmR t len 4 0).2 ∧ 1 ≤ (dmR t len 4 0).2 ∧ (dmR t len 4 0).2 ≤ 4 ∧ ∀ e, e < (dmR t len 4 0).2 → DCd N' t len e) := by
  have c2 : CB (st (st N 3 1 0) 3 2 (-1)) t len := CB_x (by simp (disch := omega) only [st_cell]) (by simp (disch := omega) only [st_cell]) hc
  have c3 : CB (st (st (st N 3 1 0) 3 2 (-1)) 16 3 0) t len := CB_x (st_cell (by omega)) (st_cell (by omega)) c2
  obtain ⟨N1, g1, h2, h3, h4, h5⟩ := g_crn (r := r) (p := 0) c3 (Nat.zero_le _) (st_self _ _ _ _)
  have P0' : PC N1 t len 0 := ⟨CB_x (h5 1 (by omega)) (h5 2 (by omega)) c3, h2, h3, h4, by rw [h5 3 (by omega), st_cell (by omega), st_self]⟩
  have hfr : ∀ a, a ≠ 3 → a ≠ 16 → N1 a = N a := fun a q1 q2 => by rw [h5 a q2, st_cell q2, st_cell q1, st_cell q1]
  obtain ⟨N2, g2, f2, x2, v2⟩ := c_sys (r := r) P0'
  unfold prX
  cases c1 : sysX t len with
  | some e =>
    rw [c1] at g2 x2
    refine ⟨N2, ?_, fun a ha => by rw [f2 a (by omega) (by omega) (by omega), hfr a (by omega) (by omega)], fun e z => by cases z; exact x2, fun z => by cases z⟩
    simp (disch := omega) only [f_X5_parseText, f_X7_readFirst, P3, PX, e_let, mw_pn, g1, e_bv, g2, Option.isNone, bI_f, e_b, if_true, e_isb0, sq]
  | none =>
    rw [c1] at g2 x2
    obtain ⟨N3, g3, f3, k3, v3⟩ := c_par (r := r) (t := t) (len := len) 4 0 3000 N2 (by omega) (by omega) x2 (fun e he => by omega)
    have g3' : lp_X5_parseText_28 3 3000 (0, mw N2 r) = some (bI (dmR t len 4 0).1.isNone, mw N3 r) := g3
    refine ⟨N3, ?_, fun a ha => by rw [f3.1 a (by omega) (by omega) (by omega), f2 a (by omega) (by omega) (by omega), hfr a (by omega) (by omega)], k3, fun z => ?_⟩
    · simp (disch := omega) only [f_X5_parseText, f_X7_readFirst, P3, PX, e_let, mw_pn, g1, e_bv, g2, Option.isNone, bI_t, i10, e_b, if_false, g3']
      rfl
    · obtain ⟨y1, y2, y3, y4, y5⟩ := v3 z
      exact ⟨y5, by rw [f3.2 0 (by omega)]; exact v2 c1, y1, y2, y3, y4⟩
