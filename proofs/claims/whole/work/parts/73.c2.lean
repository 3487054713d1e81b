theorem law_12 {xs : Nat → Int32} {Ls i T : Nat} {N : Nat → Nat → Int32} {r : Int64 × UInt64} (hL : Ls ≤ 3584) (h7 : 7 * i + 7 ≤ Ls) (hT : T < 2 ^ 28) (hg : GI N T) : ∃ N' r', lawc_12 xs Ls (nI (7 * i)) (mw N r) = some (mw N' r') ∧ GI N' (T + 500) := by
  have hg0 := hg
  obtain ⟨g1, g2, g3, g4, g5⟩ := hg
  simp only [lawc_12, e_lds hL h7]
  generalize xs (7 * i + 1) = x1
  rcases g5 with ⟨u1, u2, u3⟩ | ⟨D, su, A, h, w, H, hS⟩
  · simp only [f_L_level, f_X9_level, P0, G356, g_nD0 r _ u1, e_bxl, e_btl, reduceIte, e_b, f_X10_level, PR, g_isD, g_w0 r _ u2, i10, g_thr, st_self, e_bd]
    exact ⟨_, _, rfl, GI_q (GF_4 (by omega)) hg0⟩
  · obtain ⟨a1, a2, a3, a4, a5, a6, a7, a8, a9, a10, a11⟩ := hS
    have hD := a3.2.1
    cases hr : rg 0 (nI D - 1) x1 with
    | false =>
      simp only [f_L_level, f_X9_level, P0, G356, g_nDf r (x := x1) a1 (by rw [a4.1]; exact hr), e_bxl, e_btl, SX, reduceIte, e_b, f_X10_level, PR, g_isD, a5.1, hr, bI_f, g_w1f r a2, i10, g_thr, st_self, e_bd]
      exact ⟨_, _, rfl, GI_q (GF_4 (by omega)) hg0⟩
    | true =>
      obtain ⟨d, hd, rfl⟩ := rg_n (by omega) hr
      have k1 : N (29 + 17) d = nI (A 13 d) := a6.2.2.2.2.2.2.2.2.2.2.1 d 2 hd (by omega)
      have k2 : rD N d 3 = nI (A 13 d) := a7.2.2.2.2.2.1 d 3 hd (by omega)
      simp (disch := omega) only [f_L_level, f_X9_level, P0, G356, g_nDt r (x := nI d) a1 (by rw [a4.1]; exact hr), SB bL29, SL bL29, k1, e_bx, e_bt, e_let, mw_po, reduceIte, e_b, f_X10_level, PR, g_isD, a5.1, hr, bI_t, g_w1t _ a2, RO, rD_c, k2, g_thr, st_self, e_bd]
      simp only [mw_2, lg_same, reduceIte]
      exact ⟨_, _, rfl, GI_q (GF_4 (by omega)) hg0⟩
theorem law_13 {xs : Nat → Int32} {Ls i T : Nat} {N : Nat → Nat → Int32} {r : Int64 × UInt64} (hL : Ls ≤ 3584) (h7 : 7 * i + 7 ≤ Ls) (hT : T < 2 ^ 28) (hg : GI N T) : ∃ N' r', lawc_13 xs Ls (nI (7 * i)) (mw N r) = some (mw N' r') ∧ GI N' (T + 500) := by
  have hg0 := hg
  obtain ⟨g1, g2, g3, g4, g5⟩ := hg
  simp only [lawc_13, e_lds hL h7]
  generalize xs (7 * i + 1) = x1
  rcases g5 with ⟨u1, u2, u3⟩ | ⟨D, su, A, h, w, H, hS⟩
  · simp only [f_L_energy, f_X9_energy, P0, G356, g_nD0 r _ u1, e_bxl, e_btl, reduceIte, e_b, f_X10_energy, PR, g_isD, g_w0 r _ u2, i10, g_thr, st_self, e_bd]
    exact ⟨_, _, rfl, GI_q (GF_4 (by omega)) hg0⟩
  · obtain ⟨a1, a2, a3, a4, a5, a6, a7, a8, a9, a10, a11⟩ := hS
    have hD := a3.2.1
    cases hr : rg 0 (nI D - 1) x1 with
    | false =>
      simp only [f_L_energy, f_X9_energy, P0, G356, g_nDf r (x := x1) a1 (by rw [a4.1]; exact hr), e_bxl, e_btl, SX, reduceIte, e_b, f_X10_energy, PR, g_isD, a5.1, hr, bI_f, g_w1f r a2, i10, g_thr, st_self, e_bd]
      exact ⟨_, _, rfl, GI_q (GF_4 (by omega)) hg0⟩
    | true =>
      obtain ⟨d, hd, rfl⟩ := rg_n (by omega) hr
      have k1 : N (29 + 18) d = nI (A 14 d) := a6.2.2.2.2.2.2.2.2.2.2.1 d 3 hd (by omega)
      have k2 : rD N d 4 = nI (A 14 d) := a7.2.2.2.2.2.1 d 4 hd (by omega)
      simp (disch := omega) only [f_L_energy, f_X9_energy, P0, G356, g_nDt r (x := nI d) a1 (by rw [a4.1]; exact hr), SB bL29, SL bL29, k1, e_bx, e_bt, e_let, mw_po, reduceIte, e_b, f_X10_energy, PR, g_isD, a5.1, hr, bI_t, g_w1t _ a2, RO, rD_c, k2, g_thr, st_self, e_bd]
      simp only [mw_2, lg_same, reduceIte]
      exact ⟨_, _, rfl, GI_q (GF_4 (by omega)) hg0⟩
theorem law_18 {xs : Nat → Int32} {Ls i T : Nat} {N : Nat → Nat → Int32} {r : Int64 × UInt64} (hL : Ls ≤ 3584) (h7 : 7 * i + 7 ≤ Ls) (hT : T < 2 ^ 28) (hg : GI N T) : ∃ N' r', lawc_18 xs Ls (nI (7 * i)) (mw N r) = some (mw N' r') ∧ GI N' (T + 500) := by
  have hg0 := hg
  obtain ⟨g1, g2, g3, g4, g5⟩ := hg
  simp only [lawc_18]
  rcases g5 with ⟨u1, u2, u3⟩ | ⟨D, su, A, h, w, H, hS⟩
  · simp only [f_L_jobCount, f_X9_jobCount, P0, G356, g_nS0 r u1, e_bxl, e_btl, reduceIte, e_b, f_X10_jobCount, PR, g_w0 r _ u2, i10, g_thr, st_self, e_bd]
    exact ⟨_, _, rfl, GI_q (GF_4 (by omega)) hg0⟩
  · obtain ⟨a1, a2, a3, a4, a5, a6, a7, a8, a9, a10, a11⟩ := hS
    have hD := a3.2.1
    simp (disch := omega) only [f_L_jobCount, f_X9_jobCount, P0, SB bL29, G356, g_nS1 r a1, e_bx, e_bt, e_let, mw_1, mw_po, a6.1.1, reduceIte, e_b, f_X10_jobCount, PR, RLd, g_w1t _ a2, g_thr, st_self, st_cell, a7.1.1, e_bd]
    simp only [mw_2, lg_same, reduceIte]
    exact ⟨_, _, rfl, GI_q (GF_4 (by omega)) hg0⟩
theorem law_3 {xs : Nat → Int32} {Ls i T : Nat} {N : Nat → Nat → Int32} {r : Int64 × UInt64} (hg : GI N T) : ∃ N' r', lawc_3 xs Ls (nI (7 * i)) (mw N r) = some (mw N' r') ∧ GI N' (T + 500) := by
  simp (disch := omega) only [lawc_3, f_X9_errorPosition, P0, mw_1, e_b, f_X10_errorPosition, PR, e_let, mw_pn, st_slot, hg.2.2.1, reduceIte]
  exact ⟨_, _, rfl, GI_q (GF_4 (by omega)) hg⟩
theorem law_23 {xs : Nat → Int32} {Ls i T : Nat} {N : Nat → Nat → Int32} {r : Int64 × UInt64} (hL : Ls ≤ 3584) (h7 : 7 * i + 7 ≤ Ls) (hT : T < 2 ^ 28) (hg : GI N T) : ∃ N' r', lawc_23 xs Ls (nI (7 * i)) (mw N r) = some (mw N' r') ∧ GI N' (T + 500) := by
  have hg0 := hg
  obtain ⟨g1, g2, g3, g4, g5⟩ := hg
  simp only [lawc_23, e_lds hL h7]
  generalize xs (7 * i + 1) = x1
  rcases g5 with ⟨u1, u2, u3⟩ | ⟨D, su, A, h, w, H, hS⟩
  · simp only [f_L_estimate, f_X9_estimate, P0, G356, g_nS0 r u1, e_bxl, e_btl, reduceIte, e_b, f_X10_estimate, PR, IN, g_w0 r _ u2, i10, g_thr, st_self, e_bd]
    exact ⟨_, _, rfl, GI_q (GF_4 (by omega)) hg0⟩
  · obtain ⟨a1, a2, a3, a4, a5, a6, a7, a8, a9, a10, a11⟩ := hS
    have hD := a3.2.1
    cases hr : rg 0 7 x1 with
    | false =>
      simp only [f_L_estimate, f_X9_estimate, P0, G356, g_nS1 r a1, e_bx, g_nRf hr, e_bxl, e_btl, SX, reduceIte, e_b, f_X10_estimate, PR, IN, hr, bI_f, g_w1f r a2, i10, g_thr, st_self, e_bd]
      exact ⟨_, _, rfl, GI_q (GF_4 (by omega)) hg0⟩
    | true =>
      obtain ⟨k, _, hk, rfl⟩ := rg_t (a := 0) (b := 7) (by omega) (by omega) hr
      have k1 : N (29 + 12) k = nI (A 20 k) := a6.2.2.2.2.2.2.2.1 k (by omega)
      have k2 : N 337 (3 + k) = nI (A 20 k) := a7.2.2.2.1 k (by omega)
      simp (disch := omega) only [f_L_estimate, f_X9_estimate, P0, G356, g_nS1 r a1, g_nRt hr, SB bL29, SL bL29, k1, e_bx, e_bt, e_let, mw_po, reduceIte, e_b, f_X10_estimate, PR, AR, IN, hr, bI_t, g_w1t _ a2, nI_3a, st_cell, k2, g_thr, st_self, e_bd]
      simp only [mw_2, lg_same, reduceIte]
      exact ⟨_, _, rfl, GI_q (GF_4 (by omega)) hg0⟩
