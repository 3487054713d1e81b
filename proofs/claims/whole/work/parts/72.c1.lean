theorem GI_q {N N' : Nat → Nat → Int32} {T : Nat} (hf : GF N N') (hg : GI N T) : GI N' (T + 500) := GI_mono (by omega) (GI_ext hf hg)
theorem law_10 {xs : Nat → Int32} {Ls i T : Nat} {N : Nat → Nat → Int32} {r : Int64 × UInt64} (hL : Ls ≤ 3584) (h7 : 7 * i + 7 ≤ Ls) (hT : T < 2 ^ 28) (hg : GI N T) : ∃ N' r', lawc_10 xs Ls (nI (7 * i)) (mw N r) = some (mw N' r') ∧ GI N' (T + 500) := by
  have hg0 := hg
  obtain ⟨g1, g2, g3, g4, g5⟩ := hg
  simp only [lawc_10]
  rcases g5 with ⟨u1, u2, u3⟩ | ⟨D, su, A, h, w, H, hS⟩
  · simp only [f_L_clock, f_X9_clock, P0, G356, g_nS0 r u1, e_bxl, e_btl, reduceIte, e_b, f_X10_clock, PR, g_w0 r _ u2, i10, g_thr, st_self, e_bd]
    exact ⟨_, _, rfl, GI_q (GF_4 (by omega)) hg0⟩
  · obtain ⟨a1, a2, a3, a4, a5, a6, a7, a8, a9, a10, a11⟩ := hS
    simp (disch := omega) only [f_L_clock, f_X9_clock, P0, G356, g_nS1 r a1, e_bx, e_bt, e_let, mw_1, mw_po, mw_2, a6.1.2.1, reduceIte, e_b, f_X10_clock, PR, RLd, g_w1t _ a2, g_thr, st_self, st_cell, a7.1.2.1, e_bd]
    simp only [mw_2, lg_same, reduceIte]
    exact ⟨_, _, rfl, GI_q (GF_4 (by omega)) hg0⟩
theorem law_11 {xs : Nat → Int32} {Ls i T : Nat} {N : Nat → Nat → Int32} {r : Int64 × UInt64} (hL : Ls ≤ 3584) (h7 : 7 * i + 7 ≤ Ls) (hT : T < 2 ^ 28) (hg : GI N T) : ∃ N' r', lawc_11 xs Ls (nI (7 * i)) (mw N r) = some (mw N' r') ∧ GI N' (T + 500) := by
  have hg0 := hg
  obtain ⟨g1, g2, g3, g4, g5⟩ := hg
  simp only [lawc_11, e_lds hL h7]
  generalize xs (7 * i + 1) = x1
  rcases g5 with ⟨u1, u2, u3⟩ | ⟨D, su, A, h, w, H, hS⟩
  · simp only [f_L_temperature, f_X9_temperature, P0, G356, g_nD0 r _ u1, e_bxl, e_btl, reduceIte, e_b, f_X10_temperature, PR, g_isD, g_w0 r _ u2, i10, g_thr, st_self, e_bd]
    exact ⟨_, _, rfl, GI_q (GF_4 (by omega)) hg0⟩
  · obtain ⟨a1, a2, a3, a4, a5, a6, a7, a8, a9, a10, a11⟩ := hS
    have hD := a3.2.1
    cases hr : rg 0 (nI D - 1) x1 with
    | false =>
      simp only [f_L_temperature, f_X9_temperature, P0, G356, g_nDf r (x := x1) a1 (by rw [a4.1]; exact hr), e_bxl, e_btl, SX, reduceIte, e_b, f_X10_temperature, PR, g_isD, a5.1, hr, bI_f, g_w1f r a2, i10, g_thr, st_self, e_bd]
      exact ⟨_, _, rfl, GI_q (GF_4 (by omega)) hg0⟩
    | true =>
      obtain ⟨d, hd, rfl⟩ := rg_n (by omega) hr
      have k1 : N (29 + 16) d = nI (A 12 d) := a6.2.2.2.2.2.2.2.2.2.2.1 d 1 hd (by omega)
      have k2 : rD N d 2 = nI (A 12 d) := a7.2.2.2.2.2.1 d 2 hd (by omega)
      simp (disch := omega) only [f_L_temperature, f_X9_temperature, P0, G356, g_nDt r (x := nI d) a1 (by rw [a4.1]; exact hr), SB bL29, SL bL29, k1, e_bx, e_bt, e_let, mw_po, reduceIte, e_b, f_X10_temperature, PR, g_isD, a5.1, hr, bI_t, g_w1t _ a2, RO, rD_c, k2, g_thr, st_self, e_bd]
      simp only [mw_2, lg_same, reduceIte]
      exact ⟨_, _, rfl, GI_q (GF_4 (by omega)) hg0⟩
