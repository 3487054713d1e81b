theorem rg_0 (x : Int32) : rg 0 (0 - 1) x = false := by
  cases h : rg 0 (0 - 1) x with
  | false => rfl
  | true =>
    obtain ⟨j, hj, _⟩ := rg_n (n := 0) (by omega) h
    omega
theorem rg_8 {x : Int32} (h : rg 0 8 x = true) : x = 0 ∨ x = 1 ∨ x = 2 ∨ x = 3 ∨ x = 4 ∨ x = 5 ∨ x = 6 ∨ x = 7 ∨ x = 8 := by
  obtain ⟨j, _, h2, rfl⟩ := rg_t (a := 0) (b := 8) (by omega) (by omega) h
  have : j = 0 ∨ j = 1 ∨ j = 2 ∨ j = 3 ∨ j = 4 ∨ j = 5 ∨ j = 6 ∨ j = 7 ∨ j = 8 := by omega
  rcases this with rfl | rfl | rfl | rfl | rfl | rfl | rfl | rfl | rfl
  · exact .inl rfl
  · exact .inr (.inl rfl)
  · exact .inr (.inr (.inl rfl))
  · exact .inr (.inr (.inr (.inl rfl)))
  · exact .inr (.inr (.inr (.inr (.inl rfl))))
  · exact .inr (.inr (.inr (.inr (.inr (.inl rfl)))))
  · exact .inr (.inr (.inr (.inr (.inr (.inr (.inl rfl))))))
  · exact .inr (.inr (.inr (.inr (.inr (.inr (.inr (.inl rfl)))))))
  · exact .inr (.inr (.inr (.inr (.inr (.inr (.inr (.inr rfl)))))))
theorem rg_7 {x : Int32} (h : rg 0 7 x = true) : x = 0 ∨ x = 1 ∨ x = 2 ∨ x = 3 ∨ x = 4 ∨ x = 5 ∨ x = 6 ∨ x = 7 := by
  obtain ⟨j, _, h2, rfl⟩ := rg_t (a := 0) (b := 7) (by omega) (by omega) h
  have : j = 0 ∨ j = 1 ∨ j = 2 ∨ j = 3 ∨ j = 4 ∨ j = 5 ∨ j = 6 ∨ j = 7 := by omega
  rcases this with rfl | rfl | rfl | rfl | rfl | rfl | rfl | rfl
  · exact .inl rfl
  · exact .inr (.inl rfl)
  · exact .inr (.inr (.inl rfl))
  · exact .inr (.inr (.inr (.inl rfl)))
  · exact .inr (.inr (.inr (.inr (.inl rfl))))
  · exact .inr (.inr (.inr (.inr (.inr (.inl rfl)))))
  · exact .inr (.inr (.inr (.inr (.inr (.inr (.inl rfl))))))
  · exact .inr (.inr (.inr (.inr (.inr (.inr (.inr rfl))))))
theorem LQ : (((1 : Int32) = 0) = False) ∧ (((2 : Int32) = 0) = False) ∧ (((2 : Int32) = 1) = False) ∧ (((3 : Int32) = 0) = False) ∧ (((3 : Int32) = 1) = False) ∧ (((3 : Int32) = 2) = False) ∧ (((4 : Int32) = 0) = False) ∧ (((4 : Int32) = 1) = False) ∧ (((4 : Int32) = 2) = False) ∧ (((4 : Int32) = 3) = False) ∧ (((5 : Int32) = 0) = False) ∧ (((5 : Int32) = 1) = False) ∧ (((5 : Int32) = 2) = False) ∧ (((5 : Int32) = 3) = False) ∧ (((5 : Int32) = 4) = False) ∧ (((6 : Int32) = 0) = False) ∧ (((6 : Int32) = 1) = False) ∧ (((6 : Int32) = 2) = False) ∧ (((6 : Int32) = 3) = False) ∧ (((6 : Int32) = 4) = False) ∧ (((6 : Int32) = 5) = False) ∧ (((7 : Int32) = 0) = False) ∧ (((7 : Int32) = 1) = False) ∧ (((7 : Int32) = 2) = False) ∧ (((7 : Int32) = 3) = False) ∧ (((7 : Int32) = 4) = False) ∧ (((7 : Int32) = 5) = False) ∧ (((7 : Int32) = 6) = False) ∧ (((8 : Int32) = 0) = False) ∧ (((8 : Int32) = 1) = False) ∧ (((8 : Int32) = 2) = False) ∧ (((8 : Int32) = 3) = False) ∧ (((8 : Int32) = 4) = False) ∧ (((8 : Int32) = 5) = False) ∧ (((8 : Int32) = 6) = False) ∧ (((8 : Int32) = 7) = False) :=
  ⟨eq_false (by decide), eq_false (by decide), eq_false (by decide), eq_false (by decide), eq_false (by decide), eq_false (by decide), eq_false (by decide), eq_false (by decide), eq_false (by decide), eq_false (by decide), eq_false (by decide), eq_false (by decide), eq_false (by decide), eq_false (by decide), eq_false (by decide), eq_false (by decide), eq_false (by decide), eq_false (by decide), eq_false (by decide), eq_false (by decide), eq_false (by decide), eq_false (by decide), eq_false (by decide), eq_false (by decide), eq_false (by decide), eq_false (by decide), eq_false (by decide), eq_false (by decide), eq_false (by decide), eq_false (by decide), eq_false (by decide), eq_false (by decide), eq_false (by decide), eq_false (by decide), eq_false (by decide), eq_false (by decide)⟩
theorem limC_nI {x : Nat} (h : x ≤ 99999) : limC x = nI x := if_neg (by omega)
theorem law_14 {xs : Nat → Int32} {Ls i T : Nat} {N : Nat → Nat → Int32} {r : Int64 × UInt64} (hL : Ls ≤ 3584) (h7 : 7 * i + 7 ≤ Ls) (hT : T < 2 ^ 28) (hg : GI N T) : ∃ N' r', lawc_14 xs Ls (nI (7 * i)) (mw N r) = some (mw N' r') ∧ GI N' (T + 500) := by
  have hg0 := hg
  obtain ⟨g1, g2, g3, g4, g5⟩ := hg
  simp only [lawc_14, e_lds hL h7]
  generalize xs (7 * i + 1) = x1
  generalize xs (7 * i + 2) = x2
  rcases g5 with ⟨u1, u2, u3⟩ | ⟨D, su, A, h, w, H, hS⟩
  · simp only [f_L_domainValue, f_X9_domainValue, P0, G356, g_nD0 r _ u1, e_bxl, e_btl, reduceIte, e_b, f_X10_domainValue, PR, g_isD, u3, rg_0, bI_f, e_bd, g_w0 r _ u2, i10, g_thr, st_self]
    exact ⟨_, _, rfl, GI_q (GF_4 (by omega)) hg0⟩
  · obtain ⟨a1, a2, a3, a4, a5, a6, a7, a8, a9, a10, a11⟩ := hS
    have hD := a3.2.1
    cases hr : rg 0 (nI D - 1) x1 with
    | false =>
      simp only [f_L_domainValue, f_X9_domainValue, P0, G356, g_nDf r (x := x1) a1 (by rw [a4.1]; exact hr), e_bxl, e_btl, SX, reduceIte, e_b, f_X10_domainValue, PR, g_isD, a5.1, hr, bI_f, e_bd, g_w1f r a2, i10, g_thr, st_self]
      exact ⟨_, _, rfl, GI_q (GF_4 (by omega)) hg0⟩
    | true =>
      obtain ⟨d, hd, rfl⟩ := rg_n (by omega) hr
      have hc : f_X9_needDomain 0 (nI d) (mw N r) = some (.inr (), mw N r) := g_nDt r a1 (by rw [a4.1]; exact hr)
      cases hr2 : rg 0 8 x2 with
      | false =>
        have n0 : (x2 = 0) = False := eq_false (fun q => by rw [q] at hr2; exact absurd hr2 (by decide))
        have n1 : (x2 = 1) = False := eq_false (fun q => by rw [q] at hr2; exact absurd hr2 (by decide))
        have n2 : (x2 = 2) = False := eq_false (fun q => by rw [q] at hr2; exact absurd hr2 (by decide))
        have n3 : (x2 = 3) = False := eq_false (fun q => by rw [q] at hr2; exact absurd hr2 (by decide))
        have n4 : (x2 = 4) = False := eq_false (fun q => by rw [q] at hr2; exact absurd hr2 (by decide))
        have n5 : (x2 = 5) = False := eq_false (fun q => by rw [q] at hr2; exact absurd hr2 (by decide))
        have n6 : (x2 = 6) = False := eq_false (fun q => by rw [q] at hr2; exact absurd hr2 (by decide))
        have n7 : (x2 = 7) = False := eq_false (fun q => by rw [q] at hr2; exact absurd hr2 (by decide))
        have n8 : (x2 = 8) = False := eq_false (fun q => by rw [q] at hr2; exact absurd hr2 (by decide))
        simp only [f_L_domainValue, f_X9_domainValue, P0, G356, hc, e_bx, n0, n1, n2, n3, n4, n5, n6, n7, n8, e_btl, SX, reduceIte, e_b, f_X10_domainValue, PR, g_isD, a5.1, hr, bI_t, i10, IN, hr2, bI_f, e_bd, g_w1f r a2, g_thr, st_self]
        exact ⟨_, _, rfl, GI_q (GF_4 (by omega)) hg0⟩
      | true =>
        have b13 := a6.2.2.2.2.2.2.2.2.2.2.1
        have b8 := a7.2.2.2.2.2.1
        have k0 : N (29 + 19) d = nI (A 15 d) := b13 d 4 hd (by omega)
        have k1 : N (29 + 20) d = nI (A 16 d) := b13 d 5 hd (by omega)
        have k2 : N (29 + 21) d = nI (A 17 d) := b13 d 6 hd (by omega)
        have k3 : N (29 + 22) d = nI (A 18 d) := b13 d 7 hd (by omega)
        have k4 : N (29 + 14) d = nI (A 10 d) := (a6.2.2.2.2.2.2.2.2.2.1 d hd).trans (limC_nI (a8.2 d hd))
        have k5 : N (29 + 15) d = nI (A 11 d) := b13 d 0 hd (by omega)
        have m0 : rD N d 5 = nI (A 15 d) := b8 d 5 hd (by omega)
        have m1 : rD N d 6 = nI (A 16 d) := b8 d 6 hd (by omega)
        have m2 : rD N d 7 = nI (A 17 d) := b8 d 7 hd (by omega)
        have m3 : rD N d 8 = nI (A 18 d) := b8 d 8 hd (by omega)
        have m4 : rD N d 0 = nI (A 10 d) := b8 d 0 hd (by omega)
        have m5 : rD N d 1 = nI (A 11 d) := b8 d 1 hd (by omega)
        have s1 := a4.2 d hd
        have s2 := a5.2 d hd
        rcases rg_8 hr2 with rfl | rfl | rfl | rfl | rfl | rfl | rfl | rfl | rfl
        all_goals
          simp (disch := omega) only [f_L_domainValue, f_X9_domainValue, P0, P17, A17, G356, hc, SB bL29, SL bL29, k0, k1, k2, k3, k4, k5, s1.1, s1.2.1, s1.2.2.2.2.2.1, e_bx, e_bt, e_let, mw_po, reduceIte, e_b, f_X10_domainValue, PR, AR, g_isD, a5.1, hr, bI_t, IN, hr2, g_w1t _ a2, RO, rD_c, st_cell, m0, m1, m2, m3, m4, m5, s2.1, s2.2.1, s2.2.2.2.2.2.1, g_thr, st_self, e_bd, LQ]
          simp only [mw_2, lg_same, reduceIte]
          exact ⟨_, _, rfl, GI_q (GF_4 (by omega)) hg0⟩
theorem law_15 {xs : Nat → Int32} {Ls i T : Nat} {N : Nat → Nat → Int32} {r : Int64 × UInt64} (hL : Ls ≤ 3584) (h7 : 7 * i + 7 ≤ Ls) (hT : T < 2 ^ 28) (hg : GI N T) : ∃ N' r', lawc_15 xs Ls (nI (7 * i)) (mw N r) = some (mw N' r') ∧ GI N' (T + 500) := by
  have hg0 := hg
  obtain ⟨g1, g2, g3, g4, g5⟩ := hg
  simp only [lawc_15, e_lds hL h7]
  generalize xs (7 * i + 1) = x1
  generalize xs (7 * i + 2) = x2
  rcases g5 with ⟨u1, u2, u3⟩ | ⟨D, su, A, h, w, H, hS⟩
  · simp only [f_L_jobOn, f_X9_jobOn, P0, G356, g_nD0 r _ u1, e_bxl, e_btl, reduceIte, e_b, f_X10_jobOn, PR, g_isD, u3, rg_0, bI_f, e_bd, g_w0 r _ u2, i10, g_thr, st_self]
    exact ⟨_, _, rfl, GI_q (GF_4 (by omega)) hg0⟩
  · obtain ⟨a1, a2, a3, a4, a5, a6, a7, a8, a9, a10, a11⟩ := hS
    have hD := a3.2.1
    cases hr : rg 0 (nI D - 1) x1 with
    | false =>
      simp only [f_L_jobOn, f_X9_jobOn, P0, G356, g_nDf r (x := x1) a1 (by rw [a4.1]; exact hr), e_bxl, e_btl, SX, reduceIte, e_b, f_X10_jobOn, PR, g_isD, a5.1, hr, bI_f, e_bd, g_w1f r a2, i10, g_thr, st_self]
      exact ⟨_, _, rfl, GI_q (GF_4 (by omega)) hg0⟩
    | true =>
      obtain ⟨d, hd, rfl⟩ := rg_n (by omega) hr
      have hc : f_X9_needDomain 0 (nI d) (mw N r) = some (.inr (), mw N r) := g_nDt r a1 (by rw [a4.1]; exact hr)
      have s1 := a4.2 d hd
      have s2 := a5.2 d hd
      have hB2 := a3.2.2 d hd
      cases hr2 : rg 0 (nI (su 0 d) - 1) x2 with
      | false =>
        simp (disch := omega) only [f_L_jobOn, f_X9_jobOn, P0, P17, A17, G356, hc, s1.1, e_bx, g_nRf hr2, e_bxl, e_btl, SX, reduceIte, e_b, f_X10_jobOn, PR, AR, s2.1, g_isD, a5.1, hr, bI_t, i10, IN, hr2, bI_f, e_bd, g_w1f r a2, g_thr, st_self]
        exact ⟨_, _, rfl, GI_q (GF_4 (by omega)) hg0⟩
      | true =>
        obtain ⟨e, he, rfl⟩ := rg_n (by omega) hr2
        have k1 : N (29 + 24) (d * 4 + e) = enc (-2) (oA (A (40 + d) e)) := a6.2.2.2.2.2.2.2.2.2.2.2 d e hd (by omega)
        have k2 : rD N d (9 + e) = enc (-1) (oA (A (40 + d) e)) := a7.2.2.2.2.2.2 d e hd (by omega)
        simp (disch := omega) only [f_L_jobOn, f_X9_jobOn, P0, P17, A17, G356, hc, s1.1, SB bL29, SL bL29, nI_m4, nI_add, k1, e_bx, g_nRt hr2, e_bt, e_let, mw_po, reduceIte, e_b, f_X10_jobOn, PR, AR, s2.1, g_isD, a5.1, hr, bI_t, i10, IN, hr2, g_w1t _ a2, RO, rD_c, st_cell, k2, e_bd]
        by_cases h0 : A (40 + d) e = 0
        · rw [h0, oA_0]
          simp only [enc, reduceIte, e_bd, g_thr, st_self, e_b, mw_2, lg_same]
          exact ⟨_, _, rfl, GI_q (GF_4 (by omega)) hg0⟩
        · obtain ⟨j, hj⟩ : ∃ j, A (40 + d) e = j + 1 := ⟨A (40 + d) e - 1, by omega⟩
          have hj2 := a8.1.1.2.2.2.1 d e j hd hj
          have hc24 := a8.1.1.1.1
          have hn := eq_false (nI_nm1 (j := j) (by omega))
          rw [hj, oA_s]
          simp only [enc, hn, reduceIte, e_bd, g_thr, st_self, e_b, mw_2, lg_same]
          exact ⟨_, _, rfl, GI_q (GF_4 (by omega)) hg0⟩
