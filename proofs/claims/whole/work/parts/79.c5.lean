theorem law_28 {xs : Nat → Int32} {Ls i T : Nat} {N : Nat → Nat → Int32} {r : Int64 × UInt64} (hL : Ls ≤ 3584) (h7 : 7 * i + 7 ≤ Ls) (hT : T ≤ 256000) (hg : GI N T) : ∃ N' r', lawc_28 xs Ls (nI (7 * i)) (mw N r) = some (mw N' r') ∧ GI N' (T + 500) := by
  have hg0 := hg
  obtain ⟨g1, g2, g3, g4, g5⟩ := hg
  simp only [lawc_28, e_lds hL h7]
  generalize xs (7 * i + 1) = x1
  generalize xs (7 * i + 2) = x2
  rcases g5 with ⟨u1, u2, u3⟩ | ⟨D, su, A, h, w, H, hS⟩
  · simp only [f_L_peak, f_X9_peak, P0, G356, g_nD0 r _ u1, e_bxl, e_btl, reduceIte, e_b, f_X10_peak, PR, g_isD, u3, rg_0, bI_f, e_bd, g_w0 r _ u2, i10, g_thr, st_self]
    exact ⟨_, _, rfl, GI_q (GF_4 (by omega)) hg0⟩
  · obtain ⟨a1, a2, a3, a4, a5, a6, a7, a8, a9, a10, a11⟩ := hS
    have hD := a3.2.1
    have hc24 := a8.1.1.1.1
    cases hr : rg 0 (nI D - 1) x1 with
    | false =>
      simp only [f_L_peak, f_X9_peak, P0, G356, g_nDf r (x := x1) a1 (by rw [a4.1]; exact hr), e_bxl, e_btl, SX, reduceIte, e_b, f_X10_peak, PR, g_isD, a5.1, hr, bI_f, e_bd, g_w1f r a2, i10, g_thr, st_self]
      exact ⟨_, _, rfl, GI_q (GF_4 (by omega)) hg0⟩
    | true =>
      obtain ⟨d, hd, rfl⟩ := rg_n (by omega) hr
      have hc : f_X9_needDomain 0 (nI d) (mw N r) = some (.inr (), mw N r) := g_nDt r a1 (by rw [a4.1]; exact hr)
      cases hr2 : rg 1 500 x2 with
      | false =>
        simp only [f_L_peak, f_X9_peak, P0, G356, hc, e_bx, g_nRf hr2, e_bxl, e_btl, SX, reduceIte, e_b, f_X10_peak, PR, g_isD, a5.1, hr, bI_t, i10, IN, hr2, bI_f, e_bd, g_w1f r a2, g_thr, st_self]
        exact ⟨_, _, rfl, GI_q (GF_4 (by omega)) hg0⟩
      | true =>
        obtain ⟨n, hn1, hn, rfl⟩ := rg_t (a := 1) (b := 500) (by omega) (by omega) hr2
        have h12 := (a8.1.1.2.2.1 d hd).2.2.1
        obtain ⟨C1, q1, q2, q3⟩ := cp_C (r := r) bL29 bL54 (by omega) hD hc24 a6
        have k1 : C1 (54 + 16) d = nI (A 12 d) := q2.2.2.2.2.2.2.2.2.2.2.1 d 1 hd (by omega)
        obtain ⟨C2, p1, p3⟩ := pk_C (r := r) a3 hd hn n 0 3000 C1 A T (A 12 d) (by omega) (by omega) (by omega) (SUC_FC (by omega) a4 q3) q2 a8.1.1 h12
        have p1' : lp_X9_peak_37 0 (nI d) (nI n) 3000 (nI (A 12 d), 0, mw C1 r) = some ((nI (pkA su D d n (A 12 d) A)), mw C2 r) := p1
        have hFC : FC 54 N C2 := FC_t q3 p3
        have e6 : ∀ a, 336 ≤ a → C2 a = N a := fun a ha => hFC a (by omega)
        have hRR : RR (st C2 336 4 0) D A := RR_336 (RR_F (e6 337 (by omega)) a7)
        have hSU : SUR (st C2 336 4 0) D su := SUR_4 (by omega) (SUR_F e6 a5)
        have e3 : C2 336 3 = 1 := by rw [e6 336 (by omega)]; exact a2
        have eD : C2 336 5 = nI D := by rw [e6 336 (by omega)]; exact a5.1
        obtain ⟨R2, t1, hFT⟩ := pk_R (r := (Int32.toInt64 (nI (pkA su D d n (A 12 d) A)), r.2)) a3 hd hn n 0 3000 _ A T (A 12 d) (by omega) (by omega) (by omega) (SUR_asi hSU) (RR_asi hD hc24 hRR) a8.1.1 h12
        have t1' : lp_X10_peak_48 336 (nI d) (nI n) 3000 (nI (A 12 d), 0, mw (cyN (st C2 336 4 0) 337 0 351 0 287) (Int32.toInt64 (nI (pkA su D d n (A 12 d) A)), r.2)) = some ((nI (pkA su D d n (A 12 d) A)), mw R2 (Int32.toInt64 (nI (pkA su D d n (A 12 d) A)), r.2)) := t1
        have k2 : rD (cyN (st C2 336 4 0) 337 0 351 0 287) d 2 = nI (A 12 d) := (RR_asi hD hc24 hRR).2.2.2.2.2.1 d 2 hd (by omega)
        have e4 : cyN R2 351 0 337 0 287 336 4 = 0 := by
          rw [cyN_c (by omega), hFT.2 4 (by omega) (by omega) (by omega), cyN_c (by omega), st_self]
        simp (disch := omega) only [f_L_peak, f_X9_peak, P0, G356, hc, SB bL54, SL bL54, g_nRt hr2, q1, k1, p1', e_bx, e_bv, e_bt, e_bd, e_let, mw_po, reduceIte, e_b, f_X10_peak, PR, g_isD, eD, hr, bI_t, i10, IN, hr2, g_w1t _ e3, g_asi, RO, k2, t1', g_tak, g_thr, e4, mw_2, lg_same]
        exact ⟨_, _, rfl, GI_q (GF_t (FC_GF hFC) (GF_t (GF_4 (by omega)) (fore_GF hFT))) hg0⟩
theorem law_29 {xs : Nat → Int32} {Ls i T : Nat} {N : Nat → Nat → Int32} {r : Int64 × UInt64} (hL : Ls ≤ 3584) (h7 : 7 * i + 7 ≤ Ls) (hT : T ≤ 256000) (hg : GI N T) : ∃ N' r', lawc_29 xs Ls (nI (7 * i)) (mw N r) = some (mw N' r') ∧ GI N' (T + 500) := by
  have hg0 := hg
  obtain ⟨g1, g2, g3, g4, g5⟩ := hg
  simp only [lawc_29, e_lds hL h7]
  generalize xs (7 * i + 1) = x1
  rcases g5 with ⟨u1, u2, u3⟩ | ⟨D, su, A, h, w, H, hS⟩
  · simp only [f_L_energyIn, f_X9_energyIn, P0, G356, g_nS0 r u1, e_bxl, e_btl, reduceIte, e_b, f_X10_energyIn, PR, IN, g_w0 r _ u2, i10, g_thr, st_self, e_bd]
    exact ⟨_, _, rfl, GI_q (GF_4 (by omega)) hg0⟩
  · obtain ⟨a1, a2, a3, a4, a5, a6, a7, a8, a9, a10, a11⟩ := hS
    have hD := a3.2.1
    have hc24 := a8.1.1.1.1
    cases hr2 : rg 1 500 x1 with
      | false =>
        simp only [f_L_energyIn, f_X9_energyIn, P0, G356, g_nS1 r a1, e_bx, g_nRf hr2, e_bxl, e_btl, SX, reduceIte, e_b, f_X10_energyIn, PR, IN, hr2, bI_f, e_bd, g_w1f r a2, i10, g_thr, st_self]
        exact ⟨_, _, rfl, GI_q (GF_4 (by omega)) hg0⟩
      | true =>
        obtain ⟨n, hn1, hn, rfl⟩ := rg_t (a := 1) (b := 500) (by omega) (by omega) hr2
        obtain ⟨C1, q1, q2, q3⟩ := cp_C (r := r) bL29 bL54 (by omega) hD hc24 a6
        obtain ⟨C2, p1, p2, p3⟩ := ei_C (r := r) a3 hn n 0 3000 C1 A T (by omega) (by omega) (by omega) (SUC_FC (by omega) a4 q3) q2 a8.1.1
        have p1' : lp_X9_energyIn_25 0 (nI n) 3000 (0, mw C1 r) = some (mw C2 r) := p1
        have hFC : FC 54 N C2 := FC_t q3 p3
        have e6 : ∀ a, 336 ≤ a → C2 a = N a := fun a ha => hFC a (by omega)
        have hRR : RR (st C2 336 4 0) D A := RR_336 (RR_F (e6 337 (by omega)) a7)
        have hSU : SUR (st C2 336 4 0) D su := SUR_4 (by omega) (SUR_F e6 a5)
        have e3 : C2 336 3 = 1 := by rw [e6 336 (by omega)]; exact a2
        have eD : C2 336 5 = nI D := by rw [e6 336 (by omega)]; exact a5.1
        have hX := InvX_it a3 n T A a8.1
        have s17 : C2 17 1 = nI D := by rw [hFC 17 (by omega)]; exact a4.1
        have k1 := es_C (r := r) bL54 hD s17 p2 (E31 (by omega) hX)
        have k2 := es_C (r := r) bL29 hD s17 (RC_ext (fun a _ _ => hFC a (by omega)) a6) (E31 (by omega) a8.1)
        obtain ⟨R2, t1, t2, hFT⟩ := ei_R (r := (Int32.toInt64 (nI (smA (itA su D n A 14) D) - nI (smA (A 14) D)), r.2)) (x := nI (smA (A 14) D)) a3 hn n 0 3000 _ A T (by omega) (by omega) (by omega) (SUR_asi hSU) (RR_asi hD hc24 hRR) a8.1.1
        have t1' : lp_X10_energyIn_29 336 (nI n) (nI (smA (A 14) D)) 3000 (0, mw (cyN (st C2 336 4 0) 337 0 351 0 287) (Int32.toInt64 (nI (smA (itA su D n A 14) D) - nI (smA (A 14) D)), r.2)) = some (mw R2 (Int32.toInt64 (nI (smA (itA su D n A 14) D) - nI (smA (A 14) D)), r.2)) := t1
        have k3 := ae_R (r := (Int32.toInt64 (nI (smA (itA su D n A 14) D) - nI (smA (A 14) D)), r.2)) hD (SUR_asi hSU).1 (RR_asi hD hc24 hRR)
        have k4 := ae_R (r := (Int32.toInt64 (nI (smA (itA su D n A 14) D) - nI (smA (A 14) D)), r.2)) hD (SUR_FT (SUR_asi hSU) hFT).1 t2
        have e4 : cyN R2 351 0 337 0 287 336 4 = 0 := by
          rw [cyN_c (by omega), hFT.2 4 (by omega) (by omega) (by omega), cyN_c (by omega), st_self]
        simp (disch := omega) only [f_L_energyIn, f_X9_energyIn, P0, G356, g_nS1 r a1, g_nRt hr2, q1, p1', k1, k2, Int64.toInt32_sub, lN_i, e_bx, e_bv, e_bt, e_bd, e_let, mw_po, reduceIte, e_b, f_X10_energyIn, PR, IN, hr2, bI_t, g_w1t _ e3, g_asi, k3, t1', k4, g_tak, g_thr, e4, mw_2, lg_same]
        exact ⟨_, _, rfl, GI_q (GF_t (FC_GF hFC) (GF_t (GF_4 (by omega)) (fore_GF hFT))) hg0⟩
theorem law_30 {xs : Nat → Int32} {Ls i T : Nat} {N : Nat → Nat → Int32} {r : Int64 × UInt64} (hL : Ls ≤ 3584) (h7 : 7 * i + 7 ≤ Ls) (hT : T ≤ 256000) (hg : GI N T) : ∃ N' r', lawc_30 xs Ls (nI (7 * i)) (mw N r) = some (mw N' r') ∧ GI N' (T + 500) := by
  have hg0 := hg
  obtain ⟨g1, g2, g3, g4, g5⟩ := hg
  simp only [lawc_30, e_lds hL h7]
  generalize xs (7 * i + 1) = x1
  rcases g5 with ⟨u1, u2, u3⟩ | ⟨D, su, A, h, w, H, hS⟩
  · simp only [f_L_nextThrottle, f_X9_nextThrottle, P0, G356, g_nD0 r _ u1, e_bxl, e_btl, reduceIte, e_b, f_X10_nextThrottle, PR, g_isD, u3, rg_0, bI_f, e_bd, g_w0 r _ u2, i10, g_thr, st_self]
    exact ⟨_, _, rfl, GI_q (GF_4 (by omega)) hg0⟩
  · obtain ⟨a1, a2, a3, a4, a5, a6, a7, a8, a9, a10, a11⟩ := hS
    have hD := a3.2.1
    have hc24 := a8.1.1.1.1
    cases hr : rg 0 (nI D - 1) x1 with
    | false =>
      simp only [f_L_nextThrottle, f_X9_nextThrottle, P0, G356, g_nDf r (x := x1) a1 (by rw [a4.1]; exact hr), e_bxl, e_btl, SX, reduceIte, e_b, f_X10_nextThrottle, PR, g_isD, a5.1, hr, bI_f, e_bd, g_w1f r a2, i10, g_thr, st_self]
      exact ⟨_, _, rfl, GI_q (GF_4 (by omega)) hg0⟩
    | true =>
      obtain ⟨d, hd, rfl⟩ := rg_n (by omega) hr
      have hc : f_X9_needDomain 0 (nI d) (mw N r) = some (.inr (), mw N r) := g_nDt r a1 (by rw [a4.1]; exact hr)
      have h16 := a8.1.2.2 d hd
      obtain ⟨C1, q1, q2, q3⟩ := cp_C (r := r) bL29 bL54 (by omega) hD hc24 a6
      have k1 : N (29 + 20) d = nI (A 16 d) := a6.2.2.2.2.2.2.2.2.2.2.1 d 5 hd (by omega)
      have k2 : N (29 + 21) d = nI (A 17 d) := a6.2.2.2.2.2.2.2.2.2.2.1 d 6 hd (by omega)
      have k1' : C1 (29 + 20) d = nI (A 16 d) := by rw [q3 (29 + 20) (by omega)]; exact k1
      have k2' : C1 (29 + 21) d = nI (A 17 d) := by rw [q3 (29 + 21) (by omega)]; exact k2
      obtain ⟨C2, p1, p3⟩ := nt_C (r := r) (b0 := A 16 d + A 17 d) a3 hd (by omega) 1000 1 3000 C1 A T (by omega) (by omega) (by omega) (SUC_FC (by omega) a4 q3) q2 a8.1
      have p1' : lp_X9_nextThrottle_38 0 (nI d) (nI (A 16 d + A 17 d)) 3000 (1, mw C1 r) = some (.inr (enc (-2) (ntA su D d (A 16 d + A 17 d) 1000 1 A)), mw C2 r) := p1
      have hFC : FC 54 N C2 := FC_t q3 p3
      have e6 : ∀ a, 336 ≤ a → C2 a = N a := fun a ha => hFC a (by omega)
      have hRR : RR (st C2 336 4 0) D A := RR_336 (RR_F (e6 337 (by omega)) a7)
      have hSU : SUR (st C2 336 4 0) D su := SUR_4 (by omega) (SUR_F e6 a5)
      have e3 : C2 336 3 = 1 := by rw [e6 336 (by omega)]; exact a2
      have eD : C2 336 5 = nI D := by rw [e6 336 (by omega)]; exact a5.1
      obtain ⟨R2, t1, hFT⟩ := nt_R (r := (Int32.toInt64 (enc (-2) (ntA su D d (A 16 d + A 17 d) 1000 1 A)), r.2)) (b0 := A 16 d + A 17 d) a3 hd (by omega) 1000 1 3000 _ A T (by omega) (by omega) (by omega) (SUR_asi hSU) (RR_asi hD hc24 hRR) a8.1 rfl
      have t1' : lp_X10_nextThrottle_40 336 (nI d) (nI (A 16 d + A 17 d)) 3000 (-2, 1, mw (cyN (st C2 336 4 0) 337 0 351 0 287) (Int32.toInt64 (enc (-2) (ntA su D d (A 16 d + A 17 d) 1000 1 A)), r.2)) = some ((enc (-2) (ntA su D d (A 16 d + A 17 d) 1000 1 A)), mw R2 (Int32.toInt64 (enc (-2) (ntA su D d (A 16 d + A 17 d) 1000 1 A)), r.2)) := t1
      have k3 : rD (cyN (st C2 336 4 0) 337 0 351 0 287) d 6 = nI (A 16 d) := (RR_asi hD hc24 hRR).2.2.2.2.2.1 d 6 hd (by omega)
      have k4 : rD (cyN (st C2 336 4 0) 337 0 351 0 287) d 7 = nI (A 17 d) := (RR_asi hD hc24 hRR).2.2.2.2.2.1 d 7 hd (by omega)
      have e4 : cyN R2 351 0 337 0 287 336 4 = 0 := by
        rw [cyN_c (by omega), hFT.2 4 (by omega) (by omega) (by omega), cyN_c (by omega), st_self]
      simp (disch := omega) only [f_L_nextThrottle, f_X9_nextThrottle, P0, G356, hc, SB bL54, SL bL54, SB bL29, SL bL29, q1, k1', k2', nI_add, p1', e_bx, e_bv, e_bt, e_bd, e_let, mw_po, reduceIte, e_b, f_X10_nextThrottle, PR, g_isD, eD, hr, bI_t, i10, g_w1t _ e3, g_asi, RO, k3, k4, t1', g_tak, g_thr, e4, mw_2, lg_same]
      exact ⟨_, _, rfl, GI_q (GF_t (FC_GF hFC) (GF_t (GF_4 (by omega)) (fore_GF hFT))) hg0⟩
theorem law_32 {xs : Nat → Int32} {Ls i T : Nat} {N : Nat → Nat → Int32} {r : Int64 × UInt64} (hL : Ls ≤ 3584) (h7 : 7 * i + 7 ≤ Ls) (hT : T ≤ 256000) (hg : GI N T) : ∃ N' r', lawc_32 xs Ls (nI (7 * i)) (mw N r) = some (mw N' r') ∧ GI N' (T + 500) := by
  have hg0 := hg
  obtain ⟨g1, g2, g3, g4, g5⟩ := hg
  simp only [lawc_32, e_lds hL h7]
  generalize xs (7 * i + 1) = x1
  rcases g5 with ⟨u1, u2, u3⟩ | ⟨D, su, A, h, w, H, hS⟩
  · simp only [f_L_coolLimit, f_X9_coolLimit, P0, G356, g_nD0 r _ u1, e_bxl, e_btl, reduceIte, e_b, f_X10_coolLimit, PR, g_isD, u3, rg_0, bI_f, e_bd, g_w0 r _ u2, i10, g_thr, st_self]
    exact ⟨_, _, rfl, GI_q (GF_4 (by omega)) hg0⟩
  · obtain ⟨a1, a2, a3, a4, a5, a6, a7, a8, a9, a10, a11⟩ := hS
    have hD := a3.2.1
    have hc24 := a8.1.1.1.1
    cases hr : rg 0 (nI D - 1) x1 with
    | false =>
      simp only [f_L_coolLimit, f_X9_coolLimit, P0, G356, g_nDf r (x := x1) a1 (by rw [a4.1]; exact hr), e_bxl, e_btl, SX, reduceIte, e_b, f_X10_coolLimit, PR, g_isD, a5.1, hr, bI_f, e_bd, g_w1f r a2, i10, g_thr, st_self]
      exact ⟨_, _, rfl, GI_q (GF_4 (by omega)) hg0⟩
    | true =>
      obtain ⟨d, hd, rfl⟩ := rg_n (by omega) hr
      have hc : f_X9_needDomain 0 (nI d) (mw N r) = some (.inr (), mw N r) := g_nDt r a1 (by rw [a4.1]; exact hr)
      obtain ⟨C1, q1, q2, q3⟩ := cp_C (r := r) bL29 bL54 (by omega) hD hc24 a6
      have hI1 : Inv D su T (up A 10 d 1000000000) := by
        obtain ⟨⟨i1, i2, i3⟩, i4, i5, i6, i7, i8⟩ := a8.1.1
        unfold Inv
        simp (disch := omega) only [up_k]
        refine ⟨⟨i1, i2, i3⟩, i4, ?_, i6, i7, i8⟩
        intro d' hd'
        have := i5 d' hd'
        rw [up_at]
        split
        · exact ⟨.inr rfl, this.2⟩
        · exact this
      have hRC1 := rc_lim (d := d) (x := 1000000000) q2
      rw [show limC 1000000000 = 2147483647 from if_pos rfl] at hRC1
      have hF1 : FC 54 C1 (st C1 (54 + 14) d 2147483647) := FC_s (by omega) (by omega)
      obtain ⟨C2, p1, p2⟩ := cl_C (r := r) a3 hd 1000 0 3000 _ _ T 0 (by omega) (by omega) (by omega) (SUC_FC (by omega) (SUC_FC (by omega) a4 q3) hF1) hRC1 hI1 (by omega)
      have p3 := FC_t hF1 p2
      have p1' : lp_X9_coolLimit_32 0 (nI d) 3000 (0, 0, mw (st C1 (54 + 14) d 2147483647) r) = some (nI (clA su D d 1000 0 (up A 10 d 1000000000)), mw C2 r) := p1
      have hFC : FC 54 N C2 := FC_t q3 p3
      have e6 : ∀ a, 336 ≤ a → C2 a = N a := fun a ha => hFC a (by omega)
      have hRR : RR (st C2 336 4 0) D A := RR_336 (RR_F (e6 337 (by omega)) a7)
      have hSU : SUR (st C2 336 4 0) D su := SUR_4 (by omega) (SUR_F e6 a5)
      have e3 : C2 336 3 = 1 := by rw [e6 336 (by omega)]; exact a2
      have eD : C2 336 5 = nI D := by rw [e6 336 (by omega)]; exact a5.1
      have hcl := clA_le (d := d) a3 hd 1000 0 (up A 10 d 1000000000) T hI1 (by omega)
      have hRR1 : RR (st (st (sD (cyN (st C2 336 4 0) 337 0 351 0 287) d 0 1000000000) 336 32 (nI d)) 336 30 0) D (up A 10 d 1000000000) := RR_336 (RR_336 (rr_D (k := 0) (d := d) (x := 1000000000) (by omega) (by omega) (RR_asi hD hc24 hRR)))
      have hSU1 : SUR (st (st (sD (cyN (st C2 336 4 0) 337 0 351 0 287) d 0 1000000000) 336 32 (nI d)) 336 30 0) D su := SUR_4 (by omega) (SUR_4 (by omega) (SUR_FT (SUR_asi hSU) FT_D))
      have fv : (if nI (clA su D d 1000 0 (up A 10 d 1000000000)) ≤ 99999 then some (nI (clA su D d 1000 0 (up A 10 d 1000000000))) else some (-2)) = some (if clA su D d 1000 0 (up A 10 d 1000000000) ≤ 99999 then nI (clA su D d 1000 0 (up A 10 d 1000000000)) else -2) := by
        by_cases hq : clA su D d 1000 0 (up A 10 d 1000000000) ≤ 99999
        · rw [if_pos (show nI (clA su D d 1000 0 (up A 10 d 1000000000)) ≤ 99999 from nI_le (b := 99999) hq (by omega)), if_pos hq]
        · rw [if_neg (show ¬ nI (clA su D d 1000 0 (up A 10 d 1000000000)) ≤ 99999 from nI_ge (a := 99999) (by omega) (by omega)), if_neg hq]
      obtain ⟨R2, t1, t2, hFT, t4⟩ := past_R (r := (Int32.toInt64 (if clA su D d 1000 0 (up A 10 d 1000000000) ≤ 99999 then nI (clA su D d 1000 0 (up A 10 d 1000000000)) else -2), r.2)) a3 (by omega) hSU1 hRR1 hI1
      have t30 : R2 336 30 = nI (clA su D d 1000 0 (up A 10 d 1000000000)) := t4 d 0 hd (by rw [st_slot (by omega), st_self]) (st_self _ _ _ _) (by omega)
      have hGF : GF (st C2 336 4 0) (cyN (st R2 336 32 (-1)) 351 0 337 0 287) := by
        refine ⟨?_, ?_, ?_⟩
        · intro a ha
          rw [cyN_c (by omega), st_cell (by omega), hFT.1 a (by omega) (by omega), st_cell (by omega), st_cell (by omega), sD_c (by omega), cyN_c (by omega)]
        · intro k hk
          rw [cyN_c (by omega)]
          by_cases h32 : k = 32
          · subst h32
            rw [st_self, st_slot (by omega), e6 336 (by omega), g2]
          · rw [st_slot h32, hFT.2 k (by omega) (by omega) (by omega), st_slot (by omega), st_slot h32, sD_c (by omega), cyN_c (by omega)]
        · intro k hk
          rw [cyN_in (by omega) (by omega), st_cell (by omega), hFT.1 351 (by omega) (by omega), st_cell (by omega), st_cell (by omega), sD_c (by omega), cyN_in (by omega) (by omega), show 0 + (0 + (k - 0) - 0) = k by omega]
      have e4 : cyN (st R2 336 32 (-1)) 351 0 337 0 287 336 4 = 0 := by
        rw [cyN_c (by omega), st_slot (by omega), hFT.2 4 (by omega) (by omega) (by omega), st_slot (by omega), st_slot (by omega), sD_c (by omega), cyN_c (by omega), st_self]
      have e30 : cyN (st R2 336 32 (-1)) 351 0 337 0 287 336 30 = nI (clA su D d 1000 0 (up A 10 d 1000000000)) := by
        rw [cyN_c (by omega), st_slot (by omega), t30]
      simp (disch := omega) only [f_L_coolLimit, f_X9_coolLimit, P0, G356, hc, SB bL54, SL bL54, q1, p1', e_bx, e_bv, e_bd]
      rw [fv, e_bd]
      simp (disch := omega) only [e_bt, e_let, mw_po, reduceIte, e_b, f_X10_coolLimit, PR, g_isD, eD, hr, bI_t, i10, g_w1t _ e3, g_asi, RP, e_bv, mw_pn, t1, g_tak, mw_1, e30]
      rw [fv, e_bd]
      simp only [g_thr, e4, e_b, mw_2, lg_same, reduceIte]
      exact ⟨_, _, rfl, GI_q (GF_t (FC_GF hFC) (GF_t (GF_4 (by omega)) hGF)) hg0⟩
