theorem end_Rw {R : Nat → Nat → Int32} {D j T : Nat} {su : Nat → Nat → Nat} {A : AS} (h : RR R D A) (hi : Inv D su T A) (hj : j < A 30 0) (w : MW) : (if nI (A 7 j) = 3 then some (rJ R j 8, w) else some (-2, w)) = some (edA A j, w) := by
  have h7 := hi.2.1 j hj
  unfold edA
  by_cases hq : A 7 j = 3
  · rw [hq, if_pos rfl, h.2.2.1 j hj hq, if_pos (show nI 3 = 3 from rfl)]
  · rw [if_neg (show ¬ nI (A 7 j) = 3 from fun q => hq ((nI_eq (b := 3) (by omega) (by omega)).mp q)), if_neg hq]
theorem RR_F {N N' : Nat → Nat → Int32} {D : Nat} {A : AS} (h : N' 337 = N 337) (hR : RR N D A) : RR N' D A := by
  unfold RR rJ rD at hR ⊢
  rw [h]
  exact hR
theorem SUR_F {N N' : Nat → Nat → Int32} {D : Nat} {su : Nat → Nat → Nat} (h : ∀ a, 336 ≤ a → N' a = N a) (hR : SUR N D su) : SUR N' D su := by
  unfold SUR at hR ⊢
  simp only [h 336 (by omega), h 339 (by omega), h 340 (by omega), h 341 (by omega), h 342 (by omega), h 343 (by omega), h 344 (by omega), h 345 (by omega), h 346 (by omega), h 347 (by omega)]
  exact hR
theorem SUR_4 {N : Nat → Nat → Int32} {D k : Nat} {x : Int32} {su : Nat → Nat → Nat} (hk : k ≠ 5) (hR : SUR N D su) : SUR (st N 336 k x) D su := by
  unfold SUR at hR ⊢
  simp (disch := omega) only [st_cell, st_slot]
  exact hR
theorem law_19 {xs : Nat → Int32} {Ls i T : Nat} {N : Nat → Nat → Int32} {r : Int64 × UInt64} (hL : Ls ≤ 3584) (h7 : 7 * i + 7 ≤ Ls) (hT : T < 2 ^ 28) (hg : GI N T) : ∃ N' r', lawc_19 xs Ls (nI (7 * i)) (mw N r) = some (mw N' r') ∧ GI N' (T + 500) := by
  have hg0 := hg
  obtain ⟨g1, g2, g3, g4, g5⟩ := hg
  simp only [lawc_19, e_lds hL h7]
  generalize xs (7 * i + 1) = x1
  generalize xs (7 * i + 2) = x2
  rcases g5 with ⟨u1, u2, u3⟩ | ⟨D, su, A, h, w, H, hS⟩
  · simp only [f_L_jobValue, f_X9_jobValue, P0, G356, g_nJ0 r _ u1, e_bxl, e_btl, reduceIte, e_b, f_X10_jobValue, PR, g_isJ, IN]
    cases rg 0 (N 337 2 - 1) x1 with
    | false =>
      simp only [bI_f, reduceIte, e_bd, g_w0 r _ u2, i10, g_thr, st_self, e_b]
      exact ⟨_, _, rfl, GI_q (GF_4 (by omega)) hg0⟩
    | true =>
      simp only [bI_t, i10, reduceIte, e_bd]
      cases rg 0 7 x2 with
      | false =>
        simp only [bI_f, reduceIte, e_bd, g_w0 r _ u2, i10, g_thr, st_self, e_b]
        exact ⟨_, _, rfl, GI_q (GF_4 (by omega)) hg0⟩
      | true =>
        simp only [bI_t, reduceIte, e_bd, g_w0 r _ u2, i10, g_thr, st_self, e_b]
        exact ⟨_, _, rfl, GI_q (GF_4 (by omega)) hg0⟩
  · obtain ⟨a1, a2, a3, a4, a5, a6, a7, a8, a9, a10, a11⟩ := hS
    have hD := a3.2.1
    have hc24 := a8.1.1.1.1
    have kc := a6.1.1
    have kr := a7.1.1
    cases hr : rg 0 (nI (A 30 0) - 1) x1 with
    | false =>
      simp only [f_L_jobValue, f_X9_jobValue, P0, G356, g_nJf r (x := x1) a1 (by rw [kc]; exact hr), e_bxl, e_btl, SX, reduceIte, e_b, f_X10_jobValue, PR, g_isJ, kr, hr, bI_f, e_bd, g_w1f r a2, i10, g_thr, st_self]
      exact ⟨_, _, rfl, GI_q (GF_4 (by omega)) hg0⟩
    | true =>
      obtain ⟨j, hj, rfl⟩ := rg_n (by omega) hr
      have hc : f_X9_needJob 0 (nI j) (mw N r) = some (.inr (), mw N r) := g_nJt r a1 (by rw [kc]; exact hr)
      cases hr2 : rg 0 7 x2 with
      | false =>
        have n0 : (x2 = 0) = False := eq_false (fun q => by rw [q] at hr2; exact absurd hr2 (by decide))
        have n1 : (x2 = 1) = False := eq_false (fun q => by rw [q] at hr2; exact absurd hr2 (by decide))
        have n2 : (x2 = 2) = False := eq_false (fun q => by rw [q] at hr2; exact absurd hr2 (by decide))
        have n3 : (x2 = 3) = False := eq_false (fun q => by rw [q] at hr2; exact absurd hr2 (by decide))
        have n4 : (x2 = 4) = False := eq_false (fun q => by rw [q] at hr2; exact absurd hr2 (by decide))
        have n5 : (x2 = 5) = False := eq_false (fun q => by rw [q] at hr2; exact absurd hr2 (by decide))
        have n6 : (x2 = 6) = False := eq_false (fun q => by rw [q] at hr2; exact absurd hr2 (by decide))
        have n7 : (x2 = 7) = False := eq_false (fun q => by rw [q] at hr2; exact absurd hr2 (by decide))
        simp only [f_L_jobValue, f_X9_jobValue, P0, G356, hc, SB bL29, e_bx, n0, n1, n2, n3, n4, n5, n6, n7, e_btl, SX, reduceIte, e_b, f_X10_jobValue, PR, g_isJ, kr, hr, bI_t, i10, IN, hr2, bI_f, e_bd, g_w1f r a2, g_thr, st_self]
        exact ⟨_, _, rfl, GI_q (GF_4 (by omega)) hg0⟩
      | true =>
        have b4 := a6.2.1
        have b8 := a7.2.1
        have k0 : N (29 + 4) j = nI (A 0 j) := b4 j 0 hj (by omega)
        have k1 : N (29 + 5) j = nI (A 1 j) := b4 j 1 hj (by omega)
        have k2 : N (29 + 6) j = nI (A 2 j) := b4 j 2 hj (by omega)
        have k3 : N (29 + 7) j = nI (A 3 j) := b4 j 3 hj (by omega)
        have k4 : N (29 + 8) j = nI (A 4 j) := b4 j 4 hj (by omega)
        have k5 : N (29 + 9) j = nI (A 5 j) := b4 j 5 hj (by omega)
        have k6 : N (29 + 10) j = nI (A 6 j) := b4 j 6 hj (by omega)
        have m0 : rJ N j 0 = nI (A 0 j) := b8 j 0 hj (by omega)
        have m1 : rJ N j 1 = nI (A 1 j) := b8 j 1 hj (by omega)
        have m2 : rJ N j 2 = nI (A 2 j) := b8 j 2 hj (by omega)
        have m3 : rJ N j 3 = nI (A 3 j) := b8 j 3 hj (by omega)
        have m4 : rJ N j 4 = nI (A 4 j) := b8 j 4 hj (by omega)
        have m5 : rJ N j 5 = nI (A 5 j) := b8 j 5 hj (by omega)
        have m6 : rJ N j 6 = nI (A 6 j) := b8 j 6 hj (by omega)
        have m7 : rJ N j 7 = nI (A 7 j) := b8 j 7 hj (by omega)
        have k7 := stat_C (r := r) bL29 hD a6 a8.1.1 hj
        rcases rg_7 hr2 with rfl | rfl | rfl | rfl | rfl | rfl | rfl | rfl
        all_goals
          simp (disch := omega) only [f_L_jobValue, f_X9_jobValue, P0, G356, hc, SB bL29, SL bL29, k0, k1, k2, k3, k4, k5, k6, k7, e_bx, e_bt, e_let, mw_po, reduceIte, e_b, f_X10_jobValue, PR, AR, g_isJ, kr, hr, bI_t, IN, hr2, g_w1t _ a2, RJ, rJ_c, st_cell, m0, m1, m2, m3, m4, m5, m6, m7, g_thr, st_self, e_bd, LQ]
          simp only [mw_2, lg_same, reduceIte]
          exact ⟨_, _, rfl, GI_q (GF_4 (by omega)) hg0⟩
theorem law_20 {xs : Nat → Int32} {Ls i T : Nat} {N : Nat → Nat → Int32} {r : Int64 × UInt64} (hL : Ls ≤ 3584) (h7 : 7 * i + 7 ≤ Ls) (hT : T < 2 ^ 28) (hg : GI N T) : ∃ N' r', lawc_20 xs Ls (nI (7 * i)) (mw N r) = some (mw N' r') ∧ GI N' (T + 500) := by
  have hg0 := hg
  obtain ⟨g1, g2, g3, g4, g5⟩ := hg
  simp only [lawc_20, e_lds hL h7]
  generalize xs (7 * i + 1) = x1
  rcases g5 with ⟨u1, u2, u3⟩ | ⟨D, su, A, h, w, H, hS⟩
  · simp only [f_L_doneAt, f_X9_doneAt, P0, G356, g_nJ0 r _ u1, e_bxl, e_btl, reduceIte, e_b, f_X10_doneAt, PR, g_isJ, g_w0 r _ u2, i10, g_thr, st_self, e_bd]
    exact ⟨_, _, rfl, GI_q (GF_4 (by omega)) hg0⟩
  · obtain ⟨a1, a2, a3, a4, a5, a6, a7, a8, a9, a10, a11⟩ := hS
    have hD := a3.2.1
    have hc24 := a8.1.1.1.1
    have kc := a6.1.1
    have kr := a7.1.1
    cases hr : rg 0 (nI (A 30 0) - 1) x1 with
    | false =>
      simp only [f_L_doneAt, f_X9_doneAt, P0, G356, g_nJf r (x := x1) a1 (by rw [kc]; exact hr), e_bxl, e_btl, SX, reduceIte, e_b, f_X10_doneAt, PR, g_isJ, kr, hr, bI_f, e_bd, g_w1f r a2, i10, g_thr, st_self]
      exact ⟨_, _, rfl, GI_q (GF_4 (by omega)) hg0⟩
    | true =>
      obtain ⟨j, hj, rfl⟩ := rg_n (by omega) hr
      have hc : f_X9_needJob 0 (nI j) (mw N r) = some (.inr (), mw N r) := g_nJt r a1 (by rw [kc]; exact hr)
      have k1 := end_C (r := r) bL29 a6 hc24 hj
      have m7 : rJ N j 7 = nI (A 7 j) := a7.2.1 j 7 hj (by omega)
      have m8 := fun w => end_Rw a7 a8.1.1 hj w
      simp (disch := omega) only [f_L_doneAt, f_X9_doneAt, P0, G356, hc, SB bL29, k1, e_bx, e_bt, e_let, mw_po, reduceIte, e_b, f_X10_doneAt, PR, g_isJ, kr, hr, bI_t, g_w1t _ a2, RJ, rJ_c, m7]
      rw [m8, e_bd]
      simp only [g_thr, st_self, e_b, mw_2, lg_same, reduceIte]
      exact ⟨_, _, rfl, GI_q (GF_4 (by omega)) hg0⟩
theorem law_21 {xs : Nat → Int32} {Ls i T : Nat} {N : Nat → Nat → Int32} {r : Int64 × UInt64} (hL : Ls ≤ 3584) (h7 : 7 * i + 7 ≤ Ls) (hT : T < 2 ^ 28) (hg : GI N T) : ∃ N' r', lawc_21 xs Ls (nI (7 * i)) (mw N r) = some (mw N' r') ∧ GI N' (T + 500) := by
  have hg0 := hg
  obtain ⟨g1, g2, g3, g4, g5⟩ := hg
  simp only [lawc_21]
  rcases g5 with ⟨u1, u2, u3⟩ | ⟨D, su, A, h, w, H, hS⟩
  · simp only [f_L_lateJobs, f_X9_lateJobs, P0, G356, g_nS0 r u1, e_bxl, e_btl, reduceIte, e_b, f_X10_lateJobs, PR, g_w0 r _ u2, i10, g_thr, st_self, e_bd]
    exact ⟨_, _, rfl, GI_q (GF_4 (by omega)) hg0⟩
  · obtain ⟨a1, a2, a3, a4, a5, a6, a7, a8, a9, a10, a11⟩ := hS
    have hD := a3.2.1
    have hc24 := a8.1.1.1.1
    have k1 := late_C (r := r) bL29 a6 hc24
    have k2 := l_lateR (r := (Int32.toInt64 (rbA (lteA A) (A 30 0)), r.2)) (RR_336 (k := 4) (x := 0) a7) a8.1.1 (A 30 0) 0 3000 (by omega) (by omega)
    have k3 : lp_X10_lateJobs_14 336 3000 (0, 0, mw (st N 336 4 0) (Int32.toInt64 (rbA (lteA A) (A 30 0)), r.2)) = _ := k2
    simp (disch := omega) only [f_L_lateJobs, f_X9_lateJobs, P0, G356, SB bL29, g_nS1 r a1, mw_1, k1, e_bx, e_bt, e_let, mw_po, reduceIte, e_b, f_X10_lateJobs, PR, g_w1t _ a2, k3, g_thr, st_self, e_bd]
    simp only [mw_2, lg_same, reduceIte]
    exact ⟨_, _, rfl, GI_q (GF_4 (by omega)) hg0⟩
theorem law_25 {xs : Nat → Int32} {Ls i T : Nat} {N : Nat → Nat → Int32} {r : Int64 × UInt64} (hL : Ls ≤ 3584) (h7 : 7 * i + 7 ≤ Ls) (hT : T < 2 ^ 28) (hg : GI N T) : ∃ N' r', lawc_25 xs Ls (nI (7 * i)) (mw N r) = some (mw N' r') ∧ GI N' (T + 500) := by
  have hg0 := hg
  obtain ⟨g1, g2, g3, g4, g5⟩ := hg
  simp only [lawc_25, e_lds hL h7]
  generalize xs (7 * i + 1) = x1
  rcases g5 with ⟨u1, u2, u3⟩ | ⟨D, su, A, h, w, H, hS⟩
  · simp only [f_L_willBeDone, f_X9_willBeDone, P0, G356, g_nJ0 r _ u1, e_bxl, e_btl, reduceIte, e_b, f_X10_willBeDone, PR, g_isJ, g_w0 r _ u2, i10, g_thr, st_self, e_bd]
    exact ⟨_, _, rfl, GI_q (GF_4 (by omega)) hg0⟩
  · obtain ⟨a1, a2, a3, a4, a5, a6, a7, a8, a9, a10, a11⟩ := hS
    have hD := a3.2.1
    have hc24 := a8.1.1.1.1
    have kc := a6.1.1
    have kr := a7.1.1
    cases hr : rg 0 (nI (A 30 0) - 1) x1 with
    | false =>
      simp only [f_L_willBeDone, f_X9_willBeDone, P0, G356, g_nJf r (x := x1) a1 (by rw [kc]; exact hr), e_bxl, e_btl, SX, reduceIte, e_b, f_X10_willBeDone, PR, g_isJ, kr, hr, bI_f, e_bd, g_w1f r a2, i10, g_thr, st_self]
      exact ⟨_, _, rfl, GI_q (GF_4 (by omega)) hg0⟩
    | true =>
      obtain ⟨j, hj, rfl⟩ := rg_n (by omega) hr
      have hc : f_X9_needJob 0 (nI j) (mw N r) = some (.inr (), mw N r) := g_nJt r a1 (by rw [kc]; exact hr)
      obtain ⟨C1, q1, q2, q3⟩ := cp_C (r := r) bL29 bL54 (by omega) hD hc24 a6
      obtain ⟨C2, p1, p2, p3⟩ := wd_C (r := r) (j := j) a3 1000 0 3000 C1 A T (by omega) (by omega) (by omega) (SUC_FC (by omega) a4 q3) q2 a8.1.1 hj
      have p1' : lp_X9_willBeDone_18 0 (nI j) 3000 (0, mw C1 r) = some (mw C2 r) := p1
      have hI2 := Inv_wd (j := j) a3 1000 T A a8.1.1
      have hcw : wdA su D j 1000 A 30 0 = A 30 0 := wdA_c _ _
      have k1 := end_C (r := r) bL54 p2 (by rw [hcw]; exact hc24) (by rw [hcw]; exact hj)
      have hFC : FC 54 N C2 := FC_t q3 p3
      have e6 : ∀ a, 336 ≤ a → C2 a = N a := fun a ha => hFC a (by omega)
      have hRR : RR (st C2 336 4 0) D A := RR_336 (RR_F (e6 337 (by omega)) a7)
      have hSU : SUR (st C2 336 4 0) D su := SUR_4 (by omega) (SUR_F e6 a5)
      obtain ⟨R2, t1, t2, hFT⟩ := wd_R (r := (Int32.toInt64 (edA (wdA su D j 1000 A) j), r.2)) (j := j) a3 1000 0 3000 _ A T (by omega) (by omega) (by omega) (SUR_asi hSU) (RR_asi hD hc24 hRR) a8.1.1 hj
      have t1' : lp_X10_willBeDone_20 336 (nI j) 3000 (0, mw (cyN (st C2 336 4 0) 337 0 351 0 287) (Int32.toInt64 (edA (wdA su D j 1000 A) j), r.2)) = some (mw R2 (Int32.toInt64 (edA (wdA su D j 1000 A) j), r.2)) := t1
      have m7 : rJ R2 j 7 = nI (wdA su D j 1000 A 7 j) := t2.2.1 j 7 (by rw [hcw]; exact hj) (by omega)
      have m8 := fun w => end_Rw t2 hI2 (show j < wdA su D j 1000 A 30 0 by rw [hcw]; exact hj) w
      have eD : C2 336 5 = nI D := by rw [e6 336 (by omega)]; exact a5.1
      have e3 : C2 336 3 = 1 := by rw [e6 336 (by omega)]; exact a2
      have eJ : C2 337 2 = nI (A 30 0) := by rw [e6 337 (by omega)]; exact kr
      simp (disch := omega) only [f_L_willBeDone, f_X9_willBeDone, P0, G356, hc, SB bL54, q1, p1', k1, e_bx, e_bv, e_bt, e_bd, e_let, mw_po, reduceIte, e_b, f_X10_willBeDone, PR, g_isJ, eJ, hr, bI_t, g_w1t _ e3, g_asi, t1', RJ, m7]
      rw [m8, e_bd]
      have e4 : cyN R2 351 0 337 0 287 336 4 = 0 := by
        rw [cyN_c (by omega), hFT.2 4 (by omega) (by omega) (by omega), cyN_c (by omega), st_self]
      simp only [g_tak, e_bv, g_thr, e4, e_b, mw_2, lg_same, reduceIte]
      exact ⟨_, _, rfl, GI_q (GF_t (FC_GF hFC) (GF_t (GF_4 (by omega)) (fore_GF hFT))) hg0⟩
theorem law_26 {xs : Nat → Int32} {Ls i T : Nat} {N : Nat → Nat → Int32} {r : Int64 × UInt64} (hL : Ls ≤ 3584) (h7 : 7 * i + 7 ≤ Ls) (hT : T < 2 ^ 28) (hg : GI N T) : ∃ N' r', lawc_26 xs Ls (nI (7 * i)) (mw N r) = some (mw N' r') ∧ GI N' (T + 500) := by
  have hg0 := hg
  obtain ⟨g1, g2, g3, g4, g5⟩ := hg
  simp only [lawc_26]
  rcases g5 with ⟨u1, u2, u3⟩ | ⟨D, su, A, h, w, H, hS⟩
  · simp only [f_L_allOver, f_X9_allOver, P0, G356, g_nS0 r u1, e_bxl, e_btl, reduceIte, e_b, f_X10_allOver, PR, g_w0 r _ u2, i10, g_thr, st_self, e_bd]
    exact ⟨_, _, rfl, GI_q (GF_4 (by omega)) hg0⟩
  · obtain ⟨a1, a2, a3, a4, a5, a6, a7, a8, a9, a10, a11⟩ := hS
    have hD := a3.2.1
    have hc24 := a8.1.1.1.1
    obtain ⟨C1, q1, q2, q3⟩ := cp_C (r := r) bL29 bL54 (by omega) hD hc24 a6
    obtain ⟨C2, p1, p2, p3⟩ := past_C (r := r) bL54 a3 hT (SUC_FC (by omega) a4 q3) q2 a8.1.1
    have hI2 := Inv_pa a3 1000 T A a8.1.1
    have k1 := aover_C (r := r) bL54 p2 hI2
    have hFC : FC 54 N C2 := FC_t q3 p3
    have e6 : ∀ a, 336 ≤ a → C2 a = N a := fun a ha => hFC a (by omega)
    have hRR : RR (st C2 336 4 0) D A := RR_336 (RR_F (e6 337 (by omega)) a7)
    have hSU : SUR (st C2 336 4 0) D su := SUR_4 (by omega) (SUR_F e6 a5)
    obtain ⟨R2, t1, t2, hFT, _⟩ := past_R (r := (Int32.toInt64 (if aoA (paA su D 1000 A) = true then nI (paA su D 1000 A 30 1) else -2), r.2)) a3 hT (SUR_asi hSU) (RR_asi hD hc24 hRR) a8.1.1
    have k2 := aover_R (r := (Int32.toInt64 (if aoA (paA su D 1000 A) = true then nI (paA su D 1000 A 30 1) else -2), r.2)) t2 hI2
    have e3 : C2 336 3 = 1 := by rw [e6 336 (by omega)]; exact a2
    have e4 : cyN R2 351 0 337 0 287 336 4 = 0 := by
      rw [cyN_c (by omega), hFT.2 4 (by omega) (by omega) (by omega), cyN_c (by omega), st_self]
    have eT : C2 54 2 = nI (paA su D 1000 A 30 1) := p2.1.2.1
    have eR : R2 337 0 = nI (paA su D 1000 A 30 1) := t2.1.2.1
    simp (disch := omega) only [f_L_allOver, f_X9_allOver, P0, G356, SB bL54, g_nS1 r a1, q1, p1, k1, e_bx, e_bv, mw_1, eT, e_b]
    cases hq : aoA (paA su D 1000 A) with
    | true =>
      simp only [hq, reduceIte] at t1 k2
      simp (disch := omega) only [bI_t, i10, reduceIte, e_bd, e_bt, e_let, mw_po, f_X10_allOver, PR, RLd, g_w1t _ e3, e_b, g_asi, e_bv, t1, k2, eR, g_tak, g_thr, e4, mw_2, lg_same]
      exact ⟨_, _, rfl, GI_q (GF_t (FC_GF hFC) (GF_t (GF_4 (by omega)) (fore_GF hFT))) hg0⟩
    | false =>
      simp only [hq, Bool.false_eq_true, reduceIte] at t1 k2
      simp (disch := omega) only [bI_f, reduceIte, e_bd, e_bt, e_let, mw_po, f_X10_allOver, PR, RLd, g_w1t _ e3, e_b, g_asi, e_bv, t1, k2, g_tak, g_thr, e4, mw_2, lg_same]
      exact ⟨_, _, rfl, GI_q (GF_t (FC_GF hFC) (GF_t (GF_4 (by omega)) (fore_GF hFT))) hg0⟩
theorem law_27 {xs : Nat → Int32} {Ls i T : Nat} {N : Nat → Nat → Int32} {r : Int64 × UInt64} (hL : Ls ≤ 3584) (h7 : 7 * i + 7 ≤ Ls) (hT : T < 2 ^ 28) (hg : GI N T) : ∃ N' r', lawc_27 xs Ls (nI (7 * i)) (mw N r) = some (mw N' r') ∧ GI N' (T + 500) := by
  have hg0 := hg
  obtain ⟨g1, g2, g3, g4, g5⟩ := hg
  simp only [lawc_27]
  rcases g5 with ⟨u1, u2, u3⟩ | ⟨D, su, A, h, w, H, hS⟩
  · simp only [f_L_willBeLate, f_X9_willBeLate, P0, G356, g_nS0 r u1, e_bxl, e_btl, reduceIte, e_b, f_X10_willBeLate, PR, g_w0 r _ u2, i10, g_thr, st_self, e_bd]
    exact ⟨_, _, rfl, GI_q (GF_4 (by omega)) hg0⟩
  · obtain ⟨a1, a2, a3, a4, a5, a6, a7, a8, a9, a10, a11⟩ := hS
    have hD := a3.2.1
    have hc24 := a8.1.1.1.1
    obtain ⟨C1, q1, q2, q3⟩ := cp_C (r := r) bL29 bL54 (by omega) hD hc24 a6
    obtain ⟨C2, p1, p2, p3⟩ := past_C (r := r) bL54 a3 hT (SUC_FC (by omega) a4 q3) q2 a8.1.1
    have hI2 := Inv_pa a3 1000 T A a8.1.1
    have k1 := loo_C (r := r) bL54 p2 hI2
    have hFC : FC 54 N C2 := FC_t q3 p3
    have e6 : ∀ a, 336 ≤ a → C2 a = N a := fun a ha => hFC a (by omega)
    have hRR : RR (st C2 336 4 0) D A := RR_336 (RR_F (e6 337 (by omega)) a7)
    have hSU : SUR (st C2 336 4 0) D su := SUR_4 (by omega) (SUR_F e6 a5)
    obtain ⟨R2, t1, t2, hFT, _⟩ := past_R (r := (Int32.toInt64 (rbA (looA (paA su D 1000 A)) (paA su D 1000 A 30 0)), r.2)) a3 hT (SUR_asi hSU) (RR_asi hD hc24 hRR) a8.1.1
    have k2 := loo_R (r := (Int32.toInt64 (rbA (looA (paA su D 1000 A)) (paA su D 1000 A 30 0)), r.2)) t2 hI2
    have e3 : C2 336 3 = 1 := by rw [e6 336 (by omega)]; exact a2
    have e4 : cyN R2 351 0 337 0 287 336 4 = 0 := by
      rw [cyN_c (by omega), hFT.2 4 (by omega) (by omega) (by omega), cyN_c (by omega), st_self]
    simp (disch := omega) only [f_L_willBeLate, f_X9_willBeLate, P0, G356, SB bL54, g_nS1 r a1, q1, p1, k1, e_bx, e_bv, mw_1, e_b, reduceIte, e_bd, e_bt, e_let, mw_po, f_X10_willBeLate, PR, g_w1t _ e3, g_asi, t1, k2, g_tak, g_thr, e4, mw_2, lg_same]
    exact ⟨_, _, rfl, GI_q (GF_t (FC_GF hFC) (GF_t (GF_4 (by omega)) (fore_GF hFT))) hg0⟩
