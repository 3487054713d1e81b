theorem law_5 {xs : Nat → Int32} {Ls i T : Nat} {N : Nat → Nat → Int32} {r : Int64 × UInt64} (hL : Ls ≤ 3584) (h7 : 7 * i + 7 ≤ Ls) (hT : T ≤ 256000) (hg : GI N T) : ∃ N' r', lawc_5 xs Ls (nI (7 * i)) (mw N r) = some (mw N' r') ∧ GI N' (T + 500) := by
  have hg0 := hg
  obtain ⟨g1, g2, g3, g4, g5⟩ := hg
  simp only [lawc_5, e_lds hL h7]
  generalize xs (7 * i + 1) = x1
  rcases g5 with ⟨u1, u2, u3⟩ | ⟨D, su, A, h, w, H, hS⟩
  · simp only [f_L_cancelJob, f_X9_cancelJob, P0, G356, g_nJ0 r _ u1, e_bxl, e_btl, reduceIte, e_b, f_X10_cancelJob, PR, g_isJ, g_w0 r _ u2, i10, g_thr, st_self, e_bd]
    exact ⟨_, _, rfl, GI_q (GF_4 (by omega)) hg0⟩
  · have hS0 := hS
    obtain ⟨a1, a2, a3, a4, a5, a6, a7, a8, a9, a10, a11⟩ := hS
    have hD := a3.2.1
    have hc24 := a8.1.1.1.1
    have kc := a6.1.1
    have kr := a7.1.1
    cases hr : rg 0 (nI (A 30 0) - 1) x1 with
    | false =>
      simp only [f_L_cancelJob, f_X9_cancelJob, P0, G356, g_nJf r (x := x1) a1 (by rw [kc]; exact hr), e_bxl, e_btl, SX, reduceIte, e_b, f_X10_cancelJob, PR, g_isJ, kr, hr, bI_f, e_bd, g_w1f r a2, i10, g_thr, st_self]
      exact ⟨_, _, rfl, GI_q (GF_4 (by omega)) hg0⟩
    | true =>
      obtain ⟨j, hj, rfl⟩ := rg_n (by omega) hr
      have hc : f_X9_needJob 0 (nI j) (mw N r) = some (.inr (), mw N r) := g_nJt r a1 (by rw [kc]; exact hr)
      have o1 := over_C (r := r) bL29 a6 a8.1.1 hj
      have h7 := a8.1.1.2.1 j hj
      cases hov : ovA A j with
      | true =>
        rw [hov, bI_t] at o1
        have o2 := over_R (r := (Int32.toInt64 (-2), r.2)) (RR_336 (k := 4) (x := 0) a7) a8.1.1 hj
        rw [hov, bI_t] at o2
        simp (disch := omega) only [f_L_cancelJob, f_X9_cancelJob, P0, G356, hc, SB bL29, o1, i10, reduceIte, e_bx, e_bt, e_let, mw_po, e_b, f_X10_cancelJob, PR, g_isJ, kr, hr, bI_t, g_w1t _ a2, o2, g_thr, st_self, mw_2, lg_same]
        exact ⟨_, _, rfl, GI_q (GF_4 (by omega)) hg0⟩
      | false =>
        rw [hov, bI_f] at o1
        have h72 : A 7 j ≤ 2 := by
          unfold ovA at hov
          have := of_decide_eq_false hov
          omega
        obtain ⟨N1, q1, q2, q3⟩ := rem_C (r := r) hD hc24 a6 a9
        have b29 : ∀ a, (a < 79 ∨ 331 ≤ a) → N1 a = N a := q3
        have h1 : RC N1 29 D A := RC_ext (fun a _ _ => b29 a (by omega)) a6
        obtain ⟨N2, p1, p2, p3, p4⟩ := can_C (r := r) a3 h1 a8.1.1 hj h72
        have e6 : ∀ a, 331 ≤ a → N2 a = N a := fun a ha => by rw [p3 a (by omega), b29 a (by omega)]
        have hRR : RR (st N2 336 4 0) D A := RR_336 (RR_F (e6 337 (by omega)) a7)
        have o2 := over_R (r := (Int32.toInt64 (nI (A 6 j)), r.2)) hRR a8.1.1 hj
        rw [hov, bI_f] at o2
        have hHR : HSR (st N2 336 4 0) D h H := HSR_ext (by rw [st_slot (by omega), e6 336 (by omega)]) (by rw [st_cell (by omega), e6 338 (by omega)]) a10
        obtain ⟨N3, t1, t2, t3, t4⟩ := rem_R (r := (Int32.toInt64 (nI (A 6 j)), r.2)) hD hc24 (fun i hi => (a11 i hi).1.1.1.1) hRR hHR
        have hR3 : RR N3 D A := RR_F (t3 337 (by omega) (by omega)) hRR
        have m0 : rJ N3 j 0 = nI (A 0 j) := hR3.2.1 j 0 hj (by omega)
        have hB2 := a3.2.2 _ h7.1
        have k339 : N3 339 (A 0 j) = nI (su 0 (A 0 j)) := by
          rw [t3 339 (by omega) (by omega), st_cell (by omega), e6 339 (by omega)]
          exact (a5.2 _ h7.1).1
        obtain ⟨N4, s1, s2, s3⟩ := l_canR (r := (Int32.toInt64 (nI (A 6 j)), r.2)) (d := A 0 j) (j := j) (by omega) (by omega) (su 0 (A 0 j)) 0 3000 N3 (by omega) (by omega) k339
        have s1' : lp_X10_cancelJob_38 336 (nI j) (nI (A 0 j)) 3000 (0, mw N3 (Int32.toInt64 (nI (A 6 j)), r.2)) = some (mw N4 (Int32.toInt64 (nI (A 6 j)), r.2)) := s1
        have hR4 := can_RR a3 hR3 a8.1.1 hj s3
        have m6 : rJ (sJ N4 j 7 4) j 6 = nI (A 6 j) := by
          have := hR4.2.1 j 6 (by rw [caA_k (by omega) (by omega)]; exact hj) (by omega)
          rw [caA_k (by omega) (by omega)] at this
          exact this
        have hF4 : FT N3 (sJ N4 j 7 4) := FT_t (F7_T s2) FT_J
        have eJ : N2 337 2 = nI (A 30 0) := by rw [e6 337 (by omega)]; exact kr
        have e3 : N2 336 3 = 1 := by rw [e6 336 (by omega)]; exact a2
        have e4 : sJ N4 j 7 4 336 4 = 0 := by
          rw [hF4.2 4 (by omega) (by omega) (by omega), t4 4 (by omega), st_self]
        simp (disch := omega) only [f_L_cancelJob, f_X9_cancelJob, P0, G356, hc, SB bL29, SL bL29, o1, reduceIte, q1, p1, p4, e_bx, e_bv, e_bt, e_bd, e_let, mw_po, e_b, f_X10_cancelJob, PR, g_isJ, eJ, hr, bI_t, i10, g_w1t _ e3, o2, t1, RJ, m0, s1', RQ, m6, g_thr, e4, mw_2, lg_same]
        exact ⟨_, _, rfl, GI_mono (by omega) (GS_act hg0 hS0 (Nat.le_refl T) q3 q2 p3 p2 t3 t4 t2 hF4 hR4 (IL_ca h72 a8))⟩
