theorem law_4 {xs : Nat → Int32} {Ls i T : Nat} {N : Nat → Nat → Int32} {r : Int64 × UInt64} (hL : Ls ≤ 3584) (h7 : 7 * i + 7 ≤ Ls) (hT : T ≤ 256000) (hg : GI N T) : ∃ N' r', lawc_4 xs Ls (nI (7 * i)) (mw N r) = some (mw N' r') ∧ GI N' (T + 500) := by
  have hg0 := hg
  obtain ⟨g1, g2, g3, g4, g5⟩ := hg
  simp only [lawc_4, e_lds hL h7]
  generalize xs (7 * i + 1) = x1
  generalize xs (7 * i + 2) = x2
  generalize xs (7 * i + 3) = x3
  generalize xs (7 * i + 4) = x4
  generalize xs (7 * i + 5) = x5
  generalize xs (7 * i + 6) = x6
  rcases g5 with ⟨u1, u2, u3⟩ | ⟨D, su, A, h, w, H, hS⟩
  · simp only [f_L_addJob, f_X9_addJob, P0, G356, g_nD0 r _ u1, e_bxl, e_btl, reduceIte, e_b, f_X10_addJob, PR, g_isD, u3, rg_0, bI_f, e_bd, g_w0 r _ u2, i10, g_thr, st_self]
    exact ⟨_, _, rfl, GI_q (GF_4 (by omega)) hg0⟩
  · have hS0 := hS
    obtain ⟨a1, a2, a3, a4, a5, a6, a7, a8, a9, a10, a11⟩ := hS
    have hD := a3.2.1
    cases hr : rg 0 (nI D - 1) x1 with
    | false =>
      simp only [f_L_addJob, f_X9_addJob, P0, G356, g_nDf r (x := x1) a1 (by rw [a4.1]; exact hr), e_bxl, e_btl, SX, reduceIte, e_b, f_X10_addJob, PR, g_isD, a5.1, hr, bI_f, e_bd, g_w1f r a2, i10, g_thr, st_self]
      exact ⟨_, _, rfl, GI_q (GF_4 (by omega)) hg0⟩
    | true =>
      obtain ⟨d, hd, rfl⟩ := rg_n (by omega) hr
      have hc : f_X9_needDomain 0 (nI d) (mw N r) = some (.inr (), mw N r) := g_nDt r a1 (by rw [a4.1]; exact hr)
      cases hr2 : rg 0 7 x2 with
      | false =>
        simp only [f_L_addJob, f_X9_addJob, P0, G356, hc, e_bx, g_nRf hr2, e_bxl, e_btl, SX, reduceIte, e_b, f_X10_addJob, PR, g_isD, a5.1, hr, bI_t, i10, IN, hr2, bI_f, e_bd, g_w1f r a2, g_thr, st_self]
        exact ⟨_, _, rfl, GI_q (GF_4 (by omega)) hg0⟩
      | true =>
        cases hr3 : rg 0 999 x3 with
        | false =>
          simp only [f_L_addJob, f_X9_addJob, P0, G356, hc, e_bx, g_nRt hr2, hr2, g_nRf hr3, e_bxl, e_btl, SX, reduceIte, e_b, f_X10_addJob, PR, g_isD, a5.1, hr, bI_t, i10, IN, hr3, bI_f, e_bd, g_w1f r a2, g_thr, st_self]
          exact ⟨_, _, rfl, GI_q (GF_4 (by omega)) hg0⟩
        | true =>
          cases hr4 : rg 0 999 x4 with
          | false =>
            simp only [f_L_addJob, f_X9_addJob, P0, G356, hc, e_bx, g_nRt hr2, hr2, g_nRt hr3, hr3, g_nRf hr4, e_bxl, e_btl, SX, reduceIte, e_b, f_X10_addJob, PR, g_isD, a5.1, hr, bI_t, i10, IN, hr4, bI_f, e_bd, g_w1f r a2, g_thr, st_self]
            exact ⟨_, _, rfl, GI_q (GF_4 (by omega)) hg0⟩
          | true =>
            cases hr5 : rg 1 9999 x5 with
            | false =>
              simp only [f_L_addJob, f_X9_addJob, P0, G356, hc, e_bx, g_nRt hr2, hr2, g_nRt hr3, hr3, g_nRt hr4, hr4, g_nRf hr5, e_bxl, e_btl, SX, reduceIte, e_b, f_X10_addJob, PR, g_isD, a5.1, hr, bI_t, i10, IN, hr5, bI_f, e_bd, g_w1f r a2, g_thr, st_self]
              exact ⟨_, _, rfl, GI_q (GF_4 (by omega)) hg0⟩
            | true =>
              cases hr6 : rg 1 9999 x6 with
              | false =>
                simp only [f_L_addJob, f_X9_addJob, P0, G356, hc, e_bx, g_nRt hr2, hr2, g_nRt hr3, hr3, g_nRt hr4, hr4, g_nRt hr5, hr5, g_nRf hr6, e_bxl, e_btl, SX, reduceIte, e_b, f_X10_addJob, PR, g_isD, a5.1, hr, bI_t, i10, IN, hr6, bI_f, e_bd, g_w1f r a2, g_thr, st_self]
                exact ⟨_, _, rfl, GI_q (GF_4 (by omega)) hg0⟩
              | true =>
                obtain ⟨kd, kd1, kd2, rfl⟩ := rg_t (a := 0) (b := 7) (by omega) (by omega) hr2
                obtain ⟨dy, dy1, dy2, rfl⟩ := rg_t (a := 0) (b := 999) (by omega) (by omega) hr3
                obtain ⟨sl, sl1, sl2, rfl⟩ := rg_t (a := 0) (b := 999) (by omega) (by omega) hr4
                obtain ⟨wk, wk1, wk2, rfl⟩ := rg_t (a := 1) (b := 9999) (by omega) (by omega) hr5
                obtain ⟨tm, tm1, tm2, rfl⟩ := rg_t (a := 1) (b := 9999) (by omega) (by omega) hr6
                have hc24 := a8.1.1.1.1
                have kc : N (29 + 1) 0 = nI (A 30 0) := a6.1.1
                have kr : N 337 2 = nI (A 30 0) := a7.1.1
                by_cases hfull : A 30 0 = 24
                · have n1 : (nI (A 30 0) < 24) = False := eq_false (by rw [hfull]; decide)
                  have n2 : (nI (A 30 0) = 24) = True := eq_true (by rw [hfull]; rfl)
                  simp (disch := omega) only [f_L_addJob, f_X9_addJob, P0, G356, hc, e_bx, g_nRt hr2, hr2, g_nRt hr3, hr3, g_nRt hr4, hr4, g_nRt hr5, hr5, g_nRt hr6, hr6, SB bL29, mw_1, kc, n1, reduceIte, e_bt, e_let, mw_po, e_b, f_X10_addJob, PR, RLd, g_isD, a5.1, hr, bI_t, i10, IN, e_bd, g_w1t _ a2, st_cell, kr, n2, g_thr, st_self, mw_2, lg_same]
                  exact ⟨_, _, rfl, GI_q (GF_4 (by omega)) hg0⟩
                · have hlt : A 30 0 < 24 := by omega
                  have n1 : (nI (A 30 0) < 24) = True := eq_true (nI_lt (b := 24) hlt (by omega))
                  have n2 : (nI (A 30 0) = 24) = False := eq_false (fun q => by have := (nI_eq (b := 24) (by omega) (by omega)).mp q; omega)
                  obtain ⟨N1, q1, q2, q3⟩ := rem_C (r := r) hD hc24 a6 a9
                  have b29 : ∀ a, (a < 79 ∨ 331 ≤ a) → N1 a = N a := q3
                  have h1 : RC N1 29 D A := RC_ext (fun a _ _ => b29 a (by omega)) a6
                  have kT : N1 29 2 = nI (A 30 1) := h1.1.2.1
                  have p1 := g_addC (r := r) (k := kd) (wk := wk) hD hd hlt h1
                  have p2 := g_stC (M := adM N1 (A 30 0) d (nI kd) (nI wk)) (r := r) (c := A 30 0) (rl := A 30 1 + dy) (sl := sl) (tm := tm) hlt (st_self _ _ _ _)
                  have pT : adM N1 (A 30 0) d (nI kd) (nI wk) 29 2 = nI (A 30 1) := by
                    unfold adM
                    simp (disch := omega) only [st_cell]
                    exact kT
                  have hRC := add_RC (k := kd) (dy := dy) (sl := sl) (wk := wk) (tm := tm) hD hd hlt h1
                  have hF2 : FC 29 N1 _ := add_FC (C := N1) (c := A 30 0) (d := d) (k := nI kd) (wk := nI wk) (rl := nI (A 30 1 + dy)) (sl := nI sl) (dl := nI (A 30 1 + dy + tm))
                  generalize hN2 : stM (adM N1 (A 30 0) d (nI kd) (nI wk)) (A 30 0) (nI (A 30 1 + dy)) (nI sl) (nI (A 30 1 + dy + tm)) = N2 at *
                  have e6 : ∀ a, 331 ≤ a → N2 a = N a := fun a ha => by rw [hF2 a (by omega), b29 a (by omega)]
                  have hRR : RR (st N2 336 4 0) D A := RR_336 (RR_F (e6 337 (by omega)) a7)
                  have hHR : HSR (st N2 336 4 0) D h H := HSR_ext (by rw [st_slot (by omega), e6 336 (by omega)]) (by rw [st_cell (by omega), e6 338 (by omega)]) a10
                  obtain ⟨N3, t1, t2, t3, t4⟩ := rem_R (r := (Int32.toInt64 (nI (A 30 0)), r.2)) hD hc24 (fun i hi => (a11 i hi).1.1.1.1) hRR hHR
                  have hR3 : RR N3 D A := RR_F (t3 337 (by omega) (by omega)) hRR
                  have m2 : N3 337 2 = nI (A 30 0) := hR3.1.1
                  have m0 : N3 337 0 = nI (A 30 1) := hR3.1.2.1
                  have kr2 : N2 337 2 = nI (A 30 0) := by rw [e6 337 (by omega)]; exact kr
                  have hR4 := add_RR (d := d) (k := kd) (rl := A 30 1 + dy) (sl := sl) (wk := wk) (dl := A 30 1 + dy + tm) hD hR3
                  have hF4 : FT N3 _ := add_FT (R := N3) (c := A 30 0) (d := nI d) (k := nI kd) (rl := nI (A 30 1 + dy)) (sl := nI sl) (wk := nI wk) (dl := nI (A 30 1 + dy + tm))
                  have eD : N2 336 5 = nI D := by rw [e6 336 (by omega)]; exact a5.1
                  have e3 : N2 336 3 = 1 := by rw [e6 336 (by omega)]; exact a2
                  have e4 : arM N3 (A 30 0) (nI d) (nI kd) (nI (A 30 1 + dy)) (nI sl) (nI wk) (nI (A 30 1 + dy + tm)) 336 4 = 0 := by
                    rw [hF4.2 4 (by omega) (by omega) (by omega), t4 4 (by omega), st_self]
                  simp (disch := omega) only [f_L_addJob, f_X9_addJob, P0, G356, hc, e_bx, g_nRt hr2, hr2, g_nRt hr3, hr3, g_nRt hr4, hr4, g_nRt hr5, hr5, g_nRt hr6, hr6, SB bL29, mw_1, kc, n1, reduceIte, q1, e_bv, p1, pT, nI_add, p2, e_bt, e_let, mw_po, e_b, f_X10_addJob, PR, RLd, RQ, g_isD, eD, hr, bI_t, i10, IN, e_bd, g_w1t _ e3, st_cell, kr2, n2, t1, m2, nI_p1, rL_J, st_slot, m0]
                  show ∃ N' r', hz_b (f_X10_thrown 336 (mw (arM N3 (A 30 0) (nI d) (nI kd) (nI (A 30 1 + dy)) (nI sl) (nI wk) (nI (A 30 1 + dy + tm))) _)) _ = some (mw N' r') ∧ GI N' (T + 500)
                  simp only [g_thr, e4, e_b, mw_2, lg_same, reduceIte]
                  exact ⟨_, _, rfl, GI_mono (by omega) (GS_act hg0 hS0 (Nat.le_refl T) q3 q2 hF2 hRC t3 t4 t2 hF4 hR4 (IL_add hlt hd kd2 dy2 sl2 wk1 wk2 tm2 a8))⟩
