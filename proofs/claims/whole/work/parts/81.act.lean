theorem law_8 {xs : Nat → Int32} {Ls i T : Nat} {N : Nat → Nat → Int32} {r : Int64 × UInt64} (hL : Ls ≤ 3584) (h7 : 7 * i + 7 ≤ Ls) (hT : T ≤ 256000) (hg : GI N T) : ∃ N' r', lawc_8 xs Ls (nI (7 * i)) (mw N r) = some (mw N' r') ∧ GI N' (T + 500) := by
  have hg0 := hg
  obtain ⟨g1, g2, g3, g4, g5⟩ := hg
  simp only [lawc_8, e_lds hL h7]
  generalize xs (7 * i + 1) = x1
  rcases g5 with ⟨u1, u2, u3⟩ | ⟨D, su, A, h, w, H, hS⟩
  · simp only [f_L_setAmbient, f_X9_setAmbient, P0, G356, g_nS0 r u1, e_bxl, e_btl, reduceIte, e_b, f_X10_setAmbient, PR, IN, g_w0 r _ u2, i10, g_thr, st_self, e_bd]
    exact ⟨_, _, rfl, GI_q (GF_4 (by omega)) hg0⟩
  · have hS0 := hS
    obtain ⟨a1, a2, a3, a4, a5, a6, a7, a8, a9, a10, a11⟩ := hS
    have hD := a3.2.1
    cases hr2 : rg 0 9999 x1 with
      | false =>
        simp only [f_L_setAmbient, f_X9_setAmbient, P0, G356, g_nS1 r a1, e_bx, g_nRf hr2, e_bxl, e_btl, SX, reduceIte, e_b, f_X10_setAmbient, PR, IN, hr2, bI_f, e_bd, g_w1f r a2, i10, g_thr, st_self]
        exact ⟨_, _, rfl, GI_q (GF_4 (by omega)) hg0⟩
      | true =>
        obtain ⟨v, _, hv, rfl⟩ := rg_t (a := 0) (b := 9999) (by omega) (by omega) hr2
        have hc24 := a8.1.1.1.1
        obtain ⟨N1, q1, q2, q3⟩ := rem_C (r := r) hD hc24 a6 a9
        have b29 : ∀ a, (a < 79 ∨ 331 ≤ a) → N1 a = N a := q3
        have k1 : N1 29 3 = nI (A 30 2) := by
          rw [b29 29 (by omega)]
          exact a6.1.2.2
        have hRC : RC (st N1 29 3 (nI v)) 29 D (up A 30 2 v) := rc_am (RC_ext (fun a _ _ => b29 a (by omega)) a6)
        have hF2 : FC 29 N1 (st N1 29 3 (nI v)) := FC_s (by omega) (by omega)
        have e6 : ∀ a, 331 ≤ a → st N1 29 3 (nI v) a = N a := fun a ha => by rw [st_cell (by omega), b29 a (by omega)]
        have hRR : RR (st (st N1 29 3 (nI v)) 336 4 0) D A := RR_336 (RR_F (e6 337 (by omega)) a7)
        have hHR : HSR (st (st N1 29 3 (nI v)) 336 4 0) D h H := HSR_ext (by rw [st_slot (by omega), e6 336 (by omega)]) (by rw [st_cell (by omega), e6 338 (by omega)]) a10
        obtain ⟨N3, t1, t2, t3, t4⟩ := rem_R (r := (Int32.toInt64 (nI (A 30 2)), r.2)) hD hc24 (fun i hi => (a11 i hi).1.1.1.1) hRR hHR
        have hR3 : RR N3 D A := RR_F (t3 337 (by omega) (by omega)) hRR
        have k2 : N3 337 1 = nI (A 30 2) := hR3.1.2.2
        have hR4 : RR (st N3 337 1 (nI v)) D (up A 30 2 v) := rr_low (.inr (.inl ⟨rfl, rfl, rfl⟩)) hR3
        have e3 : st N1 29 3 (nI v) 336 3 = 1 := by rw [e6 336 (by omega)]; exact a2
        have e4 : st N3 337 1 (nI v) 336 4 = 0 := by
          rw [st_cell (by omega), t4 4 (by omega), st_self]
        simp (disch := omega) only [f_L_setAmbient, f_X9_setAmbient, P0, G356, g_nS1 r a1, g_nRt hr2, q1, mw_1, mw_pn, k1, e_bx, e_bv, e_bt, e_bd, e_let, mw_po, reduceIte, e_b, f_X10_setAmbient, f_X10_sets, PR, RLd, IN, hr2, bI_t, g_w1t _ e3, t1, k2, g_thr, e4, mw_2, lg_same]
        exact ⟨_, _, rfl, GI_mono (by omega) (GS_act hg0 hS0 (Nat.le_refl T) q3 q2 hF2 hRC t3 t4 t2 FT_s hR4 (IL_am hv a8))⟩
theorem law_9 {xs : Nat → Int32} {Ls i T : Nat} {N : Nat → Nat → Int32} {r : Int64 × UInt64} (hL : Ls ≤ 3584) (h7 : 7 * i + 7 ≤ Ls) (hT : T ≤ 256000) (hg : GI N T) : ∃ N' r', lawc_9 xs Ls (nI (7 * i)) (mw N r) = some (mw N' r') ∧ GI N' (T + 500) := by
  have hg0 := hg
  obtain ⟨g1, g2, g3, g4, g5⟩ := hg
  simp only [lawc_9, e_lds hL h7]
  generalize xs (7 * i + 1) = x1
  rcases g5 with ⟨u1, u2, u3⟩ | ⟨D, su, A, h, w, H, hS⟩
  · simp only [f_L_tick, f_X9_tick, P0, G356, g_nS0 r u1, e_bxl, e_btl, reduceIte, e_b, f_X10_tick, PR, IN, g_w0 r _ u2, i10, g_thr, st_self, e_bd]
    exact ⟨_, _, rfl, GI_q (GF_4 (by omega)) hg0⟩
  · have hS0 := hS
    obtain ⟨a1, a2, a3, a4, a5, a6, a7, a8, a9, a10, a11⟩ := hS
    have hD := a3.2.1
    cases hr2 : rg 1 500 x1 with
      | false =>
        simp only [f_L_tick, f_X9_tick, P0, G356, g_nS1 r a1, e_bx, g_nRf hr2, e_bxl, e_btl, SX, reduceIte, e_b, f_X10_tick, PR, IN, hr2, bI_f, e_bd, g_w1f r a2, i10, g_thr, st_self]
        exact ⟨_, _, rfl, GI_q (GF_4 (by omega)) hg0⟩
      | true =>
        obtain ⟨v, _, hv, rfl⟩ := rg_t (a := 1) (b := 500) (by omega) (by omega) hr2
        have hc24 := a8.1.1.1.1
        obtain ⟨N1, q1, q2, q3⟩ := rem_C (r := r) hD hc24 a6 a9
        have b29 : ∀ a, (a < 79 ∨ 331 ≤ a) → N1 a = N a := q3
        have hR1 : RC N1 29 D A := RC_ext (fun a _ _ => b29 a (by omega)) a6
        have hS1 : SUC N1 D su := by
          have h4 := a4
          unfold SUC at h4 ⊢
          simp (disch := omega) only [b29]
          exact h4
        obtain ⟨N2, c, p1, p2, p3, p4⟩ := tk_C (r := r) a3 hv v 0 3000 N1 A T 0 (by omega) (by omega) (by omega) hS1 hR1 a8.1.1
        rw [Nat.zero_add] at p1
        have p1' : lp_X9_tick_27 0 (nI v) 3000 (0, 0, mw N1 r) = some (nI c, mw N2 r) := p1
        have e6 : ∀ a, 331 ≤ a → N2 a = N a := fun a ha => by rw [p3 a (by omega), b29 a (by omega)]
        have hRR : RR (st N2 336 4 0) D A := RR_336 (RR_F (e6 337 (by omega)) a7)
        have hHR : HSR (st N2 336 4 0) D h H := HSR_ext (by rw [st_slot (by omega), e6 336 (by omega)]) (by rw [st_cell (by omega), e6 338 (by omega)]) a10
        obtain ⟨N3, t1, t2, t3, t4⟩ := rem_R (r := (Int32.toInt64 (nI c), r.2)) hD hc24 (fun i hi => (a11 i hi).1.1.1.1) hRR hHR
        have hR3 : RR N3 D A := RR_F (t3 337 (by omega) (by omega)) hRR
        have hS3 : SUR (st N3 336 31 0) D su := by
          refine SUR_4 (by omega) ?_
          have h5 : SUR (st N2 336 4 0) D su := SUR_4 (by omega) (SUR_F (fun a ha => e6 a (by omega)) a5)
          unfold SUR at h5 ⊢
          simp (disch := omega) only [t3, t4]
          exact h5
        obtain ⟨N4, c', s1, s2, s3, s4, s5⟩ := tk_R (r := (Int32.toInt64 (nI c), r.2)) a3 hv v 0 3000 (st N3 336 31 0) A T (by omega) (by omega) (by omega) hS3 (RR_336 hR3) a8.1.1
        have hcc : c' = c := by omega
        subst hcc
        have s1' : lp_X10_tick_29 336 (nI v) 3000 (0, mw (st N3 336 31 0) (Int32.toInt64 (nI c'), r.2)) = some (mw N4 (Int32.toInt64 (nI c'), r.2)) := s1
        have e31 : N4 336 31 = nI c' := by
          rw [s4, st_self, Int32.zero_add]
        have e3 : N2 336 3 = 1 := by rw [e6 336 (by omega)]; exact a2
        have hF4 : FT N3 N4 := FT_t (FT_6 (by omega)) s3
        have e4 : N4 336 4 = 0 := by
          rw [hF4.2 4 (by omega) (by omega) (by omega), t4 4 (by omega), st_self]
        simp (disch := omega) only [f_L_tick, f_X9_tick, P0, G356, g_nS1 r a1, g_nRt hr2, q1, mw_pn, p1', e_bx, e_bv, e_bt, e_bd, e_let, mw_po, reduceIte, e_b, f_X10_tick, PR, IN, hr2, bI_t, g_w1t _ e3, t1, s1', mw_1, e31, g_thr, e4, mw_2, lg_same]
        exact ⟨_, _, rfl, GI_mono (by omega) (GS_act hg0 hS0 (show T ≤ T + v by omega) q3 q2 p3 p2 t3 t4 t2 hF4 s2 (IL_tick a3 a8))⟩
theorem law_39 {xs : Nat → Int32} {Ls i T : Nat} {N : Nat → Nat → Int32} {r : Int64 × UInt64} (hL : Ls ≤ 3584) (h7 : 7 * i + 7 ≤ Ls) (hT : T ≤ 256000) (hg : GI N T) : ∃ N' r', lawc_39 xs Ls (nI (7 * i)) (mw N r) = some (mw N' r') ∧ GI N' (T + 500) := by
  have hg0 := hg
  obtain ⟨g1, g2, g3, g4, g5⟩ := hg
  simp only [lawc_39]
  rcases g5 with ⟨u1, u2, u3⟩ | ⟨D, su, A, h, w, H, hS⟩
  · simp only [f_L_undo, f_X9_undo, P0, G356, g_nS0 r u1, e_bxl, e_btl, reduceIte, e_b, f_X10_undo, PR, g_w0 r _ u2, i10, g_thr, st_self, e_bd]
    exact ⟨_, _, rfl, GI_q (GF_4 (by omega)) hg0⟩
  · obtain ⟨a1, a2, a3, a4, a5, a6, a7, a8, a9, a10, a11⟩ := hS
    have hD := a3.2.1
    have c79 := a9.1
    have c336 := a10.1
    cases h with
    | zero =>
      rw [nI_0] at c79 c336
      simp (disch := omega) only [f_L_undo, f_X9_undo, P0, G356, g_nS1 r a1, e_bx, mw_1, c79, reduceIte, e_bt, e_let, mw_po, e_b, f_X10_undo, PR, g_w1t _ a2, st_slot, c336, g_thr, st_self, mw_2, lg_same]
      exact ⟨_, _, rfl, GI_q (GF_4 (by omega)) hg0⟩
    | succ h =>
      have h10 := a9.2.2.2.1
      have hI0 := a11 0 (by omega)
      obtain ⟨N2, w', q1, q2, q3, q4⟩ := tb_C (r := r) hD hI0.1.1.1.1 a9
      have e6 : ∀ a, 331 ≤ a → N2 a = N a := fun a ha => q4 a (by omega)
      have hHR : HSR (st N2 336 4 0) D (h + 1) H := HSR_ext (by rw [st_slot (by omega), e6 336 (by omega)]) (by rw [st_cell (by omega), e6 338 (by omega)]) a10
      obtain ⟨N4, t1, t2, t3, t4, t5⟩ := und_R (r := (Int32.toInt64 (nI h), r.2)) hD hI0.1.1.1.1 hHR
      have e3 : N2 336 3 = 1 := by rw [e6 336 (by omega)]; exact a2
      have e2 : N2 336 2 = nI (h + 1) := by rw [e6 336 (by omega)]; exact c336
      have k1 : N2 79 0 = nI h := q3.1
      have k2 : N4 336 2 = nI h := t3.1
      have e4 : N4 336 4 = 0 := by rw [t5 4 (by omega), st_self]
      have hn := eq_false (nI_ne0 (n := h + 1) (by omega) (by omega))
      simp (disch := omega) only [f_L_undo, f_X9_undo, P0, G356, g_nS1 r a1, e_bx, mw_1, c79, hn, reduceIte, q1, e_bv, k1, e_bt, e_let, mw_po, e_b, f_X10_undo, PR, g_w1t _ e3, st_slot, e2, nI_pred, mw_pn, t1, e_bd, k2, g_thr, e4, mw_2, lg_same]
      refine ⟨_, _, rfl, GI_mono (T := T) (by omega) ?_⟩
      have eC : ∀ a, (a < 29 ∨ (54 ≤ a ∧ a < 79) ∨ 331 ≤ a) → a ≠ 336 → a ≠ 337 → N4 a = N a := by
        intro a h1 h2 h3
        rw [t4 a h2 h3, st_cell h2, q4 a (by omega)]
      have eB : ∀ a, a < 336 → N4 a = N2 a := by
        intro a h1
        rw [t4 a (by omega) (by omega), st_cell (by omega)]
      have e6' : ∀ k, k ≠ 2 → k ≠ 4 → N4 336 k = N 336 k := by
        intro k h1 h2
        rw [t5 k h1, st_slot h2, e6 336 (by omega)]
      obtain ⟨len, l1, l2, l3, l4⟩ := g1
      refine ⟨⟨len, ?_, l2, ?_, ?_⟩, ?_, ?_, ⟨w', q3.2.2.1, ?_⟩, .inr ⟨D, su, H 0, h, w', popH H, ?_, ?_, a3, ?_, ?_, ?_, t2, hI0, ?_, t3, ?_⟩⟩
      · rw [eC 1 (by omega) (by omega) (by omega)]; exact l1
      · rw [e6' 16 (by omega) (by omega)]; exact l3
      · intro i hi
        rw [eC 2 (by omega) (by omega) (by omega), eC 348 (by omega) (by omega) (by omega)]
        exact l4 i hi
      · rw [e6' 32 (by omega) (by omega)]; exact g2
      · rw [eC 0 (by omega) (by omega) (by omega), e6' 23 (by omega) (by omega)]; exact g3
      · rw [eB 79 (by omega)]; exact q3.2.1
      · rw [eC 0 (by omega) (by omega) (by omega)]; exact a1
      · rw [e6' 3 (by omega) (by omega)]; exact a2
      · unfold SUC at a4 ⊢
        simp (disch := omega) only [eC]
        exact a4
      · unfold SUR at a5 ⊢
        simp (disch := omega) only [eC, e6']
        exact a5
      · exact RC_ext (fun a _ _ => eB a (by omega)) q2
      · exact HSC_ext (fun a _ _ => eB a (by omega)) q3
      · intro i hi
        exact a11 (i + 1) (by omega)
