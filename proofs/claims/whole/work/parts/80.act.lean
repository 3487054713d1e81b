theorem GS_act {N N1 N2 N3 N4 : Nat → Nat → Int32} {T T' D h w w' : Nat} {su : Nat → Nat → Nat} {A A' : AS} {H : Nat → AS} (hg : GI N T) (hS : GS N T D su A h w H) (hTT : T ≤ T')
    (f1 : ∀ a, (a < 79 ∨ 331 ≤ a) → N1 a = N a) (hc1 : HSC N1 D (hp h) w' (pushH A H)) (f2 : FC 29 N1 N2) (r2 : RC N2 29 D A')
    (f3a : ∀ a, a ≠ 336 → a ≠ 338 → N3 a = st N2 336 4 0 a) (f3b : ∀ k, k ≠ 2 → N3 336 k = st N2 336 4 0 336 k) (hr3 : HSR N3 D (hp h) (pushH A H))
    (f4 : FT N3 N4) (r4 : RR N4 D A') (hI : IL D su T' A') : GI N4 T' := by
  have eC : ∀ a, (a < 29 ∨ (54 ≤ a ∧ a < 79) ∨ 331 ≤ a) → a ≠ 336 → a ≠ 337 → a ≠ 338 → N4 a = N a := by
    intro a h1 h2 h3 h4
    rw [f4.1 a h2 h3, f3a a h2 h4, st_cell h2, f2 a (by omega), f1 a (by omega)]
  have eB : ∀ a, 29 ≤ a → a < 54 → N4 a = N2 a := by
    intro a h1 h2
    rw [f4.1 a (by omega) (by omega), f3a a (by omega) (by omega), st_cell (by omega)]
  have eH : ∀ a, 79 ≤ a → a < 331 → N4 a = N1 a := by
    intro a h1 h2
    rw [f4.1 a (by omega) (by omega), f3a a (by omega) (by omega), st_cell (by omega), f2 a (by omega)]
  have e6 : ∀ k, k ≠ 2 → k ≠ 4 → k ≠ 29 → k ≠ 30 → k ≠ 31 → N4 336 k = N 336 k := by
    intro k h1 h2 h3 h4 h5
    rw [f4.2 k h3 h4 h5, f3b k h1, st_slot h2, f2 336 (by omega), f1 336 (by omega)]
  obtain ⟨⟨len, t1, t2, t3, t4⟩, g2, g3, g4, g5⟩ := hg
  obtain ⟨a1, a2, a3, a4, a5, a6, a7, a8, a9, a10, a11⟩ := hS
  refine ⟨⟨len, ?_, t2, ?_, ?_⟩, ?_, ?_, ⟨w', hc1.2.2.1, ?_⟩, .inr ⟨D, su, A', hp h, w', pushH A H, ?_, ?_, a3, ?_, ?_, ?_, r4, hI, ?_, ?_, ?_⟩⟩
  · rw [eC 1 (by omega) (by omega) (by omega) (by omega)]; exact t1
  · rw [e6 16 (by omega) (by omega) (by omega) (by omega) (by omega)]; exact t3
  · intro i hi
    rw [eC 2 (by omega) (by omega) (by omega) (by omega), eC 348 (by omega) (by omega) (by omega) (by omega)]
    exact t4 i hi
  · rw [e6 32 (by omega) (by omega) (by omega) (by omega) (by omega)]; exact g2
  · rw [eC 0 (by omega) (by omega) (by omega) (by omega), e6 23 (by omega) (by omega) (by omega) (by omega) (by omega)]; exact g3
  · rw [eH 79 (by omega) (by omega)]; exact hc1.2.1
  · rw [eC 0 (by omega) (by omega) (by omega) (by omega)]; exact a1
  · rw [e6 3 (by omega) (by omega) (by omega) (by omega) (by omega)]; exact a2
  · unfold SUC at a4 ⊢
    simp (disch := omega) only [eC]
    exact a4
  · unfold SUR at a5 ⊢
    simp (disch := omega) only [eC, e6]
    exact a5
  · exact RC_ext (fun a h1 h2 => eB a h1 (by omega)) r2
  · exact HSC_ext (fun a h1 h2 => eH a h1 h2) hc1
  · refine HSR_ext ?_ ?_ hr3
    · exact f4.2 2 (by omega) (by omega) (by omega)
    · exact f4.1 338 (by omega) (by omega)
  · intro i hi
    cases i with
    | zero => exact IL_mono hTT a8
    | succ i =>
      refine IL_mono hTT (a11 i ?_)
      unfold hp at hi
      split at hi <;> omega
theorem IL_pol {D T d x : Nat} {su : Nat → Nat → Nat} {A : AS} (hx : x ≤ 3) (h : IL D su T A) : IL D su T (up A 11 d x) := by
  obtain ⟨⟨⟨⟨i1, i2, i3⟩, i4, i5, i6, i7, i8⟩, hE, hth⟩, hl⟩ := h
  unfold IL InvX Inv IE
  have e14 : up A 11 d x 14 = A 14 := by funext i; rw [up_k (by omega)]
  have e6 : up A 11 d x 6 = A 6 := by funext i; rw [up_k (by omega)]
  simp (disch := omega) only [up_k, e14, e6]
  refine ⟨⟨⟨⟨i1, i2, i3⟩, i4, ?_, i6, i7, i8⟩, hE, hth⟩, hl⟩
  intro d' hd'
  have := i5 d' hd'
  rw [up_at]
  split
  · exact ⟨this.1, hx, this.2.2⟩
  · exact this
theorem IL_lim {D T d x : Nat} {su : Nat → Nat → Nat} {A : AS} (hx : x ≤ 99999) (h : IL D su T A) : IL D su T (up A 10 d x) := by
  obtain ⟨⟨⟨⟨i1, i2, i3⟩, i4, i5, i6, i7, i8⟩, hE, hth⟩, hl⟩ := h
  unfold IL InvX Inv IE
  have e14 : up A 10 d x 14 = A 14 := by funext i; rw [up_k (by omega)]
  have e6 : up A 10 d x 6 = A 6 := by funext i; rw [up_k (by omega)]
  simp (disch := omega) only [up_k, e14, e6]
  refine ⟨⟨⟨⟨i1, i2, i3⟩, i4, ?_, i6, i7, i8⟩, hE, hth⟩, ?_⟩
  · intro d' hd'
    have := i5 d' hd'
    rw [up_at]
    split
    · exact ⟨.inl hx, this.2⟩
    · exact this
  · intro d' hd'
    rw [up_at]
    split
    · exact hx
    · exact hl d' hd'
theorem IL_am {D T x : Nat} {su : Nat → Nat → Nat} {A : AS} (hx : x ≤ 9999) (h : IL D su T A) : IL D su T (up A 30 2 x) := by
  obtain ⟨⟨⟨⟨i1, i2, i3⟩, i4, i5, i6, i7, i8⟩, hE, hth⟩, hl⟩ := h
  unfold IL InvX Inv IE
  have e14 : up A 30 2 x 14 = A 14 := by funext i; rw [up_k (by omega)]
  have e6 : up A 30 2 x 6 = A 6 := by funext i; rw [up_k (by omega)]
  simp (disch := omega) only [up_k, up_i, up_self, e14, e6]
  exact ⟨⟨⟨⟨i1, i2, hx⟩, i4, i5, i6, i7, i8⟩, hE, hth⟩, hl⟩
theorem IL_tick {D T n : Nat} {su : Nat → Nat → Nat} {A : AS} (hB : SUB D su) (h : IL D su T A) : IL D su (T + n) (itA su D n A) := ⟨InvX_it hB n T A h.1, fun d hd => by rw [itA_lo (by omega)]; exact h.2 d hd⟩
theorem law_6 {xs : Nat → Int32} {Ls i T : Nat} {N : Nat → Nat → Int32} {r : Int64 × UInt64} (hL : Ls ≤ 3584) (h7 : 7 * i + 7 ≤ Ls) (hT : T ≤ 256000) (hg : GI N T) : ∃ N' r', lawc_6 xs Ls (nI (7 * i)) (mw N r) = some (mw N' r') ∧ GI N' (T + 500) := by
  have hg0 := hg
  obtain ⟨g1, g2, g3, g4, g5⟩ := hg
  simp only [lawc_6, e_lds hL h7]
  generalize xs (7 * i + 1) = x1
  generalize xs (7 * i + 2) = x2
  rcases g5 with ⟨u1, u2, u3⟩ | ⟨D, su, A, h, w, H, hS⟩
  · simp only [f_L_setPolicy, f_X9_setPolicy, P0, G356, g_nD0 r _ u1, e_bxl, e_btl, reduceIte, e_b, f_X10_setPolicy, PR, g_isD, u3, rg_0, bI_f, e_bd, g_w0 r _ u2, i10, g_thr, st_self]
    exact ⟨_, _, rfl, GI_q (GF_4 (by omega)) hg0⟩
  · have hS0 := hS
    obtain ⟨a1, a2, a3, a4, a5, a6, a7, a8, a9, a10, a11⟩ := hS
    have hD := a3.2.1
    cases hr : rg 0 (nI D - 1) x1 with
    | false =>
      simp only [f_L_setPolicy, f_X9_setPolicy, P0, G356, g_nDf r (x := x1) a1 (by rw [a4.1]; exact hr), e_bxl, e_btl, SX, reduceIte, e_b, f_X10_setPolicy, PR, g_isD, a5.1, hr, bI_f, e_bd, g_w1f r a2, i10, g_thr, st_self]
      exact ⟨_, _, rfl, GI_q (GF_4 (by omega)) hg0⟩
    | true =>
      obtain ⟨d, hd, rfl⟩ := rg_n (by omega) hr
      have hc : f_X9_needDomain 0 (nI d) (mw N r) = some (.inr (), mw N r) := g_nDt r a1 (by rw [a4.1]; exact hr)
      cases hr2 : rg 0 3 x2 with
      | false =>
        simp only [f_L_setPolicy, f_X9_setPolicy, P0, G356, hc, e_bx, g_nRf hr2, e_bxl, e_btl, SX, reduceIte, e_b, f_X10_setPolicy, PR, g_isD, a5.1, hr, bI_t, i10, IN, hr2, bI_f, e_bd, g_w1f r a2, g_thr, st_self]
        exact ⟨_, _, rfl, GI_q (GF_4 (by omega)) hg0⟩
      | true =>
        obtain ⟨v, _, hv, rfl⟩ := rg_t (a := 0) (b := 3) (by omega) (by omega) hr2
        have hc24 := a8.1.1.1.1
        obtain ⟨N1, q1, q2, q3⟩ := rem_C (r := r) hD hc24 a6 a9
        have b29 : ∀ a, (a < 79 ∨ 331 ≤ a) → N1 a = N a := q3
        have k1 : N1 (29 + 15) d = nI (A 11 d) := by
          rw [b29 (29 + 15) (by omega)]
          exact a6.2.2.2.2.2.2.2.2.2.2.1 d 0 hd (by omega)
        have hRC : RC (st N1 (29 + 15) d (nI v)) 29 D (up A 11 d v) := by
          have h1 : RC N1 29 D A := RC_ext (fun a _ _ => b29 a (by omega)) a6
          exact rc_d (k := 0) (d := d) (x := v) (by omega) h1
        have hF2 : FC 29 N1 (st N1 (29 + 15) d (nI v)) := FC_s (by omega) (by omega)
        have e6 : ∀ a, 331 ≤ a → st N1 (29 + 15) d (nI v) a = N a := fun a ha => by rw [st_cell (by omega), b29 a (by omega)]
        have hRR : RR (st (st N1 (29 + 15) d (nI v)) 336 4 0) D A := RR_336 (RR_F (e6 337 (by omega)) a7)
        have hHR : HSR (st (st N1 (29 + 15) d (nI v)) 336 4 0) D h H := HSR_ext (by rw [st_slot (by omega), e6 336 (by omega)]) (by rw [st_cell (by omega), e6 338 (by omega)]) a10
        obtain ⟨N3, t1, t2, t3, t4⟩ := rem_R (r := (Int32.toInt64 (nI (A 11 d)), r.2)) hD hc24 (fun i hi => (a11 i hi).1.1.1.1) hRR hHR
        have hR3 : RR N3 D A := RR_F (t3 337 (by omega) (by omega)) hRR
        have k2 : N3 337 (19 + 13 * d + 1) = nI (A 11 d) := hR3.2.2.2.2.2.1 d 1 hd (by omega)
        have hR4 : RR (st N3 337 (19 + 13 * d + 1) (nI v)) D (up A 11 d v) := rr_D (k := 1) (d := d) (x := v) (by omega) (by omega) hR3
        have eD : st N1 (29 + 15) d (nI v) 336 5 = nI D := by rw [e6 336 (by omega)]; exact a5.1
        have e3 : st N1 (29 + 15) d (nI v) 336 3 = 1 := by rw [e6 336 (by omega)]; exact a2
        have e4 : st N3 337 (19 + 13 * d + 1) (nI v) 336 4 = 0 := by
          rw [st_cell (by omega), t4 4 (by omega), st_self]
        simp (disch := omega) only [f_L_setPolicy, f_X9_setPolicy, P0, G356, hc, SB bL29, SL bL29, g_nRt hr2, q1, k1, e_bx, e_bv, e_bt, e_bd, e_let, mw_po, reduceIte, e_b, f_X10_setPolicy, f_X10_sets, PR, AR, g_isD, eD, hr, bI_t, i10, IN, hr2, g_w1t _ e3, t1, nI_13m, nI_19a, nI_p0, nI_p1, k2, g_thr, e4, mw_2, lg_same]
        exact ⟨_, _, rfl, GI_mono (by omega) (GS_act hg0 hS0 (Nat.le_refl T) q3 q2 hF2 hRC t3 t4 t2 FT_s hR4 (IL_pol hv a8))⟩
theorem law_7 {xs : Nat → Int32} {Ls i T : Nat} {N : Nat → Nat → Int32} {r : Int64 × UInt64} (hL : Ls ≤ 3584) (h7 : 7 * i + 7 ≤ Ls) (hT : T ≤ 256000) (hg : GI N T) : ∃ N' r', lawc_7 xs Ls (nI (7 * i)) (mw N r) = some (mw N' r') ∧ GI N' (T + 500) := by
  have hg0 := hg
  obtain ⟨g1, g2, g3, g4, g5⟩ := hg
  simp only [lawc_7, e_lds hL h7]
  generalize xs (7 * i + 1) = x1
  generalize xs (7 * i + 2) = x2
  rcases g5 with ⟨u1, u2, u3⟩ | ⟨D, su, A, h, w, H, hS⟩
  · simp only [f_L_setLimit, f_X9_setLimit, P0, G356, g_nD0 r _ u1, e_bxl, e_btl, reduceIte, e_b, f_X10_setLimit, PR, g_isD, u3, rg_0, bI_f, e_bd, g_w0 r _ u2, i10, g_thr, st_self]
    exact ⟨_, _, rfl, GI_q (GF_4 (by omega)) hg0⟩
  · have hS0 := hS
    obtain ⟨a1, a2, a3, a4, a5, a6, a7, a8, a9, a10, a11⟩ := hS
    have hD := a3.2.1
    cases hr : rg 0 (nI D - 1) x1 with
    | false =>
      simp only [f_L_setLimit, f_X9_setLimit, P0, G356, g_nDf r (x := x1) a1 (by rw [a4.1]; exact hr), e_bxl, e_btl, SX, reduceIte, e_b, f_X10_setLimit, PR, g_isD, a5.1, hr, bI_f, e_bd, g_w1f r a2, i10, g_thr, st_self]
      exact ⟨_, _, rfl, GI_q (GF_4 (by omega)) hg0⟩
    | true =>
      obtain ⟨d, hd, rfl⟩ := rg_n (by omega) hr
      have hc : f_X9_needDomain 0 (nI d) (mw N r) = some (.inr (), mw N r) := g_nDt r a1 (by rw [a4.1]; exact hr)
      cases hr2 : rg 0 99999 x2 with
      | false =>
        simp only [f_L_setLimit, f_X9_setLimit, P0, G356, hc, e_bx, g_nRf hr2, e_bxl, e_btl, SX, reduceIte, e_b, f_X10_setLimit, PR, g_isD, a5.1, hr, bI_t, i10, IN, hr2, bI_f, e_bd, g_w1f r a2, g_thr, st_self]
        exact ⟨_, _, rfl, GI_q (GF_4 (by omega)) hg0⟩
      | true =>
        obtain ⟨v, _, hv, rfl⟩ := rg_t (a := 0) (b := 99999) (by omega) (by omega) hr2
        have hc24 := a8.1.1.1.1
        obtain ⟨N1, q1, q2, q3⟩ := rem_C (r := r) hD hc24 a6 a9
        have b29 : ∀ a, (a < 79 ∨ 331 ≤ a) → N1 a = N a := q3
        have k1 : N1 (29 + 14) d = nI (A 10 d) := by
          rw [b29 (29 + 14) (by omega)]
          exact (a6.2.2.2.2.2.2.2.2.2.1 d hd).trans (limC_nI (a8.2 d hd))
        have hRC : RC (st N1 (29 + 14) d (nI v)) 29 D (up A 10 d v) := by
          have h1 : RC N1 29 D A := RC_ext (fun a _ _ => b29 a (by omega)) a6
          have h2 := rc_lim (d := d) (x := v) h1
          rw [limC_nI hv] at h2
          exact h2
        have hF2 : FC 29 N1 (st N1 (29 + 14) d (nI v)) := FC_s (by omega) (by omega)
        have e6 : ∀ a, 331 ≤ a → st N1 (29 + 14) d (nI v) a = N a := fun a ha => by rw [st_cell (by omega), b29 a (by omega)]
        have hRR : RR (st (st N1 (29 + 14) d (nI v)) 336 4 0) D A := RR_336 (RR_F (e6 337 (by omega)) a7)
        have hHR : HSR (st (st N1 (29 + 14) d (nI v)) 336 4 0) D h H := HSR_ext (by rw [st_slot (by omega), e6 336 (by omega)]) (by rw [st_cell (by omega), e6 338 (by omega)]) a10
        obtain ⟨N3, t1, t2, t3, t4⟩ := rem_R (r := (Int32.toInt64 (nI (A 10 d)), r.2)) hD hc24 (fun i hi => (a11 i hi).1.1.1.1) hRR hHR
        have hR3 : RR N3 D A := RR_F (t3 337 (by omega) (by omega)) hRR
        have k2 : N3 337 (19 + 13 * d + 0) = nI (A 10 d) := hR3.2.2.2.2.2.1 d 0 hd (by omega)
        have hR4 : RR (st N3 337 (19 + 13 * d + 0) (nI v)) D (up A 10 d v) := rr_D (k := 0) (d := d) (x := v) (by omega) (by omega) hR3
        have eD : st N1 (29 + 14) d (nI v) 336 5 = nI D := by rw [e6 336 (by omega)]; exact a5.1
        have e3 : st N1 (29 + 14) d (nI v) 336 3 = 1 := by rw [e6 336 (by omega)]; exact a2
        have e4 : st N3 337 (19 + 13 * d + 0) (nI v) 336 4 = 0 := by
          rw [st_cell (by omega), t4 4 (by omega), st_self]
        simp (disch := omega) only [f_L_setLimit, f_X9_setLimit, P0, G356, hc, SB bL29, SL bL29, g_nRt hr2, q1, k1, e_bx, e_bv, e_bt, e_bd, e_let, mw_po, reduceIte, e_b, f_X10_setLimit, f_X10_sets, PR, AR, g_isD, eD, hr, bI_t, i10, IN, hr2, g_w1t _ e3, t1, nI_13m, nI_19a, nI_p0, nI_p1, k2, g_thr, e4, mw_2, lg_same]
        exact ⟨_, _, rfl, GI_mono (by omega) (GS_act hg0 hS0 (Nat.le_refl T) q3 q2 hF2 hRC t3 t4 t2 FT_s hR4 (IL_lim hv a8))⟩
