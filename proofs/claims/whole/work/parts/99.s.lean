/-- load -/
theorem law_2 {xs : Nat → Int32} {Ls i T : Nat} {N : Nat → Nat → Int32} {r : Int64 × UInt64} (hg : GI N T) : ∃ N' r', lawc_2 xs Ls (nI (7 * i)) (mw N r) = some (mw N' r') ∧ GI N' (T + 500) := by
  obtain ⟨⟨len, t1, t2, t3, t4⟩, g2, g3, ⟨w, w1, w2⟩, g5⟩ := hg
  obtain ⟨t, ht⟩ : ∃ t : Nat → Nat, ∀ i, i < len → SG (N 2 i) (t i) ∧ N 348 i = nI (t i) := by
    refine ⟨fun i => (N 348 i).toInt.toNat, fun i hi => ?_⟩
    obtain ⟨v, v1, v2, v3⟩ := t4 i hi
    have hv : (N 348 i).toInt.toNat = v := by
      rw [v2, nI_toInt (by omega)]
      rfl
    show SG (N 2 i) (N 348 i).toInt.toNat ∧ N 348 i = nI (N 348 i).toInt.toNat
    rw [hv]
    exact ⟨⟨v1, v3⟩, v2⟩
  have hcb : CB N t len := ⟨t2, t1, fun i hi => (ht i hi).1⟩
  obtain ⟨N1, p1, pf, pe, po⟩ := c_parse (r := r) hcb
  cases hp : prX t len with
  | some e =>
    obtain ⟨_, er1, er2⟩ := pe e hp
    rw [hp] at p1
    have hC : f_X9_load 0 (mw N r) = some ((-10) - nI e.1, mw (st (st N1 1 1 0) 0 9 (nI (SS t len e.2))) r) := by
      unfold f_X9_load
      simp only [P0, p1, Option.isNone, bI_f, e_b]
      simp (disch := omega) only [P0, e_let, mw_pn, mw_1, st_cell, er1, er2, if_true]
    rcases r_load (N := st (st N1 1 1 0) 0 9 (nI (SS t len e.2))) (r := r) (t := t) t2 (by rw [st_cell (by omega), st_cell (by omega), pf 336 (by omega)]; exact t3) (fun i hi => by rw [st_cell (by omega), st_cell (by omega), pf 348 (by omega)]; exact ⟨(ht i hi).1.1, (ht i hi).2⟩) with ⟨e', N', y1, y2, y3, y4⟩ | ⟨y0, _⟩
    · have he : e = e' := by
        rw [hp] at y1
        exact Option.some.inj y1
      subst he
      have hc : ∀ a, a ≠ 0 → a ≠ 1 → (a < 3 ∨ 16 < a) → a ≠ 336 → a ≠ 349 → a ≠ 350 → N' a = N a := fun a q1 q2 q3 q4 q5 q6 => by rw [y3.1 a q4 q5 q6, st_cell q1, st_cell q2, pf a q3]
      have h6 : ∀ k, k < 4 ∨ (4 < k ∧ k < 16) ∨ 25 < k → N' 336 k = N 336 k := fun k hk => by rw [y3.2.1 k hk, st_cell (by omega), st_cell (by omega), pf 336 (by omega)]
      have h8 : N' 0 8 = N 0 8 := by rw [y3.1 0 (by omega) (by omega) (by omega), st_slot (by omega), st_cell (by omega), pf 0 (by omega)]
      refine ⟨N', r, ?_, GI_mono (T := T) (by omega) ⟨⟨0, ?_, by omega, ?_, fun i hi => absurd hi (Nat.not_lt_zero i)⟩, ?_, ?_, ⟨w, w1, ?_⟩, ?_⟩⟩
      · unfold lawc_2
        rw [hC, e_b, y2, e_b, if_pos rfl]
      · rw [y3.1 1 (by omega) (by omega) (by omega), st_cell (by omega), st_self]
        rfl
      · exact y3.2.2
      · rw [h6 32 (by omega)]; exact g2
      · rw [y3.1 0 (by omega) (by omega) (by omega), st_self, y4]
      · rw [hc 79 (by omega) (by omega) (by omega) (by omega) (by omega) (by omega)]; exact w2
      · rcases g5 with ⟨u1, u2, u3⟩ | ⟨D, su, A, h, w', H, hS⟩
        · exact .inl ⟨h8.trans u1, (h6 3 (by omega)).trans u2, (h6 5 (by omega)).trans u3⟩
        · exact .inr ⟨D, su, A, h, w', H, GS_L h8 (fun a ha => hc a (by omega) (by omega) (by omega) (by omega) (by omega) (by omega)) (fun k hk => h6 k (by omega)) hS⟩
    · rw [hp] at y0
      cases y0
  | none =>
    obtain ⟨o1, o2, o3, o4, o5, o6⟩ := po hp
    rw [hp] at p1
    have hs := sq_nn (show sq (sysX t len) (dmR t len 4 0).1 = none from hp)
    obtain ⟨D, hD⟩ : ∃ D, (dmR t len 4 0).2 = D := ⟨_, rfl⟩
    rw [hD] at o3 o4 o5 o6
    have hE : ∀ d, d < D → dE t len d = none := fun d hd => dm_n 4 0 hs.2 d (Nat.zero_le d) (by rw [hD]; exact hd)
    obtain ⟨hB, hc1, h6, hbd⟩ := sub_ok o4 o5 hE
    have hv1 : VV t len 1 ≤ 9999 := (numE_0 (stp_nz (sq_nn (sq_nn hs.1).2).1).2).2
    obtain ⟨M0, hM0⟩ : ∃ M0, M0 = st (st N1 1 1 0) 0 9 (-1) := ⟨_, rfl⟩
    obtain ⟨N3, c1, c2, c3, c4, c5⟩ := c_copy (N := M0) (r := r)
    obtain ⟨N4, d1, d2, d3, d4, d5, d6, d7, d8⟩ := c_reset (N := N3) (r := r) bL29
    have k17 : N4 17 1 = nI D := by rw [d2 17 (by omega), c3, hM0, st_cell (by omega), st_cell (by omega)]; exact o3
    have hC : f_X9_load 0 (mw N r) = some (nI D, mw (st (st N4 79 0 0) 0 8 1) r) := by
      unfold f_X9_load
      simp only [P0, p1, Option.isNone, bI_t, e_b]
      simp (disch := omega) only [P0, e_let, mw_pn, mw_1, st_cell, o1, i10, if_false, PX]
      rw [← hM0, c1, e_bv]
      simp only [P0, d1, e_bv, f_X0_forgetAll, PX, e_let, mw_pn, e_isb1]
      simp (disch := omega) only [P0, mw_1, st_cell, k17]
    obtain ⟨M, hM⟩ : ∃ M, M = st (st N4 79 0 0) 0 8 1 := ⟨_, rfl⟩
    rw [← hM] at hC
    have cM : ∀ a, a ≠ 0 → a ≠ 1 → a ≠ 79 → (a < 3 ∨ 53 < a) → M a = N a := fun a q1 q2 q3 q4 => by rw [hM, st_cell q1, st_cell q3, d2 a (by omega), c4 a (by omega), hM0, st_cell q1, st_cell q2, pf a (by omega)]
    rcases r_load (N := M) (r := r) (t := t) t2 (by rw [cM 336 (by omega) (by omega) (by omega) (by omega)]; exact t3) (fun i hi => by rw [cM 348 (by omega) (by omega) (by omega) (by omega)]; exact ⟨(ht i hi).1.1, (ht i hi).2⟩) with ⟨e', N', y1, _⟩ | ⟨_, N5, y1, y2, y3, y4, y5, y6⟩
    · rw [hp] at y1
      cases y1
    · rw [hD] at y5 y6
      obtain ⟨N', x1, x2, x3, x4, x5, x6, x7⟩ := t_over (r := r) o5 hc1 h6 y5 y4 y6
      have hR : f_X10_load 336 (mw M r) = some (nI D, mw N' r) := by rw [y1, x1, e_bv, mw_1, x6.1]
      have cN : ∀ a, a < 336 ∨ a = 338 → N' a = M a := fun a ha => by rw [x2 a (by omega), y2.1 a (by omega) (by omega) (by omega)]
      have c17 : ∀ a, 17 ≤ a → a < 29 → N' a = N3 a := fun a q1 q2 => by rw [cN a (by omega), hM, st_cell (by omega), st_cell (by omega), d2 a (by omega)]
      have c29 : ∀ a, 29 ≤ a → a < 54 → N' a = N4 a := fun a q1 q2 => by rw [cN a (by omega), hM, st_cell (by omega), st_cell (by omega)]
      have m4 : ∀ a, 4 ≤ a → a ≤ 16 → M0 a = N1 a := fun a q1 q2 => by rw [hM0, st_cell (by omega), st_cell (by omega)]
      have hDC : ∀ d, d < D → DCd M0 t len d := fun d hd => by rw [hM0]; exact DCd_w (by omega) (DCd_w (by omega) (o6 d hd))
      have b19 : ∀ d, d < D → d < lnT 19 ∧ d < lnT 25 ∧ d < lnT 24 := fun d hd => ⟨show d < 4 by omega, show d < 4 by omega, show d < 4 by omega⟩
      have hRC4 : RC N4 29 D (A0 t len) := by
        refine rc_ok (N := N3) o5 (fun d hd => (hbd d hd).1) ?_ (fun d hd => ⟨?_, ?_, ?_⟩) d3 d4 d5 d6 d7 d8
        · rw [c2, m4 4 (by omega) (by omega)]; exact o2
        · exact (c5 19 d (by omega) (by omega) (b19 d hd).1).trans (hDC d hd).2.1
        · exact (c5 25 d (by omega) (by omega) (b19 d hd).2.1).trans (hDC d hd).2.2.2.2.2.2.2.1
        · exact (c5 24 d (by omega) (by omega) (b19 d hd).2.2).trans (hDC d hd).2.2.2.2.2.2.1
      refine ⟨N', r, ?_, ⟨⟨0, ?_, by omega, ?_, fun i hi => absurd hi (Nat.not_lt_zero i)⟩, ?_, ?_, ⟨w, w1, ?_⟩, .inr ⟨D, suF t len, A0 t len, 0, w, fun _ => A0 t len, ?_, x4, hB, ?_, x6, ?_, x7, A0_inv hv1 hbd, ⟨?_, ?_, w1, by omega, fun i hi => absurd hi (Nat.not_lt_zero i)⟩, ⟨x5, by omega, fun i hi => absurd hi (Nat.not_lt_zero i)⟩, fun i hi => absurd hi (Nat.not_lt_zero i)⟩⟩⟩
      · unfold lawc_2
        rw [hC, e_b, hR, e_b, if_pos rfl]
      · rw [cN 1 (by omega), hM, st_cell (by omega), st_cell (by omega), d2 1 (by omega), c4 1 (by omega), hM0, st_cell (by omega), st_self]
        rfl
      · rw [x3 16 (by omega) (by omega) (by omega)]; exact y2.2.2
      · rw [x3 32 (by omega) (by omega) (by omega), y2.2.1 32 (by omega), cM 336 (by omega) (by omega) (by omega) (by omega)]; exact g2
      · rw [cN 0 (by omega), hM, st_slot (by omega), st_cell (by omega), d2 0 (by omega), c4 0 (by omega), hM0, st_self, x3 23 (by omega) (by omega) (by omega), y3]
      · rw [cN 79 (by omega), hM, st_cell (by omega), st_slot (by omega), d2 79 (by omega), c4 79 (by omega), hM0, st_cell (by omega), st_cell (by omega), pf 79 (by omega)]; exact w2
      · rw [cN 0 (by omega), hM, st_self]
      · refine suc_ok (N := M0) o5 ?_ (fun a k q1 q2 hk => ?_) hDC
        · rw [c17 17 (by omega) (by omega), c3, m4 4 (by omega) (by omega)]; exact o3
        · rw [c17 a (by omega) (by omega)]; exact c5 a k q1 q2 hk
      · exact RC_ext (fun a q1 q2 => c29 a q1 (by omega)) hRC4
      · rw [cN 79 (by omega), hM, st_cell (by omega), st_self]
        rfl
      · rw [cN 79 (by omega), hM, st_cell (by omega), st_slot (by omega), d2 79 (by omega), c4 79 (by omega), hM0, st_cell (by omega), st_cell (by omega), pf 79 (by omega)]; exact w2
