/-- levels, reference -/
theorem RS_s {N : Nat → Nat → Int32} {t : Nat → Nat} {len i a k : Nat} {x : Int32} {X : Option (Nat × Nat)} (ha : a ≠ 336) (ha2 : a ≠ 348) (h : RS N t len X i) : RS (st N a k x) t len X i := by
  have e1 : st N a k x 336 = N 336 := st_cell (fun q => ha q.symm)
  have e2 : st N a k x 348 = N 348 := st_cell (fun q => ha2 q.symm)
  cases X with
  | none =>
    unfold RS QB at h ⊢
    simp only [e1, e2]
    exact h
  | some e =>
    unfold RS at h ⊢
    simp only [e1]
    exact h
def FV (d j : Nat) (N N' : Nat → Nat → Int32) : Prop := (∀ a, a ≠ 336 → a ≠ 349 → a ≠ 350 → N' a = N a) ∧ (∀ k, k < 18 ∨ 23 < k → N' 336 k = N 336 k) ∧ (∀ k, k ≠ 9 * d + 8 → N' 349 k = N 349 k) ∧ ∀ k, k < 2 * (5 * d + j) ∨ 2 * (5 * d + 5) ≤ k → N' 350 k = N 350 k
theorem FV_R {d j : Nat} {N N' : Nat → Nat → Int32} (h : FR N N') : FV d j N N' := ⟨fun a q _ _ => h.1 a q, h.2, fun k _ => by rw [h.1 349 (by omega)], fun k _ => by rw [h.1 350 (by omega)]⟩
theorem FV_t {d j : Nat} {N N1 N2 : Nat → Nat → Int32} (h : FV d j N N1) (h2 : FV d j N1 N2) : FV d j N N2 := ⟨fun a q1 q2 q3 => (h2.1 a q1 q2 q3).trans (h.1 a q1 q2 q3), fun k q => (h2.2.1 k q).trans (h.2.1 k q), fun k q => (h2.2.2.1 k q).trans (h.2.2.1 k q), fun k q => (h2.2.2.2 k q).trans (h.2.2.2 k q)⟩
theorem FV_9 {d j : Nat} {N : Nat → Nat → Int32} {x : Int32} : FV d j N (st N 349 (9 * d + 8) x) := ⟨fun a _ q _ => st_cell q, fun k _ => by rw [st_cell (by omega)], fun k q => st_slot q, fun k _ => by rw [st_cell (by omega)]⟩
theorem FV_5 {d j q : Nat} {N : Nat → Nat → Int32} {x : Int32} (h1 : 2 * (5 * d + j) ≤ q) (h2 : q < 2 * (5 * d + 5)) : FV d j N (st N 350 q x) := ⟨fun a _ _ q => st_cell q, fun k _ => by rw [st_cell (by omega)], fun k _ => by rw [st_cell (by omega)], fun k _ => st_slot (by omega)⟩
theorem r_lvd {N : Nat → Nat → Int32} {r : Int64 × UInt64} {d j F : Nat} {v : Int32} (hd : d < 4) (h : N 336 22 ≠ 0) : lp_X10_readLevels_4 336 (nI (9 * d)) (F + 1) (nI j, v, mw N r) = some (mw (st N 349 (9 * d + 8) (nI j)) r) := by
  rw [lp_X10_readLevels_4]
  simp (disch := omega) only [r_isw1 h, e_b, if_true, g_fi1 h, PR, nI_p8, AR]
theorem r_lvs {r : Int64 × UInt64} {t : Nat → Nat} {len d : Nat} (hd : d < 4) : ∀ m j i prev F (N : Nat → Nat → Int32), j + m = 5 → m + 1 < F → prev ≤ 99999 → N 336 25 = nI d → RS N t len none i → ∃ N', lp_X10_readLevels_4 336 (nI (9 * d)) F (nI j, nI prev, mw N r) = some (mw N' r) ∧ FV d j N N' ∧ RS N' t len (lvR t len m i j prev).1 (lvR t len m i j prev).2.2 ∧ ((lvR t len m i j prev).1 = none → N' 349 (9 * d + 8) = nI (lvR t len m i j prev).2.1 ∧ ∀ n, j ≤ n → n < (lvR t len m i j prev).2.1 → N' 350 (2 * (5 * d + n)) = nI (VV t len (i + 4 * (n - j) + 1)) ∧ N' 350 (2 * (5 * d + n) + 1) = nI (VV t len (i + 4 * (n - j) + 2))) := by
  intro m
  induction m with
  | zero =>
    intro j i prev F N hj hF hpv h25 h
    obtain ⟨G, rfl⟩ := F_succ hF
    have hj5 : j = 5 := by omega
    subst hj5
    have hw : f_X10_isWord 336 11 (mw N r) = some (bI (WW t len 6 i), mw N r) := r_isw0 (c := 11) (by omega) h
    have h22 : N 336 22 = 0 := h.2.1
    rw [lp_X10_readLevels_4, lvR]
    cases hq : WW t len 6 i with
    | true =>
      obtain ⟨N', g1, g2, g3⟩ := r_fail (r := r) (x := 3) (c := 3) h rfl (by omega) (by omega)
      have g2' : RS N' t len (some (3, i)) i := g2
      refine ⟨N', ?_, FV_R g3, g2', fun z => by cases z⟩
      simp only [hw, hq, e_b, bI_t, i10, if_false, show (nI 5 = 5) = True from eq_true rfl, if_true, g1, e_bv, e_bd, g_fi1 (RS_n22 g2')]
    | false =>
      refine ⟨st N 349 (9 * d + 8) (nI 5), ?_, FV_9, RS_s (by omega) (by omega) h, fun _ => ⟨st_self _ _ _ _, fun n q1 q2 => absurd q2 (Nat.not_lt.mpr q1)⟩⟩
      simp (disch := omega) only [hw, hq, e_b, bI_f, if_true, g_fi0 h22, i10, if_false, show (nI 5 = 0) = False from eq_false (by decide), PR, nI_p8, AR]
  | succ m ih =>
    intro j i prev F N hj hF hpv h25 h
    obtain ⟨G, rfl⟩ := F_succ hF
    have hw : f_X10_isWord 336 11 (mw N r) = some (bI (WW t len 6 i), mw N r) := r_isw0 (c := 11) (by omega) h
    have h22 : N 336 22 = 0 := h.2.1
    have e0 : (nI j = 0) = (j = 0) := propext (nI_eq (b := 0) (by omega) (by omega))
    have e5 : (nI j = 5) = False := eq_false (fun q => absurd ((nI_eq (b := 5) (by omega) (by omega)).mp q) (by omega))
    rw [lp_X10_readLevels_4, lvR]
    cases hq : WW t len 6 i with
    | false =>
      rw [if_neg (by decide)]
      by_cases c0 : j = 0
      · obtain ⟨N', g1, g2, g3⟩ := r_fail (r := r) (x := 1) (c := 1) h rfl (by omega) (by omega)
        have g2' : RS N' t len (some (1, i)) i := g2
        rw [if_pos c0]
        refine ⟨N', ?_, FV_R g3, g2', fun z => by cases z⟩
        simp only [hw, hq, e_b, bI_f, if_true, g_fi0 h22, i10, if_false, e0.trans (eq_true c0), g1, e_bv, e_bd, g_fi1 (RS_n22 g2')]
      · rw [if_neg c0]
        refine ⟨st N 349 (9 * d + 8) (nI j), ?_, FV_9, RS_s (by omega) (by omega) h, fun _ => ⟨st_self _ _ _ _, fun n q1 q2 => absurd q2 (Nat.not_lt.mpr q1)⟩⟩
        simp (disch := omega) only [hw, hq, e_b, bI_f, if_true, g_fi0 h22, i10, if_false, e0.trans (eq_false c0), PR, nI_p8, AR]
    | true =>
      rw [if_pos rfl]
      obtain ⟨N1, g1, x1, f1⟩ := r_next0 (r := r) h
      obtain ⟨v2, N2, g2, x2, f2, y2⟩ := r_read (r := r) (x := nI (prev + 1)) (y := 999) (lo := prev + 1) (hi := 999) rfl rfl (by omega) (by omega) x1
      have x3 : RS (st N2 350 (2 * (5 * d + j)) v2) t len _ (i + 2) := RS_s (by omega) (by omega) x2
      obtain ⟨v4, N4, g4, x4, f4, y4⟩ := r_read (r := r) (x := 0) (y := 999) (lo := 0) (hi := 999) rfl rfl (by omega) (by omega) x3
      have x5 : RS (st N4 350 (2 * (5 * d + j) + 1) v4) t len _ (i + 3) := RS_s (by omega) (by omega) x4
      obtain ⟨N6, g6, x6, f6⟩ := r_sem (r := r) x5
      have k2 : N2 336 25 = nI d := by rw [f2.2 25 (by omega), f1.2 25 (by omega)]; exact h25
      have k6 : N6 336 25 = nI d := by rw [f6.2 25 (by omega), st_cell (by omega), f4.2 25 (by omega), st_cell (by omega)]; exact k2
      have hF6 : FV d j N N6 := FV_t (FV_t (FV_t (FV_t (FV_t (FV_R f1) (FV_R f2)) (FV_5 (by omega) (by omega))) (FV_R f4)) (FV_5 (by omega) (by omega))) (FV_R f6)
      have hlx : stp (stp (stp none (numE t len (i + 1) (prev + 1) 999) (i + 1)) (numE t len (i + 2) 0 999) (i + 2)) (semE t len (i + 3)) (i + 3) = lX t len i prev := by
        have hwz : wrdE t len 6 i = 0 := by unfold wrdE; rw [if_pos hq]
        rw [lX_d, sq_n (stp_z hwz), stp_sq (stp (stp none _ _) _ _), stp_sq (stp none _ _), sq_a]
      have x6' : RS N6 t len (lX t len i prev) (i + 4) := by rw [← hlx]; exact x6
      cases hl : lX t len i prev with
      | some e =>
        rw [hl] at x6'
        obtain ⟨G', rfl⟩ : ∃ G', G = G' + 1 := ⟨G - 1, by omega⟩
        have hdead := r_lvd (r := r) (d := d) (j := j + 1) (F := G') (v := v2) hd (RS_n22 x6')
        refine ⟨st N6 349 (9 * d + 8) (nI (j + 1)), ?_, FV_t hF6 FV_9, RS_s (by omega) (by omega) x6', fun z => by cases z⟩
        simp (disch := omega) only [hw, hq, e_b, bI_t, i10, if_false, e5, e_bd, g_fi0 h22, g1, e_bv, g2, PR, mw_1, k2, nI_5m, nI_add, nI_2m, AR, g4, st_cell, nI_p1, g6, e_let, nI_1', hdead]
      | none =>
        rw [hl] at x6'
        have hn1 : stp none (numE t len (i + 1) (prev + 1) 999) (i + 1) = none := by
          cases z : stp none (numE t len (i + 1) (prev + 1) 999) (i + 1) with
          | none => rfl
          | some e => rw [hl, z] at hlx; cases hlx
        have hn2 : stp (stp none (numE t len (i + 1) (prev + 1) 999) (i + 1)) (numE t len (i + 2) 0 999) (i + 2) = none := by
          cases z : stp (stp none (numE t len (i + 1) (prev + 1) 999) (i + 1)) (numE t len (i + 2) 0 999) (i + 2) with
          | none => rfl
          | some e => rw [hl, z] at hlx; cases hlx
        have hv2 := y2 hn1
        have hv4 := y4 hn2
        subst hv2
        subst hv4
        have hp : VV t len (i + 1) ≤ 99999 := by
          refine VV_le (Decidable.byContradiction fun q => ?_)
          unfold numE at hn1
          rw [if_neg q] at hn1
          cases hn1
        obtain ⟨N', k1, kf, kx, kd⟩ := ih (j + 1) (i + 4) (VV t len (i + 1)) G N6 (by omega) (by omega) hp k6 x6'
        refine ⟨N', ?_, FV_t hF6 ⟨kf.1, kf.2.1, kf.2.2.1, fun k q => kf.2.2.2 k (by omega)⟩, kx, fun z => ?_⟩
        · simp (disch := omega) only [hw, hq, e_b, bI_t, i10, if_false, e5, e_bd, g_fi0 h22, g1, e_bv, g2, PR, mw_1, k2, nI_5m, nI_add, nI_2m, AR, g4, st_cell, nI_p1, g6, e_let, nI_1', k1]
        · obtain ⟨y1, y6⟩ := kd z
          refine ⟨y1, fun n q1 q2 => ?_⟩
          by_cases hn : n = j
          · subst hn
            rw [kf.2.2.2 _ (by omega), kf.2.2.2 _ (by omega), Nat.sub_self, f6.1 350 (by omega), st_self, st_slot (by omega), f4.1 350 (by omega), st_self]
            exact ⟨rfl, rfl⟩
          · have := y6 n (by omega) q2
            rw [show i + 4 * (n - j) + 1 = i + 4 + 4 * (n - (j + 1)) + 1 by omega, show i + 4 * (n - j) + 2 = i + 4 + 4 * (n - (j + 1)) + 2 by omega]
            exact this
