theorem RS_25 {N : Nat → Nat → Int32} {t : Nat → Nat} {len i : Nat} {x : Int32} {X : Option (Nat × Nat)} (h : RS N t len X i) : RS (st N 336 25 x) t len X i := by
  cases X with
  | none =>
    unfold RS QB at h ⊢
    simp (disch := omega) only [st_slot, st_cell]
    exact h
  | some e =>
    unfold RS at h ⊢
    simp (disch := omega) only [st_slot]
    exact h
def FE (d : Nat) (N N' : Nat → Nat → Int32) : Prop := (∀ a, a ≠ 336 → a ≠ 349 → a ≠ 350 → N' a = N a) ∧ (∀ k, k < 18 ∨ k = 24 ∨ 25 < k → N' 336 k = N 336 k) ∧ (∀ k, k < 9 * d ∨ 9 * d + 8 < k → N' 349 k = N 349 k) ∧ ∀ k, k < 2 * (5 * d) ∨ 2 * (5 * d + 5) ≤ k → N' 350 k = N 350 k
def QD (N : Nat → Nat → Int32) (t : Nat → Nat) (len d : Nat) : Prop := (N 349 (9 * d) = nI (VV t len (ds t len d + 1)) ∧ N 349 (9 * d + 1) = nI (VV t len (ds t len d + 2)) ∧ N 349 (9 * d + 2) = nI (VV t len (ds t len d + 3)) ∧ N 349 (9 * d + 3) = nI (VV t len (ds t len d + 4)) ∧ N 349 (9 * d + 4) = nI (VV t len (ds t len d + 5)) ∧ N 349 (9 * d + 5) = nI (VV t len (ds t len d + 6)) ∧ N 349 (9 * d + 6) = nI (VV t len (ds t len d + 7)) ∧ N 349 (9 * d + 7) = nI (polV t len (ds t len d + 8))) ∧ N 349 (9 * d + 8) = nI (cn t len d) ∧ ∀ n, n < cn t len d → N 350 (2 * (5 * d + n)) = nI (VV t len (ds t len d + 10 + 4 * n + 1)) ∧ N 350 (2 * (5 * d + n) + 1) = nI (VV t len (ds t len d + 10 + 4 * n + 2))
theorem r_dom {N : Nat → Nat → Int32} {r : Int64 × UInt64} {t : Nat → Nat} {len d : Nat} (hd : d < 4) (h25 : N 336 25 = nI d) (hw : WW t len 0 (ds t len d) = true) (h : RS N t len none (ds t len d)) : ∃ N', f_X10_readDomain 336 (mw N r) = some (mw N' r) ∧ RS N' t len (dE t len d) (ds t len (d + 1)) ∧ N' 336 25 = nI (d + 1) ∧ FE d N N' ∧ (dE t len d = none → QD N' t len d) := by
  obtain ⟨N1, g1, x1, f1, v1⟩ := r_hd (r := r) hd h25 h
  rw [hd_eq (by unfold wrdE; rw [if_pos hw])] at x1 v1
  have k1 : N1 336 25 = nI d := by rw [f1.2.1 25 (by omega)]; exact h25
  unfold dE
  cases c1 : hdX t len (ds t len d) with
  | some e =>
    rw [c1] at x1
    have hl : f_X10_readLevels 336 (nI (9 * d)) (mw N1 r) = some (mw (st N1 349 (9 * d + 8) (nI 0)) r) := by
      unfold f_X10_readLevels
      rw [GR]
      exact r_lvd (F := 2999) (j := 0) (v := 0) hd (RS_n22 x1)
    refine ⟨st (st N1 349 (9 * d + 8) (nI 0)) 336 25 (nI (d + 1)), ?_, RS_25 (RS_s (by omega) (by omega) x1), st_self _ _ _ _, ⟨fun a q1 q2 q3 => by rw [st_cell q1, st_cell q2, f1.1 a q1 q2], fun k hk => by rw [st_slot (by omega), st_cell (by omega), f1.2.1 k (by omega)], fun k hk => by rw [st_cell (by omega), st_slot (by omega), f1.2.2 k (by omega)], fun k hk => by rw [st_cell (by omega), st_cell (by omega), f1.1 350 (by omega) (by omega)]⟩, fun z => by cases z⟩
    rw [g1, hl]
    simp (disch := omega) only [e_bv, e_let, mw_pn, mw_1, st_cell, k1, nI_p1]
  | none =>
    have D1 := v1 c1
    rw [c1] at x1
    obtain ⟨N2, g2, f2, x2, v2⟩ := r_lvs (r := r) hd 5 0 (ds t len d + 10) 0 3000 N1 (by omega) (by omega) (by omega) k1 x1
    have hl : f_X10_readLevels 336 (nI (9 * d)) (mw N1 r) = some (mw N2 r) := by
      unfold f_X10_readLevels
      rw [GR]
      exact g2
    have k2 : N2 336 25 = nI d := by rw [f2.2.1 25 (by omega)]; exact k1
    refine ⟨st N2 336 25 (nI (d + 1)), ?_, RS_25 x2, st_self _ _ _ _, ⟨fun a q1 q2 q3 => by rw [st_cell q1, f2.1 a q1 q2 q3, f1.1 a q1 q2], fun k hk => by rw [st_slot (by omega), f2.2.1 k (by omega), f1.2.1 k (by omega)], fun k hk => by rw [st_cell (by omega), f2.2.2.1 k (by omega), f1.2.2 k (by omega)], fun k hk => by rw [st_cell (by omega), f2.2.2.2 k (by omega), f1.1 350 (by omega) (by omega)]⟩, fun z => ?_⟩
    · rw [g1, hl]
      simp (disch := omega) only [e_bv, e_let, mw_pn, mw_1, k2, nI_p1]
    · obtain ⟨y1, y2⟩ := v2 z
      have e9 : ∀ k, k < 9 * d + 8 → st N2 336 25 (nI (d + 1)) 349 k = N1 349 k := fun k hk => by rw [st_cell (by omega), f2.2.2.1 k (by omega)]
      refine ⟨?_, by rw [st_cell (by omega)]; exact y1, fun n hn => ?_⟩
      · rw [e9 _ (by omega), e9 _ (by omega), e9 _ (by omega), e9 _ (by omega), e9 _ (by omega), e9 _ (by omega), e9 _ (by omega), e9 _ (by omega)]
        exact D1
      · rw [st_cell (by omega)]
        exact y2 n (by omega) hn
theorem r_dom4 {N : Nat → Nat → Int32} {r : Int64 × UInt64} {t : Nat → Nat} {len i : Nat} (h25 : N 336 25 = nI 4) (h : RS N t len none i) : ∃ N', f_X10_readDomain 336 (mw N r) = some (mw N' r) ∧ RS N' t len (some (3, i)) i ∧ FR N N' := by
  obtain ⟨N1, g1, g2, g3⟩ := r_fail (r := r) (x := 3) (c := 3) h rfl (by omega) (by omega)
  have g2' : RS N1 t len (some (3, i)) i := g2
  refine ⟨N1, ?_, g2', g3⟩
  simp only [f_X10_readDomain, GR, mw_1, h25, show (nI 4 = 4) = True from eq_true rfl, if_true, g1, e_bv, e_bd, r_next1 (RS_n22 g2'), g_fi1 (RS_n22 g2'), e_b]
