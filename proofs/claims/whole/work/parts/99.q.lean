set_option maxRecDepth 100000 in
/-- the class takes the parsed text over -/
theorem CS : (∀ (N : Nat → Nat → Int32) (r : Int64 × UInt64), f_X9_copyRow 5 18 (mw N r) = some (mw (cpN N 5 18 4) r)) ∧ (∀ (N : Nat → Nat → Int32) (r : Int64 × UInt64), f_X9_copyRow 6 19 (mw N r) = some (mw (cpN N 6 19 4) r)) ∧ (∀ (N : Nat → Nat → Int32) (r : Int64 × UInt64), f_X9_copyRow 7 20 (mw N r) = some (mw (cpN N 7 20 4) r)) ∧ (∀ (N : Nat → Nat → Int32) (r : Int64 × UInt64), f_X9_copyRow 8 21 (mw N r) = some (mw (cpN N 8 21 4) r)) ∧ (∀ (N : Nat → Nat → Int32) (r : Int64 × UInt64), f_X9_copyRow 9 22 (mw N r) = some (mw (cpN N 9 22 4) r)) ∧ (∀ (N : Nat → Nat → Int32) (r : Int64 × UInt64), f_X9_copyRow 10 23 (mw N r) = some (mw (cpN N 10 23 4) r)) ∧ (∀ (N : Nat → Nat → Int32) (r : Int64 × UInt64), f_X9_copyRow 11 24 (mw N r) = some (mw (cpN N 11 24 4) r)) ∧ (∀ (N : Nat → Nat → Int32) (r : Int64 × UInt64), f_X9_copyRow 12 25 (mw N r) = some (mw (cpN N 12 25 4) r)) ∧ (∀ (N : Nat → Nat → Int32) (r : Int64 × UInt64), f_X9_copyRow 13 26 (mw N r) = some (mw (cpN N 13 26 4) r)) ∧ (∀ (N : Nat → Nat → Int32) (r : Int64 × UInt64), f_X9_copyRow 14 27 (mw N r) = some (mw (cpN N 14 27 20) r)) ∧ (∀ (N : Nat → Nat → Int32) (r : Int64 × UInt64), f_X9_copyRow 15 28 (mw N r) = some (mw (cpN N 15 28 20) r)) :=
  ⟨fun _ _ => g_cpR (by decide +kernel) (by decide +kernel) (by decide +kernel) (by decide +kernel) (by omega), fun _ _ => g_cpR (by decide +kernel) (by decide +kernel) (by decide +kernel) (by decide +kernel) (by omega), fun _ _ => g_cpR (by decide +kernel) (by decide +kernel) (by decide +kernel) (by decide +kernel) (by omega), fun _ _ => g_cpR (by decide +kernel) (by decide +kernel) (by decide +kernel) (by decide +kernel) (by omega), fun _ _ => g_cpR (by decide +kernel) (by decide +kernel) (by decide +kernel) (by decide +kernel) (by omega), fun _ _ => g_cpR (by decide +kernel) (by decide +kernel) (by decide +kernel) (by decide +kernel) (by omega), fun _ _ => g_cpR (by decide +kernel) (by decide +kernel) (by decide +kernel) (by decide +kernel) (by omega), fun _ _ => g_cpR (by decide +kernel) (by decide +kernel) (by decide +kernel) (by decide +kernel) (by omega), fun _ _ => g_cpR (by decide +kernel) (by decide +kernel) (by decide +kernel) (by decide +kernel) (by omega), fun _ _ => g_cpR (by decide +kernel) (by decide +kernel) (by decide +kernel) (by decide +kernel) (by omega), fun _ _ => g_cpR (by decide +kernel) (by decide +kernel) (by decide +kernel) (by decide +kernel) (by omega)⟩
def lnT (a : Nat) : Nat := if a < 27 then 4 else 20
theorem c_copy {N : Nat → Nat → Int32} {r : Int64 × UInt64} : ∃ N', f_X2_copyFrom 17 4 (mw N r) = some (mw N' r) ∧ N' 17 0 = N 4 0 ∧ N' 17 1 = N 4 1 ∧ (∀ a, a < 17 ∨ 28 < a → N' a = N a) ∧ ∀ a k, 18 ≤ a → a ≤ 28 → k < lnT a → N' a k = N (a - 13) k := by
  simp (disch := omega) only [f_X2_copyFrom, P4, P17, mw_pn, mw_1, e_let, CS, e_bv, st_cell]
  refine ⟨_, rfl, ?_, ?_, fun a ha => ?_, fun a k h1 h2 hk => ?_⟩
  · simp (disch := omega) only [cpN_cell, st_slot, st_self]
  · simp (disch := omega) only [cpN_cell, st_self]
  · simp (disch := omega) only [cpN_cell, st_cell]
  · have h4 : lnT a ≤ 20 := by unfold lnT; split <;> omega
    have ho : a = 18 ∨ a = 19 ∨ a = 20 ∨ a = 21 ∨ a = 22 ∨ a = 23 ∨ a = 24 ∨ a = 25 ∨ a = 26 ∨ a = 27 ∨ a = 28 := by omega
    rcases ho with rfl | rfl | rfl | rfl | rfl | rfl | rfl | rfl | rfl | rfl | rfl
    · have hk' : k < 4 := hk
      simp (disch := omega) only [cpN_cell, cpN_self, st_cell]
    · have hk' : k < 4 := hk
      simp (disch := omega) only [cpN_cell, cpN_self, st_cell]
    · have hk' : k < 4 := hk
      simp (disch := omega) only [cpN_cell, cpN_self, st_cell]
    · have hk' : k < 4 := hk
      simp (disch := omega) only [cpN_cell, cpN_self, st_cell]
    · have hk' : k < 4 := hk
      simp (disch := omega) only [cpN_cell, cpN_self, st_cell]
    · have hk' : k < 4 := hk
      simp (disch := omega) only [cpN_cell, cpN_self, st_cell]
    · have hk' : k < 4 := hk
      simp (disch := omega) only [cpN_cell, cpN_self, st_cell]
    · have hk' : k < 4 := hk
      simp (disch := omega) only [cpN_cell, cpN_self, st_cell]
    · have hk' : k < 4 := hk
      simp (disch := omega) only [cpN_cell, cpN_self, st_cell]
    · have hk' : k < 20 := hk
      simp (disch := omega) only [cpN_cell, cpN_self, st_cell]
    · have hk' : k < 20 := hk
      simp (disch := omega) only [cpN_cell, cpN_self, st_cell]
/-- a block is set back -/
theorem z_17 {r : Int64 × UInt64} {b : Nat} (hb : b ∈ bL) : ∀ m d F (N : Nat → Nat → Int32), d + m = 4 → m < F → ∃ N', lp_X1_reset_17 (b + 1) F (nI d, mw N r) = some (mw N' r) ∧ (∀ a, a ≠ b + 2 → a ≠ b + 3 → N' a = N a) ∧ (∀ k, k < d → N' (b + 2) k = N (b + 2) k ∧ N' (b + 3) k = N (b + 3) k) ∧ ∀ k, d ≤ k → k < 4 → N' (b + 2) k = 0 ∧ N' (b + 3) k = 0 := by
  intro m
  induction m with
  | zero =>
    intro d F N hm hF
    obtain ⟨G, rfl⟩ := F_succ hF
    refine ⟨N, ?_, fun _ _ _ => rfl, fun _ _ => ⟨rfl, rfl⟩, fun j q1 q2 => by omega⟩
    have e : ((4 : Int32) ≤ nI d) = True := eq_true (nI_le (a := 4) (by omega) (by omega))
    rw [lp_X1_reset_17]
    simp only [e, if_true]
  | succ m ih =>
    intro d F N hm hF
    obtain ⟨G, rfl⟩ := F_succ hF
    have e : ((4 : Int32) ≤ nI d) = False := eq_false (fun q => absurd ((nI_leI (a := 4) (by omega) (by omega)).mp q) (by omega))
    obtain ⟨N', g1, g2, g3, g4⟩ := ih (d + 1) G (st (st N (b + 2) d 0) (b + 3) d 0) (by omega) (by omega)
    refine ⟨N', ?_, fun a q1 q2 => by rw [g2 a q1 q2, st_cell q2, st_cell q1], fun k hk => ?_, fun k q1 q2 => ?_⟩
    · rw [lp_X1_reset_17]
      simp (disch := omega) only [e, if_false, SB hb, SL hb, e_let, nI_1', g1]
    · have y := g3 k (by omega)
      rw [y.1, y.2]
      simp (disch := omega) only [st_slot]
      exact ⟨trivial, trivial⟩
    · by_cases c : k = d
      · subst c
        have y := g3 k (by omega)
        rw [y.1, y.2, st_self, st_cell (by omega), st_self]
        exact ⟨rfl, rfl⟩
      · exact g4 k (by omega) q2
theorem z_44 {r : Int64 × UInt64} {b : Nat} (hb : b ∈ bL) : ∀ m d F (N : Nat → Nat → Int32), d + m = 8 → m < F → ∃ N', lp_X1_reset_44 (b + 1) F (nI d, mw N r) = some (mw N' r) ∧ (∀ a, a ≠ b + 12 → a ≠ b + 13 → N' a = N a) ∧ (∀ k, k < d → N' (b + 12) k = N (b + 12) k ∧ N' (b + 13) k = N (b + 13) k) ∧ ∀ k, d ≤ k → k < 8 → N' (b + 12) k = 0 ∧ N' (b + 13) k = 0 := by
  intro m
  induction m with
  | zero =>
    intro d F N hm hF
    obtain ⟨G, rfl⟩ := F_succ hF
    refine ⟨N, ?_, fun _ _ _ => rfl, fun _ _ => ⟨rfl, rfl⟩, fun j q1 q2 => by omega⟩
    have e : ((8 : Int32) ≤ nI d) = True := eq_true (nI_le (a := 8) (by omega) (by omega))
    rw [lp_X1_reset_44]
    simp only [e, if_true]
  | succ m ih =>
    intro d F N hm hF
    obtain ⟨G, rfl⟩ := F_succ hF
    have e : ((8 : Int32) ≤ nI d) = False := eq_false (fun q => absurd ((nI_leI (a := 8) (by omega) (by omega)).mp q) (by omega))
    obtain ⟨N', g1, g2, g3, g4⟩ := ih (d + 1) G (st (st N (b + 12) d 0) (b + 13) d 0) (by omega) (by omega)
    refine ⟨N', ?_, fun a q1 q2 => by rw [g2 a q1 q2, st_cell q2, st_cell q1], fun k hk => ?_, fun k q1 q2 => ?_⟩
    · rw [lp_X1_reset_44]
      simp (disch := omega) only [e, if_false, SB hb, SL hb, e_let, nI_1', g1]
    · have y := g3 k (by omega)
      rw [y.1, y.2]
      simp (disch := omega) only [st_slot]
      exact ⟨trivial, trivial⟩
    · by_cases c : k = d
      · subst c
        have y := g3 k (by omega)
        rw [y.1, y.2, st_self, st_cell (by omega), st_self]
        exact ⟨rfl, rfl⟩
      · exact g4 k (by omega) q2
theorem z_135 {r : Int64 × UInt64} {b : Nat} (hb : b ∈ bL) : ∀ m d F (N : Nat → Nat → Int32), d + m = 16 → m < F → ∃ N', lp_X3_reset_135 b F (nI d, mw N r) = some (mw N' r) ∧ (∀ a, a ≠ b + 24 → N' a = N a) ∧ (∀ k, k < d → N' (b + 24) k = N (b + 24) k) ∧ ∀ k, d ≤ k → k < 16 → N' (b + 24) k = -2 := by
  have hl : hz_ln (b + 24) = 16 := ((bl_s hb).2.2.2 22 (by omega)).2.2
  have h16 : Int32.ofNat 16 = nI 16 := rfl
  intro m
  induction m with
  | zero =>
    intro d F N hm hF
    obtain ⟨G, rfl⟩ := F_succ hF
    refine ⟨N, ?_, fun _ _ => rfl, fun _ _ => rfl, fun j q1 q2 => by omega⟩
    have e : (nI 16 ≤ nI d) = True := eq_true (nI_le (by omega) (by omega))
    rw [lp_X3_reset_135]
    simp only [SB hb, hl, h16, e, if_true]
  | succ m ih =>
    intro d F N hm hF
    obtain ⟨G, rfl⟩ := F_succ hF
    have e : (nI 16 ≤ nI d) = False := eq_false (fun q => absurd ((nI_leI (by omega) (by omega)).mp q) (by omega))
    obtain ⟨N', g1, g2, g3, g4⟩ := ih (d + 1) G (st N (b + 24) d (-2)) (by omega) (by omega)
    refine ⟨N', ?_, fun a q1 => by rw [g2 a q1, st_cell q1], fun k hk => ?_, fun k q1 q2 => ?_⟩
    · rw [lp_X3_reset_135]
      simp (disch := omega) only [SB hb, hl, h16, e, if_false, SL hb, e_let, nI_1', g1]
    · rw [g3 k (by omega), st_slot (by omega)]
    · by_cases c : k = d
      · subst c
        rw [g3 k (by omega), st_self]
      · exact g4 k (by omega) q2
def z67 (N : Nat → Nat → Int32) (b d : Nat) : Nat → Nat → Int32 := st (st (st (st (st (st (st N (b + 16) d (N 17 0)) (b + 17) d 0) (b + 18) d 0) (b + 20) d 0) (b + 21) d 0) (b + 22) d 0) (b + 23) d 0
theorem z_67 {r : Int64 × UInt64} {b : Nat} (hb : b ∈ bL) : ∀ m d F (N : Nat → Nat → Int32), d + m = 4 → m < F → ∃ N', lp_X3_reset_67 b F (nI d, mw N r) = some (mw N' r) ∧ (∀ a, (a < b + 16 ∨ a = b + 19 ∨ b + 23 < a) → N' a = N a) ∧ (∀ a k, k < d → N' a k = N a k) ∧ ∀ k, d ≤ k → k < 4 → N' (b + 16) k = N 17 0 ∧ N' (b + 17) k = 0 ∧ N' (b + 18) k = 0 ∧ N' (b + 20) k = 0 ∧ N' (b + 21) k = 0 ∧ N' (b + 22) k = 0 ∧ N' (b + 23) k = 0 := by
  have h29 := bL_29 b hb
  intro m
  induction m with
  | zero =>
    intro d F N hm hF
    obtain ⟨G, rfl⟩ := F_succ hF
    refine ⟨N, ?_, fun _ _ => rfl, fun _ _ _ => rfl, fun j q1 q2 => by omega⟩
    have e : ((4 : Int32) ≤ nI d) = True := eq_true (nI_le (a := 4) (by omega) (by omega))
    rw [lp_X3_reset_67]
    simp only [e, if_true]
  | succ m ih =>
    intro d F N hm hF
    obtain ⟨G, rfl⟩ := F_succ hF
    have e : ((4 : Int32) ≤ nI d) = False := eq_false (fun q => absurd ((nI_leI (a := 4) (by omega) (by omega)).mp q) (by omega))
    obtain ⟨N', g1, g2, g3, g4⟩ := ih (d + 1) G (z67 N b d) (by omega) (by omega)
    refine ⟨N', ?_, fun a ha => ?_, fun a k hk => ?_, fun k q1 q2 => ?_⟩
    · unfold z67 at g1
      rw [lp_X3_reset_67]
      simp (disch := omega) only [e, if_false, SB hb, SL hb, mw_1, e_let, nI_1', g1]
    · rw [g2 a ha]
      unfold z67
      simp (disch := omega) only [st_cell]
    · rw [g3 a k (by omega)]
      unfold z67
      simp (disch := omega) only [st_slot]
    · by_cases c : k = d
      · subst c
        simp only [g3 _ k (Nat.lt_succ_self k)]
        unfold z67
        simp (disch := omega) only [st_cell, st_self]
        exact ⟨trivial, trivial, trivial, trivial, trivial, trivial, trivial⟩
      · have y := g4 k (by omega) q2
        have y17 : z67 N b d 17 0 = N 17 0 := by
          unfold z67
          simp (disch := omega) only [st_cell]
        rw [y17] at y
        exact y
theorem z_cr {b o s : Nat} (hb : b ∈ bL) {N : Nat → Nat → Int32} {r : Int64 × UInt64} (ho : 14 ≤ o) (ho2 : o < 24) (hs : s = 19 ∨ s = 24 ∨ s = 25) : f_X9_copyRow s (b + o) (mw N r) = some (mw (cpN N s (b + o) 4) r) := by
  obtain ⟨k, rfl⟩ : ∃ k, o = k + 2 := ⟨o - 2, by omega⟩
  have s2 := (bl_s hb).2.2.2 k (by omega)
  have hL : ∀ o, o < 24 → 14 ≤ o → [0, 0, 4, 4, 24, 24, 24, 24, 24, 24, 24, 24, 8, 8, 4, 4, 4, 4, 4, 4, 4, 4, 4, 4, 16].getD o 0 = 4 := by decide
  have hg : hz_g 358 s 20 = true := by
    rcases hs with rfl | rfl | rfl <;> decide +kernel
  have hl : hz_ln s = 4 := by
    rcases hs with rfl | rfl | rfl <;> decide +kernel
  exact g_cpR hg s2.1 hl (s2.2.2.trans (hL (k + 2) ho2 ho)) (by omega)
theorem c_reset {N : Nat → Nat → Int32} {r : Int64 × UInt64} {b : Nat} (hb : b ∈ bL) : ∃ N', f_X3_reset b (mw N r) = some (mw N' r) ∧ FC b N N' ∧ (N' (b + 1) 0 = 0 ∧ N' (b + 1) 1 = 0 ∧ N' (b + 1) 2 = 0 ∧ N' b 2 = 0 ∧ N' b 3 = N 17 0) ∧ (∀ k, k < 4 → N' (b + 2) k = 0 ∧ N' (b + 3) k = 0) ∧ (∀ k, k < 8 → N' (b + 12) k = 0 ∧ N' (b + 13) k = 0) ∧ (∀ k, k < 4 → N' (b + 14) k = N 19 k ∧ N' (b + 15) k = N 25 k ∧ N' (b + 19) k = N 24 k) ∧ (∀ k, k < 4 → N' (b + 16) k = N 17 0 ∧ N' (b + 17) k = 0 ∧ N' (b + 18) k = 0 ∧ N' (b + 20) k = 0 ∧ N' (b + 21) k = 0 ∧ N' (b + 22) k = 0 ∧ N' (b + 23) k = 0) ∧ ∀ k, k < 16 → N' (b + 24) k = -2 := by
  have h29 := bL_29 b hb
  obtain ⟨N1, g1, f1, _, z1⟩ := z_17 (r := r) hb 4 0 3000 (st (st (st N (b + 1) 0 0) (b + 1) 1 0) (b + 1) 2 0) (by omega) (by omega)
  have g1' : lp_X1_reset_17 (b + 1) 3000 (0, mw (st (st (st N (b + 1) 0 0) (b + 1) 1 0) (b + 1) 2 0) r) = some (mw N1 r) := g1
  obtain ⟨N2, g2, f2, _, z2⟩ := z_44 (r := r) hb 8 0 3000 N1 (by omega) (by omega)
  have g2' : lp_X1_reset_44 (b + 1) 3000 (0, mw N1 r) = some (mw N2 r) := g2
  have hr : f_X1_reset (b + 1) (mw N r) = some (mw N2 r) := by
    unfold f_X1_reset
    simp only [SB hb, e_let, mw_pn]
    rw [g1', e_bd, g2', e_bd]
  have fa : ∀ a, a < b ∨ b + 25 ≤ a → N2 a = N a := fun a ha => by rw [f2 a (by omega) (by omega), f1 a (by omega) (by omega), st_cell (by omega), st_cell (by omega), st_cell (by omega)]
  obtain ⟨N3, hN3⟩ : ∃ N3, N3 = cpN (cpN (cpN (st (st N2 b 2 0) b 3 (N 17 0)) 19 (b + 14) 4) 25 (b + 15) 4) 24 (b + 19) 4 := ⟨_, rfl⟩
  obtain ⟨N4, g4, f4, _, z4⟩ := z_67 (r := r) hb 4 0 3000 N3 (by omega) (by omega)
  have g4' : lp_X3_reset_67 b 3000 (0, mw N3 r) = some (mw N4 r) := g4
  obtain ⟨N5, g5, f5, _, z5⟩ := z_135 (r := r) hb 16 0 3000 N4 (by omega) (by omega)
  have g5' : lp_X3_reset_135 b 3000 (0, mw N4 r) = some (mw N5 r) := g5
  have c3 : ∀ a, a ≠ b → a ≠ b + 14 → a ≠ b + 15 → a ≠ b + 19 → N3 a = N2 a := fun a q1 q2 q3 q4 => by
    rw [hN3, cpN_cell q4, cpN_cell q3, cpN_cell q2, st_cell q1, st_cell q1]
  have c4 : ∀ a, (a < b + 16 ∨ a = b + 19) → N5 a = N3 a := fun a ha => by rw [f5 a (by omega), f4 a (by omega)]
  refine ⟨N5, ?_, fun a ha => by rw [f5 a (by omega), f4 a (by omega), c3 a (by omega) (by omega) (by omega) (by omega), fa a ha], ⟨?_, ?_, ?_, ?_, ?_⟩, fun k hk => ?_, fun k hk => ?_, fun k hk => ⟨?_, ?_, ?_⟩, fun k hk => ?_, fun k hk => z5 k (by omega) hk⟩
  · unfold f_X3_reset
    simp only [SB hb, e_let, mw_pn, mw_1, hr, e_bv]
    simp (disch := omega) only [st_cell, fa 17 (by omega), P17, z_cr hb, SB hb, e_bv]
    rw [← hN3, g4', e_bd, g5', e_bd]
  · rw [c4 _ (by omega), c3 _ (by omega) (by omega) (by omega) (by omega), f2 _ (by omega) (by omega), f1 _ (by omega) (by omega), st_slot (by omega), st_slot (by omega), st_self]
  · rw [c4 _ (by omega), c3 _ (by omega) (by omega) (by omega) (by omega), f2 _ (by omega) (by omega), f1 _ (by omega) (by omega), st_slot (by omega), st_self]
  · rw [c4 _ (by omega), c3 _ (by omega) (by omega) (by omega) (by omega), f2 _ (by omega) (by omega), f1 _ (by omega) (by omega), st_self]
  · rw [c4 _ (by omega), hN3, cpN_cell (by omega), cpN_cell (by omega), cpN_cell (by omega), st_slot (by omega), st_self]
  · rw [c4 _ (by omega), hN3, cpN_cell (by omega), cpN_cell (by omega), cpN_cell (by omega), st_self]
  · rw [c4 (b + 2) (by omega), c4 (b + 3) (by omega), c3 (b + 2) (by omega) (by omega) (by omega) (by omega), c3 (b + 3) (by omega) (by omega) (by omega) (by omega), f2 (b + 2) (by omega) (by omega), f2 (b + 3) (by omega) (by omega)]
    exact z1 k (by omega) hk
  · rw [c4 (b + 12) (by omega), c4 (b + 13) (by omega), c3 (b + 12) (by omega) (by omega) (by omega) (by omega), c3 (b + 13) (by omega) (by omega) (by omega) (by omega)]
    exact z2 k (by omega) hk
  · rw [c4 _ (by omega), hN3, cpN_cell (by omega), cpN_cell (by omega), cpN_self hk, st_cell (by omega), st_cell (by omega), fa 19 (by omega)]
  · rw [c4 _ (by omega), hN3, cpN_cell (by omega), cpN_self hk, cpN_cell (by omega), st_cell (by omega), st_cell (by omega), fa 25 (by omega)]
  · rw [c4 _ (by omega), hN3, cpN_self hk, cpN_cell (by omega), cpN_cell (by omega), st_cell (by omega), st_cell (by omega), fa 24 (by omega)]
  · have y := z4 k (by omega) hk
    have y17 : N3 17 0 = N 17 0 := by rw [c3 17 (by omega) (by omega) (by omega) (by omega), fa 17 (by omega)]
    rw [y17] at y
    rw [f5 (b + 16) (by omega), f5 (b + 17) (by omega), f5 (b + 18) (by omega), f5 (b + 20) (by omega), f5 (b + 21) (by omega), f5 (b + 22) (by omega), f5 (b + 23) (by omega)]
    exact y
