def LO (o : Nat) : Nat := [0, 0, 4, 4, 24, 24, 24, 24, 24, 24, 24, 24, 8, 8, 4, 4, 4, 4, 4, 4, 4, 4, 4, 4, 16].getD o 0
theorem LO_le : ∀ o, o < 25 → LO o ≤ 24 := by decide
theorem bL_dis : ∀ b ∈ bL, ∀ b' ∈ bL, b = b' ∨ b + 25 ≤ b' ∨ b' + 25 ≤ b := by decide
theorem bL_336 : ∀ b ∈ bL, b + 25 ≤ 331 := by decide
def cpN (N : Nat → Nat → Int32) (a a' n : Nat) : Nat → Nat → Int32 := sa N a' (va_cpy (N a) (N a') 0 0 n)
theorem cpN_cell {N : Nat → Nat → Int32} {a a' n x : Nat} (h : x ≠ a') : cpN N a a' n x = N x := sa_cell h
theorem cpN_self {N : Nat → Nat → Int32} {a a' n k : Nat} (h : k < n) : cpN N a a' n a' k = N a k := by
  unfold cpN
  rw [sa_self, pk_cpy_in (by omega) (by omega)]
  congr 1
  omega
theorem g_cpR {N : Nat → Nat → Int32} {r : Int64 × UInt64} {a0 a1 n : Nat} (h0 : hz_g 358 a0 20 = true) (h1 : hz_g 358 a1 20 = true) (l0 : hz_ln a0 = n) (l1 : hz_ln a1 = n) (hn : n ≤ 2870) : f_X9_copyRow a0 a1 (mw N r) = some (mw (cpN N a0 a1 n) r) := by
  have e : (if Int32.ofNat n < Int32.ofNat n then Int32.ofNat n else Int32.ofNat n) = nI n := by split <;> rfl
  have hc : hz_cpok 0 0 (nI n) a0 a1 = true := by
    unfold hz_cpok
    rw [l0, l1, nI_clamp (by omega)]
    simp only [Bool.and_eq_true, decide_eq_true_eq]
    exact ⟨⟨⟨⟨by decide, by decide⟩, nI_pos' (by omega)⟩, by show 0 + n ≤ n; omega⟩, by show 0 + n ≤ n; omega⟩
  unfold f_X9_copyRow hz_cp
  rw [h0, h1, l0, l1, e, hc, nI_clamp (by omega)]
  rfl
theorem g_cr {b b' : Nat} (hb : b ∈ bL) (hb' : b' ∈ bL) {N : Nat → Nat → Int32} {r : Int64 × UInt64} {o : Nat} (h2 : 2 ≤ o) (h25 : o < 25) : f_X9_copyRow (b + o) (b' + o) (mw N r) = some (mw (cpN N (b + o) (b' + o) (LO o)) r) := by
  obtain ⟨k, rfl⟩ : ∃ k, o = k + 2 := ⟨o - 2, by omega⟩
  have s1 := (bl_s hb).2.2.2 k (by omega)
  have s2 := (bl_s hb').2.2.2 k (by omega)
  have h3 := LO_le (k + 2) h25
  exact g_cpR s1.1 s2.1 s1.2.2 s2.2.2 (show LO (k + 2) ≤ 2870 by omega)
theorem RC_cp {C C' : Nat → Nat → Int32} {b b' D : Nat} {A : AS} (hD : D ≤ 4) (hc : A 30 0 ≤ 24) (h0 : C' (b' + 1) 0 = C (b + 1) 0) (h1 : C' (b' + 1) 1 = C (b + 1) 1) (h2 : C' (b' + 1) 2 = C (b + 1) 2) (h3 : C' b' 2 = C b 2) (h4 : C' b' 3 = C b 3) (hO : ∀ o, 2 ≤ o → o < 25 → ∀ k, k < LO o → C' (b' + o) k = C (b + o) k) (h : RC C b D A) : RC C' b' D A := by
  obtain ⟨⟨g1, g2, g3⟩, g4, g5, g6, g7, g8, g9, g10, g11, g12, g13, g14⟩ := h
  have hL4 : ∀ o, o < 24 → 14 ≤ o → LO o = 4 := by decide
  have hL24 : ∀ o, o < 12 → 4 ≤ o → LO o = 24 := by decide
  refine ⟨⟨?_, ?_, ?_⟩, ?_, ?_, ?_, ?_, ?_, ?_, ?_, ?_, ?_, ?_, ?_⟩
  · rw [h0]; exact g1
  · rw [h3]; exact g2
  · rw [h4]; exact g3
  · intro j k hj hk
    rw [hO (4 + k) (by omega) (by omega) j (by rw [hL24 _ (by omega) (by omega)]; omega)]
    exact g4 j k hj hk
  · intro j hj h7
    rw [hO 11 (by omega) (by omega) j (by rw [hL24 _ (by omega) (by omega)]; omega)]
    exact g5 j hj h7
  · intro i hi
    rw [h1]; exact g6 i hi
  · intro i hi
    rw [h2]; exact g7 i hi
  · intro d i hd hi
    rw [hO 2 (by omega) (by omega) d (show d < 4 by omega)]
    exact g8 d i hd hi
  · intro d i hd hi
    rw [hO 3 (by omega) (by omega) d (show d < 4 by omega)]
    exact g9 d i hd hi
  · intro k hk
    rw [hO 12 (by omega) (by omega) k (show k < 8 by omega)]
    exact g10 k hk
  · intro k hk
    rw [hO 13 (by omega) (by omega) k (show k < 8 by omega)]
    exact g11 k hk
  · intro d hd
    rw [hO 14 (by omega) (by omega) d (show d < 4 by omega)]
    exact g12 d hd
  · intro d k hd hk
    rw [hO (15 + k) (by omega) (by omega) d (by rw [hL4 _ (by omega) (by omega)]; omega)]
    exact g13 d k hd hk
  · intro d e hd he
    rw [hO 24 (by omega) (by omega) (d * 4 + e) (show d * 4 + e < 16 by omega)]
    exact g14 d e hd he
theorem cp_C {C : Nat → Nat → Int32} {r : Int64 × UInt64} {b b' D : Nat} {A : AS} (hb : b ∈ bL) (hb' : b' ∈ bL) (hne : b ≠ b') (hD : D ≤ 4) (hc : A 30 0 ≤ 24) (h : RC C b D A) : ∃ C', f_X3_copyFrom b' b (mw C r) = some (mw C' r) ∧ RC C' b' D A ∧ FC b' C C' := by
  have hd := bL_dis b hb b' hb'
  have hd2 : b + 25 ≤ b' ∨ b' + 25 ≤ b := by omega
  simp (disch := omega) only [f_X3_copyFrom, f_X1_copyFrom, SB hb, SB hb', mw_pn, mw_1, e_let, g_cr hb hb', e_bv, st_cell]
  refine ⟨_, rfl, ?_, ?_⟩
  · refine RC_cp hD hc ?_ ?_ ?_ ?_ ?_ ?_ h
    · simp (disch := omega) only [cpN_cell, st_cell, st_slot, st_self]
    · simp (disch := omega) only [cpN_cell, st_cell, st_slot, st_self]
    · simp (disch := omega) only [cpN_cell, st_cell, st_slot, st_self]
    · simp (disch := omega) only [cpN_cell, st_cell, st_slot, st_self]
    · simp (disch := omega) only [cpN_cell, st_cell, st_slot, st_self]
    · intro o h2 h25 k hk
      have ho : o = 2 ∨ o = 3 ∨ o = 4 ∨ o = 5 ∨ o = 6 ∨ o = 7 ∨ o = 8 ∨ o = 9 ∨ o = 10 ∨ o = 11 ∨ o = 12 ∨ o = 13 ∨ o = 14 ∨ o = 15 ∨ o = 16 ∨ o = 17 ∨ o = 18 ∨ o = 19 ∨ o = 20 ∨ o = 21 ∨ o = 22 ∨ o = 23 ∨ o = 24 := by omega
      rcases ho with rfl | rfl | rfl | rfl | rfl | rfl | rfl | rfl | rfl | rfl | rfl | rfl | rfl | rfl | rfl | rfl | rfl | rfl | rfl | rfl | rfl | rfl | rfl
      all_goals simp (disch := omega) only [cpN_cell, cpN_self, st_cell]
  · intro a ha
    simp (disch := omega) only [cpN_cell, st_cell]
