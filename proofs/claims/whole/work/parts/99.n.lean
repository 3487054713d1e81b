/-- the text's head, reference -/
def lM (N : Nat → Nat → Int32) (len : Nat) : Nat → Nat → Int32 := st (st (st (st (st (st (st N 336 4 0) 336 17 (nI len)) 336 16 0) 336 18 0) 336 22 0) 336 23 (-1)) 336 25 0
theorem r_head {N : Nat → Nat → Int32} {r : Int64 × UInt64} {t : Nat → Nat} {len : Nat} (h5 : len ≤ 500) (hb : ∀ i, i < len → t i < 256 ∧ N 348 i = nI (t i)) : ∃ N0, f_X10_next 336 (mw (lM N len) r) = some (mw N0 r) ∧ RS N0 t len none 0 ∧ FQ (lM N len) N0 := by
  have hq : QB (lM N len) t len := by
    refine ⟨h5, ?_, fun i hi => ?_⟩
    · unfold lM
      simp (disch := omega) only [st_slot, st_self]
    · unfold lM
      simp (disch := omega) only [st_cell]
      exact hb i hi
  have h22 : lM N len 336 22 = 0 := by
    unfold lM
    simp (disch := omega) only [st_slot, st_self]
  have h18 : lM N len 336 18 = nI 0 := by
    unfold lM
    simp (disch := omega) only [st_slot, st_self]
    rfl
  have h23 : lM N len 336 23 = -1 := by
    unfold lM
    simp (disch := omega) only [st_slot, st_self]
  obtain ⟨N0, g1, g2, g3⟩ := g_rnx (r := r) hq (Nat.zero_le _) h22 h18
  obtain ⟨y1, y2, y3, y4, y5, y6⟩ := g2
  exact ⟨N0, g1, ⟨y1, y2, y3, y4, y5, y6, by rw [g3.2 23 (by omega)]; exact h23⟩, g3⟩
