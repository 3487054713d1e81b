def rcN (N : Nat → Nat → Int32) (b d c : Nat) : Nat → Nat → Int32 := st (st N (b + 2) d (N (b + 2) d &&& (rbA (fun j => hbit (N (b + 2) d) j && decide (N (b + 6) j ≤ N b 2)) c ^^^ (-1)))) (b + 3) d (N (b + 3) d ||| rbA (fun j => hbit (N (b + 2) d) j && decide (N (b + 6) j ≤ N b 2)) c)
theorem g_relC {N : Nat → Nat → Int32} {r : Int64 × UInt64} {b d c : Nat} {aw : Int32} (hb : b ∈ bL) (hd : d < 4) (hc : N (b + 1) 0 = nI c) (h4 : c ≤ 24) : f_X3_releaseJobs b (nI d) aw (mw N r) = some (mw (if N (b + 2) d = 0 then N else if aw = 0 ∧ N b 2 < mnA (hbit (N (b + 2) d)) (fun j => N (b + 6) j + N (b + 7) j) c then N else rcN N b d c) r) := by
  simp (disch := omega) only [f_X3_releaseJobs, SB hb, SL hb, g_ls hb hc h4, g_rb hb hc h4, e_b, mw_1, st_cell]
  by_cases h0 : N (b + 2) d = 0
  · rw [if_pos h0, if_pos h0, e_bd]
  · rw [if_neg h0, if_neg h0]
    by_cases ha : aw = 0
    · rw [if_pos ha]
      by_cases hm : N b 2 < mnA (hbit (N (b + 2) d)) (fun j => N (b + 6) j + N (b + 7) j) c
      · rw [if_pos hm, if_pos ⟨ha, hm⟩, e_bd]
      · rw [if_neg hm, if_neg (fun q => hm q.2), e_bd]
        rfl
    · rw [if_neg ha, if_neg (fun q => ha q.1), e_bd]
      rfl
