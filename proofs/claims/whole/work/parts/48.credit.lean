theorem st_same {N : Nat → Nat → Int32} {a k : Nat} {x : Int32} (h : N a k = x) : st N a k x = N := by
  funext a' k'
  rw [st_at]
  split
  · rename_i q
    rw [q.1, q.2, h]
  · rfl
def ccA (u : Bool) (cr cap : Nat) : Nat := if u = true then cr - 1 else if cr < cap then cr + 1 else cr
theorem g_ccC {N : Nat → Nat → Int32} {r : Int64 × UInt64} {b d cr cap : Nat} {u : Bool} (hb : b ∈ bL) (hd : d < 4) (hcr : N (b + 19) d = nI cr) (hcr9 : cr ≤ 99) (hca : N 24 d = nI cap) (hca9 : cap ≤ 99) (hu : u = true → 1 ≤ cr) : f_X3_countCredit b (nI d) (if u = true then 1 else 0) (mw N r) = some (mw (st N (b + 19) d (nI (ccA u cr cap))) r) := by
  unfold ccA
  cases u with
  | true =>
    simp (disch := omega) only [f_X3_countCredit, SB hb, SL hb, P17, A17, hcr, i10, reduceIte, nI_m1 (hu rfl), e_bd]
  | false =>
    simp (disch := omega) only [f_X3_countCredit, SB hb, SL hb, P17, A17, hcr, hca, Bool.false_eq_true, reduceIte]
    by_cases h : cr < cap
    · rw [if_neg (nI_ge h (by omega)), if_pos h, e_bd, nI_1]
    · rw [if_pos (nI_le (by omega) (by omega)), if_neg h, e_bd, st_same hcr]
