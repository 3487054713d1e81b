def goA (N : Nat → Nat → Int32) (d c bz : Nat) : Bool := anyA (decide (0 < bz)) (fun j => decide (rJ N j 0 = nI d) && decide (rJ N j 7 = 0) && decide (rJ N j 2 + rJ N j 3 ≤ N 337 0)) c
def rlA (N : Nat → Nat → Int32) (d j : Nat) : Bool := decide (rJ N j 0 = nI d) && decide (rJ N j 7 = 0) && decide (rJ N j 2 ≤ N 337 0)
theorem g_rel {N : Nat → Nat → Int32} {r : Int64 × UInt64} {d cs lv c T bz : Nat} {co : Nat → Option Nat} {rem dl : Nat → Nat} (h : DR N d cs lv c T co rem dl) (hbz : bzA co cs = bz) : f_X10_release 336 (nI d) (mw N r) = some (mw (if goA N d c bz = true then relN N (rlA N d) c else N) r) := by
  have hB := g_busyR (r := r) h
  have hle := bzA_le co cs
  rw [hbz] at hB hle
  obtain ⟨hd, hcs, h4, hlv, h1, h5, hc, hc4, hco, hj, hrem, hdl, hT, hT2⟩ := h
  have e1 := l_rel16 (r := r) (d := d) (g := decide (0 < bz)) hc hc4 c 0 3000 (by omega) (by omega)
  have e2 := l_rel86 (r := r) (d := d) hc hc4 c 0 3000 (by omega) (by omega)
  have hb0 : boA bz = bI (decide (0 < bz)) := by
    unfold boA bI
    by_cases hz : 0 < bz
    · rw [if_pos hz, if_pos (decide_eq_true hz)]
    · rw [if_neg hz, if_neg (by simpa using hz)]
  simp (disch := omega) only [f_X10_release, PR, hB, e_b, boA_le, hb0]
  rw [show lp_X10_release_16 336 (nI d) 3000 (bI (decide (0 < bz)), 0, mw N r) = _ from e1, e_bd]
  show (lp_X10_release_86 336 (nI d) (bI (goA N d c bz)) 3000 (0, mw N r)).bind (fun q7 => some q7) = _
  cases hg : goA N d c bz with
  | true =>
    rw [show lp_X10_release_86 336 (nI d) (bI true) 3000 (0, mw N r) = _ from e2]
    rfl
  | false =>
    rw [if_neg (by decide)]
    show (lp_X10_release_86 336 (nI d) (bI false) (2999 + 1) (0, mw N r)).bind (fun q7 => some q7) = _
    rw [lp_X10_release_86]
    simp (disch := omega) only [PR, RLd, hc, bI, Bool.false_eq_true, reduceIte]
    split <;> rfl
