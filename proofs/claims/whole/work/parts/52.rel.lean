def bI (x : Bool) : Int32 := if x = true then 1 else 0
def anyA (g : Bool) (p : Nat → Bool) : Nat → Bool
  | 0 => g
  | k + 1 => anyA g p k || p k
theorem anyA_succ (g : Bool) (p : Nat → Bool) (k : Nat) : anyA g p (k + 1) = (anyA g p k || p k) := rfl
theorem l_rel16 {N : Nat → Nat → Int32} {r : Int64 × UInt64} {d c : Nat} {g : Bool} (hc : N 337 2 = nI c) (h4 : c ≤ 24) : ∀ m k F, k + m = c → m < F → lp_X10_release_16 336 (nI d) F (bI (anyA g (fun j => decide (rJ N j 0 = nI d) && decide (rJ N j 7 = 0) && decide (rJ N j 2 + rJ N j 3 ≤ N 337 0)) k), nI k, mw N r) = some (bI (anyA g (fun j => decide (rJ N j 0 = nI d) && decide (rJ N j 7 = 0) && decide (rJ N j 2 + rJ N j 3 ≤ N 337 0)) c), mw N r) := by
  intro m
  induction m with
  | zero =>
    intro k F hk hF
    obtain ⟨F, rfl⟩ := F_succ hF
    have hk : k = c := by omega
    subst hk
    simp (disch := omega) only [lp_X10_release_16, PR, RLd, hc]
    rw [if_pos (Int32.le_refl _)]
  | succ m ih =>
    intro k F hk hF
    obtain ⟨F, rfl⟩ := F_succ hF
    have h2 := ih (k + 1) F (by omega) (by omega)
    simp (disch := omega) only [lp_X10_release_16, PR, RLd, hc, RJ, e_let, nI_1', e_b]
    rw [if_neg (nI_ge (by omega) (by omega)), ← h2, anyA_succ]
    cases hg : anyA g (fun j => decide (rJ N j 0 = nI d) && decide (rJ N j 7 = 0) && decide (rJ N j 2 + rJ N j 3 ≤ N 337 0)) k with
    | true => simp [bI]
    | false =>
      by_cases h0 : rJ N k 0 = nI d
      · by_cases h7 : rJ N k 7 = 0
        · by_cases hl : rJ N k 2 + rJ N k 3 ≤ N 337 0
          · simp [bI, h0, h7, hl, Int32.not_lt.mpr hl]
          · simp [bI, h0, h7, hl, Int32.not_le.mp hl]
        · simp [bI, h0, h7]
      · simp [bI, h0]
