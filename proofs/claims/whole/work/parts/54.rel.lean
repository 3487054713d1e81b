theorem l_rel86 {N : Nat → Nat → Int32} {r : Int64 × UInt64} {d c : Nat} (hc : N 337 2 = nI c) (h4 : c ≤ 24) : ∀ m k F, k + m = c → m < F → lp_X10_release_86 336 (nI d) 1 F (nI k, mw (relN N (fun j => decide (rJ N j 0 = nI d) && decide (rJ N j 7 = 0) && decide (rJ N j 2 ≤ N 337 0)) k) r) = some (mw (relN N (fun j => decide (rJ N j 0 = nI d) && decide (rJ N j 7 = 0) && decide (rJ N j 2 ≤ N 337 0)) c) r) := by
  intro m
  induction m with
  | zero =>
    intro k F hk hF
    obtain ⟨F, rfl⟩ := F_succ hF
    have hk : k = c := by omega
    subst hk
    simp (disch := omega) only [lp_X10_release_86, PR, RLd, relN_L, hc]
    rw [if_pos (Int32.le_refl _)]
  | succ m ih =>
    intro k F hk hF
    obtain ⟨F, rfl⟩ := F_succ hF
    have h2 := ih (k + 1) F (by omega) (by omega)
    have hJ : ∀ i, i < 9 → rJ (relN N (fun j => decide (rJ N j 0 = nI d) && decide (rJ N j 7 = 0) && decide (rJ N j 2 ≤ N 337 0)) k) k i = rJ N k i := fun i hi => by rw [relN_J hi, if_neg (by omega)]
    simp (disch := omega) only [lp_X10_release_86, PR, RLd, relN_L, hc, RJ, RQ, hJ, e_let, nI_1', e_b, e_bv, i10, reduceIte]
    rw [if_neg (nI_ge (by omega) (by omega)), ← h2, relN_succ]
    by_cases h0 : rJ N k 0 = nI d
    · by_cases h7 : rJ N k 7 = 0
      · by_cases hl : rJ N k 2 ≤ N 337 0
        · simp [h0, h7, hl, Int32.not_lt.mpr hl]
        · simp [h0, h7, hl, Int32.not_le.mp hl]
      · simp [h0, h7]
    · simp [h0]
