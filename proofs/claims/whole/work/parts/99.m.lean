/-- bounds of what was read -/
theorem numE_0 {t : Nat → Nat} {len i lo hi : Nat} (h : numE t len i lo hi = 0) : lo ≤ VV t len i ∧ VV t len i ≤ hi := by
  unfold numE at h
  split at h
  · split at h
    · omega
    · omega
  · omega
theorem sq_nn {X Y : Option (Nat × Nat)} (h : sq X Y = none) : X = none ∧ Y = none := by
  cases X with
  | none => exact ⟨rfl, h⟩
  | some e => cases h
theorem stp_nz {X : Option (Nat × Nat)} {c i : Nat} (h : stp X c i = none) : X = none ∧ c = 0 := by
  cases X with
  | none => exact ⟨rfl, Decidable.byContradiction fun q => by rw [stp_n q] at h; cases h⟩
  | some e => cases h
theorem lX_b {t : Nat → Nat} {len i prev : Nat} (h : lX t len i prev = none) : prev + 1 ≤ VV t len (i + 1) ∧ VV t len (i + 1) ≤ 999 ∧ VV t len (i + 2) ≤ 999 := by
  rw [lX_d] at h
  have h1 := sq_nn (sq_nn h).2
  have h2 := numE_0 (stp_nz h1.1).2
  have h3 := numE_0 (stp_nz (sq_nn h1.2).1).2
  exact ⟨h2.1, h2.2, h3.2⟩
theorem lv_b {t : Nat → Nat} {len : Nat} : ∀ m i j prev, (lvR t len m i j prev).1 = none → ∀ n, j ≤ n → n < (lvR t len m i j prev).2.1 → 1 ≤ VV t len (i + 4 * (n - j) + 1) ∧ VV t len (i + 4 * (n - j) + 1) ≤ 999 ∧ VV t len (i + 4 * (n - j) + 2) ≤ 999
  | 0, i, j, prev, h, n, h1, h2 => by
    rw [lvR] at h2
    split at h2
    · exact absurd h2 (Nat.not_lt.mpr h1)
    · exact absurd h2 (Nat.not_lt.mpr h1)
  | m + 1, i, j, prev, h, n, h1, h2 => by
    rw [lvR] at h h2
    by_cases hw : WW t len 6 i = true
    · rw [if_pos hw] at h h2
      cases hl : lX t len i prev with
      | some e => rw [hl] at h; cases h
      | none =>
        rw [hl] at h h2
        by_cases hn : n = j
        · subst hn
          rw [Nat.sub_self]
          have := lX_b hl
          exact ⟨show 1 ≤ VV t len (i + 1) by omega, this.2.1, this.2.2⟩
        · have := lv_b m (i + 4) (j + 1) (VV t len (i + 1)) h n (by omega) h2
          rw [show i + 4 * (n - j) + 1 = i + 4 + 4 * (n - (j + 1)) + 1 by omega, show i + 4 * (n - j) + 2 = i + 4 + 4 * (n - (j + 1)) + 2 by omega]
          exact this
    · rw [if_neg hw] at h2
      split at h2
      · exact absurd h2 (Nat.not_lt.mpr h1)
      · exact absurd h2 (Nat.not_lt.mpr h1)
theorem hd_b {t : Nat → Nat} {len b : Nat} (h : hdX t len b = none) : (1 ≤ VV t len (b + 1) ∧ VV t len (b + 1) ≤ 4) ∧ VV t len (b + 2) ≤ 99999 ∧ VV t len (b + 3) ≤ 999 ∧ (1 ≤ VV t len (b + 4) ∧ VV t len (b + 4) ≤ 999) ∧ VV t len (b + 5) ≤ 99 ∧ VV t len (b + 6) ≤ 4 ∧ VV t len (b + 7) ≤ 99 ∧ polE t len (b + 8) = 0 := by
  rw [hX_d] at h
  have h1 := sq_nn (sq_nn h).2
  have h2 := sq_nn h1.2
  have h3 := sq_nn h2.2
  have a4 := stp_nz (show stp _ _ _ = none from h1.1)
  have a3 := stp_nz a4.1
  have a2 := stp_nz a3.1
  have a1 := stp_nz a2.1
  have b3 := stp_nz (show stp _ _ _ = none from h2.1)
  have b2 := stp_nz b3.1
  have b1 := stp_nz b2.1
  exact ⟨numE_0 a1.2, (numE_0 a2.2).2, (numE_0 a3.2).2, numE_0 a4.2, (numE_0 b1.2).2, (numE_0 b2.2).2, (numE_0 b3.2).2, (stp_nz h3.1).2⟩
