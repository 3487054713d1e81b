def rbA (p : Nat → Bool) : Nat → Int32
  | 0 => 0
  | k + 1 => if p k = true then rbA p k ||| ((1 : Int32) <<< (nI k &&& 31)) else rbA p k
theorem rbA_succ (p : Nat → Bool) (k : Nat) : rbA p (k + 1) = if p k = true then rbA p k ||| ((1 : Int32) <<< (nI k &&& 31)) else rbA p k := rfl
theorem rbA_bit {p : Nat → Bool} {i : Nat} (hi : i < 32) : ∀ n, n ≤ 32 → hbit (rbA p n) i = (decide (i < n) && p i)
  | 0, _ => by
    show hbit 0 i = _
    rw [hbit_0]
    simp
  | n + 1, hn => by
    have h := rbA_bit (p := p) hi n (by omega)
    rw [rbA_succ]
    split
    · rename_i hp
      rw [hbit_with (by omega) hi, h]
      by_cases h2 : i = n
      · subst h2
        simp [hp]
      · have h3 : (i < n + 1) = (i < n) := propext ⟨fun q => by omega, fun q => by omega⟩
        simp [h2, h3]
    · rename_i hp
      rw [h]
      by_cases h2 : i = n
      · subst h2
        simp [hp]
      · have h3 : (i < n + 1) = (i < n) := propext ⟨fun q => by omega, fun q => by omega⟩
        simp [h3]
theorem l_rb {N : Nat → Nat → Int32} {r : Int64 × UInt64} {b c : Nat} {s t : Int32} (hb : b ∈ bL) (hc : N (b + 1) 0 = nI c) (h4 : c ≤ 24) : ∀ m k F, k + m = c → m < F → lp_X1_releasedBy_5 (b + 1) t s F (rbA (fun j => hbit s j && decide (N (b + 6) j ≤ t)) k, nI k, mw N r) = some (rbA (fun j => hbit s j && decide (N (b + 6) j ≤ t)) c, mw N r) := by
  intro m
  induction m with
  | zero =>
    intro k F hk hF
    obtain ⟨F, rfl⟩ := F_succ hF
    have hk : k = c := by omega
    subst hk
    simp (disch := omega) only [lp_X1_releasedBy_5, mw_1, hc]
    rw [if_pos (Int32.le_refl _)]
  | succ m ih =>
    intro k F hk hF
    obtain ⟨F, rfl⟩ := F_succ hF
    have h2 := ih (k + 1) F (by omega) (by omega)
    simp (disch := omega) only [lp_X1_releasedBy_5, mw_1, hc, SB hb, SL hb, e_let, nI_1', g_holds, g_with, e_b]
    rw [if_neg (nI_ge (by omega) (by omega)), ← h2, rbA_succ]
    cases hs : hbit s k with
    | false => simp [hs]
    | true => 
      by_cases hd : N (b + 6) k ≤ t
      · simp [hd, Int32.not_lt.mpr hd]
      · simp [hd, Int32.not_le.mp hd]
