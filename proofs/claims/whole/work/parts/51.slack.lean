theorem g_rb {N : Nat → Nat → Int32} {r : Int64 × UInt64} {b c : Nat} {s t : Int32} (hb : b ∈ bL) (hc : N (b + 1) 0 = nI c) (h4 : c ≤ 24) : f_X1_releasedBy (b + 1) t s (mw N r) = some (rbA (fun j => hbit s j && decide (N (b + 6) j ≤ t)) c, mw N r) := by
  have h := l_rb (r := r) (s := s) (t := t) hb hc h4 c 0 3000 (by omega) (by omega)
  simp only [f_X1_releasedBy, SB hb]
  rw [show lp_X1_releasedBy_5 (b + 1) t s 3000 (0, 0, mw N r) = _ from h]
  rfl
def mnA (p : Nat → Bool) (v : Nat → Int32) : Nat → Int32
  | 0 => 2147483647
  | k + 1 => if p k = true then (if v k < mnA p v k then v k else mnA p v k) else mnA p v k
theorem mnA_succ (p : Nat → Bool) (v : Nat → Int32) (k : Nat) : mnA p v (k + 1) = if p k = true then (if v k < mnA p v k then v k else mnA p v k) else mnA p v k := rfl
theorem l_ls {N : Nat → Nat → Int32} {r : Int64 × UInt64} {b c : Nat} {s : Int32} (hb : b ∈ bL) (hc : N (b + 1) 0 = nI c) (h4 : c ≤ 24) : ∀ m k F, k + m = c → m < F → lp_X1_leastSlackEnd_5 (b + 1) s F (mnA (hbit s) (fun j => N (b + 6) j + N (b + 7) j) k, nI k, mw N r) = some (mnA (hbit s) (fun j => N (b + 6) j + N (b + 7) j) c, mw N r) := by
  intro m
  induction m with
  | zero =>
    intro k F hk hF
    obtain ⟨F, rfl⟩ := F_succ hF
    have hk : k = c := by omega
    subst hk
    simp (disch := omega) only [lp_X1_leastSlackEnd_5, mw_1, hc]
    rw [if_pos (Int32.le_refl _)]
  | succ m ih =>
    intro k F hk hF
    obtain ⟨F, rfl⟩ := F_succ hF
    have h2 := ih (k + 1) F (by omega) (by omega)
    simp (disch := omega) only [lp_X1_leastSlackEnd_5, mw_1, hc, SB hb, SL hb, e_let, nI_1', g_holds, e_b]
    rw [if_neg (nI_ge (by omega) (by omega)), ← h2, mnA_succ]
    cases hs : hbit s k with
    | false => simp
    | true => simp
theorem g_ls {N : Nat → Nat → Int32} {r : Int64 × UInt64} {b c : Nat} {s : Int32} (hb : b ∈ bL) (hc : N (b + 1) 0 = nI c) (h4 : c ≤ 24) : f_X1_leastSlackEnd (b + 1) s (mw N r) = some (mnA (hbit s) (fun j => N (b + 6) j + N (b + 7) j) c, mw N r) := by
  have h := l_ls (r := r) (s := s) hb hc h4 c 0 3000 (by omega) (by omega)
  simp only [f_X1_leastSlackEnd, SB hb]
  rw [show lp_X1_leastSlackEnd_5 (b + 1) s 3000 (2147483647, 0, mw N r) = _ from h]
  rfl
/-- the least is at most t iff some member's value is -/
theorem mnA_le {p : Nat → Bool} {v : Nat → Int32} {t : Int32} : ∀ n, (mnA p v n ≤ t) ↔ ((2147483647 : Int32) ≤ t ∨ ∃ j, j < n ∧ p j = true ∧ v j ≤ t)
  | 0 => by
    show (2147483647 : Int32) ≤ t ↔ _
    constructor
    · exact fun h => .inl h
    · rintro (h | ⟨j, hj, _⟩)
      · exact h
      · omega
  | n + 1 => by
    rw [mnA_succ]
    have ih := mnA_le (p := p) (v := v) (t := t) n
    cases hp : p n with
    | false =>
      rw [if_neg (by decide), ih]
      constructor
      · rintro (h | ⟨j, hj, h1, h2⟩)
        · exact .inl h
        · exact .inr ⟨j, by omega, h1, h2⟩
      · rintro (h | ⟨j, hj, h1, h2⟩)
        · exact .inl h
        · by_cases hjn : j = n
          · subst hjn
            rw [hp] at h1
            cases h1
          · exact .inr ⟨j, by omega, h1, h2⟩
    | true =>
      rw [if_pos rfl]
      have hm : (if v n < mnA p v n then v n else mnA p v n) ≤ t ↔ (v n ≤ t ∨ mnA p v n ≤ t) := by
        simp only [Int32.le_iff_toInt_le, Int32.lt_iff_toInt_lt]
        split <;> omega
      rw [hm, ih]
      constructor
      · rintro (h | h | ⟨j, hj, h1, h2⟩)
        · exact .inr ⟨n, by omega, hp, h⟩
        · exact .inl h
        · exact .inr ⟨j, by omega, h1, h2⟩
      · rintro (h | ⟨j, hj, h1, h2⟩)
        · exact .inr (.inl h)
        · by_cases hjn : j = n
          · subst hjn
            exact .inl h2
          · exact .inr (.inr ⟨j, by omega, h1, h2⟩)
