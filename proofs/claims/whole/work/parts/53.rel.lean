def relN (N : Nat → Nat → Int32) (p : Nat → Bool) : Nat → Nat → Nat → Int32
  | 0 => N
  | k + 1 => if p k = true then sJ (relN N p k) k 7 1 else relN N p k
theorem relN_succ (N : Nat → Nat → Int32) (p : Nat → Bool) (k : Nat) : relN N p (k + 1) = if p k = true then sJ (relN N p k) k 7 1 else relN N p k := rfl
theorem relN_J {N : Nat → Nat → Int32} {p : Nat → Bool} {j i : Nat} (hi : i < 9) : ∀ k, rJ (relN N p k) j i = if i = 7 ∧ j < k ∧ p j = true then 1 else rJ N j i
  | 0 => by rw [if_neg (by omega)]; rfl
  | k + 1 => by
    have h := relN_J (N := N) (p := p) (j := j) hi k
    rw [relN_succ]
    by_cases hp : p k = true
    · rw [if_pos hp, rJ_J hi (by omega), h]
      by_cases hj : j = k
      · subst hj
        by_cases h7 : i = 7
        · rw [if_pos ⟨rfl, h7⟩, if_pos ⟨h7, by omega, hp⟩]
        · rw [if_neg (fun q => h7 q.2), if_neg (fun q => h7 q.1), if_neg (fun q => h7 q.1)]
      · rw [if_neg (fun q => hj q.1)]
        by_cases h7 : i = 7 ∧ j < k ∧ p j = true
        · rw [if_pos h7, if_pos ⟨h7.1, by omega, h7.2.2⟩]
        · rw [if_neg h7, if_neg (fun q => h7 ⟨q.1, by omega, q.2.2⟩)]
    · rw [if_neg hp, h]
      by_cases h7 : i = 7 ∧ j < k ∧ p j = true
      · rw [if_pos h7, if_pos ⟨h7.1, by omega, h7.2.2⟩]
      · rw [if_neg h7, if_neg]
        rintro ⟨q1, q2, q3⟩
        by_cases hj : j = k
        · subst hj
          exact hp q3
        · exact h7 ⟨q1, by omega, q3⟩
theorem relN_L {N : Nat → Nat → Int32} {p : Nat → Bool} {i : Nat} (hi : i < 71) : ∀ k, relN N p k 337 i = N 337 i
  | 0 => rfl
  | k + 1 => by
    rw [relN_succ]
    split
    · rw [rL_J hi, relN_L hi k]
    · exact relN_L hi k
theorem relN_c {N : Nat → Nat → Int32} {p : Nat → Bool} {a : Nat} (ha : a ≠ 337) : ∀ k, relN N p k a = N a
  | 0 => rfl
  | k + 1 => by
    rw [relN_succ]
    split
    · rw [sJ_c ha, relN_c ha k]
    · exact relN_c ha k
