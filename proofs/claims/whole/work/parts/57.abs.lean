/-- the abstract state: see NOTES -/
abbrev AS : Type := Nat → Nat → Nat
def oA (n : Nat) : Option Nat := if n = 0 then none else some (n - 1)
theorem oA_0 : oA 0 = none := rfl
theorem oA_s (j : Nat) : oA (j + 1) = some j := rfl
theorem oA_some {n j : Nat} : oA n = some j ↔ n = j + 1 := by
  unfold oA
  by_cases h : n = 0
  · rw [if_pos h]
    constructor
    · exact fun q => nomatch q
    · intro q
      omega
  · rw [if_neg h]
    constructor
    · intro q
      cases q
      omega
    · rintro rfl
      rfl
theorem oA_none {n : Nat} : oA n = none ↔ n = 0 := by
  unfold oA
  by_cases h : n = 0
  · simp [h]
  · simp [h]
def up (A : AS) (k i x : Nat) : AS := fun k' i' => if k' = k ∧ i' = i then x else A k' i'
theorem up_at (A : AS) (k i x k' i' : Nat) : up A k i x k' i' = if k' = k ∧ i' = i then x else A k' i' := rfl
theorem up_self (A : AS) (k i x : Nat) : up A k i x k i = x := if_pos ⟨rfl, rfl⟩
theorem up_k {A : AS} {k i x k' i' : Nat} (h : k' ≠ k) : up A k i x k' i' = A k' i' := if_neg (fun q => h q.1)
theorem up_i {A : AS} {k i x k' i' : Nat} (h : i' ≠ i) : up A k i x k' i' = A k' i' := if_neg (fun q => h q.2)
def limC (n : Nat) : Int32 := if n = 1000000000 then 2147483647 else nI n
def SUC (C : Nat → Nat → Int32) (D : Nat) (su : Nat → Nat → Nat) : Prop :=
  C 17 1 = nI D ∧ ∀ d, d < D → C 18 d = nI (su 0 d) ∧ C 26 d = nI (su 1 d) ∧ C 20 d = nI (su 2 d) ∧ C 21 d = nI (su 3 d) ∧ C 22 d = nI (su 4 d) ∧ C 23 d = nI (su 5 d) ∧ C 24 d = nI (su 6 d) ∧ ∀ n, n < su 1 d → C 27 (d * 5 + n) = nI (su 7 (5 * d + n)) ∧ C 28 (d * 5 + n) = nI (su 8 (5 * d + n))
def SUR (R : Nat → Nat → Int32) (D : Nat) (su : Nat → Nat → Nat) : Prop :=
  R 336 5 = nI D ∧ ∀ d, d < D → R 339 d = nI (su 0 d) ∧ R 345 d = nI (su 1 d) ∧ R 340 d = nI (su 2 d) ∧ R 341 d = nI (su 3 d) ∧ R 342 d = nI (su 4 d) ∧ R 343 d = nI (su 5 d) ∧ R 344 d = nI (su 6 d) ∧ ∀ n, n < su 1 d → R 346 (5 * d + n) = nI (su 7 (5 * d + n)) ∧ R 347 (5 * d + n) = nI (su 8 (5 * d + n))
def SUB (D : Nat) (su : Nat → Nat → Nat) : Prop :=
  1 ≤ D ∧ D ≤ 4 ∧ ∀ d, d < D → 1 ≤ su 0 d ∧ su 0 d ≤ 4 ∧ 1 ≤ su 1 d ∧ su 1 d ≤ 5 ∧ su 2 d ≤ 999 ∧ 1 ≤ su 3 d ∧ su 3 d ≤ 999 ∧ su 4 d ≤ 99 ∧ su 5 d < su 1 d ∧ su 6 d ≤ 99 ∧ ∀ n, n < su 1 d → 1 ≤ su 7 (5 * d + n) ∧ su 7 (5 * d + n) ≤ 999 ∧ su 8 (5 * d + n) ≤ 999
def RC (C : Nat → Nat → Int32) (b D : Nat) (A : AS) : Prop :=
  (C (b + 1) 0 = nI (A 30 0) ∧ C b 2 = nI (A 30 1) ∧ C b 3 = nI (A 30 2)) ∧
  (∀ j, j < A 30 0 → C (b + 4) j = nI (A 0 j) ∧ C (b + 5) j = nI (A 1 j) ∧ C (b + 6) j = nI (A 2 j) ∧ C (b + 7) j = nI (A 3 j) ∧ C (b + 8) j = nI (A 4 j) ∧ C (b + 9) j = nI (A 5 j) ∧ C (b + 10) j = nI (A 6 j) ∧ (A 7 j = 3 → C (b + 11) j = nI (A 8 j))) ∧
  (∀ i, i < 32 → hbit (C (b + 1) 1) i = decide (i < A 30 0 ∧ A 7 i = 3) ∧ hbit (C (b + 1) 2) i = decide (i < A 30 0 ∧ A 7 i = 4)) ∧
  (∀ d i, d < D → i < 32 → hbit (C (b + 2) d) i = decide (i < A 30 0 ∧ A 0 i = d ∧ A 7 i = 0) ∧ hbit (C (b + 3) d) i = decide (i < A 30 0 ∧ A 0 i = d ∧ A 7 i = 1)) ∧
  (∀ k, k < 8 → C (b + 12) k = nI (A 20 k) ∧ C (b + 13) k = nI (A 21 k)) ∧
  (∀ d, d < D → C (b + 14) d = limC (A 10 d) ∧ C (b + 15) d = nI (A 11 d) ∧ C (b + 16) d = nI (A 12 d) ∧ C (b + 17) d = nI (A 13 d) ∧ C (b + 18) d = nI (A 14 d) ∧ C (b + 19) d = nI (A 15 d) ∧ C (b + 20) d = nI (A 16 d) ∧ C (b + 21) d = nI (A 17 d) ∧ C (b + 22) d = nI (A 18 d)) ∧
  (∀ d e, d < D → e < 4 → C (b + 24) (d * 4 + e) = enc (-2) (oA (A (40 + d) e)))
def RR (R : Nat → Nat → Int32) (D : Nat) (A : AS) : Prop :=
  (R 337 2 = nI (A 30 0) ∧ R 337 0 = nI (A 30 1) ∧ R 337 1 = nI (A 30 2)) ∧
  (∀ j k, j < A 30 0 → k < 8 → rJ R j k = nI (A k j)) ∧
  (∀ j, j < A 30 0 → A 7 j = 3 → rJ R j 8 = nI (A 8 j)) ∧
  (∀ k, k < 8 → R 337 (3 + k) = nI (A 20 k) ∧ R 337 (11 + k) = nI (A 21 k)) ∧
  (∀ d k, d < D → k < 9 → rD R d k = nI (A (10 + k) d)) ∧
  (∀ d e, d < D → e < 4 → rD R d (9 + e) = enc (-1) (oA (A (40 + d) e)))
