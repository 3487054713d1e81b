/-- the abstract state: see NOTES -/
abbrev AS : Type := Nat → Nat → Nat
def oA (n : Nat) : Option Nat := if n = 0 then none else some (n - 1)
theorem oA_0 : oA 0 = none := rfl
theorem oA_s (j : Nat) : oA (j + 1) = some j := rfl
theorem oA_some {n j : Nat} : oA n = some j ↔ n = j + 1 := by
  unfold oA
  by_cases h : n = 0
  · rw [if_pos h]
    constructor
    · exact fun q => nomatch q
    · intro q
      omega
  · rw [if_neg h]
    constructor
    · intro q
      cases q
      omega
    · rintro rfl
      rfl
theorem oA_none {n : Nat} : oA n = none ↔ n = 0 := by
  unfold oA
  by_cases h : n = 0
  · simp [h]
  · simp [h]
def up (A : AS) (k i x : Nat) : AS := fun k' i' => if k' = k ∧ i' = i then x else A k' i'
theorem up_at (A : AS) (k i x k' i' : Nat) : up A k i x k' i' = if k' = k ∧ i' = i then x else A k' i' := rfl
theorem up_self (A : AS) (k i x : Nat) : up A k i x k i = x := if_pos ⟨rfl, rfl⟩
theorem up_k {A : AS} {k i x k' i' : Nat} (h : k' ≠ k) : up A k i x k' i' = A k' i' := if_neg (fun q => h q.1)
theorem up_i {A : AS} {k i x k' i' : Nat} (h : i' ≠ i) : up A k i x k' i' = A k' i' := if_neg (fun q => h q.2)
theorem up_ki {A : AS} {k i x k' i' : Nat} (h : ¬ (k' = k ∧ i' = i)) : up A k i x k' i' = A k' i' := if_neg h
theorem up_eq {A : AS} {k i x k' i' : Nat} (h : k' = k) (h2 : i' = i) : up A k i x k' i' = x := if_pos ⟨h, h2⟩
theorem st_ki {N : Nat → Nat → Int32} {a k : Nat} {x : Int32} {a' k' : Nat} (h : ¬ (a' = a ∧ k' = k)) : st N a k x a' k' = N a' k' := by rw [st_at, if_neg h]
theorem st_eq {N : Nat → Nat → Int32} {a k : Nat} {x : Int32} {a' k' : Nat} (h : a' = a) (h2 : k' = k) : st N a k x a' k' = x := by rw [st_at, if_pos ⟨h, h2⟩]
def coA (A : AS) (d : Nat) : Nat → Option Nat := fun e => oA (A (40 + d) e)
def limC (n : Nat) : Int32 := if n = 1000000000 then 2147483647 else nI n
def SUC (C : Nat → Nat → Int32) (D : Nat) (su : Nat → Nat → Nat) : Prop :=
  C 17 1 = nI D ∧ ∀ d, d < D → C 18 d = nI (su 0 d) ∧ C 26 d = nI (su 1 d) ∧ C 20 d = nI (su 2 d) ∧ C 21 d = nI (su 3 d) ∧ C 22 d = nI (su 4 d) ∧ C 23 d = nI (su 5 d) ∧ C 24 d = nI (su 6 d) ∧ ∀ n, n < su 1 d → C 27 (d * 5 + n) = nI (su 7 (5 * d + n)) ∧ C 28 (d * 5 + n) = nI (su 8 (5 * d + n))
def SUR (R : Nat → Nat → Int32) (D : Nat) (su : Nat → Nat → Nat) : Prop :=
  R 336 5 = nI D ∧ ∀ d, d < D → R 339 d = nI (su 0 d) ∧ R 345 d = nI (su 1 d) ∧ R 340 d = nI (su 2 d) ∧ R 341 d = nI (su 3 d) ∧ R 342 d = nI (su 4 d) ∧ R 343 d = nI (su 5 d) ∧ R 344 d = nI (su 6 d) ∧ ∀ n, n < su 1 d → R 346 (5 * d + n) = nI (su 7 (5 * d + n)) ∧ R 347 (5 * d + n) = nI (su 8 (5 * d + n))
def SUB (D : Nat) (su : Nat → Nat → Nat) : Prop :=
  1 ≤ D ∧ D ≤ 4 ∧ ∀ d, d < D → 1 ≤ su 0 d ∧ su 0 d ≤ 4 ∧ 1 ≤ su 1 d ∧ su 1 d ≤ 5 ∧ su 2 d ≤ 999 ∧ 1 ≤ su 3 d ∧ su 3 d ≤ 999 ∧ su 4 d ≤ 99 ∧ su 5 d < su 1 d ∧ su 6 d ≤ 99 ∧ ∀ n, n < su 1 d → 1 ≤ su 7 (5 * d + n) ∧ su 7 (5 * d + n) ≤ 999 ∧ su 8 (5 * d + n) ≤ 999
def RC (C : Nat → Nat → Int32) (b D : Nat) (A : AS) : Prop :=
  (C (b + 1) 0 = nI (A 30 0) ∧ C b 2 = nI (A 30 1) ∧ C b 3 = nI (A 30 2)) ∧
  (∀ j k, j < A 30 0 → k < 7 → C (b + (4 + k)) j = nI (A k j)) ∧
  (∀ j, j < A 30 0 → A 7 j = 3 → C (b + 11) j = nI (A 8 j)) ∧
  (∀ i, i < 32 → hbit (C (b + 1) 1) i = decide (i < A 30 0 ∧ A 7 i = 3)) ∧
  (∀ i, i < 32 → hbit (C (b + 1) 2) i = decide (i < A 30 0 ∧ A 7 i = 4)) ∧
  (∀ d i, d < D → i < 32 → hbit (C (b + 2) d) i = decide (i < A 30 0 ∧ A 0 i = d ∧ A 7 i = 0)) ∧
  (∀ d i, d < D → i < 32 → hbit (C (b + 3) d) i = decide (i < A 30 0 ∧ A 0 i = d ∧ A 7 i = 1)) ∧
  (∀ k, k < 8 → C (b + 12) k = nI (A 20 k)) ∧ (∀ k, k < 8 → C (b + 13) k = nI (A 21 k)) ∧
  (∀ d, d < D → C (b + 14) d = limC (A 10 d)) ∧
  (∀ d k, d < D → k < 9 → C (b + (15 + k)) d = nI (A (11 + k) d)) ∧
  (∀ d e, d < D → e < 4 → C (b + 24) (d * 4 + e) = enc (-2) (oA (A (40 + d) e)))
def RR (R : Nat → Nat → Int32) (D : Nat) (A : AS) : Prop :=
  (R 337 2 = nI (A 30 0) ∧ R 337 0 = nI (A 30 1) ∧ R 337 1 = nI (A 30 2)) ∧
  (∀ j k, j < A 30 0 → k < 8 → rJ R j k = nI (A k j)) ∧
  (∀ j, j < A 30 0 → A 7 j = 3 → rJ R j 8 = nI (A 8 j)) ∧
  (∀ k, k < 8 → R 337 (3 + k) = nI (A 20 k)) ∧ (∀ k, k < 8 → R 337 (11 + k) = nI (A 21 k)) ∧
  (∀ d k, d < D → k < 9 → rD R d k = nI (A (10 + k) d)) ∧
  (∀ d e, d < D → e < 4 → rD R d (9 + e) = enc (-1) (oA (A (40 + d) e)))
def Inv (D : Nat) (su : Nat → Nat → Nat) (T : Nat) (A : AS) : Prop :=
  (A 30 0 ≤ 24 ∧ A 30 1 ≤ T ∧ A 30 2 ≤ 9999) ∧
  (∀ j, j < A 30 0 → A 0 j < D ∧ A 1 j < 8 ∧ A 2 j ≤ T + 999 ∧ A 3 j ≤ 999 ∧ A 4 j ≤ 9999 ∧ A 5 j ≤ T + 10998 ∧ A 6 j ≤ 9999 ∧ A 7 j ≤ 4 ∧ (A 7 j ≤ 2 → 1 ≤ A 6 j)) ∧
  (∀ d, d < D → (A 10 d ≤ 99999 ∨ A 10 d = 1000000000) ∧ A 11 d ≤ 3 ∧ A 12 d ≤ 40000000 ∧ A 15 d ≤ su 6 d) ∧
  (∀ d e j, d < D → A (40 + d) e = j + 1 → e < su 0 d ∧ j < A 30 0 ∧ A 0 j = d ∧ A 7 j = 2) ∧
  (∀ d e e' j, d < D → A (40 + d) e = j + 1 → A (40 + d) e' = j + 1 → e = e') ∧
  (∀ k, k < 8 → A 20 k ≤ 9999 ∧ A 21 k = cnt (fun j => decide (A 7 j = 3) && decide (A 1 j = k)) (A 30 0))
def FC (b : Nat) (C C' : Nat → Nat → Int32) : Prop := ∀ a, (a < b ∨ b + 25 ≤ a) → C' a = C a
theorem FC_r {b : Nat} {C : Nat → Nat → Int32} : FC b C C := fun _ _ => rfl
theorem FC_t {b : Nat} {C C1 C2 : Nat → Nat → Int32} (h : FC b C C1) (h2 : FC b C1 C2) : FC b C C2 := fun a ha => (h2 a ha).trans (h a ha)
theorem FC_s {b a k : Nat} {C : Nat → Nat → Int32} {x : Int32} (h : b ≤ a) (h2 : a < b + 25) : FC b C (st C a k x) := fun a' ha => st_cell (by omega)
def FT (R R' : Nat → Nat → Int32) : Prop := (∀ a, a ≠ 336 → a ≠ 337 → R' a = R a) ∧ ∀ k, k ≠ 29 → k ≠ 30 → k ≠ 31 → R' 336 k = R 336 k
theorem FT_r {R : Nat → Nat → Int32} : FT R R := ⟨fun _ _ _ => rfl, fun _ _ _ _ => rfl⟩
theorem FT_t {R R1 R2 : Nat → Nat → Int32} (h : FT R R1) (h2 : FT R1 R2) : FT R R2 := ⟨fun a h3 h4 => (h2.1 a h3 h4).trans (h.1 a h3 h4), fun k h3 h4 h5 => (h2.2 k h3 h4 h5).trans (h.2 k h3 h4 h5)⟩
theorem FT_s {R : Nat → Nat → Int32} {k : Nat} {x : Int32} : FT R (st R 337 k x) := ⟨fun _ _ h => st_cell h, fun _ _ _ _ => by rw [st_cell (by omega)]⟩
theorem FT_J {R : Nat → Nat → Int32} {j k : Nat} {x : Int32} : FT R (sJ R j k x) := FT_s
theorem FT_D {R : Nat → Nat → Int32} {j k : Nat} {x : Int32} : FT R (sD R j k x) := FT_s
theorem FT_6 {R : Nat → Nat → Int32} {k : Nat} {x : Int32} (h : k = 29 ∨ k = 30 ∨ k = 31) : FT R (st R 336 k x) := ⟨fun _ h2 _ => st_cell h2, fun _ _ _ _ => st_slot (by omega)⟩
def F7 (R R' : Nat → Nat → Int32) : Prop := ∀ a, a ≠ 337 → R' a = R a
theorem F7_r {R : Nat → Nat → Int32} : F7 R R := fun _ _ => rfl
theorem F7_t {R R1 R2 : Nat → Nat → Int32} (h : F7 R R1) (h2 : F7 R1 R2) : F7 R R2 := fun a ha => (h2 a ha).trans (h a ha)
theorem F7_s {R : Nat → Nat → Int32} {k : Nat} {x : Int32} : F7 R (st R 337 k x) := fun _ h => st_cell h
theorem F7_J {R : Nat → Nat → Int32} {j k : Nat} {x : Int32} : F7 R (sJ R j k x) := F7_s
theorem F7_D {R : Nat → Nat → Int32} {j k : Nat} {x : Int32} : F7 R (sD R j k x) := F7_s
theorem F7_T {R R' : Nat → Nat → Int32} (h : F7 R R') : FT R R' := ⟨fun a _ h2 => h a h2, fun k _ _ _ => by rw [h 336 (by omega)]⟩
theorem SUC_FC {b D : Nat} {C C' : Nat → Nat → Int32} {su : Nat → Nat → Nat} (hb : 29 ≤ b) (h : SUC C D su) (hf : FC b C C') : SUC C' D su := by
  unfold SUC at h ⊢
  simp only [hf 17 (by omega), hf 18 (by omega), hf 20 (by omega), hf 21 (by omega), hf 22 (by omega), hf 23 (by omega), hf 24 (by omega), hf 26 (by omega), hf 27 (by omega), hf 28 (by omega)]
  exact h
theorem SUR_FT {D : Nat} {R R' : Nat → Nat → Int32} {su : Nat → Nat → Nat} (h : SUR R D su) (hf : FT R R') : SUR R' D su := by
  unfold SUR at h ⊢
  simp only [hf.2 5 (by omega) (by omega) (by omega), hf.1 339 (by omega) (by omega), hf.1 340 (by omega) (by omega), hf.1 341 (by omega) (by omega), hf.1 342 (by omega) (by omega), hf.1 343 (by omega) (by omega), hf.1 344 (by omega) (by omega), hf.1 345 (by omega) (by omega), hf.1 346 (by omega) (by omega), hf.1 347 (by omega) (by omega)]
  exact h
theorem bL_29 : ∀ b ∈ bL, 29 ≤ b := by decide
/-- what class's and reference's rows of a domain ask -/
theorem DC_of {C : Nat → Nat → Int32} {b D d T : Nat} {su : Nat → Nat → Nat} {A : AS} (hb : b ∈ bL) (hs : SUC C D su) (hB : SUB D su) (h : RC C b D A) (hi : Inv D su T A) (hT : T < 2 ^ 29) (hd : d < D) : DC C b d (su 0 d) (su 1 d) (A 30 0) (A 30 1) (coA A d) (A 6) (A 5) := by
  obtain ⟨⟨h1, h2, h3⟩, h4, h5, h6, h7, h8, h9, h10, h11, h12, h13, h14⟩ := h
  obtain ⟨⟨i1, i2, i3⟩, i4, i5, i6, i7, i8⟩ := hi
  have hB2 := hB.2.2 d hd
  have hs2 := hs.2 d hd
  have hD := hB.2.1
  refine ⟨hb, by omega, hs2.1, by omega, hs2.2.1, by omega, by omega, h1, i1, ?_, ?_, ?_, ?_, h2, by omega⟩
  · intro e he
    exact h14 d e hd (by omega)
  · intro e j he hj
    exact (i6 d e j hd (oA_some.mp hj)).2.1
  · intro j hj
    have := i4 j hj
    exact ⟨h4 j 6 hj (by omega), by omega⟩
  · intro j hj
    have := i4 j hj
    exact ⟨h4 j 5 hj (by omega), by omega⟩
theorem DR_of {R : Nat → Nat → Int32} {D d T : Nat} {su : Nat → Nat → Nat} {A : AS} (hs : SUR R D su) (hB : SUB D su) (h : RR R D A) (hi : Inv D su T A) (hT : T < 2 ^ 29) (hd : d < D) : DR R d (su 0 d) (su 1 d) (A 30 0) (A 30 1) (coA A d) (A 6) (A 5) := by
  obtain ⟨⟨h1, h2, h3⟩, h4, h5, h6, h7, h8, h9⟩ := h
  obtain ⟨⟨i1, i2, i3⟩, i4, i5, i6, i7, i8⟩ := hi
  have hB2 := hB.2.2 d hd
  have hs2 := hs.2 d hd
  have hD := hB.2.1
  refine ⟨by omega, hs2.1, by omega, hs2.2.1, by omega, by omega, h1, i1, ?_, ?_, ?_, ?_, h2, by omega⟩
  · intro e he
    exact h9 d e hd (by omega)
  · intro e j he hj
    exact (i6 d e j hd (oA_some.mp hj)).2.1
  · intro j hj
    have := i4 j hj
    exact ⟨h4 j 6 hj (by omega), by omega⟩
  · intro j hj
    have := i4 j hj
    exact ⟨h4 j 5 hj (by omega), by omega⟩
/-- writes of one number -/
theorem rc_6 {C : Nat → Nat → Int32} {b D j x : Nat} {A : AS} (h : RC C b D A) : RC (st C (b + 10) j (nI x)) b D (up A 6 j x) := by
  obtain ⟨⟨h1, h2, h3⟩, h4, h5, h6, h7, h8, h9, h10, h11, h12, h13, h14⟩ := h
  unfold RC
  simp (disch := omega) only [up_k, st_cell]
  refine ⟨⟨h1, h2, h3⟩, ?_, h5, h6, h7, h8, h9, h10, h11, h12, h13, h14⟩
  intro i k hi hk
  rw [st_at, up_at]
  by_cases hq : k = 6 ∧ i = j
  · rw [if_pos hq, if_pos (by omega)]
  · rw [if_neg hq, if_neg (by omega)]
    exact h4 i k hi hk
theorem rc_d {C : Nat → Nat → Int32} {b D d x k : Nat} {A : AS} (hk : k < 9) (h : RC C b D A) : RC (st C (b + (15 + k)) d (nI x)) b D (up A (11 + k) d x) := by
  obtain ⟨⟨h1, h2, h3⟩, h4, h5, h6, h7, h8, h9, h10, h11, h12, h13, h14⟩ := h
  unfold RC
  simp (disch := omega) only [up_k, st_cell]
  refine ⟨⟨h1, h2, h3⟩, ?_, h5, h6, h7, h8, h9, h10, h11, h12, ?_, h14⟩
  · intro i k' hi hk'
    rw [st_ki (by omega), up_ki (by omega)]
    exact h4 i k' hi hk'
  · intro i k' hi hk'
    rw [st_at, up_at]
    by_cases hq : 11 + k' = 11 + k ∧ i = d
    · rw [if_pos hq, if_pos (by omega)]
    · rw [if_neg hq, if_neg (by omega)]
      exact h13 i k' hi hk'
theorem rc_lim {C : Nat → Nat → Int32} {b D d x : Nat} {A : AS} (h : RC C b D A) : RC (st C (b + 14) d (limC x)) b D (up A 10 d x) := by
  obtain ⟨⟨h1, h2, h3⟩, h4, h5, h6, h7, h8, h9, h10, h11, h12, h13, h14⟩ := h
  unfold RC
  simp (disch := omega) only [up_k, st_cell]
  refine ⟨⟨h1, h2, h3⟩, ?_, h5, h6, h7, h8, h9, h10, h11, ?_, h13, h14⟩
  · intro i k' hi hk'
    rw [st_ki (by omega), up_ki (by omega)]
    exact h4 i k' hi hk'
  · intro i hi
    rw [st_at, up_at]
    by_cases hq : i = d
    · rw [if_pos ⟨rfl, hq⟩, if_pos ⟨rfl, hq⟩]
    · rw [if_neg (fun q => hq q.2), if_neg (fun q => hq q.2)]
      exact h12 i hi
theorem rc_core {C : Nat → Nat → Int32} {b D d e x : Nat} {A : AS} (he : e < 4) (h : RC C b D A) : RC (st C (b + 24) (d * 4 + e) (enc (-2) (oA x))) b D (up A (40 + d) e x) := by
  obtain ⟨⟨h1, h2, h3⟩, h4, h5, h6, h7, h8, h9, h10, h11, h12, h13, h14⟩ := h
  unfold RC
  simp (disch := omega) only [up_k, st_cell]
  refine ⟨⟨h1, h2, h3⟩, ?_, h5, h6, h7, h8, h9, h10, h11, h12, ?_, ?_⟩
  · intro i k' hi hk'
    rw [st_ki (by omega), up_ki (by omega)]
    exact h4 i k' hi hk'
  · intro i k' hi hk'
    rw [st_ki (by omega), up_ki (by omega)]
    exact h13 i k' hi hk'
  · intro d' e' hd' he'
    rw [st_at, up_at]
    by_cases hq : d' = d ∧ e' = e
    · rw [if_pos (by omega), if_pos (by omega)]
    · rw [if_neg (by omega), if_neg (by omega)]
      exact h14 d' e' hd' he'
theorem rc_T {C : Nat → Nat → Int32} {b D x : Nat} {A : AS} (h : RC C b D A) : RC (st C b 2 (nI x)) b D (up A 30 1 x) := by
  obtain ⟨⟨h1, h2, h3⟩, h4, h5, h6, h7, h8, h9, h10, h11, h12, h13, h14⟩ := h
  unfold RC
  simp (disch := omega) only [up_k, up_i, st_cell, st_slot, up_self, st_self]
  refine ⟨⟨h1, trivial, h3⟩, ?_, h5, h6, h7, h8, h9, h10, h11, h12, ?_, h14⟩
  · intro i k' hi hk'
    rw [up_ki (by omega)]
    exact h4 i k' hi hk'
  · intro i k' hi hk'
    rw [up_ki (by omega)]
    exact h13 i k' hi hk'
theorem rc_am {C : Nat → Nat → Int32} {b D x : Nat} {A : AS} (h : RC C b D A) : RC (st C b 3 (nI x)) b D (up A 30 2 x) := by
  obtain ⟨⟨h1, h2, h3⟩, h4, h5, h6, h7, h8, h9, h10, h11, h12, h13, h14⟩ := h
  unfold RC
  simp (disch := omega) only [up_k, up_i, st_cell, st_slot, up_self, st_self]
  refine ⟨⟨h1, h2, trivial⟩, ?_, h5, h6, h7, h8, h9, h10, h11, h12, ?_, h14⟩
  · intro i k' hi hk'
    rw [up_ki (by omega)]
    exact h4 i k' hi hk'
  · intro i k' hi hk'
    rw [up_ki (by omega)]
    exact h13 i k' hi hk'
theorem rc_gh {C : Nat → Nat → Int32} {b D x : Nat} {A : AS} (h : RC C b D A) : RC C b D (up A 31 0 x) := by
  obtain ⟨⟨h1, h2, h3⟩, h4, h5, h6, h7, h8, h9, h10, h11, h12, h13, h14⟩ := h
  unfold RC
  simp (disch := omega) only [up_k]
  refine ⟨⟨h1, h2, h3⟩, ?_, h5, h6, h7, h8, h9, h10, h11, h12, ?_, h14⟩
  · intro i k' hi hk'
    rw [up_ki (by omega)]
    exact h4 i k' hi hk'
  · intro i k' hi hk'
    rw [up_ki (by omega)]
    exact h13 i k' hi hk'
/-- a ready job goes to a core -/
theorem rc_rdy {C : Nat → Nat → Int32} {b D d j : Nat} {A : AS} (hj : j < 32) (h : RC C b D A) (h0 : A 0 j = d) (h7 : A 7 j = 1) : RC (st C (b + 3) d (C (b + 3) d &&& (((1 : Int32) <<< (nI j &&& 31)) ^^^ (-1)))) b D (up A 7 j 2) := by
  obtain ⟨⟨h1, h2, h3⟩, h4, h5, h6, h7', h8, h9, h10, h11, h12, h13, h14⟩ := h
  unfold RC
  simp (disch := omega) only [up_k, st_cell]
  refine ⟨⟨h1, h2, h3⟩, ?_, ?_, ?_, ?_, ?_, ?_, h10, h11, h12, h13, h14⟩
  · intro i k' hi hk'
    rw [up_ki (by omega)]
    exact h4 i k' hi hk'
  · intro i hi hi7
    rw [up_at] at hi7
    by_cases hq : i = j
    · rw [if_pos ⟨rfl, hq⟩] at hi7
      omega
    · rw [if_neg (fun q => hq q.2)] at hi7
      exact h5 i hi hi7
  · intro i hi
    rw [h6 i hi, up_at]
    by_cases hq : i = j
    · subst hq
      simp [h7]
    · simp [hq]
  · intro i hi
    rw [h7' i hi, up_at]
    by_cases hq : i = j
    · subst hq
      simp [h7]
    · simp [hq]
  · intro d' i hd' hi
    rw [h8 d' i hd' hi, up_at]
    by_cases hq : i = j
    · subst hq
      simp [h7]
    · simp [hq]
  · intro d' i hd' hi
    by_cases hd : d' = d
    · subst hd
      rw [st_self, hbit_without hj hi, h9 d' i hd' hi, up_at]
      by_cases hq : i = j
      · subst hq
        simp
      · simp [hq]
    · rw [st_ki (by omega), h9 d' i hd' hi, up_at]
      by_cases hq : i = j
      · subst hq
        simp [h0, Ne.symm hd]
      · simp [hq]
