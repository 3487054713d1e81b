theorem rr_J {R : Nat → Nat → Int32} {D j k x : Nat} {A : AS} (hD : D ≤ 4) (hk : k < 7) (h : RR R D A) : RR (sJ R j k (nI x)) D (up A k j x) := by
  obtain ⟨⟨h1, h2, h3⟩, h4, h5, h6, h7, h8, h9⟩ := h
  unfold RR
  simp (disch := omega) only [up_k, rL_J]
  refine ⟨⟨h1, h2, h3⟩, ?_, ?_, ?_, ?_, ?_, ?_⟩
  · intro i k' hi hk'
    rw [rJ_J (by omega) (by omega), up_at]
    by_cases hq : i = j ∧ k' = k
    · rw [if_pos hq, if_pos (by omega)]
    · rw [if_neg hq, if_neg (by omega)]
      exact h4 i k' hi hk'
  · intro i hi h7'
    rw [rJ_J (by omega) (by omega), if_neg (by omega)]
    exact h5 i hi h7'
  · intro i hi
    rw [rL_J (by omega)]
    exact h6 i hi
  · intro i hi
    rw [rL_J (by omega)]
    exact h7 i hi
  · intro d' k' hd' hk'
    rw [rD_J (by omega) (by omega)]
    exact h8 d' k' hd' hk'
  · intro d' e' hd' he'
    rw [rD_J (by omega) (by omega)]
    exact h9 d' e' hd' he'
theorem rr_7 {R : Nat → Nat → Int32} {D j x : Nat} {A : AS} (hD : D ≤ 4) (hx : x ≠ 3) (h : RR R D A) : RR (sJ R j 7 (nI x)) D (up A 7 j x) := by
  obtain ⟨⟨h1, h2, h3⟩, h4, h5, h6, h7, h8, h9⟩ := h
  unfold RR
  simp (disch := omega) only [up_k, rL_J]
  refine ⟨⟨h1, h2, h3⟩, ?_, ?_, ?_, ?_, ?_, ?_⟩
  · intro i k' hi hk'
    rw [rJ_J (by omega) (by omega), up_at]
    by_cases hq : i = j ∧ k' = 7
    · rw [if_pos hq, if_pos (by omega)]
    · rw [if_neg hq, if_neg (by omega)]
      exact h4 i k' hi hk'
  · intro i hi h7'
    rw [up_at] at h7'
    rw [rJ_J (by omega) (by omega), if_neg (by omega)]
    by_cases hq : i = j
    · rw [if_pos ⟨rfl, hq⟩] at h7'
      omega
    · rw [if_neg (fun q => hq q.2)] at h7'
      exact h5 i hi h7'
  · intro i hi
    rw [rL_J (by omega)]
    exact h6 i hi
  · intro i hi
    rw [rL_J (by omega)]
    exact h7 i hi
  · intro d' k' hd' hk'
    rw [rD_J (by omega) (by omega)]
    exact h8 d' k' hd' hk'
  · intro d' e' hd' he'
    rw [rD_J (by omega) (by omega)]
    exact h9 d' e' hd' he'
/-- done, at x -/
theorem rr_end {R : Nat → Nat → Int32} {D j x : Nat} {A : AS} (hD : D ≤ 4) (h : RR R D A) : RR (sJ (sJ R j 7 3) j 8 (nI x)) D (up (up A 7 j 3) 8 j x) := by
  obtain ⟨⟨h1, h2, h3⟩, h4, h5, h6, h7, h8, h9⟩ := h
  unfold RR
  simp (disch := omega) only [up_k, rL_J]
  refine ⟨⟨h1, h2, h3⟩, ?_, ?_, ?_, ?_, ?_, ?_⟩
  · intro i k' hi hk'
    rw [rJ_J (by omega) (by omega), rJ_J (by omega) (by omega), up_ki (by omega), up_at, if_neg (by omega)]
    by_cases hq : i = j ∧ k' = 7
    · rw [if_pos hq, if_pos (by omega)]
      rfl
    · rw [if_neg hq, if_neg (by omega)]
      exact h4 i k' hi hk'
  · intro i hi h7'
    rw [up_at] at h7'
    rw [rJ_J (by omega) (by omega), rJ_J (by omega) (by omega), up_at]
    by_cases hq : i = j
    · rw [if_pos ⟨hq, rfl⟩, if_pos ⟨rfl, hq⟩]
    · rw [if_neg (fun q => hq q.2)] at h7'
      rw [if_neg (fun q => hq q.1), if_neg (fun q => hq q.1), if_neg (fun q => hq q.2), up_k (by omega)]
      exact h5 i hi h7'
  · intro i hi
    rw [rL_J (by omega), rL_J (by omega)]
    exact h6 i hi
  · intro i hi
    rw [rL_J (by omega), rL_J (by omega)]
    exact h7 i hi
  · intro d' k' hd' hk'
    rw [rD_J (by omega) (by omega), rD_J (by omega) (by omega)]
    exact h8 d' k' hd' hk'
  · intro d' e' hd' he'
    rw [rD_J (by omega) (by omega), rD_J (by omega) (by omega)]
    exact h9 d' e' hd' he'
theorem rr_D {R : Nat → Nat → Int32} {D d k x : Nat} {A : AS} (hd : d < 4) (hk : k < 9) (h : RR R D A) : RR (sD R d k (nI x)) D (up A (10 + k) d x) := by
  obtain ⟨⟨h1, h2, h3⟩, h4, h5, h6, h7, h8, h9⟩ := h
  unfold RR
  simp (disch := omega) only [up_k, rL_D, rJ_D]
  refine ⟨⟨h1, h2, h3⟩, ?_, h5, ?_, ?_, ?_, ?_⟩
  · intro i k' hi hk'
    rw [up_ki (by omega)]
    exact h4 i k' hi hk'
  · intro i hi
    rw [rL_D (by omega)]
    exact h6 i hi
  · intro i hi
    rw [rL_D (by omega)]
    exact h7 i hi
  · intro d' k' hd' hk'
    rw [rD_D (by omega) (by omega), up_at]
    by_cases hq : d' = d ∧ k' = k
    · rw [if_pos hq, if_pos (by omega)]
    · rw [if_neg hq, if_neg (by omega)]
      exact h8 d' k' hd' hk'
  · intro d' e' hd' he'
    rw [rD_D (by omega) (by omega), if_neg (by omega)]
    exact h9 d' e' hd' he'
theorem rr_core {R : Nat → Nat → Int32} {D d e x : Nat} {A : AS} (hd : d < 4) (he : e < 4) (h : RR R D A) : RR (sD R d (9 + e) (enc (-1) (oA x))) D (up A (40 + d) e x) := by
  obtain ⟨⟨h1, h2, h3⟩, h4, h5, h6, h7, h8, h9⟩ := h
  unfold RR
  simp (disch := omega) only [up_k, rL_D, rJ_D]
  refine ⟨⟨h1, h2, h3⟩, ?_, h5, ?_, ?_, ?_, ?_⟩
  · intro i k' hi hk'
    rw [up_ki (by omega)]
    exact h4 i k' hi hk'
  · intro i hi
    rw [rL_D (by omega)]
    exact h6 i hi
  · intro i hi
    rw [rL_D (by omega)]
    exact h7 i hi
  · intro d' k' hd' hk'
    rw [rD_D (by omega) (by omega), if_neg (by omega), up_ki (by omega)]
    exact h8 d' k' hd' hk'
  · intro d' e' hd' he'
    rw [rD_D (by omega) (by omega), up_at]
    by_cases hq : d' = d ∧ e' = e
    · rw [if_pos (by omega), if_pos (by omega)]
    · rw [if_neg (by omega), if_neg (by omega)]
      exact h9 d' e' hd' he'
theorem rr_low {R : Nat → Nat → Int32} {D i q s x : Nat} {A : AS} (hi : (i = 0 ∧ q = 30 ∧ s = 1) ∨ (i = 1 ∧ q = 30 ∧ s = 2) ∨ (s < 8 ∧ i = 3 + s ∧ q = 20) ∨ (s < 8 ∧ i = 11 + s ∧ q = 21)) (h : RR R D A) : RR (st R 337 i (nI x)) D (up A q s x) := by
  obtain ⟨⟨h1, h2, h3⟩, h4, h5, h6, h7, h8, h9⟩ := h
  unfold RR
  simp (disch := omega) only [rJ_l, rD_l]
  have e0 : up A q s x 30 0 = A 30 0 := up_ki (by omega)
  rw [e0]
  refine ⟨⟨?_, ?_, ?_⟩, ?_, ?_, ?_, ?_, ?_, ?_⟩
  · rw [st_ki (by omega)]
    exact h1
  · rw [st_at, up_at]
    by_cases hq : 30 = q ∧ 1 = s
    · rw [if_pos hq, if_pos (by omega)]
    · rw [if_neg hq, if_neg (by omega)]
      exact h2
  · rw [st_at, up_at]
    by_cases hq : 30 = q ∧ 2 = s
    · rw [if_pos hq, if_pos (by omega)]
    · rw [if_neg hq, if_neg (by omega)]
      exact h3
  · intro i' k' hi' hk'
    rw [up_ki (by omega)]
    exact h4 i' k' hi' hk'
  · intro i' hi' h7'
    rw [up_ki (by omega)] at h7' ⊢
    exact h5 i' hi' h7'
  · intro k' hk'
    rw [st_at, up_at]
    by_cases hq : 20 = q ∧ k' = s
    · rw [if_pos hq, if_pos (by omega)]
    · rw [if_neg hq, if_neg (by omega)]
      exact h6 k' hk'
  · intro k' hk'
    rw [st_at, up_at]
    by_cases hq : 21 = q ∧ k' = s
    · rw [if_pos hq, if_pos (by omega)]
    · rw [if_neg hq, if_neg (by omega)]
      exact h7 k' hk'
  · intro d' k' hd' hk'
    rw [up_ki (by omega)]
    exact h8 d' k' hd' hk'
  · intro d' e' hd' he'
    rw [up_ki (by omega)]
    exact h9 d' e' hd' he'
theorem rr_gh {R : Nat → Nat → Int32} {D q s x : Nat} {A : AS} (hq : q = 31 ∨ q = 19) (h : RR R D A) : RR R D (up A q s x) := by
  obtain ⟨⟨h1, h2, h3⟩, h4, h5, h6, h7, h8, h9⟩ := h
  unfold RR
  have e0 : ∀ i, up A q s x 30 i = A 30 i := fun i => up_ki (by omega)
  simp only [e0]
  refine ⟨⟨h1, h2, h3⟩, ?_, ?_, ?_, ?_, ?_, ?_⟩
  · intro i' k' hi' hk'
    rw [up_ki (by omega)]
    exact h4 i' k' hi' hk'
  · intro i' hi' h7'
    rw [up_ki (by omega)] at h7' ⊢
    exact h5 i' hi' h7'
  · intro k' hk'
    rw [up_ki (by omega)]
    exact h6 k' hk'
  · intro k' hk'
    rw [up_ki (by omega)]
    exact h7 k' hk'
  · intro d' k' hd' hk'
    rw [up_ki (by omega)]
    exact h8 d' k' hd' hk'
  · intro d' e' hd' he'
    rw [up_ki (by omega)]
    exact h9 d' e' hd' he'
theorem RR_ext {R R' : Nat → Nat → Int32} {D : Nat} {A : AS} (hD : D ≤ 4) (hc : A 30 0 ≤ 24) (hx : ∀ k, k < 287 → R' 337 k = R 337 k) (h : RR R D A) : RR R' D A := by
  obtain ⟨⟨h1, h2, h3⟩, h4, h5, h6, h7, h8, h9⟩ := h
  refine ⟨⟨?_, ?_, ?_⟩, ?_, ?_, ?_, ?_, ?_, ?_⟩
  · rw [hx _ (by omega)]; exact h1
  · rw [hx _ (by omega)]; exact h2
  · rw [hx _ (by omega)]; exact h3
  · intro j k hj hk
    unfold rJ
    rw [hx _ (by omega)]; exact h4 j k hj hk
  · intro j hj h7'
    unfold rJ
    rw [hx _ (by omega)]; exact h5 j hj h7'
  · intro k hk
    rw [hx _ (by omega)]; exact h6 k hk
  · intro k hk
    rw [hx _ (by omega)]; exact h7 k hk
  · intro d k hd hk
    unfold rD
    rw [hx _ (by omega)]; exact h8 d k hd hk
  · intro d e hd he
    unfold rD
    rw [hx _ (by omega)]; exact h9 d e hd he
theorem RR_336 {R : Nat → Nat → Int32} {D k : Nat} {x : Int32} {A : AS} (h : RR R D A) : RR (st R 336 k x) D A := by
  unfold RR at h ⊢
  simp only [st_cell (N := R) (a := 336) (k := k) (x := x) (a' := 337) (by omega), rD_c (R := R) (a := 336) (i := k) (x := x) (by omega), rJ_c (R := R) (a := 336) (i := k) (x := x) (by omega)]
  exact h
theorem RC_ext {C C' : Nat → Nat → Int32} {b D : Nat} {A : AS} (hx : ∀ a, b ≤ a → a < b + 25 → C' a = C a) (h : RC C b D A) : RC C' b D A := by
  obtain ⟨⟨h1, h2, h3⟩, h4, h5, h6, h7, h8, h9, h10, h11, h12, h13, h14⟩ := h
  refine ⟨⟨?_, ?_, ?_⟩, ?_, ?_, ?_, ?_, ?_, ?_, ?_, ?_, ?_, ?_, ?_⟩
  · rw [hx _ (by omega) (by omega)]; exact h1
  · rw [hx _ (by omega) (by omega)]; exact h2
  · rw [hx _ (by omega) (by omega)]; exact h3
  · intro j k hj hk
    rw [hx _ (by omega) (by omega)]; exact h4 j k hj hk
  · intro j hj h7'
    rw [hx _ (by omega) (by omega)]; exact h5 j hj h7'
  · intro i hi
    rw [hx _ (by omega) (by omega)]; exact h6 i hi
  · intro i hi
    rw [hx _ (by omega) (by omega)]; exact h7 i hi
  · intro d i hd hi
    rw [hx _ (by omega) (by omega)]; exact h8 d i hd hi
  · intro d i hd hi
    rw [hx _ (by omega) (by omega)]; exact h9 d i hd hi
  · intro i hi
    rw [hx _ (by omega) (by omega)]; exact h10 i hi
  · intro i hi
    rw [hx _ (by omega) (by omega)]; exact h11 i hi
  · intro i hi
    rw [hx _ (by omega) (by omega)]; exact h12 i hi
  · intro d k hd hk
    rw [hx _ (by omega) (by omega)]; exact h13 d k hd hk
  · intro d e hd he
    rw [hx _ (by omega) (by omega)]; exact h14 d e hd he
/-- class: done, at x -/
theorem rc_end {C : Nat → Nat → Int32} {b D j x : Nat} {s : Int32} {A : AS} (hj : j < 32) (h : RC C b D A) (hjc : j < A 30 0) (h7 : A 7 j = 2) (hs : C (b + 1) 1 = s) : RC (st (st C (b + 11) j (nI x)) (b + 1) 1 (s ||| ((1 : Int32) <<< (nI j &&& 31)))) b D (up (up A 7 j 3) 8 j x) := by
  subst hs
  obtain ⟨⟨h1, h2, h3⟩, h4, h5, h6, h7', h8, h9, h10, h11, h12, h13, h14⟩ := h
  unfold RC
  simp (disch := omega) only [up_k, st_cell, st_slot, st_self]
  refine ⟨⟨h1, h2, h3⟩, ?_, ?_, ?_, ?_, ?_, ?_, h10, h11, h12, h13, h14⟩
  · intro i k' hi hk'
    rw [st_ki (by omega), up_ki (by omega), up_ki (by omega)]
    exact h4 i k' hi hk'
  · intro i hi hi7
    rw [up_at] at hi7
    rw [st_at, up_at]
    by_cases hq : i = j
    · rw [if_pos ⟨rfl, hq⟩, if_pos ⟨rfl, hq⟩]
    · rw [if_neg (fun q => hq q.2)] at hi7
      rw [if_neg (fun q => hq q.2), if_neg (fun q => hq q.2), up_k (by omega)]
      exact h5 i hi hi7
  · intro i hi
    rw [hbit_with hj hi, h6 i hi, up_at]
    by_cases hq : i = j
    · subst hq
      simp [hjc]
    · simp [hq]
  · intro i hi
    rw [h7' i hi, up_at]
    by_cases hq : i = j
    · subst hq
      simp [h7]
    · simp [hq]
  · intro d' i hd' hi
    rw [h8 d' i hd' hi, up_at]
    by_cases hq : i = j
    · subst hq
      simp [h7]
    · simp [hq]
  · intro d' i hd' hi
    rw [h9 d' i hd' hi, up_at]
    by_cases hq : i = j
    · subst hq
      simp [h7]
    · simp [hq]
theorem rc_es {C : Nat → Nat → Int32} {b D k x : Nat} {A : AS} (h : RC C b D A) : RC (st C (b + 12) k (nI x)) b D (up A 20 k x) := by
  obtain ⟨⟨h1, h2, h3⟩, h4, h5, h6, h7, h8, h9, h10, h11, h12, h13, h14⟩ := h
  unfold RC
  simp (disch := omega) only [up_k, st_cell]
  refine ⟨⟨h1, h2, h3⟩, ?_, h5, h6, h7, h8, h9, ?_, h11, h12, ?_, h14⟩
  · intro i k' hi hk'
    rw [st_ki (by omega), up_ki (by omega)]
    exact h4 i k' hi hk'
  · intro i hi
    rw [st_at, up_at]
    by_cases hq : i = k
    · rw [if_pos ⟨rfl, hq⟩, if_pos ⟨rfl, hq⟩]
    · rw [if_neg (fun q => hq q.2), if_neg (fun q => hq q.2)]
      exact h10 i hi
  · intro i k' hi hk'
    rw [up_ki (by omega)]
    exact h13 i k' hi hk'
theorem rc_dk {C : Nat → Nat → Int32} {b D k x : Nat} {A : AS} (h : RC C b D A) : RC (st C (b + 13) k (nI x)) b D (up A 21 k x) := by
  obtain ⟨⟨h1, h2, h3⟩, h4, h5, h6, h7, h8, h9, h10, h11, h12, h13, h14⟩ := h
  unfold RC
  simp (disch := omega) only [up_k, st_cell]
  refine ⟨⟨h1, h2, h3⟩, ?_, h5, h6, h7, h8, h9, h10, ?_, h12, ?_, h14⟩
  · intro i k' hi hk'
    rw [st_ki (by omega), up_ki (by omega)]
    exact h4 i k' hi hk'
  · intro i hi
    rw [st_at, up_at]
    by_cases hq : i = k
    · rw [if_pos ⟨rfl, hq⟩, if_pos ⟨rfl, hq⟩]
    · rw [if_neg (fun q => hq q.2), if_neg (fun q => hq q.2)]
      exact h11 i hi
  · intro i k' hi hk'
    rw [up_ki (by omega)]
    exact h13 i k' hi hk'
