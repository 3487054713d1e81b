def rJ (R : Nat → Nat → Int32) (j k : Nat) : Int32 := R 337 (71 + 9 * j + k)
def rD (R : Nat → Nat → Int32) (d k : Nat) : Int32 := R 337 (19 + 13 * d + k)
def sJ (R : Nat → Nat → Int32) (j k : Nat) (x : Int32) : Nat → Nat → Int32 := st R 337 (71 + 9 * j + k) x
def sD (R : Nat → Nat → Int32) (d k : Nat) (x : Int32) : Nat → Nat → Int32 := st R 337 (19 + 13 * d + k) x
theorem nI_p0 (a : Nat) : nI a + 0 = nI (a + 0) := nI_add a 0
theorem nI_p1 (a : Nat) : nI a + 1 = nI (a + 1) := nI_add a 1
theorem nI_p2 (a : Nat) : nI a + 2 = nI (a + 2) := nI_add a 2
theorem nI_p3 (a : Nat) : nI a + 3 = nI (a + 3) := nI_add a 3
theorem nI_p4 (a : Nat) : nI a + 4 = nI (a + 4) := nI_add a 4
theorem nI_p5 (a : Nat) : nI a + 5 = nI (a + 5) := nI_add a 5
theorem nI_p6 (a : Nat) : nI a + 6 = nI (a + 6) := nI_add a 6
theorem nI_p7 (a : Nat) : nI a + 7 = nI (a + 7) := nI_add a 7
theorem nI_p8 (a : Nat) : nI a + 8 = nI (a + 8) := nI_add a 8
theorem nI_p9 (a : Nat) : nI a + 9 = nI (a + 9) := nI_add a 9
theorem nI_p10 (a : Nat) : nI a + 10 = nI (a + 10) := nI_add a 10
theorem nI_p11 (a : Nat) : nI a + 11 = nI (a + 11) := nI_add a 11
theorem nI_p12 (a : Nat) : nI a + 12 = nI (a + 12) := nI_add a 12
theorem nI_p13 (a : Nat) : nI a + 13 = nI (a + 13) := nI_add a 13
theorem RO : (∀ (N : Nat → Nat → Int32) (r : Int64 × UInt64) (d : Nat), d < 4 → f_X10_of 336 (nI d) 0 (mw N r) = some (rD N d 0, mw N r)) ∧ (∀ (N : Nat → Nat → Int32) (r : Int64 × UInt64) (d : Nat), d < 4 → f_X10_of 336 (nI d) 1 (mw N r) = some (rD N d 1, mw N r)) ∧ (∀ (N : Nat → Nat → Int32) (r : Int64 × UInt64) (d : Nat), d < 4 → f_X10_of 336 (nI d) 2 (mw N r) = some (rD N d 2, mw N r)) ∧ (∀ (N : Nat → Nat → Int32) (r : Int64 × UInt64) (d : Nat), d < 4 → f_X10_of 336 (nI d) 3 (mw N r) = some (rD N d 3, mw N r)) ∧ (∀ (N : Nat → Nat → Int32) (r : Int64 × UInt64) (d : Nat), d < 4 → f_X10_of 336 (nI d) 4 (mw N r) = some (rD N d 4, mw N r)) ∧ (∀ (N : Nat → Nat → Int32) (r : Int64 × UInt64) (d : Nat), d < 4 → f_X10_of 336 (nI d) 5 (mw N r) = some (rD N d 5, mw N r)) ∧ (∀ (N : Nat → Nat → Int32) (r : Int64 × UInt64) (d : Nat), d < 4 → f_X10_of 336 (nI d) 6 (mw N r) = some (rD N d 6, mw N r)) ∧ (∀ (N : Nat → Nat → Int32) (r : Int64 × UInt64) (d : Nat), d < 4 → f_X10_of 336 (nI d) 7 (mw N r) = some (rD N d 7, mw N r)) ∧ (∀ (N : Nat → Nat → Int32) (r : Int64 × UInt64) (d : Nat), d < 4 → f_X10_of 336 (nI d) 8 (mw N r) = some (rD N d 8, mw N r)) ∧ (∀ (N : Nat → Nat → Int32) (r : Int64 × UInt64) (d c : Nat), d < 4 → c < 4 → f_X10_of 336 (nI d) (9 + nI c) (mw N r) = some (rD N d (9 + c), mw N r)) := by
  refine ⟨?_, ?_, ?_, ?_, ?_, ?_, ?_, ?_, ?_, ?_⟩
  all_goals (intros; simp (disch := omega) only [f_X10_of, rD, PR, AR, e_gd, nI_13m, nI_19a, nI_9m, nI_71a, nI_9a, nI_add, nI_p0, nI_p1, nI_p2, nI_p3, nI_p4, nI_p5, nI_p6, nI_p7, nI_p8, nI_p9, nI_p10, nI_p11, nI_p12, nI_p13])
theorem RP : (∀ (N : Nat → Nat → Int32) (r : Int64 × UInt64) (d : Nat) (x : Int32), d < 4 → f_X10_put2 336 (nI d) 0 x (mw N r) = some (mw (sD N d 0 x) r)) ∧ (∀ (N : Nat → Nat → Int32) (r : Int64 × UInt64) (d : Nat) (x : Int32), d < 4 → f_X10_put2 336 (nI d) 1 x (mw N r) = some (mw (sD N d 1 x) r)) ∧ (∀ (N : Nat → Nat → Int32) (r : Int64 × UInt64) (d : Nat) (x : Int32), d < 4 → f_X10_put2 336 (nI d) 2 x (mw N r) = some (mw (sD N d 2 x) r)) ∧ (∀ (N : Nat → Nat → Int32) (r : Int64 × UInt64) (d : Nat) (x : Int32), d < 4 → f_X10_put2 336 (nI d) 3 x (mw N r) = some (mw (sD N d 3 x) r)) ∧ (∀ (N : Nat → Nat → Int32) (r : Int64 × UInt64) (d : Nat) (x : Int32), d < 4 → f_X10_put2 336 (nI d) 4 x (mw N r) = some (mw (sD N d 4 x) r)) ∧ (∀ (N : Nat → Nat → Int32) (r : Int64 × UInt64) (d : Nat) (x : Int32), d < 4 → f_X10_put2 336 (nI d) 5 x (mw N r) = some (mw (sD N d 5 x) r)) ∧ (∀ (N : Nat → Nat → Int32) (r : Int64 × UInt64) (d : Nat) (x : Int32), d < 4 → f_X10_put2 336 (nI d) 6 x (mw N r) = some (mw (sD N d 6 x) r)) ∧ (∀ (N : Nat → Nat → Int32) (r : Int64 × UInt64) (d : Nat) (x : Int32), d < 4 → f_X10_put2 336 (nI d) 7 x (mw N r) = some (mw (sD N d 7 x) r)) ∧ (∀ (N : Nat → Nat → Int32) (r : Int64 × UInt64) (d : Nat) (x : Int32), d < 4 → f_X10_put2 336 (nI d) 8 x (mw N r) = some (mw (sD N d 8 x) r)) ∧ (∀ (N : Nat → Nat → Int32) (r : Int64 × UInt64) (d c : Nat) (x : Int32), d < 4 → c < 4 → f_X10_put2 336 (nI d) (9 + nI c) x (mw N r) = some (mw (sD N d (9 + c) x) r)) := by
  refine ⟨?_, ?_, ?_, ?_, ?_, ?_, ?_, ?_, ?_, ?_⟩
  all_goals (intros; simp (disch := omega) only [f_X10_put2, sD, PR, AR, e_gd, nI_13m, nI_19a, nI_9m, nI_71a, nI_9a, nI_add, nI_p0, nI_p1, nI_p2, nI_p3, nI_p4, nI_p5, nI_p6, nI_p7, nI_p8, nI_p9, nI_p10, nI_p11, nI_p12, nI_p13])
theorem RA : (∀ (N : Nat → Nat → Int32) (r : Int64 × UInt64) (d : Nat) (x : Int32), d < 4 → f_X10_addTo 336 (nI d) 0 x (mw N r) = some (mw (sD N d 0 (rD N d 0 + x)) r)) ∧ (∀ (N : Nat → Nat → Int32) (r : Int64 × UInt64) (d : Nat) (x : Int32), d < 4 → f_X10_addTo 336 (nI d) 1 x (mw N r) = some (mw (sD N d 1 (rD N d 1 + x)) r)) ∧ (∀ (N : Nat → Nat → Int32) (r : Int64 × UInt64) (d : Nat) (x : Int32), d < 4 → f_X10_addTo 336 (nI d) 2 x (mw N r) = some (mw (sD N d 2 (rD N d 2 + x)) r)) ∧ (∀ (N : Nat → Nat → Int32) (r : Int64 × UInt64) (d : Nat) (x : Int32), d < 4 → f_X10_addTo 336 (nI d) 3 x (mw N r) = some (mw (sD N d 3 (rD N d 3 + x)) r)) ∧ (∀ (N : Nat → Nat → Int32) (r : Int64 × UInt64) (d : Nat) (x : Int32), d < 4 → f_X10_addTo 336 (nI d) 4 x (mw N r) = some (mw (sD N d 4 (rD N d 4 + x)) r)) ∧ (∀ (N : Nat → Nat → Int32) (r : Int64 × UInt64) (d : Nat) (x : Int32), d < 4 → f_X10_addTo 336 (nI d) 5 x (mw N r) = some (mw (sD N d 5 (rD N d 5 + x)) r)) ∧ (∀ (N : Nat → Nat → Int32) (r : Int64 × UInt64) (d : Nat) (x : Int32), d < 4 → f_X10_addTo 336 (nI d) 6 x (mw N r) = some (mw (sD N d 6 (rD N d 6 + x)) r)) ∧ (∀ (N : Nat → Nat → Int32) (r : Int64 × UInt64) (d : Nat) (x : Int32), d < 4 → f_X10_addTo 336 (nI d) 7 x (mw N r) = some (mw (sD N d 7 (rD N d 7 + x)) r)) ∧ (∀ (N : Nat → Nat → Int32) (r : Int64 × UInt64) (d : Nat) (x : Int32), d < 4 → f_X10_addTo 336 (nI d) 8 x (mw N r) = some (mw (sD N d 8 (rD N d 8 + x)) r)) := by
  refine ⟨?_, ?_, ?_, ?_, ?_, ?_, ?_, ?_, ?_⟩
  all_goals (intros; simp (disch := omega) only [f_X10_addTo, sD, rD, PR, AR, e_gd, nI_13m, nI_19a, nI_9m, nI_71a, nI_9a, nI_add, nI_p0, nI_p1, nI_p2, nI_p3, nI_p4, nI_p5, nI_p6, nI_p7, nI_p8, nI_p9, nI_p10, nI_p11, nI_p12, nI_p13])
theorem RJ : (∀ (N : Nat → Nat → Int32) (r : Int64 × UInt64) (j : Nat), j < 24 → f_X10_ofJob 336 (nI j) 0 (mw N r) = some (rJ N j 0, mw N r)) ∧ (∀ (N : Nat → Nat → Int32) (r : Int64 × UInt64) (j : Nat), j < 24 → f_X10_ofJob 336 (nI j) 1 (mw N r) = some (rJ N j 1, mw N r)) ∧ (∀ (N : Nat → Nat → Int32) (r : Int64 × UInt64) (j : Nat), j < 24 → f_X10_ofJob 336 (nI j) 2 (mw N r) = some (rJ N j 2, mw N r)) ∧ (∀ (N : Nat → Nat → Int32) (r : Int64 × UInt64) (j : Nat), j < 24 → f_X10_ofJob 336 (nI j) 3 (mw N r) = some (rJ N j 3, mw N r)) ∧ (∀ (N : Nat → Nat → Int32) (r : Int64 × UInt64) (j : Nat), j < 24 → f_X10_ofJob 336 (nI j) 4 (mw N r) = some (rJ N j 4, mw N r)) ∧ (∀ (N : Nat → Nat → Int32) (r : Int64 × UInt64) (j : Nat), j < 24 → f_X10_ofJob 336 (nI j) 5 (mw N r) = some (rJ N j 5, mw N r)) ∧ (∀ (N : Nat → Nat → Int32) (r : Int64 × UInt64) (j : Nat), j < 24 → f_X10_ofJob 336 (nI j) 6 (mw N r) = some (rJ N j 6, mw N r)) ∧ (∀ (N : Nat → Nat → Int32) (r : Int64 × UInt64) (j : Nat), j < 24 → f_X10_ofJob 336 (nI j) 7 (mw N r) = some (rJ N j 7, mw N r)) ∧ (∀ (N : Nat → Nat → Int32) (r : Int64 × UInt64) (j : Nat), j < 24 → f_X10_ofJob 336 (nI j) 8 (mw N r) = some (rJ N j 8, mw N r)) ∧ (∀ (N : Nat → Nat → Int32) (r : Int64 × UInt64) (j k : Nat), j < 24 → k < 9 → f_X10_ofJob 336 (nI j) (nI k) (mw N r) = some (rJ N j k, mw N r)) := by
  refine ⟨?_, ?_, ?_, ?_, ?_, ?_, ?_, ?_, ?_, ?_⟩
  all_goals (intros; simp (disch := omega) only [f_X10_ofJob, rJ, PR, AR, e_gd, nI_13m, nI_19a, nI_9m, nI_71a, nI_9a, nI_add, nI_p0, nI_p1, nI_p2, nI_p3, nI_p4, nI_p5, nI_p6, nI_p7, nI_p8, nI_p9, nI_p10, nI_p11, nI_p12, nI_p13])
theorem RQ : (∀ (N : Nat → Nat → Int32) (r : Int64 × UInt64) (j : Nat) (x : Int32), j < 24 → f_X10_putJob 336 (nI j) 0 x (mw N r) = some (mw (sJ N j 0 x) r)) ∧ (∀ (N : Nat → Nat → Int32) (r : Int64 × UInt64) (j : Nat) (x : Int32), j < 24 → f_X10_putJob 336 (nI j) 1 x (mw N r) = some (mw (sJ N j 1 x) r)) ∧ (∀ (N : Nat → Nat → Int32) (r : Int64 × UInt64) (j : Nat) (x : Int32), j < 24 → f_X10_putJob 336 (nI j) 2 x (mw N r) = some (mw (sJ N j 2 x) r)) ∧ (∀ (N : Nat → Nat → Int32) (r : Int64 × UInt64) (j : Nat) (x : Int32), j < 24 → f_X10_putJob 336 (nI j) 3 x (mw N r) = some (mw (sJ N j 3 x) r)) ∧ (∀ (N : Nat → Nat → Int32) (r : Int64 × UInt64) (j : Nat) (x : Int32), j < 24 → f_X10_putJob 336 (nI j) 4 x (mw N r) = some (mw (sJ N j 4 x) r)) ∧ (∀ (N : Nat → Nat → Int32) (r : Int64 × UInt64) (j : Nat) (x : Int32), j < 24 → f_X10_putJob 336 (nI j) 5 x (mw N r) = some (mw (sJ N j 5 x) r)) ∧ (∀ (N : Nat → Nat → Int32) (r : Int64 × UInt64) (j : Nat) (x : Int32), j < 24 → f_X10_putJob 336 (nI j) 6 x (mw N r) = some (mw (sJ N j 6 x) r)) ∧ (∀ (N : Nat → Nat → Int32) (r : Int64 × UInt64) (j : Nat) (x : Int32), j < 24 → f_X10_putJob 336 (nI j) 7 x (mw N r) = some (mw (sJ N j 7 x) r)) ∧ (∀ (N : Nat → Nat → Int32) (r : Int64 × UInt64) (j : Nat) (x : Int32), j < 24 → f_X10_putJob 336 (nI j) 8 x (mw N r) = some (mw (sJ N j 8 x) r)) := by
  refine ⟨?_, ?_, ?_, ?_, ?_, ?_, ?_, ?_, ?_⟩
  all_goals (intros; simp (disch := omega) only [f_X10_putJob, sJ, PR, AR, e_gd, nI_13m, nI_19a, nI_9m, nI_71a, nI_9a, nI_add, nI_p0, nI_p1, nI_p2, nI_p3, nI_p4, nI_p5, nI_p6, nI_p7, nI_p8, nI_p9, nI_p10, nI_p11, nI_p12, nI_p13])
theorem RLd : (∀ (σ : Type) (N : Nat → Nat → Int32) (r : Int64 × UInt64) (K : Int32 → Option σ), hz_lda (mw N r) 337 0 K = K (N 337 0)) ∧ (∀ (σ : Type) (N : Nat → Nat → Int32) (r : Int64 × UInt64) (K : Int32 → Option σ), hz_lda (mw N r) 337 1 K = K (N 337 1)) ∧ (∀ (σ : Type) (N : Nat → Nat → Int32) (r : Int64 × UInt64) (K : Int32 → Option σ), hz_lda (mw N r) 337 2 K = K (N 337 2)) ∧ (∀ (σ : Type) (N : Nat → Nat → Int32) (r : Int64 × UInt64) (K : MW → Option σ) (x : Int32), hz_sta (mw N r) 337 0 x K = K (mw (st N 337 0 x) r)) ∧ (∀ (σ : Type) (N : Nat → Nat → Int32) (r : Int64 × UInt64) (K : MW → Option σ) (x : Int32), hz_sta (mw N r) 337 1 x K = K (mw (st N 337 1 x) r)) ∧ (∀ (σ : Type) (N : Nat → Nat → Int32) (r : Int64 × UInt64) (K : MW → Option σ) (x : Int32), hz_sta (mw N r) 337 2 x K = K (mw (st N 337 2 x) r)) :=
  ⟨fun _ N r K => e_lda (a := 337) (n := 287) rfl (by decide) N r K 0 (by decide), fun _ N r K => e_lda (a := 337) (n := 287) rfl (by decide) N r K 1 (by decide), fun _ N r K => e_lda (a := 337) (n := 287) rfl (by decide) N r K 2 (by decide), fun _ N r K x => e_sta (a := 337) (n := 287) rfl (by decide) N r K 0 x (by decide), fun _ N r K x => e_sta (a := 337) (n := 287) rfl (by decide) N r K 1 x (by decide), fun _ N r K x => e_sta (a := 337) (n := 287) rfl (by decide) N r K 2 x (by decide)⟩
theorem rJ_J {R : Nat → Nat → Int32} {j k j0 k0 : Nat} {x : Int32} (hk : k < 9) (h0 : k0 < 9) : rJ (sJ R j0 k0 x) j k = if j = j0 ∧ k = k0 then x else rJ R j k := by
  unfold rJ sJ
  rw [st_at]
  by_cases h : j = j0 ∧ k = k0
  · rw [if_pos h, if_pos (by omega)]
  · rw [if_neg h, if_neg (by omega)]
theorem rJ_D {R : Nat → Nat → Int32} {j k d k0 : Nat} {x : Int32} (hd : d < 4) (h0 : k0 < 13) : rJ (sD R d k0 x) j k = rJ R j k := by
  unfold rJ sD
  rw [st_at, if_neg (by omega)]
theorem rJ_l {R : Nat → Nat → Int32} {j k i : Nat} {x : Int32} (hi : i < 71) : rJ (st R 337 i x) j k = rJ R j k := by
  unfold rJ
  rw [st_at, if_neg (by omega)]
theorem rJ_c {R : Nat → Nat → Int32} {j k a i : Nat} {x : Int32} (ha : a ≠ 337) : rJ (st R a i x) j k = rJ R j k := by
  unfold rJ
  rw [st_at, if_neg (by omega)]
theorem rD_D {R : Nat → Nat → Int32} {d k d0 k0 : Nat} {x : Int32} (hk : k < 13) (h0 : k0 < 13) : rD (sD R d0 k0 x) d k = if d = d0 ∧ k = k0 then x else rD R d k := by
  unfold rD sD
  rw [st_at]
  by_cases h : d = d0 ∧ k = k0
  · rw [if_pos h, if_pos (by omega)]
  · rw [if_neg h, if_neg (by omega)]
theorem rD_J {R : Nat → Nat → Int32} {d k j k0 : Nat} {x : Int32} (hd : d < 4) (hk : k < 13) : rD (sJ R j k0 x) d k = rD R d k := by
  unfold rD sJ
  rw [st_at, if_neg (by omega)]
theorem rD_l {R : Nat → Nat → Int32} {d k i : Nat} {x : Int32} (hi : i < 19) : rD (st R 337 i x) d k = rD R d k := by
  unfold rD
  rw [st_at, if_neg (by omega)]
theorem rD_c {R : Nat → Nat → Int32} {d k a i : Nat} {x : Int32} (ha : a ≠ 337) : rD (st R a i x) d k = rD R d k := by
  unfold rD
  rw [st_at, if_neg (by omega)]
theorem rL_J {R : Nat → Nat → Int32} {i j k0 : Nat} {x : Int32} (hi : i < 71) : sJ R j k0 x 337 i = R 337 i := by unfold sJ; rw [st_at, if_neg (by omega)]
theorem rL_D {R : Nat → Nat → Int32} {i d k0 : Nat} {x : Int32} (hi : i < 19) : sD R d k0 x 337 i = R 337 i := by unfold sD; rw [st_at, if_neg (by omega)]
theorem sJ_c {R : Nat → Nat → Int32} {a j k0 : Nat} {x : Int32} (h : a ≠ 337) : sJ R j k0 x a = R a := st_cell h
theorem sD_c {R : Nat → Nat → Int32} {a d k0 : Nat} {x : Int32} (h : a ≠ 337) : sD R d k0 x a = R a := st_cell h
