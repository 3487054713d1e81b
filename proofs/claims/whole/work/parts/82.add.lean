def adA (A : AS) (d k rl sl wk dl : Nat) : AS := up (up (up (up (up (up (up (up (up A 0 (A 30 0) d) 1 (A 30 0) k) 2 (A 30 0) rl) 3 (A 30 0) sl) 4 (A 30 0) wk) 5 (A 30 0) dl) 6 (A 30 0) wk) 7 (A 30 0) 0) 30 0 (A 30 0 + 1)
theorem adA_o {A : AS} {d k rl sl wk dl q i : Nat} (h : i ≠ A 30 0 ∨ 8 ≤ q) (h2 : ¬ (q = 30 ∧ i = 0)) : adA A d k rl sl wk dl q i = A q i := by
  unfold adA
  rw [up_ki h2, up_ki (by omega), up_ki (by omega), up_ki (by omega), up_ki (by omega), up_ki (by omega), up_ki (by omega), up_ki (by omega), up_ki (by omega)]
theorem adA_c {A : AS} {d k rl sl wk dl : Nat} : adA A d k rl sl wk dl 30 0 = A 30 0 + 1 := up_self _ _ _ _
theorem adA_n {A : AS} {d k rl sl wk dl : Nat} : adA A d k rl sl wk dl 0 (A 30 0) = d ∧ adA A d k rl sl wk dl 1 (A 30 0) = k ∧ adA A d k rl sl wk dl 2 (A 30 0) = rl ∧ adA A d k rl sl wk dl 3 (A 30 0) = sl ∧ adA A d k rl sl wk dl 4 (A 30 0) = wk ∧ adA A d k rl sl wk dl 5 (A 30 0) = dl ∧ adA A d k rl sl wk dl 6 (A 30 0) = wk ∧ adA A d k rl sl wk dl 7 (A 30 0) = 0 := by
  unfold adA
  simp (disch := omega) only [up_k, up_self, and_self]
theorem rc_add {C C' : Nat → Nat → Int32} {b D d k rl sl wk dl : Nat} {A : AS} (hc : A 30 0 < 24) (h : RC C b D A) (h0 : C' (b + 1) 0 = nI (A 30 0 + 1)) (h1 : C' (b + 1) 1 = C (b + 1) 1) (h2 : C' (b + 1) 2 = C (b + 1) 2) (h3 : C' b = C b)
    (hj : ∀ j q, j < A 30 0 → q < 7 → C' (b + (4 + q)) j = C (b + (4 + q)) j) (n0 : C' (b + 4) (A 30 0) = nI d) (n1 : C' (b + 5) (A 30 0) = nI k) (n2 : C' (b + 6) (A 30 0) = nI rl) (n3 : C' (b + 7) (A 30 0) = nI sl) (n4 : C' (b + 8) (A 30 0) = nI wk) (n5 : C' (b + 9) (A 30 0) = nI dl) (n6 : C' (b + 10) (A 30 0) = nI wk)
    (h11 : ∀ o, 11 ≤ o → o < 25 → C' (b + o) = C (b + o)) (hr : C' (b + 3) = C (b + 3)) (hw : ∀ d', d' ≠ d → C' (b + 2) d' = C (b + 2) d') (hwd : C' (b + 2) d = C (b + 2) d ||| ((1 : Int32) <<< (nI (A 30 0) &&& 31))) : RC C' b D (adA A d k rl sl wk dl) := by
  obtain ⟨m0, m1, m2, m3, m4, m5, m6, m7⟩ := adA_n (A := A) (d := d) (k := k) (rl := rl) (sl := sl) (wk := wk) (dl := dl)
  obtain ⟨⟨g1, g2, g3⟩, g4, g5, g6, g7, g8, g9, g10, g11, g12, g13, g14⟩ := h
  unfold RC
  rw [adA_c]
  have ez : ∀ i, i ≠ A 30 0 → ∀ q, q < 30 → adA A d k rl sl wk dl q i = A q i := fun i hi q hq => adA_o (.inl hi) (by omega)
  refine ⟨⟨h0, ?_, ?_⟩, ?_, ?_, ?_, ?_, ?_, ?_, ?_, ?_, ?_, ?_, ?_⟩
  · rw [h3, adA_o (.inr (by omega)) (by omega)]; exact g2
  · rw [h3, adA_o (.inr (by omega)) (by omega)]; exact g3
  · intro j q hjc hq
    by_cases hjn : j = A 30 0
    · subst hjn
      have hq7 : q = 0 ∨ q = 1 ∨ q = 2 ∨ q = 3 ∨ q = 4 ∨ q = 5 ∨ q = 6 := by omega
      rcases hq7 with rfl | rfl | rfl | rfl | rfl | rfl | rfl
      · rw [m0]; exact n0
      · rw [m1]; exact n1
      · rw [m2]; exact n2
      · rw [m3]; exact n3
      · rw [m4]; exact n4
      · rw [m5]; exact n5
      · rw [m6]; exact n6
    · rw [hj j q (by omega) hq, ez j hjn q (by omega)]
      exact g4 j q (by omega) hq
  · intro j hjc hj7
    by_cases hjn : j = A 30 0
    · subst hjn
      omega
    · rw [ez j hjn 7 (by omega)] at hj7
      rw [h11 11 (by omega) (by omega), ez j hjn 8 (by omega)]
      exact g5 j (by omega) hj7
  · intro i hi
    rw [h1, g6 i hi, decide_eq_decide]
    by_cases hjn : i = A 30 0
    · subst hjn
      omega
    · rw [ez i hjn 7 (by omega)]
      omega
  · intro i hi
    rw [h2, g7 i hi, decide_eq_decide]
    by_cases hjn : i = A 30 0
    · subst hjn
      omega
    · rw [ez i hjn 7 (by omega)]
      omega
  · intro d' i hd' hi
    by_cases hdd : d' = d
    · subst hdd
      rw [hwd, hbit_with (by omega) hi, g8 d' i hd' hi]
      by_cases hjn : i = A 30 0
      · subst hjn
        simp [m0, m7]
      · rw [ez i hjn 7 (by omega), ez i hjn 0 (by omega)]
        simp only [hjn, decide_false, Bool.or_false, decide_eq_decide]
        omega
    · rw [hw d' hdd, g8 d' i hd' hi, decide_eq_decide]
      by_cases hjn : i = A 30 0
      · subst hjn
        omega
      · rw [ez i hjn 7 (by omega), ez i hjn 0 (by omega)]
        omega
  · intro d' i hd' hi
    rw [hr, g9 d' i hd' hi, decide_eq_decide]
    by_cases hjn : i = A 30 0
    · subst hjn
      omega
    · rw [ez i hjn 7 (by omega), ez i hjn 0 (by omega)]
      omega
  · intro i hi
    rw [h11 12 (by omega) (by omega), adA_o (.inr (by omega)) (by omega)]
    exact g10 i hi
  · intro i hi
    rw [h11 13 (by omega) (by omega), adA_o (.inr (by omega)) (by omega)]
    exact g11 i hi
  · intro i hi
    rw [h11 14 (by omega) (by omega), adA_o (.inr (by omega)) (by omega)]
    exact g12 i hi
  · intro i q hi hq
    rw [h11 (15 + q) (by omega) (by omega), adA_o (.inr (by omega)) (by omega)]
    exact g13 i q hi hq
  · intro i e hi he
    rw [h11 24 (by omega) (by omega), adA_o (.inr (by omega)) (by omega)]
    exact g14 i e hi he
theorem rr_add {R R' : Nat → Nat → Int32} {D d k rl sl wk dl : Nat} {A : AS} (h : RR R D A) (hD : D ≤ 4) (h0 : R' 337 2 = nI (A 30 0 + 1)) (hl : ∀ i, i < 71 → i ≠ 2 → R' 337 i = R 337 i) (hj : ∀ j q, j < A 30 0 → q < 9 → rJ R' j q = rJ R j q) (n : ∀ q, q < 8 → rJ R' (A 30 0) q = nI (adA A d k rl sl wk dl q (A 30 0))) : RR R' D (adA A d k rl sl wk dl) := by
  obtain ⟨m0, m1, m2, m3, m4, m5, m6, m7⟩ := adA_n (A := A) (d := d) (k := k) (rl := rl) (sl := sl) (wk := wk) (dl := dl)
  obtain ⟨⟨g1, g2, g3⟩, g4, g5, g6, g7, g8, g9⟩ := h
  unfold RR
  rw [adA_c]
  have ez : ∀ i, i ≠ A 30 0 → ∀ q, q < 30 → adA A d k rl sl wk dl q i = A q i := fun i hi q hq => adA_o (.inl hi) (by omega)
  refine ⟨⟨h0, ?_, ?_⟩, ?_, ?_, ?_, ?_, ?_, ?_⟩
  · rw [hl 0 (by omega) (by omega), adA_o (.inr (by omega)) (by omega)]; exact g2
  · rw [hl 1 (by omega) (by omega), adA_o (.inr (by omega)) (by omega)]; exact g3
  · intro j q hjc hq
    by_cases hjn : j = A 30 0
    · subst hjn
      exact n q hq
    · rw [hj j q (by omega) (by omega), ez j hjn q (by omega)]
      exact g4 j q (by omega) hq
  · intro j hjc hj7
    by_cases hjn : j = A 30 0
    · subst hjn
      omega
    · rw [ez j hjn 7 (by omega)] at hj7
      rw [hj j 8 (by omega) (by omega), ez j hjn 8 (by omega)]
      exact g5 j (by omega) hj7
  · intro i hi
    rw [hl (3 + i) (by omega) (by omega), adA_o (.inr (by omega)) (by omega)]
    exact g6 i hi
  · intro i hi
    rw [hl (11 + i) (by omega) (by omega), adA_o (.inr (by omega)) (by omega)]
    exact g7 i hi
  · intro i q hi hq
    unfold rD
    rw [hl _ (by omega) (by omega), adA_o (.inr (by omega)) (by omega)]
    exact g8 i q hi hq
  · intro i e hi he
    unfold rD
    rw [hl _ (by omega) (by omega), adA_o (.inr (by omega)) (by omega)]
    exact g9 i e hi he
theorem IL_add {D T d k dy sl wk tm : Nat} {su : Nat → Nat → Nat} {A : AS} (hc : A 30 0 < 24) (hd : d < D) (hk : k ≤ 7) (hdy : dy ≤ 999) (hsl : sl ≤ 999) (hw1 : 1 ≤ wk) (hw : wk ≤ 9999) (htm : tm ≤ 9999) (h : IL D su T A) : IL D su T (adA A d k (A 30 1 + dy) sl wk (A 30 1 + dy + tm)) := by
  obtain ⟨m0, m1, m2, m3, m4, m5, m6, m7⟩ := adA_n (A := A) (d := d) (k := k) (rl := A 30 1 + dy) (sl := sl) (wk := wk) (dl := A 30 1 + dy + tm)
  obtain ⟨⟨⟨⟨i1, i2, i3⟩, i4, i5, i6, i7, i8⟩, hE, hth⟩, hl⟩ := h
  generalize hA' : adA A d k (A 30 1 + dy) sl wk (A 30 1 + dy + tm) = A' at *
  have ec : A' 30 0 = A 30 0 + 1 := by rw [← hA', adA_c]
  have eo : ∀ q i, 8 ≤ q → ¬ (q = 30 ∧ i = 0) → A' q i = A q i := fun q i h1 h2 => by rw [← hA', adA_o (.inr h1) h2]
  have ez : ∀ i, i ≠ A 30 0 → ∀ q, q < 30 → A' q i = A q i := fun i hi q hq => by rw [← hA', adA_o (.inl hi) (by omega)]
  refine ⟨⟨⟨⟨?_, ?_, ?_⟩, ?_, ?_, ?_, ?_, ?_⟩, ?_, ?_⟩, ?_⟩
  · omega
  · rw [eo 30 1 (by omega) (by omega)]; exact i2
  · rw [eo 30 2 (by omega) (by omega)]; exact i3
  · intro j hj
    by_cases hjn : j = A 30 0
    · subst hjn
      omega
    · have := i4 j (by omega)
      rw [ez j hjn 0 (by omega), ez j hjn 1 (by omega), ez j hjn 2 (by omega), ez j hjn 3 (by omega), ez j hjn 4 (by omega), ez j hjn 5 (by omega), ez j hjn 6 (by omega), ez j hjn 7 (by omega)]
      exact this
  · intro d' hd'
    rw [eo 10 _ (by omega) (by omega), eo 11 _ (by omega) (by omega), eo 12 _ (by omega) (by omega), eo 15 _ (by omega) (by omega)]
    exact i5 d' hd'
  · intro d' e j hd' he
    rw [eo _ _ (by omega) (by omega)] at he
    have := i6 d' e j hd' he
    rw [ez j (by omega) 0 (by omega), ez j (by omega) 7 (by omega)]
    exact ⟨this.1, by omega, this.2.2⟩
  · intro d' e e' j hd' h1 h2
    rw [eo _ _ (by omega) (by omega)] at h1 h2
    exact i7 d' e e' j hd' h1 h2
  · intro q hq
    have := i8 q hq
    rw [eo 20 _ (by omega) (by omega), eo 21 _ (by omega) (by omega), ec]
    refine ⟨this.1, ?_⟩
    rw [cnt, m7]
    simp only [show ((0 : Nat) = 3) = False from eq_false (by omega), decide_false, Bool.false_and, Bool.false_eq_true, reduceIte, Nat.add_zero]
    rw [this.2]
    exact cnt_congr (fun j hj => by rw [ez j (by omega) 7 (by omega), ez j (by omega) 1 (by omega)])
  · unfold IE at hE ⊢
    rw [ec, eo 30 1 (by omega) (by omega), smA, m6, smA_congr (f := A' 6) (g := A 6) (n := A 30 0) (fun j hj => ez j (by omega) 6 (by omega)), smA_congr (f := A' 14) (g := A 14) (n := D) (fun j hj => eo 14 j (by omega) (by omega))]
    omega
  · intro d' hd'
    rw [eo 16 _ (by omega) (by omega), eo 17 _ (by omega) (by omega)]
    exact hth d' hd'
  · intro d' hd'
    rw [eo 10 _ (by omega) (by omega)]
    exact hl d' hd'
def adM (C : Nat → Nat → Int32) (c d : Nat) (k wk : Int32) : Nat → Nat → Int32 := st (st (st (st (st (st C (29 + 4) c (nI d)) (29 + 5) c k) (29 + 8) c wk) (29 + 10) c wk) (29 + 2) d (C (29 + 2) d ||| ((1 : Int32) <<< (nI c &&& 31)))) (29 + 1) 0 (nI (c + 1))
theorem g_addC {C : Nat → Nat → Int32} {r : Int64 × UInt64} {D d k wk : Nat} {A : AS} (hD : D ≤ 4) (hd : d < D) (hc : A 30 0 < 24) (h : RC C 29 D A) : f_X1_addTo (29 + 1) (nI d) (nI k) (nI wk) (mw C r) = some (nI (A 30 0), mw (adM C (A 30 0) d (nI k) (nI wk)) r) := by
  have k0 : C (29 + 1) 0 = nI (A 30 0) := h.1.1
  have hlt : nI (A 30 0) < 24 := nI_lt (b := 24) hc (by omega)
  simp (disch := omega) only [f_X1_addTo, SB bL29, SL bL29, mw_1, k0, e_let, hlt, reduceIte, st_cell, g_with, e_b, mw_pn, nI_p1, adM]
def stM (M : Nat → Nat → Int32) (c : Nat) (rl sl dl : Int32) : Nat → Nat → Int32 := st (st (st M (29 + 6) c rl) (29 + 7) c sl) (29 + 9) c dl
theorem g_stC {M : Nat → Nat → Int32} {r : Int64 × UInt64} {c rl sl tm : Nat} (hc : c < 24) (h : M (29 + 1) 0 = nI (c + 1)) : f_X1_setTimes (29 + 1) (nI c) (nI rl) (nI sl) (nI tm) (mw M r) = some (mw (stM M c (nI rl) (nI sl) (nI (rl + tm))) r) := by
  have hhas : f_X1_has (29 + 1) (nI c) (mw M r) = some (1, mw M r) := g_has (b := 29) bL29 h (by omega) (by omega)
  simp (disch := omega) only [f_X1_setTimes, SB bL29, SL bL29, hhas, e_b, i10, reduceIte, nI_add, e_bd, stM]
theorem add_RC {C : Nat → Nat → Int32} {D d k dy sl wk tm : Nat} {A : AS} (hD : D ≤ 4) (hd : d < D) (hc : A 30 0 < 24) (h : RC C 29 D A) : RC (stM (adM C (A 30 0) d (nI k) (nI wk)) (A 30 0) (nI (A 30 1 + dy)) (nI sl) (nI (A 30 1 + dy + tm))) 29 D (adA A d k (A 30 1 + dy) sl wk (A 30 1 + dy + tm)) := by
  unfold stM adM
  refine rc_add (C := C) hc h ?_ ?_ ?_ ?_ ?_ ?_ ?_ ?_ ?_ ?_ ?_ ?_ ?_ ?_ ?_ ?_
  · simp (disch := omega) only [st_cell, st_self]
  · simp (disch := omega) only [st_cell, st_slot]
  · simp (disch := omega) only [st_cell, st_slot]
  · simp (disch := omega) only [st_cell]
  · intro j q hj hq
    simp (disch := omega) only [st_ki]
  · simp (disch := omega) only [st_cell, st_self]
  · simp (disch := omega) only [st_cell, st_self]
  · simp (disch := omega) only [st_cell, st_self]
  · simp (disch := omega) only [st_cell, st_self]
  · simp (disch := omega) only [st_cell, st_self]
  · simp (disch := omega) only [st_cell, st_self]
  · simp (disch := omega) only [st_cell, st_self]
  · intro o h1 h2
    simp (disch := omega) only [st_cell]
  · simp (disch := omega) only [st_cell]
  · intro d' hd'
    simp (disch := omega) only [st_cell, st_slot]
  · simp (disch := omega) only [st_cell, st_self]
theorem add_FC {C : Nat → Nat → Int32} {c d : Nat} {k wk rl sl dl : Int32} : FC 29 C (stM (adM C c d k wk) c rl sl dl) := by
  intro a ha
  unfold stM adM
  simp (disch := omega) only [st_cell]
def arM (R : Nat → Nat → Int32) (c : Nat) (d k rl sl wk dl : Int32) : Nat → Nat → Int32 := sJ (sJ (sJ (sJ (sJ (sJ (sJ (sJ (sJ (st R 337 2 (nI (c + 1))) c 0 d) c 1 k) c 2 rl) c 3 sl) c 4 wk) c 5 dl) c 6 wk) c 7 0) c 8 0
theorem add_RR {R : Nat → Nat → Int32} {D d k rl sl wk dl : Nat} {A : AS} (hD : D ≤ 4) (h : RR R D A) : RR (arM R (A 30 0) (nI d) (nI k) (nI rl) (nI sl) (nI wk) (nI dl)) D (adA A d k rl sl wk dl) := by
  obtain ⟨m0, m1, m2, m3, m4, m5, m6, m7⟩ := adA_n (A := A) (d := d) (k := k) (rl := rl) (sl := sl) (wk := wk) (dl := dl)
  unfold arM
  refine rr_add (R := R) h hD ?_ ?_ ?_ ?_
  · simp (disch := omega) only [rL_J, st_self]
  · intro i h1 h2
    simp (disch := omega) only [rL_J, st_slot]
  · intro j q h1 h2
    simp (disch := omega) only [rJ_J, rJ_l]
    repeat rw [if_neg (by omega)]
  · intro q hq
    have h8 : q = 0 ∨ q = 1 ∨ q = 2 ∨ q = 3 ∨ q = 4 ∨ q = 5 ∨ q = 6 ∨ q = 7 := by omega
    rcases h8 with rfl | rfl | rfl | rfl | rfl | rfl | rfl | rfl
    · rw [m0]; simp [rJ_J]
    · rw [m1]; simp [rJ_J]
    · rw [m2]; simp [rJ_J]
    · rw [m3]; simp [rJ_J]
    · rw [m4]; simp [rJ_J]
    · rw [m5]; simp [rJ_J]
    · rw [m6]; simp [rJ_J]
    · rw [m7]; simp [rJ_J]; rfl
theorem add_FT {R : Nat → Nat → Int32} {c : Nat} {d k rl sl wk dl : Int32} : FT R (arM R c d k rl sl wk dl) := FT_t (FT_t (FT_t (FT_t (FT_t (FT_t (FT_t (FT_t (FT_t FT_s FT_J) FT_J) FT_J) FT_J) FT_J) FT_J) FT_J) FT_J) FT_J
