def alA (p : Nat → Bool) : Nat → Bool
  | 0 => true
  | n + 1 => alA p n && p n
theorem alA_succ (p : Nat → Bool) (n : Nat) : alA p (n + 1) = (alA p n && p n) := rfl
theorem alA_iff {p : Nat → Bool} : ∀ {n : Nat}, alA p n = true ↔ ∀ j, j < n → p j = true
  | 0 => ⟨fun _ j hj => by omega, fun _ => rfl⟩
  | n + 1 => by
    rw [alA_succ, Bool.and_eq_true, alA_iff (n := n)]
    constructor
    · rintro ⟨h1, h2⟩ j hj
      by_cases hq : j = n
      · subst hq
        exact h2
      · exact h1 j (by omega)
    · intro h
      exact ⟨fun j hj => h j (by omega), h n (by omega)⟩
def ovA (A : AS) (j : Nat) : Bool := decide (3 ≤ A 7 j)
def aoA (A : AS) : Bool := alA (ovA A) (A 30 0)
theorem over_C {C : Nat → Nat → Int32} {r : Int64 × UInt64} {b D j T : Nat} {su : Nat → Nat → Nat} {A : AS} (hb : b ∈ bL) (h : RC C b D A) (hi : Inv D su T A) (hj : j < A 30 0) : f_X1_isOver (b + 1) (nI j) (mw C r) = some (bI (ovA A j), mw C r) := by
  have hc := hi.1.1
  have h7 := hi.2.1 j hj
  simp (disch := omega) only [f_X1_isOver, SB hb, mw_1, g_holds, e_b]
  rw [hbit_or, h.2.2.2.1 j (by omega), h.2.2.2.2.1 j (by omega), ← Bool.decide_or]
  unfold ovA
  by_cases hq : 3 ≤ A 7 j
  · rw [decide_eq_true hq, if_pos (decide_eq_true (by omega))]
    rfl
  · rw [decide_eq_false hq, if_neg (fun q => by have := of_decide_eq_true q; omega)]
    rfl
theorem over_R {R : Nat → Nat → Int32} {r : Int64 × UInt64} {D j T : Nat} {su : Nat → Nat → Nat} {A : AS} (h : RR R D A) (hi : Inv D su T A) (hj : j < A 30 0) : f_X10_isOver 336 (nI j) (mw R r) = some (bI (ovA A j), mw R r) := by
  have hc := hi.1.1
  have h7 := hi.2.1 j hj
  have k7 : rJ R j 7 = nI (A 7 j) := h.2.1 j 7 hj (by omega)
  simp (disch := omega) only [f_X10_isOver, PR, RJ, e_b, k7]
  unfold ovA
  by_cases hq : 3 ≤ A 7 j
  · rw [decide_eq_true hq, if_neg (show ¬ nI (A 7 j) < 3 from nI_nlt (b := 3) hq (by omega))]
    rfl
  · rw [decide_eq_false hq, if_pos (show nI (A 7 j) < 3 from nI_lt (b := 3) (by omega) (by omega))]
    rfl
theorem aover_C {C : Nat → Nat → Int32} {r : Int64 × UInt64} {b D T : Nat} {su : Nat → Nat → Nat} {A : AS} (hb : b ∈ bL) (h : RC C b D A) (hi : Inv D su T A) : f_X1_areOver (b + 1) (mw C r) = some (bI (aoA A), mw C r) := by
  have hc := hi.1.1
  simp only [f_X1_areOver, SB hb, mw_1, h.1.1]
  have hbits : ∀ i, i < 32 → hbit (C (b + 1) 1 ||| C (b + 1) 2) i = decide (i < A 30 0 ∧ 3 ≤ A 7 i) := by
    intro i hi2
    rw [hbit_or, h.2.2.2.1 i hi2, h.2.2.2.2.1 i hi2, ← Bool.decide_or, decide_eq_decide]
    constructor
    · intro q
      omega
    · intro q
      have := hi.2.1 i q.1
      omega
  have hiff : (C (b + 1) 1 ||| C (b + 1) 2 = (1 : Int32) <<< (nI (A 30 0) &&& 31) - 1) ↔ aoA A = true := by
    unfold aoA
    rw [alA_iff]
    constructor
    · intro q j hj
      have h1 := hbits j (by omega)
      rw [q, hbit_all _ (by omega) j (by omega), decide_eq_true hj] at h1
      have := of_decide_eq_true h1.symm
      exact decide_eq_true this.2
    · intro q
      refine hbit_ext (fun i hi2 => ?_)
      rw [hbits i hi2, hbit_all _ (by omega) i hi2, decide_eq_decide]
      constructor
      · exact fun q2 => q2.1
      · intro q2
        have := of_decide_eq_true (q i q2)
        exact ⟨q2, this⟩
  cases hq : aoA A with
  | true => rw [if_pos (hiff.mpr hq)]; rfl
  | false => rw [if_neg (fun q => by rw [hiff, hq] at q; cases q)]; rfl
theorem l_ao {R : Nat → Nat → Int32} {r : Int64 × UInt64} {D T : Nat} {su : Nat → Nat → Nat} {A : AS} (h : RR R D A) (hi : Inv D su T A) : ∀ m k F, k + m = A 30 0 → m < F → lp_X10_areOver_4 336 F (bI (alA (ovA A) k), nI k, mw R r) = some (bI (aoA A), mw R r) := by
  have hc := hi.1.1
  have k2 := h.1.1
  intro m
  induction m with
  | zero =>
    intro k F hk hF
    obtain ⟨F, rfl⟩ := F_succ hF
    have hk : k = A 30 0 := by omega
    subst hk
    simp (disch := omega) only [lp_X10_areOver_4, PR, RLd, k2]
    rw [if_pos (Int32.le_refl _)]
    rfl
  | succ m ih =>
    intro k F hk hF
    obtain ⟨F, rfl⟩ := F_succ hF
    have h2 := ih (k + 1) F (by omega) (by omega)
    simp (disch := omega) only [lp_X10_areOver_4, PR, RLd, k2, over_R h hi (show k < A 30 0 by omega), e_let, nI_1', e_b]
    rw [if_neg (nI_ge (by omega) (by omega)), ← h2, alA_succ]
    cases alA (ovA A) k <;> cases ovA A k <;> simp [bI, e_bd]
theorem aover_R {R : Nat → Nat → Int32} {r : Int64 × UInt64} {D T : Nat} {su : Nat → Nat → Nat} {A : AS} (h : RR R D A) (hi : Inv D su T A) : f_X10_areOver 336 (mw R r) = some (bI (aoA A), mw R r) := by
  have hc := hi.1.1
  have h2 := l_ao (r := r) h hi (A 30 0) 0 3000 (by omega) (by omega)
  simp only [f_X10_areOver, PR]
  rw [show lp_X10_areOver_4 336 3000 (1, 0, mw R r) = _ from h2, e_bd]
  exact bI_isb _ _
def edA (A : AS) (j : Nat) : Int32 := if A 7 j = 3 then nI (A 8 j) else -2
theorem end_C {C : Nat → Nat → Int32} {r : Int64 × UInt64} {b D j : Nat} {A : AS} (hb : b ∈ bL) (h : RC C b D A) (hc : A 30 0 ≤ 24) (hj : j < A 30 0) : f_X1_endOf (b + 1) (nI j) (mw C r) = some (edA A j, mw C r) := by
  simp (disch := omega) only [f_X1_endOf, SB hb, SL hb, mw_1, g_holds, e_b, h.2.2.2.1 j (by omega)]
  unfold edA
  by_cases hq : A 7 j = 3
  · rw [decide_eq_true (show j < A 30 0 ∧ A 7 j = 3 from ⟨hj, hq⟩), if_pos rfl, if_neg (by decide), e_bd, h.2.2.1 j hj hq, if_pos hq]
  · rw [decide_eq_false (fun q => hq q.2), if_neg (show ¬ false = true by decide), if_pos rfl, e_bd, if_neg hq]
def edT (q : Option (Int32 × MW)) : Option (Int32 × MW) := q
theorem end_R {R : Nat → Nat → Int32} {r : Int64 × UInt64} {D j T : Nat} {su : Nat → Nat → Nat} {A : AS} (h : RR R D A) (hi : Inv D su T A) (hj : j < A 30 0) : (if nI (A 7 j) = 3 then some (rJ R j 8, mw R r) else some (-2, mw R r)) = some (edA A j, mw R r) := by
  have h7 := hi.2.1 j hj
  unfold edA
  by_cases hq : A 7 j = 3
  · rw [hq, if_pos rfl, h.2.2.1 j hj hq, if_pos (show nI 3 = 3 from rfl)]
  · rw [if_neg (show ¬ nI (A 7 j) = 3 from fun q => hq ((nI_eq (b := 3) (by omega) (by omega)).mp q)), if_neg hq]
theorem stat_C {C : Nat → Nat → Int32} {r : Int64 × UInt64} {b D j T : Nat} {su : Nat → Nat → Nat} {A : AS} (hb : b ∈ bL) (hD : D ≤ 4) (h : RC C b D A) (hi : Inv D su T A) (hj : j < A 30 0) : f_X1_statusOf (b + 1) (nI j) (mw C r) = some (nI (A 7 j), mw C r) := by
  have hc := hi.1.1
  have h7 := hi.2.1 j hj
  have k0 : C (b + 4) j = nI (A 0 j) := h.2.1 j 0 hj (by omega)
  simp (disch := omega) only [f_X1_statusOf, SB hb, SL hb, mw_1, k0, g_holds, e_b, h.2.2.2.1 j (by omega), h.2.2.2.2.1 j (by omega), h.2.2.2.2.2.1 (A 0 j) j h7.1 (by omega), h.2.2.2.2.2.2.1 (A 0 j) j h7.1 (by omega)]
  have h5 : A 7 j = 0 ∨ A 7 j = 1 ∨ A 7 j = 2 ∨ A 7 j = 3 ∨ A 7 j = 4 := by omega
  rcases h5 with q | q | q | q | q <;> simp [q, hj, e_bd] <;> rfl
def lteA (A : AS) (j : Nat) : Bool := decide (A 7 j = 3) && decide (¬ nI (A 8 j) ≤ nI (A 5 j))
theorem l_late {N : Nat → Nat → Int32} {r : Int64 × UInt64} {b c : Nat} {s : Int32} (hb : b ∈ bL) (hc : N (b + 1) 0 = nI c) (h4 : c ≤ 24) : ∀ m k F, k + m = c → m < F → lp_X1_lateOf_4 (b + 1) s F (rbA (fun j => hbit s j && decide (¬ N (b + 11) j ≤ N (b + 9) j)) k, nI k, mw N r) = some (rbA (fun j => hbit s j && decide (¬ N (b + 11) j ≤ N (b + 9) j)) c, mw N r) := by
  intro m
  induction m with
  | zero =>
    intro k F hk hF
    obtain ⟨F, rfl⟩ := F_succ hF
    have hk : k = c := by omega
    subst hk
    simp (disch := omega) only [lp_X1_lateOf_4, mw_1, hc]
    rw [if_pos (Int32.le_refl _)]
  | succ m ih =>
    intro k F hk hF
    obtain ⟨F, rfl⟩ := F_succ hF
    have h2 := ih (k + 1) F (by omega) (by omega)
    simp (disch := omega) only [lp_X1_lateOf_4, mw_1, hc, SB hb, SL hb, e_let, nI_1', g_holds, g_with, e_b]
    rw [if_neg (nI_ge (by omega) (by omega)), ← h2, rbA_succ]
    cases hs : hbit s k with
    | false => simp
    | true => 
      by_cases hd : N (b + 11) k ≤ N (b + 9) k
      · simp [hd, Int32.not_lt.mpr hd]
      · simp [hd, Int32.not_le.mp hd]
theorem rbA_congr {p q : Nat → Bool} : ∀ {n : Nat}, (∀ j, j < n → p j = q j) → rbA p n = rbA q n
  | 0, _ => rfl
  | n + 1, h => by rw [rbA_succ, rbA_succ, h n (by omega), rbA_congr (n := n) (fun j hj => h j (by omega))]
theorem late_C {C : Nat → Nat → Int32} {r : Int64 × UInt64} {b D : Nat} {A : AS} (hb : b ∈ bL) (h : RC C b D A) (hc : A 30 0 ≤ 24) : f_X1_lateOf (b + 1) (C (b + 1) 1) (mw C r) = some (rbA (lteA A) (A 30 0), mw C r) := by
  have h2 := l_late (r := r) (s := C (b + 1) 1) hb h.1.1 hc (A 30 0) 0 3000 (by omega) (by omega)
  rw [rbA_congr (n := A 30 0) (q := lteA A) (fun j hj => by
    unfold lteA
    rw [h.2.2.2.1 j (by omega)]
    have k5 : C (b + 9) j = nI (A 5 j) := h.2.1 j 5 hj (by omega)
    by_cases hq : A 7 j = 3
    · rw [h.2.2.1 j hj hq, k5]
      simp [hj, hq]
    · simp [hq])] at h2
  simp only [f_X1_lateOf, SB hb]
  rw [show lp_X1_lateOf_4 (b + 1) (C (b + 1) 1) 3000 (0, 0, mw C r) = _ from h2]
  rfl
def looA (A : AS) (j : Nat) : Bool := lteA A j || !ovA A j
theorem loo_C {C : Nat → Nat → Int32} {r : Int64 × UInt64} {b D T : Nat} {su : Nat → Nat → Nat} {A : AS} (hb : b ∈ bL) (h : RC C b D A) (hi : Inv D su T A) : f_X1_lateOrOpen (b + 1) (mw C r) = some (rbA (looA A) (A 30 0), mw C r) := by
  have hc := hi.1.1
  simp only [f_X1_lateOrOpen, SB hb, mw_1, h.1.1, e_let, late_C hb h hc, e_b]
  congr 2
  refine hbit_ext (fun i hi2 => ?_)
  rw [hbit_or, hbit_andnot hi2, hbit_all _ (by omega) i hi2, hbit_or, h.2.2.2.1 i hi2, h.2.2.2.2.1 i hi2, rbA_bit hi2 _ (by omega), rbA_bit hi2 _ (by omega)]
  unfold looA ovA
  by_cases hq : i < A 30 0
  · have h7 := hi.2.1 i hq
    by_cases h3 : 3 ≤ A 7 i
    · have h34 : A 7 i = 3 ∨ A 7 i = 4 := by omega
      rcases h34 with q | q <;> simp [hq, q]
    · simp [hq, h3, show ¬ A 7 i = 3 by omega, show ¬ A 7 i = 4 by omega]
  · simp [hq]
theorem isl_R {R : Nat → Nat → Int32} {r : Int64 × UInt64} {D j T : Nat} {su : Nat → Nat → Nat} {A : AS} (h : RR R D A) (hi : Inv D su T A) (hj : j < A 30 0) : f_X10_isLate 336 (nI j) (mw R r) = some (bI (lteA A j), mw R r) := by
  have hc := hi.1.1
  have h7 := hi.2.1 j hj
  have k7 : rJ R j 7 = nI (A 7 j) := h.2.1 j 7 hj (by omega)
  have k5 : rJ R j 5 = nI (A 5 j) := h.2.1 j 5 hj (by omega)
  simp (disch := omega) only [f_X10_isLate, PR, RJ, e_b, k7, k5]
  unfold lteA
  by_cases hq : A 7 j = 3
  · rw [hq, if_pos (by rfl), h.2.2.1 j hj hq]
    by_cases hd : nI (A 8 j) ≤ nI (A 5 j)
    · rw [if_pos hd]
      simp [hd, e_bd, bI]
      rfl
    · rw [if_neg hd]
      simp only [hd, not_false_eq_true, decide_true, Bool.and_self, e_bd, bI, reduceIte]
      rfl
  · rw [if_neg (show ¬ nI (A 7 j) = 3 from fun q => hq ((nI_eq (b := 3) (by omega) (by omega)).mp q))]
    simp [hq, e_bd, bI]
    rfl
theorem or0 (x : Int32) : x ||| 0 = x := Int32.or_zero
theorem l_lateR {R : Nat → Nat → Int32} {r : Int64 × UInt64} {D T : Nat} {su : Nat → Nat → Nat} {A : AS} (h : RR R D A) (hi : Inv D su T A) : ∀ m k F, k + m = A 30 0 → m < F → lp_X10_lateJobs_14 336 F (rbA (lteA A) k, nI k, mw R r) = some (rbA (lteA A) (A 30 0), mw R r) := by
  have hc := hi.1.1
  have k2 := h.1.1
  intro m
  induction m with
  | zero =>
    intro k F hk hF
    obtain ⟨F, rfl⟩ := F_succ hF
    have hk : k = A 30 0 := by omega
    subst hk
    simp (disch := omega) only [lp_X10_lateJobs_14, PR, RLd, k2]
    rw [if_pos (Int32.le_refl _)]
  | succ m ih =>
    intro k F hk hF
    obtain ⟨F, rfl⟩ := F_succ hF
    have h2 := ih (k + 1) F (by omega) (by omega)
    simp (disch := omega) only [lp_X10_lateJobs_14, PR, RLd, k2, isl_R h hi (show k < A 30 0 by omega), e_let, nI_1', e_b]
    rw [if_neg (nI_ge (by omega) (by omega)), ← h2, rbA_succ]
    cases lteA A k
    · simp only [bI_f, reduceIte, e_bd, or0, Bool.false_eq_true]
    · simp only [bI_t, i10, reduceIte, e_bd]
theorem l_looR {R : Nat → Nat → Int32} {r : Int64 × UInt64} {D T : Nat} {su : Nat → Nat → Nat} {A : AS} (h : RR R D A) (hi : Inv D su T A) : ∀ m k F, k + m = A 30 0 → m < F → lp_X10_lateOrOpen_4 336 F (rbA (looA A) k, nI k, mw R r) = some (rbA (looA A) (A 30 0), mw R r) := by
  have hc := hi.1.1
  have k2 := h.1.1
  intro m
  induction m with
  | zero =>
    intro k F hk hF
    obtain ⟨F, rfl⟩ := F_succ hF
    have hk : k = A 30 0 := by omega
    subst hk
    simp (disch := omega) only [lp_X10_lateOrOpen_4, PR, RLd, k2]
    rw [if_pos (Int32.le_refl _)]
  | succ m ih =>
    intro k F hk hF
    obtain ⟨F, rfl⟩ := F_succ hF
    have h2 := ih (k + 1) F (by omega) (by omega)
    simp (disch := omega) only [lp_X10_lateOrOpen_4, PR, RLd, k2, isl_R h hi (show k < A 30 0 by omega), over_R h hi (show k < A 30 0 by omega), e_let, nI_1', e_b]
    rw [if_neg (nI_ge (by omega) (by omega)), ← h2, rbA_succ]
    unfold looA
    cases lteA A k <;> cases ovA A k
    · simp only [bI_f, reduceIte, e_bd, Bool.false_or, Bool.not_false]
    · simp only [bI_f, bI_t, i10, reduceIte, e_bd, or0, Bool.false_or, Bool.not_true, Bool.false_eq_true]
    · simp only [bI_t, i10, reduceIte, e_bd, Bool.true_or]
    · simp only [bI_t, i10, reduceIte, e_bd, Bool.true_or]
theorem loo_R {R : Nat → Nat → Int32} {r : Int64 × UInt64} {D T : Nat} {su : Nat → Nat → Nat} {A : AS} (h : RR R D A) (hi : Inv D su T A) : f_X10_lateOrOpen 336 (mw R r) = some (rbA (looA A) (A 30 0), mw R r) := by
  have hc := hi.1.1
  have h2 := l_looR (r := r) h hi (A 30 0) 0 3000 (by omega) (by omega)
  simp only [f_X10_lateOrOpen, PR]
  rw [show lp_X10_lateOrOpen_4 336 3000 (0, 0, mw R r) = _ from h2, e_bd]
