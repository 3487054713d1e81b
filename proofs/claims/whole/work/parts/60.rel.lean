theorem dc_eq {a b : Nat} (ha : a < 2 ^ 31) (hb : b < 2 ^ 31) : decide (nI a = nI b) = decide (a = b) := decide_eq_decide.mpr (nI_eq ha hb)
theorem dc_0 {a : Nat} (ha : a < 2 ^ 31) : decide (nI a = 0) = decide (a = 0) := decide_eq_decide.mpr (nI_eq (b := 0) ha (by omega))
theorem dc_1 {a : Nat} (ha : a < 2 ^ 31) : decide (nI a = 1) = decide (a = 1) := decide_eq_decide.mpr (nI_eq (b := 1) ha (by omega))
theorem dc_le {a b : Nat} (ha : a < 2 ^ 31) (hb : b < 2 ^ 31) : decide (nI a ≤ nI b) = decide (a ≤ b) := decide_eq_decide.mpr (nI_leI ha hb)
def relA (A : AS) (d : Nat) (g : Bool) : AS := fun k i => if k = 7 ∧ i < A 30 0 ∧ g = true ∧ A 0 i = d ∧ A 7 i = 0 ∧ A 2 i ≤ A 30 1 then 1 else A k i
theorem relA_k {A : AS} {d : Nat} {g : Bool} {k i : Nat} (h : k ≠ 7) : relA A d g k i = A k i := if_neg (fun q => h q.1)
theorem relA_7 (A : AS) (d : Nat) (g : Bool) (i : Nat) : relA A d g 7 i = if i < A 30 0 ∧ g = true ∧ A 0 i = d ∧ A 7 i = 0 ∧ A 2 i ≤ A 30 1 then 1 else A 7 i := by
  unfold relA
  by_cases h : i < A 30 0 ∧ g = true ∧ A 0 i = d ∧ A 7 i = 0 ∧ A 2 i ≤ A 30 1
  · rw [if_pos h, if_pos ⟨rfl, h⟩]
  · rw [if_neg h, if_neg (fun q => h q.2)]
theorem relA_7t (A : AS) (d : Nat) (i : Nat) : relA A d true 7 i = if i < A 30 0 ∧ A 0 i = d ∧ A 7 i = 0 ∧ A 2 i ≤ A 30 1 then 1 else A 7 i := by
  rw [relA_7]
  by_cases h : i < A 30 0 ∧ A 0 i = d ∧ A 7 i = 0 ∧ A 2 i ≤ A 30 1
  · rw [if_pos h, if_pos ⟨h.1, rfl, h.2⟩]
  · rw [if_neg h, if_neg (fun q => h ⟨q.1, q.2.2⟩)]
theorem relA_id {A : AS} {d : Nat} {g : Bool} (h : ∀ i, i < A 30 0 → g = true → A 0 i = d → A 7 i = 0 → ¬ A 2 i ≤ A 30 1) : relA A d g = A := by
  funext k i
  unfold relA
  rw [if_neg]
  rintro ⟨_, h1, h2, h3, h4, h5⟩
  exact h i h1 h2 h3 h4 h5
def goN (A : AS) (d bz : Nat) : Bool := anyA (decide (0 < bz)) (fun j => decide (A 0 j = d) && decide (A 7 j = 0) && decide (A 2 j + A 3 j ≤ A 30 1)) (A 30 0)
theorem Inv_rel {D d T : Nat} {g : Bool} {su : Nat → Nat → Nat} {A : AS} (hi : Inv D su T A) : Inv D su T (relA A d g) := by
  obtain ⟨i1, i4, i5, i6, i7, i8⟩ := hi
  unfold Inv
  simp (disch := omega) only [relA_k]
  refine ⟨i1, ?_, i5, ?_, i7, ?_⟩
  · intro j hj
    have := i4 j hj
    rw [relA_7]
    split <;> omega
  · intro d' e j hd' he
    have := i6 d' e j hd' he
    refine ⟨this.1, this.2.1, this.2.2.1, ?_⟩
    rw [relA_7, if_neg (by omega)]
    exact this.2.2.2
  · intro k hk
    have := i8 k hk
    refine ⟨this.1, this.2.trans (cnt_congr (fun j hj => ?_))⟩
    rw [relA_7]
    split
    · rename_i q
      rw [q.2.2.2.1]
      rfl
    · rfl
theorem rel_R {R : Nat → Nat → Int32} {r : Int64 × UInt64} {D d T : Nat} {su : Nat → Nat → Nat} {A : AS} (hs : SUR R D su) (hB : SUB D su) (h : RR R D A) (hi : Inv D su T A) (hT : T < 2 ^ 29) (hd : d < D) : ∃ R', f_X10_release 336 (nI d) (mw R r) = some (mw R' r) ∧ RR R' D (relA A d (goN A d (bzA (coA A d) (su 0 d)))) ∧ F7 R R' := by
  have hDR := DR_of hs hB h hi hT hd
  have hg := g_rel (r := r) hDR rfl
  have hD := hB.2.1
  obtain ⟨⟨h1, h2, h3⟩, h4, h5, h6, h7, h8, h9⟩ := h
  obtain ⟨⟨i1, i2, i3⟩, i4, i5, i6, i7, i8⟩ := hi
  have e1 : goA R d (A 30 0) (bzA (coA A d) (su 0 d)) = goN A d (bzA (coA A d) (su 0 d)) := by
    unfold goA goN
    refine anyA_congr (fun j hj => ?_)
    have := i4 j hj
    rw [h4 j 0 hj (by omega), h4 j 7 hj (by omega), h4 j 2 hj (by omega), h4 j 3 hj (by omega), h2, nI_add, dc_eq (by omega) (by omega), dc_0 (by omega), dc_le (by omega) (by omega)]
  rw [e1] at hg
  cases hgo : goN A d (bzA (coA A d) (su 0 d)) with
  | false =>
    rw [hgo, if_neg (by decide)] at hg
    refine ⟨R, hg, ?_, F7_r⟩
    rw [relA_id (fun _ _ q => by cases q)]
    exact ⟨⟨h1, h2, h3⟩, h4, h5, h6, h7, h8, h9⟩
  | true =>
    rw [hgo, if_pos rfl] at hg
    refine ⟨_, hg, ?_, ?_⟩
    · have hp : ∀ j, j < A 30 0 → (rlA R d j = true ↔ (A 0 j = d ∧ A 7 j = 0 ∧ A 2 j ≤ A 30 1)) := by
        intro j hj
        have := i4 j hj
        unfold rlA
        rw [h4 j 0 hj (by omega), h4 j 7 hj (by omega), h4 j 2 hj (by omega), h2, dc_eq (by omega) (by omega), dc_0 (by omega), dc_le (by omega) (by omega)]
        simp [and_assoc]
      unfold RR
      simp (disch := omega) only [relA_k, relN_L]
      refine ⟨⟨h1, h2, h3⟩, ?_, ?_, ?_, ?_, ?_, ?_⟩
      · intro j k hj hk
        rw [relN_J (by omega)]
        by_cases hk7 : k = 7
        · subst hk7
          rw [relA_7]
          by_cases hq : A 0 j = d ∧ A 7 j = 0 ∧ A 2 j ≤ A 30 1
          · rw [if_pos ⟨rfl, hj, (hp j hj).mpr hq⟩, if_pos ⟨hj, rfl, hq⟩]
            rfl
          · rw [if_neg (fun q => hq ((hp j hj).mp q.2.2)), if_neg (fun q => hq q.2.2)]
            exact h4 j 7 hj (by omega)
        · rw [if_neg (fun q => hk7 q.1), relA_k hk7]
          exact h4 j k hj hk
      · intro j hj hj7
        rw [relN_J (by omega), if_neg (by omega)]
        rw [relA_7] at hj7
        split at hj7
        · omega
        · exact h5 j hj hj7
      · intro k hk
        rw [relN_L (by omega)]
        exact h6 k hk
      · intro k hk
        rw [relN_L (by omega)]
        exact h7 k hk
      · intro d' k hd' hk
        unfold rD
        rw [relN_L (by omega)]
        exact h8 d' k hd' hk
      · intro d' e hd' he
        unfold rD
        rw [relN_L (by omega)]
        exact h9 d' e hd' he
    · exact fun a h => relN_c h _
theorem hbit_zero {s : Int32} (h : ∀ i, i < 32 → hbit s i = false) : s = 0 := hbit_ext (fun i hi => by rw [h i hi, hbit_0])
theorem rel_C {C : Nat → Nat → Int32} {r : Int64 × UInt64} {b D d T : Nat} {su : Nat → Nat → Nat} {A : AS} (hb : b ∈ bL) (hB : SUB D su) (h : RC C b D A) (hi : Inv D su T A) (hT : T < 2 ^ 29) (hd : d < D) : ∃ C', f_X3_releaseJobs b (nI d) (boA (bzA (coA A d) (su 0 d))) (mw C r) = some (mw C' r) ∧ RC C' b D (relA A d (goN A d (bzA (coA A d) (su 0 d)))) ∧ FC b C C' := by
  have hD := hB.2.1
  obtain ⟨⟨h1, h2, h3⟩, h4, h5, h6, h7, h8, h9, h10, h11, h12, h13, h14⟩ := h
  obtain ⟨⟨i1, i2, i3⟩, i4, i5, i6, i7, i8⟩ := hi
  generalize hbz : bzA (coA A d) (su 0 d) = bz
  have hg := g_relC (N := C) (r := r) (aw := boA bz) hb (show d < 4 by omega) h1 i1
  have hw : ∀ i, i < 32 → (hbit (C (b + 2) d) i = true ↔ (i < A 30 0 ∧ A 0 i = d ∧ A 7 i = 0)) := by
    intro i hi
    rw [h8 d i hd hi]
    exact decide_eq_true_iff
  by_cases h0 : C (b + 2) d = 0
  · rw [if_pos h0] at hg
    refine ⟨C, hg, ?_, FC_r⟩
    rw [relA_id]
    · exact ⟨⟨h1, h2, h3⟩, h4, h5, h6, h7, h8, h9, h10, h11, h12, h13, h14⟩
    · intro i hi _ q1 q2
      have := (hw i (by omega)).mpr ⟨hi, q1, q2⟩
      rw [h0, hbit_0] at this
      cases this
  · rw [if_neg h0] at hg
    have hm : (mnA (hbit (C (b + 2) d)) (fun j => C (b + 6) j + C (b + 7) j) (A 30 0) ≤ C b 2) ↔ ∃ j, j < A 30 0 ∧ A 0 j = d ∧ A 7 j = 0 ∧ A 2 j + A 3 j ≤ A 30 1 := by
      rw [mnA_le]
      constructor
      · rintro (q | ⟨j, q1, q2, q3⟩)
        · rw [h2, Int32.le_iff_toInt_le, nI_toInt (by omega)] at q
          have : (2147483647 : Int32).toInt = 2147483647 := by decide
          omega
        · have q4 := (hw j (by omega)).mp q2
          have := i4 j q1
          refine ⟨j, q1, q4.2.1, q4.2.2, ?_⟩
          have e1 : C (b + 6) j = nI (A 2 j) := h4 j 2 q1 (by omega)
          have e2 : C (b + 7) j = nI (A 3 j) := h4 j 3 q1 (by omega)
          simp only [e1, e2, h2, nI_add] at q3
          exact (nI_leI (by omega) (by omega)).mp q3
      · rintro ⟨j, q1, q2, q3, q4⟩
        have := i4 j q1
        refine .inr ⟨j, q1, (hw j (by omega)).mpr ⟨q1, q2, q3⟩, ?_⟩
        have e1 : C (b + 6) j = nI (A 2 j) := h4 j 2 q1 (by omega)
        have e2 : C (b + 7) j = nI (A 3 j) := h4 j 3 q1 (by omega)
        simp only [e1, e2, h2, nI_add]
        exact (nI_leI (by omega) (by omega)).mpr q4
    have hgo : goN A d bz = true ↔ (0 < bz ∨ ∃ j, j < A 30 0 ∧ A 0 j = d ∧ A 7 j = 0 ∧ A 2 j + A 3 j ≤ A 30 1) := by
      unfold goN
      rw [anyA_iff]
      simp [and_assoc]
    by_cases hq : boA bz = 0 ∧ C b 2 < mnA (hbit (C (b + 2) d)) (fun j => C (b + 6) j + C (b + 7) j) (A 30 0)
    · rw [if_pos hq] at hg
      have hf : goN A d bz = false := by
        cases hh : goN A d bz with
        | false => rfl
        | true =>
          rcases hgo.mp hh with q | q
          · rw [boA_1 q] at hq
            exact absurd hq.1 (by decide)
          · exact absurd (hm.mpr q) (Int32.not_le.mpr hq.2)
      refine ⟨C, hg, ?_, FC_r⟩
      rw [hf, relA_id (fun _ _ q => by cases q)]
      exact ⟨⟨h1, h2, h3⟩, h4, h5, h6, h7, h8, h9, h10, h11, h12, h13, h14⟩
    · rw [if_neg hq] at hg
      have ht : goN A d bz = true := by
        rw [hgo]
        by_cases hz : 0 < bz
        · exact .inl hz
        · refine .inr (hm.mp (Int32.not_lt.mp (fun q => hq ⟨boA_0 hz, q⟩)))
      rw [ht]
      refine ⟨_, hg, ?_, ?_⟩
      · have hr : ∀ i, i < 32 → (hbit (rbA (fun j => hbit (C (b + 2) d) j && decide (C (b + 6) j ≤ C b 2)) (A 30 0)) i = true ↔ (i < A 30 0 ∧ A 0 i = d ∧ A 7 i = 0 ∧ A 2 i ≤ A 30 1)) := by
          intro i hi
          rw [rbA_bit hi _ (by omega)]
          by_cases hic : i < A 30 0
          · have := i4 i hic
            have e1 : C (b + 6) i = nI (A 2 i) := h4 i 2 hic (by omega)
            rw [e1, h2, dc_le (by omega) (by omega), h8 d i hd hi]
            simp [hic, and_assoc]
          · simp [hic]
        unfold rcN RC
        simp (disch := omega) only [relA_k, st_cell]
        refine ⟨⟨h1, h2, h3⟩, ?_, ?_, ?_, ?_, ?_, ?_, h10, h11, h12, h13, h14⟩
        · intro i k' hi hk'
          rw [relA_k (by omega)]
          exact h4 i k' hi hk'
        · intro i hi hi7
          rw [relA_7t] at hi7
          split at hi7
          · omega
          · exact h5 i hi hi7
        · intro i hi
          rw [h6 i hi, decide_eq_decide, relA_7t]
          split <;> omega
        · intro i hi
          rw [h7 i hi, decide_eq_decide, relA_7t]
          split <;> omega
        · intro d' i hd' hi
          by_cases hdd : d' = d
          · subst hdd
            rw [st_self, hbit_andnot hi]
            rw [Bool.eq_iff_iff, Bool.and_eq_true, hw i hi, decide_eq_true_iff, Bool.not_eq_true', ← Bool.not_eq_true, hr i hi, relA_7t]
            split <;> omega
          · rw [st_ki (by omega), h8 d' i hd' hi, decide_eq_decide, relA_7t]
            split <;> omega
        · intro d' i hd' hi
          by_cases hdd : d' = d
          · subst hdd
            rw [st_self, hbit_or]
            rw [Bool.eq_iff_iff, Bool.or_eq_true, hr i hi, h9 d' i hd' hi, decide_eq_true_iff, decide_eq_true_iff, relA_7t]
            split <;> omega
          · rw [st_ki (by omega), st_ki (by omega), h9 d' i hd' hi, decide_eq_decide, relA_7t]
            split <;> omega
      · unfold rcN
        exact FC_t (FC_s (by omega) (by omega)) (FC_s (by omega) (by omega))
