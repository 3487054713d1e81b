def pkA (su : Nat → Nat → Nat) (D d : Nat) : Nat → Nat → AS → Nat
  | 0, v, _ => v
  | m + 1, v, A => pkA su D d m (mxN v (tickA su D A 12 d)) (tickA su D A)
theorem pkA_succ (su : Nat → Nat → Nat) (D d m v : Nat) (A : AS) : pkA su D d (m + 1) v A = pkA su D d m (mxN v (tickA su D A 12 d)) (tickA su D A) := rfl
theorem pk_C {r : Int64 × UInt64} {D d n : Nat} {su : Nat → Nat → Nat} (hB : SUB D su) (hd : d < D) (hn : n ≤ 500) : ∀ m k F C A T v, k + m = n → m < F → T + m < 2 ^ 29 → SUC C D su → RC C 54 D A → Inv D su T A → v ≤ 40000000 → ∃ C', lp_X9_peak_37 0 (nI d) (nI n) F (nI v, nI k, mw C r) = some (nI (pkA su D d m v A), mw C' r) ∧ FC 54 C C' := by
  have hD := hB.2.1
  intro m
  induction m with
  | zero =>
    intro k F C A T v hk hF hT hs h hi hv
    obtain ⟨F, rfl⟩ := F_succ hF
    have hk : k = n := by omega
    subst hk
    refine ⟨C, ?_, FC_r⟩
    simp only [lp_X9_peak_37]
    rw [if_pos (Int32.le_refl _)]
    rfl
  | succ m ih =>
    intro k F C A T v hk hF hT hs h hi hv
    obtain ⟨F, rfl⟩ := F_succ hF
    obtain ⟨C1, n1, q1, q2, q3, q4⟩ := tick_C (r := r) bL54 hs hB h hi (by omega)
    have hi1 := Inv_tick hB hi
    have h12 := (hi1.2.2.1 d hd).2.2.1
    have k1 : C1 (54 + 16) d = nI (tickA su D A 12 d) := q2.2.2.2.2.2.2.2.2.2.2.1 d 1 hd (by omega)
    obtain ⟨C2, p1, p3⟩ := ih (k + 1) F C1 _ (T + 1) (mxN v (tickA su D A 12 d)) (by omega) (by omega) (by omega) (SUC_FC (by omega) hs q3) q2 hi1 (by unfold mxN; split <;> omega)
    simp (disch := omega) only [lp_X9_peak_37, P0, SB bL54, SL bL54, q1, e_b, e_let, nI_1', k1, mxN_nI]
    rw [if_neg (nI_ge (by omega) (by omega))]
    exact ⟨C2, p1, FC_t q3 p3⟩
theorem pk_R {r : Int64 × UInt64} {D d n : Nat} {su : Nat → Nat → Nat} (hB : SUB D su) (hd : d < D) (hn : n ≤ 500) : ∀ m k F R A T v, k + m = n → m < F → T + m < 2 ^ 29 → SUR R D su → RR R D A → Inv D su T A → v ≤ 40000000 → ∃ R', lp_X10_peak_48 336 (nI d) (nI n) F (nI v, nI k, mw R r) = some (nI (pkA su D d m v A), mw R' r) ∧ FT R R' := by
  have hD := hB.2.1
  intro m
  induction m with
  | zero =>
    intro k F C A T v hk hF hT hs h hi hv
    obtain ⟨F, rfl⟩ := F_succ hF
    have hk : k = n := by omega
    subst hk
    refine ⟨C, ?_, FT_r⟩
    simp only [lp_X10_peak_48]
    rw [if_pos (Int32.le_refl _)]
    rfl
  | succ m ih =>
    intro k F R A T v hk hF hT hs h hi hv
    obtain ⟨F, rfl⟩ := F_succ hF
    obtain ⟨R1, n1, q1, q2, q3, q4, q5, q6, q7⟩ := tick_R (r := r) hs hB h hi (by omega)
    have hi1 := Inv_tick hB hi
    have h12 := (hi1.2.2.1 d hd).2.2.1
    have k1 : rD R1 d 2 = nI (tickA su D A 12 d) := q2.2.2.2.2.2.1 d 2 hd (by omega)
    obtain ⟨C2, p1, p3⟩ := ih (k + 1) F R1 _ (T + 1) (mxN v (tickA su D A 12 d)) (by omega) (by omega) (by omega) (SUR_FT hs q3) q2 hi1 (by unfold mxN; split <;> omega)
    simp (disch := omega) only [lp_X10_peak_48, q1, e_bv, e_b, RO, k1, e_let, nI_1', mxN_nI]
    rw [if_neg (nI_ge (by omega) (by omega))]
    exact ⟨C2, p1, FT_t q3 p3⟩
theorem l_es {N : Nat → Nat → Int32} {r : Int64 × UInt64} {b D : Nat} {A : AS} (hb : b ∈ bL) (hD : D ≤ 4) (hs : N 17 1 = nI D) (h : RC N b D A) (hE : smA (A 14) D < 2 ^ 31) : ∀ m k F, k + m = D → m < F → lp_X3_energySum_4 b (mw N r) F (lN (smA (A 14) k), nI k) = some (lN (smA (A 14) D)) := by
  have hE2 : ∀ k, k ≤ D → ∀ j, j < k → A 14 j ≤ smA (A 14) k := by
    intro k
    induction k with
    | zero => intro _ j hj; omega
    | succ k ih =>
      intro hk j hj
      unfold smA
      by_cases hq : j = k
      · subst hq
        omega
      · have := ih (by omega) j (by omega)
        omega
  intro m
  induction m with
  | zero =>
    intro k F hk hF
    obtain ⟨F, rfl⟩ := F_succ hF
    have hk : k = D := by omega
    subst hk
    simp (disch := omega) only [lp_X3_energySum_4, SB hb, mw_1, hs]
    rw [if_pos (Int32.le_refl _)]
  | succ m ih =>
    intro k F hk hF
    obtain ⟨F, rfl⟩ := F_succ hF
    have h2 := ih (k + 1) F (by omega) (by omega)
    have k1 : N (b + 18) k = nI (A 14 k) := h.2.2.2.2.2.2.2.2.2.2.1 k 3 (by omega) (by omega)
    have h3 := hE2 D (by omega) k (by omega)
    simp (disch := omega) only [lp_X3_energySum_4, SB hb, SL hb, mw_1, hs, k1, e_let, nI_1', nI_l, lN_add]
    rw [if_neg (nI_ge (by omega) (by omega))]
    exact h2
theorem es_C {N : Nat → Nat → Int32} {r : Int64 × UInt64} {b D : Nat} {A : AS} (hb : b ∈ bL) (hD : D ≤ 4) (hs : N 17 1 = nI D) (h : RC N b D A) (hE : smA (A 14) D < 2 ^ 31) : f_X3_energySum b (mw N r) = some (lN (smA (A 14) D), mw N r) := by
  have h2 := l_es (r := r) hb hD hs h hE D 0 3000 (by omega) (by omega)
  simp only [f_X3_energySum, SB hb]
  rw [show lp_X3_energySum_4 b (mw N r) 3000 (0, 0) = _ from h2, e_bd]
theorem l_ae {N : Nat → Nat → Int32} {r : Int64 × UInt64} {D : Nat} {A : AS} (hD : D ≤ 4) (hs : N 336 5 = nI D) (h : RR N D A) : ∀ m k F, k + m = D → m < F → lp_X10_allEnergy_4 336 F (nI (smA (A 14) k), nI k, mw N r) = some (nI (smA (A 14) D), mw N r) := by
  intro m
  induction m with
  | zero =>
    intro k F hk hF
    obtain ⟨F, rfl⟩ := F_succ hF
    have hk : k = D := by omega
    subst hk
    simp (disch := omega) only [lp_X10_allEnergy_4, mw_1, hs]
    rw [if_pos (Int32.le_refl _)]
  | succ m ih =>
    intro k F hk hF
    obtain ⟨F, rfl⟩ := F_succ hF
    have h2 := ih (k + 1) F (by omega) (by omega)
    have k1 : rD N k 4 = nI (A 14 k) := h.2.2.2.2.2.1 k 4 (by omega) (by omega)
    simp (disch := omega) only [lp_X10_allEnergy_4, mw_1, hs, RO, k1, e_b, e_let, nI_1', nI_add]
    rw [if_neg (nI_ge (by omega) (by omega))]
    exact h2
theorem ae_R {N : Nat → Nat → Int32} {r : Int64 × UInt64} {D : Nat} {A : AS} (hD : D ≤ 4) (hs : N 336 5 = nI D) (h : RR N D A) : f_X10_allEnergy 336 (mw N r) = some (nI (smA (A 14) D), mw N r) := by
  have h2 := l_ae (r := r) hD hs h D 0 3000 (by omega) (by omega)
  simp only [f_X10_allEnergy, PR]
  rw [show lp_X10_allEnergy_4 336 3000 (0, 0, mw N r) = _ from h2, e_bd]
theorem E31 {D T : Nat} {su : Nat → Nat → Nat} {A : AS} (hT : T ≤ 300000) (h : InvX D su T A) : smA (A 14) D < 2 ^ 31 := by
  have h1 := h.2.1
  have h2 := h.1.1
  unfold IE at h1
  omega
/-- the next throttling -/
def ntA (su : Nat → Nat → Nat) (D d b0 : Nat) : Nat → Nat → AS → Option Nat
  | 0, _, _ => none
  | m + 1, k, A => if tickA su D A 16 d + tickA su D A 17 d = b0 then ntA su D d b0 m (k + 1) (tickA su D A) else some k
theorem ntA_succ (su : Nat → Nat → Nat) (D d b0 m k : Nat) (A : AS) : ntA su D d b0 (m + 1) k A = if tickA su D A 16 d + tickA su D A 17 d = b0 then ntA su D d b0 m (k + 1) (tickA su D A) else some k := rfl
theorem nt_C {r : Int64 × UInt64} {D d b0 : Nat} {su : Nat → Nat → Nat} (hB : SUB D su) (hd : d < D) (hb0 : b0 < 2 ^ 30) : ∀ m k F C A T, k + m = 1001 → m < F → T + m < 2 ^ 29 → SUC C D su → RC C 54 D A → InvX D su T A → ∃ C', lp_X9_nextThrottle_38 0 (nI d) (nI b0) F (nI k, mw C r) = some (.inr (enc (-2) (ntA su D d b0 m k A)), mw C' r) ∧ FC 54 C C' := by
  have hD := hB.2.1
  intro m
  induction m with
  | zero =>
    intro k F C A T hk hF hT hs h hi
    obtain ⟨F, rfl⟩ := F_succ hF
    have hk : k = 1001 := by omega
    subst hk
    refine ⟨C, ?_, FC_r⟩
    simp only [lp_X9_nextThrottle_38]
    rw [if_pos (by decide)]
    rfl
  | succ m ih =>
    intro k F C A T hk hF hT hs h hi
    obtain ⟨F, rfl⟩ := F_succ hF
    obtain ⟨C1, n1, q1, q2, q3, q4⟩ := tick_C (r := r) bL54 hs hB h hi.1 (by omega)
    have hi1 := InvX_tick hB hi
    have h16 := hi1.2.2 d hd
    have k1 : C1 (54 + 20) d = nI (tickA su D A 16 d) := q2.2.2.2.2.2.2.2.2.2.2.1 d 5 hd (by omega)
    have k2 : C1 (54 + 21) d = nI (tickA su D A 17 d) := q2.2.2.2.2.2.2.2.2.2.2.1 d 6 hd (by omega)
    rw [lp_X9_nextThrottle_38, if_neg (show ¬ (1000 : Int32) < nI k from nI_nlt (a := 1000) (b := k) (by omega) (by omega)), ntA_succ]
    simp (disch := omega) only [P0, SB bL54, SL bL54, q1, e_b, k1, k2, nI_add, e_let, nI_1']
    by_cases hq : tickA su D A 16 d + tickA su D A 17 d = b0
    · rw [if_pos hq, hq, if_pos rfl]
      obtain ⟨C2, p1, p3⟩ := ih (k + 1) F C1 _ (T + 1) (by omega) (by omega) (by omega) (SUC_FC (by omega) hs q3) q2 hi1
      exact ⟨C2, p1, FC_t q3 p3⟩
    · rw [if_neg hq, if_neg (fun q => hq ((nI_eq (by omega) (by omega)).mp q))]
      exact ⟨C1, rfl, q3⟩
theorem nt_R {r : Int64 × UInt64} {D d b0 : Nat} {su : Nat → Nat → Nat} (hB : SUB D su) (hd : d < D) (hb0 : b0 < 2 ^ 30) : ∀ m k F R A T, k + m = 1001 → m + 1 < F → T + m < 2 ^ 29 → SUR R D su → RR R D A → InvX D su T A → A 16 d + A 17 d = b0 → ∃ R', lp_X10_nextThrottle_40 336 (nI d) (nI b0) F (-2, nI k, mw R r) = some (enc (-2) (ntA su D d b0 m k A), mw R' r) ∧ FT R R' := by
  have hD := hB.2.1
  intro m
  induction m with
  | zero =>
    intro k F C A T hk hF hT hs h hi h0
    obtain ⟨F, rfl⟩ := F_succ hF
    have hk : k = 1001 := by omega
    subst hk
    refine ⟨C, ?_, FT_r⟩
    simp only [lp_X10_nextThrottle_40]
    rw [if_pos (by decide)]
    rfl
  | succ m ih =>
    intro k F R A T hk hF hT hs h hi h0
    obtain ⟨F, rfl⟩ := F_succ hF
    obtain ⟨R1, n1, q1, q2, q3, q4, q5, q6, q7⟩ := tick_R (r := r) hs hB h hi.1 (by omega)
    have hi1 := InvX_tick hB hi
    have h16 := hi1.2.2 d hd
    have t6 := tick_th (su := su) (D := D) (A := A) (d := d) (q := 16) (by omega)
    have t7 := tick_th (su := su) (D := D) (A := A) (d := d) (q := 17) (by omega)
    have k1 : rD R1 d 6 = nI (tickA su D A 16 d) := q2.2.2.2.2.2.1 d 6 hd (by omega)
    have k2 : rD R1 d 7 = nI (tickA su D A 17 d) := q2.2.2.2.2.2.1 d 7 hd (by omega)
    rw [lp_X10_nextThrottle_40, if_neg (show ¬ (1000 : Int32) < nI k from nI_nlt (a := 1000) (b := k) (by omega) (by omega)), ntA_succ]
    simp (disch := omega) only [reduceIte, q1, e_bv, e_b, RO, k1, k2, nI_add, e_let, nI_1']
    by_cases hq : tickA su D A 16 d + tickA su D A 17 d = b0
    · rw [if_pos hq, hq, if_pos (Int32.le_refl _), e_bd]
      obtain ⟨C2, p1, p3⟩ := ih (k + 1) F R1 _ (T + 1) (by omega) (by omega) (by omega) (SUR_FT hs q3) q2 hi1 hq
      exact ⟨C2, p1, FT_t q3 p3⟩
    · rw [if_neg hq, if_neg (nI_ge (by omega) (by omega)), e_bd]
      refine ⟨R1, ?_, q3⟩
      obtain ⟨F, rfl⟩ := F_succ (F := F) (m := 0) (by omega)
      rw [lp_X10_nextThrottle_40]
      simp only [eq_false (nI_nm2 (j := k) (by omega)), reduceIte, ite_self]
      rfl
theorem ds_19 {su : Nat → Nat → Nat} {A : AS} {d : Nat} : dsA su A d 19 d ≤ su 0 d := by
  unfold dsA
  rw [run_k (by omega), sta_19]
  exact bzA_le _ _
theorem dt_19 {su : Nat → Nat → Nat} {d : Nat} : ∀ m k A, k ≤ d → d < k + m → dtA su m k A 19 d ≤ su 0 d
  | 0, _, _, _, _ => by omega
  | m + 1, k, A, h1, h2 => by
    rw [dtA_succ]
    by_cases hd : d = k
    · subst hd
      rw [dt_k m (d + 1) _ (by omega)]
      exact ds_19
    · exact dt_19 m (k + 1) _ (by omega) (by omega)
theorem tick_19 {su : Nat → Nat → Nat} {D d : Nat} {A : AS} (hd : d < D) : tickA su D A 19 d ≤ su 0 d := by
  unfold tickA
  rw [up_k (by omega)]
  exact dt_19 D 0 A (by omega) (by omega)
theorem cl_C {r : Int64 × UInt64} {D d : Nat} {su : Nat → Nat → Nat} (hB : SUB D su) (hd : d < D) : ∀ m k F C A T v, k + m = 1000 → m < F → T + m < 2 ^ 29 → SUC C D su → RC C 54 D A → Inv D su T A → v ≤ 40000000 → ∃ C', lp_X9_coolLimit_32 0 (nI d) F (nI v, nI k, mw C r) = some (nI (clA su D d m v A), mw C' r) ∧ FC 54 C C' := by
  have hD := hB.2.1
  have hB2 := hB.2.2 d hd
  intro m
  induction m with
  | zero =>
    intro k F C A T v hk hF hT hs h hi hv
    obtain ⟨F, rfl⟩ := F_succ hF
    have hk : k = 1000 := by omega
    subst hk
    refine ⟨C, ?_, FC_r⟩
    simp only [lp_X9_coolLimit_32]
    rw [if_pos (by decide)]
    rfl
  | succ m ih =>
    intro k F C A T v hk hF hT hs h hi hv
    obtain ⟨F, rfl⟩ := F_succ hF
    rw [lp_X9_coolLimit_32, if_neg (show ¬ (1000 : Int32) ≤ nI k from nI_ge (b := 1000) (by omega) (by omega))]
    simp only [P0, SB bL54, aover_C bL54 h hi, e_b]
    rw [clA_succ]
    cases hq : aoA A with
    | true =>
      rw [bI_t, if_neg (by decide), if_pos rfl]
      exact ⟨C, rfl, FC_r⟩
    | false =>
      rw [bI_f, if_pos rfl, if_neg (by decide)]
      obtain ⟨C1, n, q1, q2, q3, q4⟩ := tick_C (r := r) bL54 hs hB h hi (by omega)
      have hi1 := Inv_tick hB hi
      have h12 := (hi1.2.2.1 d hd).2.2.1
      have h19 := tick_19 (su := su) (A := A) hd
      have k1 : C1 (54 + 16) d = nI (tickA su D A 12 d) := q2.2.2.2.2.2.2.2.2.2.2.1 d 1 hd (by omega)
      have k2 : C1 (54 + 23) d = nI (tickA su D A 19 d) := q2.2.2.2.2.2.2.2.2.2.2.1 d 8 hd (by omega)
      simp (disch := omega) only [P0, SB bL54, SL bL54, q1, e_b, k1, k2, e_let, nI_1', mxN_nI]
      by_cases hz : 0 < tickA su D A 19 d
      · rw [if_neg (nI_nle hz (by omega)), e_bd, if_pos hz]
        obtain ⟨C2, p1, p3⟩ := ih (k + 1) F C1 _ (T + 1) (mxN v (tickA su D A 12 d)) (by omega) (by omega) (by omega) (SUC_FC (by omega) hs q3) q2 hi1 (by unfold mxN; split <;> omega)
        exact ⟨C2, p1, FC_t q3 p3⟩
      · rw [show tickA su D A 19 d = 0 by omega, if_pos (by decide), e_bd, if_neg (by omega)]
        obtain ⟨C2, p1, p3⟩ := ih (k + 1) F C1 _ (T + 1) v (by omega) (by omega) (by omega) (SUC_FC (by omega) hs q3) q2 hi1 hv
        exact ⟨C2, p1, FC_t q3 p3⟩
