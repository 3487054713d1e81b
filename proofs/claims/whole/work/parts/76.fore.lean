theorem fore_GF {R R2 : Nat → Nat → Int32} (hF : FT (cyN R 337 0 351 0 287) R2) : GF R (cyN R2 351 0 337 0 287) := by
  refine ⟨?_, ?_, ?_⟩
  · intro a ha
    rw [cyN_c (by omega), hF.1 a (by omega) (by omega), cyN_c (by omega)]
  · intro k hk
    rw [cyN_c (by omega), hF.2 k (by omega) (by omega) (by omega), cyN_c (by omega)]
  · intro k hk
    rw [cyN_in (by omega) (by omega), hF.1 351 (by omega) (by omega), cyN_in (by omega) (by omega), show 0 + (0 + (k - 0) - 0) = k by omega]
theorem FC_GF {N N' : Nat → Nat → Int32} (h : FC 54 N N') : GF N N' := ⟨fun a ha => h a (by omega), fun k _ => by rw [h 336 (by omega)], fun k _ => by rw [h 337 (by omega)]⟩
theorem RR_asi {R : Nat → Nat → Int32} {D : Nat} {A : AS} (hD : D ≤ 4) (hc : A 30 0 ≤ 24) (h : RR R D A) : RR (cyN R 337 0 351 0 287) D A := RR_ext hD hc (fun k _ => by rw [cyN_c (by omega)]) h
theorem SUR_asi {R : Nat → Nat → Int32} {D : Nat} {su : Nat → Nat → Nat} (h : SUR R D su) : SUR (cyN R 337 0 351 0 287) D su := by
  unfold SUR at h ⊢
  simp (disch := omega) only [cyN_c]
  exact h
def paA (su : Nat → Nat → Nat) (D : Nat) : Nat → AS → AS
  | 0, A => A
  | m + 1, A => if aoA A = true then A else paA su D m (tickA su D A)
theorem paA_succ (su : Nat → Nat → Nat) (D m : Nat) (A : AS) : paA su D (m + 1) A = if aoA A = true then A else paA su D m (tickA su D A) := rfl
theorem InvX_pa {D : Nat} {su : Nat → Nat → Nat} (hB : SUB D su) : ∀ m T A, InvX D su T A → InvX D su (T + m) (paA su D m A)
  | 0, _, _, h => h
  | m + 1, T, A, h => by
    rw [paA_succ]
    split
    · exact InvX_mono (by omega) h
    · have := InvX_pa hB m (T + 1) _ (InvX_tick hB h)
      rw [show T + 1 + m = T + (m + 1) by omega] at this
      exact this
theorem Inv_pa {D : Nat} {su : Nat → Nat → Nat} (hB : SUB D su) : ∀ m T A, Inv D su T A → Inv D su (T + m) (paA su D m A)
  | 0, _, _, h => h
  | m + 1, T, A, h => by
    rw [paA_succ]
    split
    · exact Inv_mono (by omega) h
    · have := Inv_pa hB m (T + 1) _ (Inv_tick hB h)
      rw [show T + 1 + m = T + (m + 1) by omega] at this
      exact this
theorem pass_C {r : Int64 × UInt64} {b D : Nat} {su : Nat → Nat → Nat} (hb : b ∈ bL) (hB : SUB D su) : ∀ m k F C A T, k + m = 1000 → m < F → T + m < 2 ^ 29 → SUC C D su → RC C b D A → Inv D su T A → ∃ C', lp_X3_passTicksUntilOver_2 b F (nI k, mw C r) = some (mw C' r) ∧ RC C' b D (paA su D m A) ∧ FC b C C' := by
  intro m
  induction m with
  | zero =>
    intro k F C A T hk hF hT hs h hi
    obtain ⟨F, rfl⟩ := F_succ hF
    have hk : k = 1000 := by omega
    subst hk
    refine ⟨C, ?_, h, FC_r⟩
    simp only [lp_X3_passTicksUntilOver_2]
    rw [if_pos (by decide)]
  | succ m ih =>
    intro k F C A T hk hF hT hs h hi
    obtain ⟨F, rfl⟩ := F_succ hF
    rw [lp_X3_passTicksUntilOver_2, if_neg (show ¬ (1000 : Int32) ≤ nI k from nI_ge (b := 1000) (by omega) (by omega))]
    simp only [SB hb, aover_C hb h hi, e_b]
    rw [paA_succ]
    cases hq : aoA A with
    | true =>
      rw [bI_t, if_neg (by decide), if_pos rfl]
      exact ⟨C, rfl, h, FC_r⟩
    | false =>
      rw [bI_f, if_pos rfl, if_neg (by decide)]
      obtain ⟨C1, n, q1, q2, q3, q4⟩ := tick_C (r := r) hb hs hB h hi (by omega)
      obtain ⟨C2, p1, p2, p3⟩ := ih (k + 1) F C1 _ (T + 1) (by omega) (by omega) (by omega) (SUC_FC (bL_29 b hb) hs q3) q2 (Inv_tick hB hi)
      simp only [q1, e_b, e_let, nI_1']
      exact ⟨C2, p1, p2, FC_t q3 p3⟩
theorem past_C {C : Nat → Nat → Int32} {r : Int64 × UInt64} {b D T : Nat} {su : Nat → Nat → Nat} {A : AS} (hb : b ∈ bL) (hB : SUB D su) (hT : T < 2 ^ 28) (hs : SUC C D su) (h : RC C b D A) (hi : Inv D su T A) : ∃ C', f_X3_passTicksUntilOver b (mw C r) = some (mw C' r) ∧ RC C' b D (paA su D 1000 A) ∧ FC b C C' := by
  obtain ⟨C', q1, q2, q3⟩ := pass_C (r := r) hb hB 1000 0 3000 C A T (by omega) (by omega) (by omega) hs h hi
  refine ⟨C', ?_, q2, q3⟩
  simp only [f_X3_passTicksUntilOver, SB hb]
  rw [show lp_X3_passTicksUntilOver_2 b 3000 (0, mw C r) = _ from q1, e_bd]
def mxN (v x : Nat) : Nat := if v < x then x else v
def clA (su : Nat → Nat → Nat) (D d : Nat) : Nat → Nat → AS → Nat
  | 0, v, _ => v
  | m + 1, v, A => if aoA A = true then v else clA su D d m (if 0 < tickA su D A 19 d then mxN v (tickA su D A 12 d) else v) (tickA su D A)
theorem clA_succ (su : Nat → Nat → Nat) (D d m v : Nat) (A : AS) : clA su D d (m + 1) v A = if aoA A = true then v else clA su D d m (if 0 < tickA su D A 19 d then mxN v (tickA su D A 12 d) else v) (tickA su D A) := rfl
theorem mxN_nI {v x : Nat} (hv : v < 2 ^ 31) (hx : x < 2 ^ 31) : (if nI v < nI x then nI x else nI v) = nI (mxN v x) := mx_nI hv hx
theorem clA_le {su : Nat → Nat → Nat} {D d : Nat} (hB : SUB D su) (hd : d < D) : ∀ m v A T, Inv D su T A → v ≤ 40000000 → clA su D d m v A ≤ 40000000
  | 0, _, _, _, _, hv => hv
  | m + 1, v, A, T, hi, hv => by
    have h1 := Inv_tick hB hi
    have h2 := h1.2.2.1 d hd
    rw [clA_succ]
    split
    · exact hv
    · refine clA_le hB hd m _ _ (T + 1) h1 ?_
      split
      · unfold mxN
        split <;> omega
      · exact hv
theorem pass_R {r : Int64 × UInt64} {D : Nat} {su : Nat → Nat → Nat} (hB : SUB D su) : ∀ m k F R A T, k + m = 1000 → m < F → T + m < 2 ^ 29 → SUR R D su → RR R D A → Inv D su T A → ∃ R', lp_X10_passAll_2 336 F (nI k, mw R r) = some (mw R' r) ∧ RR R' D (paA su D m A) ∧ FT R R' ∧ (∀ d v, d < D → nI d = R 336 32 → R 336 30 = nI v → v ≤ 40000000 → R' 336 30 = nI (clA su D d m v A)) := by
  intro m
  induction m with
  | zero =>
    intro k F R A T hk hF hT hs h hi
    obtain ⟨F, rfl⟩ := F_succ hF
    have hk : k = 1000 := by omega
    subst hk
    refine ⟨R, ?_, h, FT_r, fun d v _ _ h2 _ => h2⟩
    simp only [lp_X10_passAll_2]
    rw [if_pos (by decide)]
  | succ m ih =>
    intro k F R A T hk hF hT hs h hi
    obtain ⟨F, rfl⟩ := F_succ hF
    rw [lp_X10_passAll_2, if_neg (show ¬ (1000 : Int32) ≤ nI k from nI_ge (b := 1000) (by omega) (by omega))]
    simp only [aover_R h hi, e_b]
    simp only [paA_succ, clA_succ]
    cases hq : aoA A with
    | true =>
      rw [bI_t, if_neg (by decide)]
      simp only [reduceIte]
      exact ⟨R, rfl, h, FT_r, fun d v _ _ h2 _ => h2⟩
    | false =>
      rw [bI_f, if_pos rfl]
      simp only [Bool.false_eq_true, reduceIte]
      obtain ⟨R1, n, q1, q2, q3, q4, q5, q6, q7⟩ := tick_R (r := r) hs hB h hi (by omega)
      have hi1 := Inv_tick hB hi
      obtain ⟨R2, p1, p2, p3, p4⟩ := ih (k + 1) F R1 _ (T + 1) (by omega) (by omega) (by omega) (SUR_FT hs q3) q2 hi1
      simp only [q1, e_bv, e_let, nI_1']
      refine ⟨R2, p1, p2, FT_t q3 p3, ?_⟩
      intro d v hd hw hv hv4
      have h12 := (hi1.2.2.1 d hd).2.2.1
      have e30 := q6 d hd hw
      rw [hv, mxN_nI (by omega) (by omega)] at e30
      refine p4 d _ hd (by rw [q3.2 32 (by omega) (by omega) (by omega)]; exact hw) ?_ ?_
      · rw [e30]
        split <;> rfl
      · split
        · unfold mxN
          split <;> omega
        · exact hv4
theorem past_R {R : Nat → Nat → Int32} {r : Int64 × UInt64} {D T : Nat} {su : Nat → Nat → Nat} {A : AS} (hB : SUB D su) (hT : T < 2 ^ 28) (hs : SUR R D su) (h : RR R D A) (hi : Inv D su T A) : ∃ R', f_X10_passAll 336 (mw R r) = some (mw R' r) ∧ RR R' D (paA su D 1000 A) ∧ FT R R' ∧ (∀ d v, d < D → nI d = R 336 32 → R 336 30 = nI v → v ≤ 40000000 → R' 336 30 = nI (clA su D d 1000 v A)) := by
  obtain ⟨R', q1, q2, q3, q4⟩ := pass_R (r := r) hB 1000 0 3000 R A T (by omega) (by omega) (by omega) hs h hi
  refine ⟨R', ?_, q2, q3, q4⟩
  simp only [f_X10_passAll, PR]
  rw [show lp_X10_passAll_2 336 3000 (0, mw R r) = _ from q1, e_bd]
/-- ticks till one job is over -/
def wdA (su : Nat → Nat → Nat) (D j : Nat) : Nat → AS → AS
  | 0, A => A
  | m + 1, A => if ovA A j = true then A else wdA su D j m (tickA su D A)
theorem wdA_succ (su : Nat → Nat → Nat) (D j m : Nat) (A : AS) : wdA su D j (m + 1) A = if ovA A j = true then A else wdA su D j m (tickA su D A) := rfl
theorem Inv_wd {D j : Nat} {su : Nat → Nat → Nat} (hB : SUB D su) : ∀ m T A, Inv D su T A → Inv D su (T + m) (wdA su D j m A)
  | 0, _, _, h => h
  | m + 1, T, A, h => by
    rw [wdA_succ]
    split
    · exact Inv_mono (by omega) h
    · have := Inv_wd (j := j) hB m (T + 1) _ (Inv_tick hB h)
      rw [show T + 1 + m = T + (m + 1) by omega] at this
      exact this
theorem wdA_c {su : Nat → Nat → Nat} {D j : Nat} : ∀ m A, wdA su D j m A 30 0 = A 30 0
  | 0, _ => rfl
  | m + 1, A => by
    rw [wdA_succ]
    split
    · rfl
    · rw [wdA_c m, tick_c]
theorem wd_C {r : Int64 × UInt64} {D j : Nat} {su : Nat → Nat → Nat} (hB : SUB D su) : ∀ m k F C A T, k + m = 1000 → m < F → T + m < 2 ^ 29 → SUC C D su → RC C 54 D A → Inv D su T A → j < A 30 0 → ∃ C', lp_X9_willBeDone_18 0 (nI j) F (nI k, mw C r) = some (mw C' r) ∧ RC C' 54 D (wdA su D j m A) ∧ FC 54 C C' := by
  intro m
  induction m with
  | zero =>
    intro k F C A T hk hF hT hs h hi hj
    obtain ⟨F, rfl⟩ := F_succ hF
    have hk : k = 1000 := by omega
    subst hk
    refine ⟨C, ?_, h, FC_r⟩
    simp only [lp_X9_willBeDone_18]
    rw [if_pos (by decide)]
  | succ m ih =>
    intro k F C A T hk hF hT hs h hi hj
    obtain ⟨F, rfl⟩ := F_succ hF
    rw [lp_X9_willBeDone_18, if_neg (show ¬ (1000 : Int32) ≤ nI k from nI_ge (b := 1000) (by omega) (by omega))]
    simp only [P0, SB bL54, over_C bL54 h hi hj, e_b]
    rw [wdA_succ]
    cases hq : ovA A j with
    | true =>
      rw [bI_t, if_neg (by decide), if_pos rfl]
      exact ⟨C, rfl, h, FC_r⟩
    | false =>
      rw [bI_f, if_pos rfl, if_neg (by decide)]
      obtain ⟨C1, n, q1, q2, q3, q4⟩ := tick_C (r := r) bL54 hs hB h hi (by omega)
      obtain ⟨C2, p1, p2, p3⟩ := ih (k + 1) F C1 _ (T + 1) (by omega) (by omega) (by omega) (SUC_FC (by omega) hs q3) q2 (Inv_tick hB hi) (by rw [tick_c]; exact hj)
      simp only [q1, e_b, e_let, nI_1']
      exact ⟨C2, p1, p2, FC_t q3 p3⟩
theorem wd_R {r : Int64 × UInt64} {D j : Nat} {su : Nat → Nat → Nat} (hB : SUB D su) : ∀ m k F R A T, k + m = 1000 → m < F → T + m < 2 ^ 29 → SUR R D su → RR R D A → Inv D su T A → j < A 30 0 → ∃ R', lp_X10_willBeDone_20 336 (nI j) F (nI k, mw R r) = some (mw R' r) ∧ RR R' D (wdA su D j m A) ∧ FT R R' := by
  intro m
  induction m with
  | zero =>
    intro k F R A T hk hF hT hs h hi hj
    obtain ⟨F, rfl⟩ := F_succ hF
    have hk : k = 1000 := by omega
    subst hk
    refine ⟨R, ?_, h, FT_r⟩
    simp only [lp_X10_willBeDone_20]
    rw [if_pos (by decide)]
  | succ m ih =>
    intro k F R A T hk hF hT hs h hi hj
    obtain ⟨F, rfl⟩ := F_succ hF
    rw [lp_X10_willBeDone_20, if_neg (show ¬ (1000 : Int32) ≤ nI k from nI_ge (b := 1000) (by omega) (by omega))]
    simp only [over_R h hi hj, e_b]
    rw [wdA_succ]
    cases hq : ovA A j with
    | true =>
      rw [bI_t, if_neg (by decide), if_pos rfl]
      exact ⟨R, rfl, h, FT_r⟩
    | false =>
      rw [bI_f, if_pos rfl, if_neg (by decide)]
      obtain ⟨R1, n, q1, q2, q3, q4, q5, q6, q7⟩ := tick_R (r := r) hs hB h hi (by omega)
      obtain ⟨R2, p1, p2, p3⟩ := ih (k + 1) F R1 _ (T + 1) (by omega) (by omega) (by omega) (SUR_FT hs q3) q2 (Inv_tick hB hi) (by rw [tick_c]; exact hj)
      simp only [q1, e_bv, e_let, nI_1']
      exact ⟨R2, p1, p2, FT_t q3 p3⟩
/-- n ticks -/
def itA (su : Nat → Nat → Nat) (D : Nat) : Nat → AS → AS
  | 0, A => A
  | m + 1, A => itA su D m (tickA su D A)
theorem itA_succ (su : Nat → Nat → Nat) (D m : Nat) (A : AS) : itA su D (m + 1) A = itA su D m (tickA su D A) := rfl
theorem InvX_it {D : Nat} {su : Nat → Nat → Nat} (hB : SUB D su) : ∀ m T A, InvX D su T A → InvX D su (T + m) (itA su D m A)
  | 0, _, _, h => h
  | m + 1, T, A, h => by
    rw [itA_succ]
    have := InvX_it hB m (T + 1) _ (InvX_tick hB h)
    rw [show T + 1 + m = T + (m + 1) by omega] at this
    exact this
theorem itA_lo {su : Nat → Nat → Nat} {D q i : Nat} (hq : q ≤ 5 ∨ q = 10 ∨ q = 11) : ∀ m A, itA su D m A q i = A q i
  | 0, _ => rfl
  | m + 1, A => by rw [itA_succ, itA_lo hq m, tick_lo hq]
theorem itA_c {su : Nat → Nat → Nat} {D : Nat} : ∀ m A, itA su D m A 30 0 = A 30 0
  | 0, _ => rfl
  | m + 1, A => by rw [itA_succ, itA_c m, tick_c]
theorem ei_C {r : Int64 × UInt64} {D n : Nat} {su : Nat → Nat → Nat} (hB : SUB D su) (hn : n ≤ 500) : ∀ m k F C A T, k + m = n → m < F → T + m < 2 ^ 29 → SUC C D su → RC C 54 D A → Inv D su T A → ∃ C', lp_X9_energyIn_25 0 (nI n) F (nI k, mw C r) = some (mw C' r) ∧ RC C' 54 D (itA su D m A) ∧ FC 54 C C' := by
  intro m
  induction m with
  | zero =>
    intro k F C A T hk hF hT hs h hi
    obtain ⟨F, rfl⟩ := F_succ hF
    have hk : k = n := by omega
    subst hk
    refine ⟨C, ?_, h, FC_r⟩
    simp only [lp_X9_energyIn_25]
    rw [if_pos (Int32.le_refl _)]
  | succ m ih =>
    intro k F C A T hk hF hT hs h hi
    obtain ⟨F, rfl⟩ := F_succ hF
    obtain ⟨C1, n1, q1, q2, q3, q4⟩ := tick_C (r := r) bL54 hs hB h hi (by omega)
    obtain ⟨C2, p1, p2, p3⟩ := ih (k + 1) F C1 _ (T + 1) (by omega) (by omega) (by omega) (SUC_FC (by omega) hs q3) q2 (Inv_tick hB hi)
    simp only [lp_X9_energyIn_25, P0, q1, e_b, e_let, nI_1']
    rw [if_neg (nI_ge (by omega) (by omega))]
    exact ⟨C2, p1, p2, FC_t q3 p3⟩
theorem ei_R {r : Int64 × UInt64} {D n : Nat} {x : Int32} {su : Nat → Nat → Nat} (hB : SUB D su) (hn : n ≤ 500) : ∀ m k F R A T, k + m = n → m < F → T + m < 2 ^ 29 → SUR R D su → RR R D A → Inv D su T A → ∃ R', lp_X10_energyIn_29 336 (nI n) x F (nI k, mw R r) = some (mw R' r) ∧ RR R' D (itA su D m A) ∧ FT R R' := by
  intro m
  induction m with
  | zero =>
    intro k F R A T hk hF hT hs h hi
    obtain ⟨F, rfl⟩ := F_succ hF
    have hk : k = n := by omega
    subst hk
    refine ⟨R, ?_, h, FT_r⟩
    simp only [lp_X10_energyIn_29]
    rw [if_pos (Int32.le_refl _)]
  | succ m ih =>
    intro k F R A T hk hF hT hs h hi
    obtain ⟨F, rfl⟩ := F_succ hF
    obtain ⟨R1, n1, q1, q2, q3, q4, q5, q6, q7⟩ := tick_R (r := r) hs hB h hi (by omega)
    obtain ⟨R2, p1, p2, p3⟩ := ih (k + 1) F R1 _ (T + 1) (by omega) (by omega) (by omega) (SUR_FT hs q3) q2 (Inv_tick hB hi)
    simp only [lp_X10_energyIn_29, q1, e_bv, e_let, nI_1']
    rw [if_neg (nI_ge (by omega) (by omega))]
    exact ⟨R2, p1, p2, FT_t q3 p3⟩
/-- the action tick -/
theorem tk_C {r : Int64 × UInt64} {D n : Nat} {su : Nat → Nat → Nat} (hB : SUB D su) (hn : n ≤ 500) : ∀ m k F C A T v, k + m = n → m < F → T + m < 2 ^ 29 → SUC C D su → RC C 29 D A → Inv D su T A → ∃ C' q, lp_X9_tick_27 0 (nI n) F (nI v, nI k, mw C r) = some (nI (v + q), mw C' r) ∧ RC C' 29 D (itA su D m A) ∧ FC 29 C C' ∧ itA su D m A 31 0 = A 31 0 + q := by
  intro m
  induction m with
  | zero =>
    intro k F C A T v hk hF hT hs h hi
    obtain ⟨F, rfl⟩ := F_succ hF
    have hk : k = n := by omega
    subst hk
    refine ⟨C, 0, ?_, h, FC_r, rfl⟩
    simp only [lp_X9_tick_27]
    rw [if_pos (Int32.le_refl _)]
    rfl
  | succ m ih =>
    intro k F C A T v hk hF hT hs h hi
    obtain ⟨F, rfl⟩ := F_succ hF
    obtain ⟨C1, n1, q1, q2, q3, q4⟩ := tick_C (r := r) bL29 hs hB h hi (by omega)
    obtain ⟨C2, n2, p1, p2, p3, p4⟩ := ih (k + 1) F C1 _ (T + 1) (v + n1) (by omega) (by omega) (by omega) (SUC_FC (by omega) hs q3) q2 (Inv_tick hB hi)
    simp only [lp_X9_tick_27, P0, q1, e_b, e_let, nI_1', nI_add]
    rw [if_neg (nI_ge (by omega) (by omega))]
    refine ⟨C2, n1 + n2, ?_, p2, FC_t q3 p3, ?_⟩
    · rw [p1, Nat.add_assoc]
    · rw [itA_succ, p4, q4, Nat.add_assoc]
theorem tk_R {r : Int64 × UInt64} {D n : Nat} {su : Nat → Nat → Nat} (hB : SUB D su) (hn : n ≤ 500) : ∀ m k F R A T, k + m = n → m < F → T + m < 2 ^ 29 → SUR R D su → RR R D A → Inv D su T A → ∃ R' q, lp_X10_tick_29 336 (nI n) F (nI k, mw R r) = some (mw R' r) ∧ RR R' D (itA su D m A) ∧ FT R R' ∧ R' 336 31 = R 336 31 + nI q ∧ itA su D m A 31 0 = A 31 0 + q := by
  intro m
  induction m with
  | zero =>
    intro k F R A T hk hF hT hs h hi
    obtain ⟨F, rfl⟩ := F_succ hF
    have hk : k = n := by omega
    subst hk
    refine ⟨R, 0, ?_, h, FT_r, ?_, rfl⟩
    · simp only [lp_X10_tick_29]
      rw [if_pos (Int32.le_refl _)]
    · rw [nI_0]
      exact (Int32.add_zero _).symm
  | succ m ih =>
    intro k F R A T hk hF hT hs h hi
    obtain ⟨F, rfl⟩ := F_succ hF
    obtain ⟨R1, n1, q1, q2, q3, q4, q5, q6, q7⟩ := tick_R (r := r) hs hB h hi (by omega)
    obtain ⟨R2, n2, p1, p2, p3, p4, p5⟩ := ih (k + 1) F R1 _ (T + 1) (by omega) (by omega) (by omega) (SUR_FT hs q3) q2 (Inv_tick hB hi)
    simp only [lp_X10_tick_29, q1, e_bv, e_let, nI_1']
    rw [if_neg (nI_ge (by omega) (by omega))]
    refine ⟨R2, n1 + n2, p1, p2, FT_t q3 p3, ?_, ?_⟩
    · rw [p4, q4, Int32.add_assoc, nI_add]
    · rw [itA_succ, p5, q5, Nat.add_assoc]
