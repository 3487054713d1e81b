theorem bv_b {α σ : Type} (F : Option (α × MW)) (G : α → MW → Option MW) (K : MW → Option σ) : hz_bv (hz_b F G) K = hz_b F (fun a w => hz_bv (G a w) K) := by
  cases F <;> rfl
theorem bv_bd {α σ : Type} (F : Option α) (G : α → Option MW) (K : MW → Option σ) : hz_bv (Option.bind F G) K = Option.bind F (fun a => hz_bv (G a) K) := by
  cases F <;> rfl
theorem bv_bv {σ : Type} (F : Option MW) (G : MW → Option MW) (K : MW → Option σ) : hz_bv (hz_bv F G) K = hz_bv F (fun w => hz_bv (G w) K) := by
  cases F <;> rfl
theorem jbA_up {su : Nat → Nat → Nat} {A : AS} {d l q i x : Nat} {ha : Bool} (hq : 10 ≤ q ∧ q < 20) : jbA su (up A q i x) d l ha = up (jbA su A d l ha) q i x := by
  unfold jbA
  split
  · rfl
  · exact work_up hq _ _ _
theorem runA_jb (su : Nat → Nat → Nat) (A : AS) (d : Nat) : runA su A d = jbA su (tlA su (thA A d (decide (l2N su A d < l1N su A d)) (haN su A d)) d (bzA (coA A d) (su 0 d)) (l2N su A d) (haN su A d)) d (l2N su A d) (haN su A d) := rfl
theorem wr_run (su : Nat → Nat → Nat) (A : AS) (d : Nat) : wrA su (up (up A 16 d (A 16 d + bN (decide (l2N su A d < l1N su A d)))) 13 d (l2N su A d)) d (bzA (coA A d) (su 0 d)) (l2N su A d) (haN su A d) = runA su A d := by
  rw [runA_jb]
  unfold wrA tlA thA
  simp (disch := omega) only [up_k, jbA_up]
  rw [up_comm (k := 14) (k2 := 17) (by omega), up_comm (k := 13) (k2 := 17) (by omega)]
theorem sp_cr {su : Nat → Nat → Nat} {A : AS} {d : Nat} (q : spN su d (bzA (coA A d) (su 0 d)) (l2N su A d) (haN su A d) = true) : 1 ≤ A 15 d := by
  have hl2 := l2N_le (su := su) (A := A) (d := d)
  unfold spN at q
  simp only [Bool.and_eq_true, decide_eq_true_eq] at q
  have q3 : su 5 d < l1N su A d := Nat.lt_of_lt_of_le q.2 hl2
  unfold l1N credA at q3
  by_cases hz : A 15 d = 0
  · rw [if_pos ⟨q.1.1, hz⟩] at q3
    split at q3 <;> omega
  · omega
theorem run_R {R : Nat → Nat → Int32} {r : Int64 × UInt64} {D d T : Nat} {su : Nat → Nat → Nat} {A : AS} (hs : SUR R D su) (hB : SUB D su) (h : RR R D A) (hi : Inv D su T A) (hT : T < 2 ^ 29) (hd : d < D) : ∃ R' n, hz_bv (f_X10_chooseLevel 336 (nI d) (mw R r)) (fun w8 => f_X10_work 336 (nI d) w8) = some (mw R' r) ∧ RR R' D (runA su A d) ∧ FT R R' ∧ R' 336 30 = (if nI d = R 336 32 ∧ 0 < bzA (coA A d) (su 0 d) then (if R 336 30 < nI (runA su A d 12 d) then nI (runA su A d 12 d) else R 336 30) else R 336 30) ∧ R' 336 31 = R 336 31 + nI n ∧ runA su A d 31 0 = A 31 0 + n := by
  obtain ⟨R1, q1, q2, q3, q4, q5, q6⟩ := ch_R (r := r) hs hB h hi hT hd
  have hl1 := l1N_lt (A := A) hB hd
  have hl2 := l2N_le (su := su) (A := A) (d := d)
  obtain ⟨R2, n, p1, p2, p3, p4, p5, p6⟩ := wr_R (r := r) (bz := bzA (coA A d) (su 0 d)) (l := l2N su A d) (ha := haN su A d) (SUR_FT hs q3) hB q2 (Inv_cnt (by omega) (Inv_cnt (by omega) hi)) hT hd (by rw [coA_up (by omega), coA_up (by omega)]) (by omega) (up_self _ _ _ _) q4 (fun q => by simp (disch := omega) only [up_k]; exact sp_cr q)
  rw [wr_run] at p2 p4 p6
  rw [q3.2 32 (by omega) (by omega) (by omega), q5] at p4
  refine ⟨R2, n, ?_, p2, FT_t q3 p3, p4, p5.trans (by rw [q6]), ?_⟩
  · rw [q1, e_bv, p1]
  · rw [p6]
    simp (disch := omega) only [up_k]
/-- a domain's step, a tick -/
def dsA (su : Nat → Nat → Nat) (A : AS) (d : Nat) : AS := runA su (staA A d (su 0 d)) d
def dtA (su : Nat → Nat → Nat) : Nat → Nat → AS → AS
  | 0, _, A => A
  | m + 1, k, A => dtA su m (k + 1) (dsA su A k)
theorem dtA_succ (su : Nat → Nat → Nat) (m k : Nat) (A : AS) : dtA su (m + 1) k A = dtA su m (k + 1) (dsA su A k) := rfl
def tickA (su : Nat → Nat → Nat) (D : Nat) (A : AS) : AS := up (dtA su D 0 A) 30 1 (dtA su D 0 A 30 1 + 1)
theorem as1_k {A : AS} {d e q i : Nat} (h7 : q ≠ 7) (h4 : q < 40) : as1 A d e q i = A q i := by
  by_cases h0 : A (40 + d) e = 0
  · cases hf : fb (rdA A d) (fun j => nI (A 5 j)) (A 30 0) with
    | none => rw [as1_none hf]
    | some j => rw [as1_some h0 hf, up_k (by omega), up_k (by omega)]
  · rw [as1_busy h0]
theorem ass_k {d q i : Nat} (h7 : q ≠ 7) (h4 : q < 40) : ∀ m k A, assA d m k A q i = A q i
  | 0, _, _ => rfl
  | m + 1, k, A => by rw [assA_succ, ass_k h7 h4 m (k + 1), as1_k h7 h4]
theorem sta_k {A : AS} {d cs q i : Nat} (h7 : q ≠ 7) (h4 : q < 40) (h8 : q ≠ 18 ∨ i ≠ d) (h9 : q ≠ 19 ∨ i ≠ d) : staA A d cs q i = A q i := by
  have e : asgA A d cs q i = A q i := by
    unfold asgA
    rw [ass_k h7 h4, relA_k h7]
  unfold staA
  split
  · rw [up_ki (by omega), up_ki (by omega), e]
  · rw [up_ki (by omega), e]
theorem run_k {su : Nat → Nat → Nat} {A : AS} {d q i : Nat} (hq : (10 ≤ q ∧ q < 20 ∧ i ≠ d) ∨ q = 30 ∨ q ≤ 5 ∨ (q = 10 ∨ q = 11 ∨ q = 18 ∨ q = 19)) : runA su A d q i = A q i := by
  rw [runA_jb, jbA_k (by omega)]
  unfold tlA thA
  rw [up_ki (by omega), up_ki (by omega), up_ki (by omega), up_ki (by omega), up_ki (by omega), up_ki (by omega)]
theorem ds_k {su : Nat → Nat → Nat} {A : AS} {d q i : Nat} (hq : (10 ≤ q ∧ q < 20 ∧ i ≠ d) ∨ q = 30 ∨ q ≤ 5 ∨ q = 10 ∨ q = 11) : dsA su A d q i = A q i := by
  unfold dsA
  rw [run_k (by omega), sta_k (by omega) (by omega) (by omega) (by omega)]
theorem dt_k {su : Nat → Nat → Nat} {q i : Nat} : ∀ m k A, ((10 ≤ q ∧ q < 20 ∧ (i < k ∨ k + m ≤ i)) ∨ q = 30 ∨ q ≤ 5 ∨ q = 10 ∨ q = 11) → dtA su m k A q i = A q i
  | 0, _, _, _ => rfl
  | m + 1, k, A, hq => by
    rw [dtA_succ, dt_k m (k + 1) _ (by omega), ds_k (by omega)]
theorem Inv_ds {D d T : Nat} {su : Nat → Nat → Nat} {A : AS} (hB : SUB D su) (hd : d < D) (hi : Inv D su T A) : Inv D su T (dsA su A d) := Inv_run hB hd (Inv_sta hd hB.2.1 hi)
theorem Inv_dt {D T : Nat} {su : Nat → Nat → Nat} (hB : SUB D su) : ∀ m k A, k + m ≤ D → Inv D su T A → Inv D su T (dtA su m k A)
  | 0, _, _, _, hi => hi
  | m + 1, k, A, hk, hi => by
    rw [dtA_succ]
    exact Inv_dt hB m (k + 1) _ (by omega) (Inv_ds hB (by omega) hi)
theorem Inv_T {D T : Nat} {su : Nat → Nat → Nat} {A : AS} (hi : Inv D su T A) : Inv D su (T + 1) (up A 30 1 (A 30 1 + 1)) := by
  obtain ⟨⟨i1, i2, i3⟩, i4, i5, i6, i7, i8⟩ := hi
  unfold Inv
  simp (disch := omega) only [up_k, up_i, up_self]
  refine ⟨⟨i1, by omega, i3⟩, ?_, i5, i6, i7, i8⟩
  intro j hj
  have := i4 j hj
  omega
theorem Inv_mono {D T T' : Nat} {su : Nat → Nat → Nat} {A : AS} (h : T ≤ T') (hi : Inv D su T A) : Inv D su T' A := by
  obtain ⟨⟨i1, i2, i3⟩, i4, i5, i6, i7, i8⟩ := hi
  refine ⟨⟨i1, by omega, i3⟩, ?_, i5, i6, i7, i8⟩
  intro j hj
  have := i4 j hj
  omega
theorem Inv_tick {D T : Nat} {su : Nat → Nat → Nat} {A : AS} (hB : SUB D su) (hi : Inv D su T A) : Inv D su (T + 1) (tickA su D A) := Inv_T (Inv_dt hB D 0 A (by omega) hi)
theorem dt_C {r : Int64 × UInt64} {b D T : Nat} {su : Nat → Nat → Nat} (hb : b ∈ bL) (hB : SUB D su) (hT : T < 2 ^ 29) : ∀ m k F C A v, k + m = D → m < F → SUC C D su → RC C b D A → Inv D su T A → ∃ C' n, lp_X3_passTick_4 b F (nI v, nI k, mw C r) = some (nI (v + n), mw C' r) ∧ RC C' b D (dtA su m k A) ∧ FC b C C' ∧ dtA su m k A 31 0 = A 31 0 + n := by
  have hD := hB.2.1
  intro m
  induction m with
  | zero =>
    intro k F C A v hk hF hs h hi
    obtain ⟨F, rfl⟩ := F_succ hF
    refine ⟨C, 0, ?_, h, FC_r, rfl⟩
    have hk : k = D := by omega
    subst hk
    simp (disch := omega) only [lp_X3_passTick_4, SB hb, mw_1, hs.1]
    rw [if_pos (Int32.le_refl _)]
    rfl
  | succ m ih =>
    intro k F C A v hk hF hs h hi
    obtain ⟨F, rfl⟩ := F_succ hF
    obtain ⟨C1, q1, q2, q3⟩ := sta_C (r := r) hb hs hB h hi hT (show k < D by omega)
    have hs1 := SUC_FC (bL_29 b hb) hs q3
    have hi1 := Inv_sta (show k < D by omega) hD hi
    obtain ⟨C2, n1, p1, p2, p3, p4⟩ := run_C (r := r) hb hs1 hB q2 hi1 hT (show k < D by omega) (sta_19 _ _ _)
    have hs2 := SUC_FC (bL_29 b hb) hs1 p3
    obtain ⟨C3, n2, u1, u2, u3, u4⟩ := ih (k + 1) F C2 (dsA su A k) (v + n1) (by omega) (by omega) hs2 p2 (Inv_ds hB (by omega) hi)
    refine ⟨C3, n1 + n2, ?_, u2, FC_t (FC_t q3 p3) u3, ?_⟩
    · simp (disch := omega) only [lp_X3_passTick_4, SB hb, mw_1, hs.1, q1, e_bv, p1, e_b, e_let, nI_add, nI_1']
      rw [if_neg (nI_ge (by omega) (by omega)), u1, Nat.add_assoc]
    · rw [dtA_succ, u4, show dsA su A k 31 0 = _ from p4, sta_k (by omega) (by omega) (by omega) (by omega), Nat.add_assoc]
theorem tick_C {C : Nat → Nat → Int32} {r : Int64 × UInt64} {b D T : Nat} {su : Nat → Nat → Nat} {A : AS} (hb : b ∈ bL) (hs : SUC C D su) (hB : SUB D su) (h : RC C b D A) (hi : Inv D su T A) (hT : T < 2 ^ 29) : ∃ C' n, f_X3_passTick b (mw C r) = some (nI n, mw C' r) ∧ RC C' b D (tickA su D A) ∧ FC b C C' ∧ tickA su D A 31 0 = A 31 0 + n := by
  have hD := hB.2.1
  obtain ⟨C1, n, q1, q2, q3, q4⟩ := dt_C (r := r) hb hB hT D 0 3000 C A 0 (by omega) (by omega) hs h hi
  rw [Nat.zero_add] at q1
  have h2 := q2.1.2.1
  refine ⟨st C1 b 2 (nI (dtA su D 0 A 30 1 + 1)), n, ?_, rc_T q2, FC_t q3 (FC_s (by omega) (by omega)), ?_⟩
  · simp only [f_X3_passTick, SB hb]
    rw [show lp_X3_passTick_4 b 3000 (0, 0, mw C r) = _ from q1, e_bd]
    simp only [e_let, mw_pn, mw_1, h2, nI_p1]
  · unfold tickA
    rw [up_k (by omega)]
    exact q4
theorem dt_R {r : Int64 × UInt64} {D T : Nat} {su : Nat → Nat → Nat} (hB : SUB D su) (hT : T < 2 ^ 29) : ∀ m k F R A, k + m = D → m < F → SUR R D su → RR R D A → Inv D su T A → ∃ R' n, lp_X10_tickOnce_2 336 F (nI k, mw R r) = some (mw R' r) ∧ RR R' D (dtA su m k A) ∧ FT R R' ∧ R' 336 31 = R 336 31 + nI n ∧ dtA su m k A 31 0 = A 31 0 + n ∧ (∀ d, d < D → nI d = R 336 32 → R' 336 30 = if k ≤ d ∧ 0 < dtA su m k A 19 d then (if R 336 30 < nI (dtA su m k A 12 d) then nI (dtA su m k A 12 d) else R 336 30) else R 336 30) ∧ (R 336 32 = -1 → R' 336 30 = R 336 30) := by
  have hD := hB.2.1
  intro m
  induction m with
  | zero =>
    intro k F R A hk hF hs h hi
    obtain ⟨F, rfl⟩ := F_succ hF
    refine ⟨R, 0, ?_, h, FT_r, ?_, rfl, ?_, fun _ => rfl⟩
    · have hk : k = D := by omega
      subst hk
      simp (disch := omega) only [lp_X10_tickOnce_2, mw_1, hs.1]
      rw [if_pos (Int32.le_refl _)]
    · rw [nI_0]
      exact (Int32.add_zero _).symm
    · intro d hd _
      rw [if_neg (by omega)]
  | succ m ih =>
    intro k F R A hk hF hs h hi
    obtain ⟨F, rfl⟩ := F_succ hF
    obtain ⟨R1, q1, q2, q3⟩ := sta_R (r := r) hs hB h hi hT (show k < D by omega)
    have hs1 := SUR_FT hs (F7_T q3)
    have hi1 := Inv_sta (show k < D by omega) hD hi
    obtain ⟨R2, n1, p1, p2, p3, p4, p5, p6⟩ := run_R (r := r) hs1 hB q2 hi1 hT (show k < D by omega)
    have hs2 := SUR_FT hs1 p3
    obtain ⟨R3, n2, u1, u2, u3, u4, u5, u6, u7⟩ := ih (k + 1) F R2 (dsA su A k) (by omega) (by omega) hs2 p2 (Inv_ds hB (by omega) hi)
    have e6 : ∀ i, R1 336 i = R 336 i := fun i => by rw [q3 336 (by omega)]
    have e32 : R2 336 32 = R 336 32 := (p3.2 32 (by omega) (by omega) (by omega)).trans (e6 32)
    rw [e6, e6] at p4
    rw [e6] at p5
    refine ⟨R3, n1 + n2, ?_, u2, FT_t (FT_t (F7_T q3) p3) u3, ?_, ?_, ?_, ?_⟩
    · have hb : hz_bv (sR (nI k) (mw R r)) (fun w7 => hz_bv (hz_bv (f_X10_chooseLevel 336 (nI k) w7) (fun w8 => f_X10_work 336 (nI k) w8)) (fun w9 => hz_let (nI k + Int32.ofInt 1) (fun v10 => lp_X10_tickOnce_2 336 F (v10, w9)))) = some (mw R3 r) := by
        rw [q1, e_bv, p1, e_bv, e_let, nI_1', u1]
      rw [← hb]
      rw [lp_X10_tickOnce_2]
      simp only [mw_1, hs.1]
      rw [if_neg (nI_ge (by omega) (by omega))]
      simp only [sR, bv_b, bv_bd, bv_bv, e_bv]
    · rw [u4, p5, Int32.add_assoc, nI_add]
    · rw [dtA_succ, u5, show dsA su A k 31 0 = _ from p6, sta_k (by omega) (by omega) (by omega) (by omega), Nat.add_assoc]
    · intro d hd hw
      have := u6 d hd (by rw [e32]; exact hw)
      rw [dtA_succ, this]
      by_cases hdk : d = k
      · subst hdk
        rw [if_neg (by omega), p4]
        have e19 : dtA su m (d + 1) (dsA su A d) 19 d = bzA (coA (staA A d (su 0 d)) d) (su 0 d) := by
          rw [dt_k _ _ _ (by omega)]
          unfold dsA
          rw [run_k (by omega), sta_19]
        have e12 : dtA su m (d + 1) (dsA su A d) 12 d = runA su (staA A d (su 0 d)) d 12 d := by
          rw [dt_k _ _ _ (by omega)]
          rfl
        rw [e19, e12]
        by_cases hz : 0 < bzA (coA (staA A d (su 0 d)) d) (su 0 d)
        · rw [if_pos (show nI d = R 336 32 ∧ 0 < bzA (coA (staA A d (su 0 d)) d) (su 0 d) from ⟨hw, hz⟩), if_pos (show d ≤ d ∧ 0 < bzA (coA (staA A d (su 0 d)) d) (su 0 d) from ⟨Nat.le_refl d, hz⟩)]
        · rw [if_neg (fun q => hz q.2), if_neg (fun q => hz q.2)]
      · have e30 : R2 336 30 = R 336 30 := by
          rw [p4, if_neg]
          rintro ⟨q, _⟩
          rw [← hw, nI_eq (by omega) (by omega)] at q
          omega
        rw [e30]
        by_cases hle : k ≤ d
        · simp only [show k + 1 ≤ d by omega, hle, true_and]
        · rw [if_neg (by omega), if_neg (by omega)]
    · intro hw
      rw [u7 (by rw [e32]; exact hw), p4, if_neg]
      rintro ⟨q, _⟩
      rw [hw] at q
      exact nI_nm1 (j := k) (by omega) q
theorem tick_R {R : Nat → Nat → Int32} {r : Int64 × UInt64} {D T : Nat} {su : Nat → Nat → Nat} {A : AS} (hs : SUR R D su) (hB : SUB D su) (h : RR R D A) (hi : Inv D su T A) (hT : T < 2 ^ 29) : ∃ R' n, f_X10_tickOnce 336 (mw R r) = some (mw R' r) ∧ RR R' D (tickA su D A) ∧ FT R R' ∧ R' 336 31 = R 336 31 + nI n ∧ tickA su D A 31 0 = A 31 0 + n ∧ (∀ d, d < D → nI d = R 336 32 → R' 336 30 = if 0 < tickA su D A 19 d then (if R 336 30 < nI (tickA su D A 12 d) then nI (tickA su D A 12 d) else R 336 30) else R 336 30) ∧ (R 336 32 = -1 → R' 336 30 = R 336 30) := by
  have hD := hB.2.1
  obtain ⟨R1, n, q1, q2, q3, q4, q5, q6, q7⟩ := dt_R (r := r) hB hT D 0 3000 R A (by omega) (by omega) hs h hi
  have h2 := q2.1.2.1
  have e6 : ∀ i x, st R1 337 0 x 336 i = R1 336 i := fun i x => by rw [st_cell (by omega)]
  refine ⟨st R1 337 0 (nI (dtA su D 0 A 30 1 + 1)), n, ?_, rr_low (.inl ⟨rfl, rfl, rfl⟩) q2, FT_t q3 FT_s, ?_, ?_, ?_, ?_⟩
  · simp only [f_X10_tickOnce, PR]
    rw [show lp_X10_tickOnce_2 336 3000 (0, mw R r) = _ from q1, e_bd]
    simp only [PR, RLd, h2, nI_p1]
  · rw [e6, q4]
  · unfold tickA
    rw [up_k (by omega)]
    exact q5
  · intro d hd hw
    have := q6 d hd hw
    simp only [Nat.zero_le, true_and] at this
    unfold tickA
    rw [up_k (by omega), up_k (by omega), e6]
    exact this
  · intro hw
    rw [e6, q7 hw]
