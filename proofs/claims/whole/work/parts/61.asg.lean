theorem fb_false {p : Nat → Bool} {dl : Nat → Int32} : ∀ {n : Nat}, (∀ i, i < n → p i = false) → fb p dl n = none
  | 0, _ => rfl
  | n + 1, h => by
    rw [fb_succ, fb_false (n := n) (fun i hi => h i (by omega)), h n (by omega)]
    rfl
def rdA (A : AS) (d : Nat) (j : Nat) : Bool := decide (A 0 j = d) && decide (A 7 j = 1)
def as1 (A : AS) (d e : Nat) : AS := if A (40 + d) e = 0 then (match fb (rdA A d) (fun j => nI (A 5 j)) (A 30 0) with
  | none => A
  | some j => up (up A 7 j 2) (40 + d) e (j + 1)) else A
def assA (d : Nat) : Nat → Nat → AS → AS
  | 0, _, A => A
  | m + 1, k, A => assA d m (k + 1) (as1 A d k)
theorem assA_succ (d m k : Nat) (A : AS) : assA d (m + 1) k A = assA d m (k + 1) (as1 A d k) := rfl
theorem as1_none {A : AS} {d e : Nat} (h : fb (rdA A d) (fun j => nI (A 5 j)) (A 30 0) = none) : as1 A d e = A := by
  unfold as1
  rw [h]
  split <;> rfl
theorem as1_busy {A : AS} {d e : Nat} (h : A (40 + d) e ≠ 0) : as1 A d e = A := if_neg h
theorem as1_some {A : AS} {d e j : Nat} (h0 : A (40 + d) e = 0) (h : fb (rdA A d) (fun j => nI (A 5 j)) (A 30 0) = some j) : as1 A d e = up (up A 7 j 2) (40 + d) e (j + 1) := by
  unfold as1
  rw [if_pos h0, h]
theorem assA_none {A : AS} {d : Nat} (h : fb (rdA A d) (fun j => nI (A 5 j)) (A 30 0) = none) : ∀ m k, assA d m k A = A
  | 0, _ => rfl
  | m + 1, k => by
    rw [assA_succ, as1_none h]
    exact assA_none h m (k + 1)
theorem fb_rd {A : AS} {d j : Nat} (h : fb (rdA A d) (fun j => nI (A 5 j)) (A 30 0) = some j) : j < A 30 0 ∧ A 0 j = d ∧ A 7 j = 1 := by
  have := fb_lt h
  unfold rdA at this
  simpa using this
theorem Inv_as1 {D d e T : Nat} {su : Nat → Nat → Nat} {A : AS} (hd : d < D) (hD : D ≤ 4) (he : e < su 0 d) (hi : Inv D su T A) : Inv D su T (as1 A d e) := by
  by_cases h0 : A (40 + d) e = 0
  · cases hf : fb (rdA A d) (fun j => nI (A 5 j)) (A 30 0) with
    | none =>
      rw [as1_none hf]
      exact hi
    | some j =>
      rw [as1_some h0 hf]
      have hj := fb_rd hf
      obtain ⟨⟨i1, i2, i3⟩, i4, i5, i6, i7, i8⟩ := hi
      unfold Inv
      simp (disch := omega) only [up_k]
      refine ⟨⟨i1, i2, i3⟩, ?_, i5, ?_, ?_, ?_⟩
      · intro i hi
        have := i4 i hi
        rw [up_at]
        split
        · rename_i q
          rw [q.2] at this ⊢
          omega
        · omega
      · intro d' e' j' hd' he'
        rw [up_at] at he'
        by_cases hq : 40 + d' = 40 + d ∧ e' = e
        · rw [if_pos hq] at he'
          have hjj : j' = j := by omega
          subst hjj
          rw [up_self]
          have : d' = d := by omega
          subst this
          exact ⟨by omega, hj.1, hj.2.1, rfl⟩
        · rw [if_neg hq, up_k (by omega)] at he'
          have h2 := i6 d' e' j' hd' he'
          rw [up_i (by intro q; subst q; omega)]
          exact h2
      · intro d' e1 e2 j' hd' h1 h2
        rw [up_at] at h1 h2
        by_cases hq1 : 40 + d' = 40 + d ∧ e1 = e
        · by_cases hq2 : 40 + d' = 40 + d ∧ e2 = e
          · omega
          · rw [if_pos hq1] at h1
            rw [if_neg hq2, up_k (by omega)] at h2
            have := i6 d' e2 j' hd' h2
            have hjj : j' = j := by omega
            subst hjj
            omega
        · by_cases hq2 : 40 + d' = 40 + d ∧ e2 = e
          · rw [if_pos hq2] at h2
            rw [if_neg hq1, up_k (by omega)] at h1
            have := i6 d' e1 j' hd' h1
            have hjj : j' = j := by omega
            subst hjj
            omega
          · rw [if_neg hq1, up_k (by omega)] at h1
            rw [if_neg hq2, up_k (by omega)] at h2
            exact i7 d' e1 e2 j' hd' h1 h2
      · intro k hk
        have := i8 k hk
        refine ⟨this.1, this.2.trans (cnt_congr (fun i hi => ?_))⟩
        rw [up_at]
        split
        · rename_i q
          rw [q.2, hj.2.2]
          rfl
        · rfl
  · rw [as1_busy h0]
    exact hi
theorem Inv_ass {D d T : Nat} {su : Nat → Nat → Nat} (hd : d < D) (hD : D ≤ 4) : ∀ m k A, k + m ≤ su 0 d → Inv D su T A → Inv D su T (assA d m k A)
  | 0, _, _, _, hi => hi
  | m + 1, k, A, hk, hi => by
    rw [assA_succ]
    exact Inv_ass hd hD m (k + 1) _ (by omega) (Inv_as1 hd hD (by omega) hi)
theorem as_C {r : Int64 × UInt64} {b D d T : Nat} {su : Nat → Nat → Nat} (hb : b ∈ bL) (hB : SUB D su) (hT : T < 2 ^ 29) (hd : d < D) : ∀ m k F C A, k + m = su 0 d → m < F → SUC C D su → RC C b D A → Inv D su T A → ∃ C', lp_X3_assignJobs_2 b (nI d) F (nI k, mw C r) = some (mw C' r) ∧ RC C' b D (assA d m k A) ∧ FC b C C' := by
  have hD := hB.2.1
  have hB2 := hB.2.2 d hd
  intro m
  induction m with
  | zero =>
    intro k F C A hk hF hs h hi
    obtain ⟨F, rfl⟩ := F_succ hF
    have hcs := (hs.2 d hd).1
    refine ⟨C, ?_, h, FC_r⟩
    have hk : k = su 0 d := by omega
    subst hk
    simp (disch := omega) only [lp_X3_assignJobs_2, SB hb, P17, A17, hcs]
    rw [if_pos (Int32.le_refl _)]
  | succ m ih =>
    intro k F C A hk hF hs h hi
    obtain ⟨F, rfl⟩ := F_succ hF
    have hcs := (hs.2 d hd).1
    have hh := h
    have hii := hi
    obtain ⟨⟨h1, h2, h3⟩, h4, h5, h6, h7, h8, h9, h10, h11, h12, h13, h14⟩ := h
    obtain ⟨⟨i1, i2, i3⟩, i4, i5, i6, i7, i8⟩ := hi
    have hcore := h14 d k hd (by omega)
    have hfb : fb (hbit (C (b + 3) d)) (C (b + 9)) (A 30 0) = fb (rdA A d) (fun j => nI (A 5 j)) (A 30 0) := by
      refine fb_congr ?_ ?_
      · intro i hi
        rw [h9 d i hd (by omega)]
        unfold rdA
        simp [hi]
      · intro i hi
        exact h4 i 5 hi (by omega)
    have hg := g_fbd (r := r) (s := C (b + 3) d) hb h1 i1
    rw [hfb] at hg
    simp (disch := omega) only [lp_X3_assignJobs_2, SB hb, SL hb, P17, A17, hcs, nI_m4, nI_add, e_let, nI_1', hg, e_b]
    rw [if_neg (nI_ge (by omega) (by omega)), assA_succ]
    by_cases h0 : C (b + 3) d = 0
    · rw [if_pos h0]
      have hn : fb (rdA A d) (fun j => nI (A 5 j)) (A 30 0) = none := by
        rw [← hfb, h0]
        exact fb_false (fun i _ => hbit_0 i)
      refine ⟨C, rfl, ?_, FC_r⟩
      rw [as1_none hn, assA_none hn]
      exact hh
    · rw [if_neg h0]
      by_cases hc0 : A (40 + d) k = 0
      · cases hf : fb (rdA A d) (fun j => nI (A 5 j)) (A 30 0) with
        | none =>
          exfalso
          apply h0
          apply hbit_zero
          intro i hi
          rw [h9 d i hd hi, decide_eq_false_iff_not]
          rintro ⟨q1, q2, q3⟩
          have := fb_none hf i q1
          unfold rdA at this
          simp [q2, q3] at this
        | some j =>
          have hj := fb_rd hf
          rw [hc0] at hcore
          rw [if_pos (show C (b + 24) (d * 4 + k) = -2 from hcore)]
          simp (disch := omega) only [enc, g_without, e_b, e_bd, SB hb, SL hb]
          have hR := rc_core (e := k) (d := d) (x := j + 1) (by omega) (rc_rdy (d := d) (by omega) hh hj.2.1 hj.2.2)
          rw [show enc (-2) (oA (j + 1)) = nI j from rfl] at hR
          have hFC : FC b C (st (st C (b + 3) d (C (b + 3) d &&& (((1 : Int32) <<< (nI j &&& 31)) ^^^ (-1)))) (b + 24) (d * 4 + k) (nI j)) := FC_t (FC_s (by omega) (by omega)) (FC_s (by omega) (by omega))
          have hI := Inv_as1 (e := k) hd hD (by omega) hii
          rw [as1_some hc0 hf] at hI ⊢
          obtain ⟨C', q1, q2, q3⟩ := ih (k + 1) F _ _ (by omega) (by omega) (SUC_FC (bL_29 b hb) hs hFC) hR hI
          exact ⟨C', q1, q2, FC_t hFC q3⟩
      · have hne : C (b + 24) (d * 4 + k) ≠ -2 := by
          rw [hcore]
          obtain ⟨j, hj⟩ : ∃ j, A (40 + d) k = j + 1 := ⟨A (40 + d) k - 1, by omega⟩
          rw [hj]
          have := i6 d k j hd hj
          exact nI_nm2 (j := j) (by omega)
        rw [if_neg hne, e_bd, as1_busy hc0]
        exact ih (k + 1) F C A (by omega) (by omega) hs hh hii
theorem as_R {r : Int64 × UInt64} {D d T : Nat} {su : Nat → Nat → Nat} (hB : SUB D su) (hT : T < 2 ^ 29) (hd : d < D) : ∀ m k F R A, k + m = su 0 d → m < F → SUR R D su → RR R D A → Inv D su T A → ∃ R', lp_X10_assign_2 336 (nI d) F (nI k, mw R r) = some (mw R' r) ∧ RR R' D (assA d m k A) ∧ F7 R R' := by
  have hD := hB.2.1
  have hB2 := hB.2.2 d hd
  intro m
  induction m with
  | zero =>
    intro k F C A hk hF hs h hi
    obtain ⟨F, rfl⟩ := F_succ hF
    have hcs := (hs.2 d hd).1
    refine ⟨C, ?_, h, F7_r⟩
    have hk : k = su 0 d := by omega
    subst hk
    simp (disch := omega) only [lp_X10_assign_2, PR, AR, hcs]
    rw [if_pos (Int32.le_refl _)]
  | succ m ih =>
    intro k F C A hk hF hs h hi
    obtain ⟨F, rfl⟩ := F_succ hF
    have hcs := (hs.2 d hd).1
    have hh := h
    have hii := hi
    obtain ⟨⟨h1, h2, h3⟩, h4, h5, h6, h7, h8, h9⟩ := h
    obtain ⟨⟨i1, i2, i3⟩, i4, i5, i6, i7, i8⟩ := hi
    have hcore := h9 d k hd (by omega)
    have hfb : fb (fun j => decide (rJ C j 0 = nI d) && decide (rJ C j 7 = 1)) (fun j => rJ C j 5) (A 30 0) = fb (rdA A d) (fun j => nI (A 5 j)) (A 30 0) := by
      refine fb_congr ?_ ?_
      · intro i hi
        have := i4 i hi
        unfold rdA
        rw [h4 i 0 hi (by omega), h4 i 7 hi (by omega), dc_eq (by omega) (by omega), dc_1 (by omega)]
      · intro i hi
        exact h4 i 5 hi (by omega)
    have hg := g_fr (N := C) (r := r) (d := d) h1 i1
    rw [hfb] at hg
    simp (disch := omega) only [lp_X10_assign_2, PR, AR, RO, hcs, e_let, nI_1', hg, e_b]
    rw [if_neg (nI_ge (by omega) (by omega)), assA_succ]
    by_cases hc0 : A (40 + d) k = 0
    · rw [hc0] at hcore
      rw [if_pos (show rD C d (9 + k) = -1 from hcore), e_bd]
      cases hf : fb (rdA A d) (fun j => nI (A 5 j)) (A 30 0) with
      | none =>
        simp only [enc, reduceIte, e_bd]
        rw [as1_none hf]
        exact ih (k + 1) F C A (by omega) (by omega) hs hh hii
      | some j =>
        have hj := fb_rd hf
        have hn := eq_false (nI_nm1 (j := j) (by omega))
        simp (disch := omega) only [enc, hn, reduceIte, RP, RQ, e_bv, e_bd]
        have hR := rr_7 (j := j) (x := 2) hD (by omega) (rr_core (e := k) (d := d) (x := j + 1) (by omega) (by omega) hh)
        rw [show enc (-1) (oA (j + 1)) = nI j from rfl, show nI 2 = 2 from rfl] at hR
        have hsw : up (up A (40 + d) k (j + 1)) 7 j 2 = up (up A 7 j 2) (40 + d) k (j + 1) := by
          funext a i
          simp only [up_at]
          split
          · rw [if_neg (by omega)]
          · rfl
        rw [hsw] at hR
        have hFT : F7 C (sJ (sD C d (9 + k) (nI j)) j 7 2) := F7_t F7_D F7_J
        have hI := Inv_as1 (e := k) hd hD (by omega) hii
        rw [as1_some hc0 hf] at hI ⊢
        obtain ⟨C', q1, q2, q3⟩ := ih (k + 1) F _ _ (by omega) (by omega) (SUR_FT hs (F7_T hFT)) hR hI
        exact ⟨C', q1, q2, F7_t hFT q3⟩
    · have hne : rD C d (9 + k) ≠ -1 := by
        rw [hcore]
        obtain ⟨j, hj⟩ : ∃ j, A (40 + d) k = j + 1 := ⟨A (40 + d) k - 1, by omega⟩
        rw [hj]
        have := i6 d k j hd hj
        exact nI_nm1 (j := j) (by omega)
      rw [if_neg hne, e_bd, if_pos rfl, e_bd, as1_busy hc0]
      exact ih (k + 1) F C A (by omega) (by omega) hs hh hii
