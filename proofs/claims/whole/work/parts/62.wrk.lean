theorem st_st {N : Nat → Nat → Int32} {a k : Nat} {x y : Int32} : st (st N a k x) a k y = st N a k y := by
  funext a' k'
  simp only [st_at]
  split <;> rfl
theorem up_same (A : AS) (k i : Nat) : up A k i (A k i) = A := by
  funext k' i'
  rw [up_at]
  split
  · rename_i q
    rw [q.1, q.2]
  · rfl
theorem up_up {A : AS} {k i x y : Nat} : up (up A k i x) k i y = up A k i y := by
  funext k' i'
  simp only [up_at]
  split <;> rfl
theorem up_comm {A : AS} {k i x k2 i2 y : Nat} (h : k ≠ k2) : up (up A k i x) k2 i2 y = up (up A k2 i2 y) k i x := by
  funext k' i'
  simp only [up_at]
  split
  · rw [if_neg (by omega)]
  · rfl
theorem cnt_set {p q : Nat → Bool} {j : Nat} (hp : p j = false) (hq : q j = true) (h : ∀ i, i ≠ j → q i = p i) : ∀ n, cnt q n = cnt p n + (if j < n then 1 else 0)
  | 0 => rfl
  | n + 1 => by
    have ih := cnt_set hp hq h n
    unfold cnt
    rw [ih]
    by_cases hj : n = j
    · subst hj
      rw [hp, hq, if_neg (by omega), if_pos rfl, if_neg (by decide), if_pos (by omega)]
    · rw [h n hj]
      by_cases h2 : j < n
      · rw [if_pos h2, if_pos (show j < n + 1 by omega)]
        omega
      · rw [if_neg h2, if_neg (show ¬ j < n + 1 by omega)]
        omega
def finA (A : AS) (d e j : Nat) : AS := up (up (up (up (up (up (up A 6 j 0) 7 j 3) 8 j (A 30 1 + 1)) 20 (A 1 j) (esN (A 21 (A 1 j)) (A 20 (A 1 j)) (A 4 j))) 21 (A 1 j) (A 21 (A 1 j) + 1)) (40 + d) e 0) 31 0 (A 31 0 + 1)
def w1 (A : AS) (d f e : Nat) : AS := match oA (A (40 + d) e) with
  | none => A
  | some j => if A 6 j ≤ f then finA A d e j else up A 6 j (A 6 j - f)
def workA (d f : Nat) : Nat → Nat → AS → AS
  | 0, _, A => A
  | m + 1, k, A => workA d f m (k + 1) (w1 A d f k)
theorem workA_succ (d f m k : Nat) (A : AS) : workA d f (m + 1) k A = workA d f m (k + 1) (w1 A d f k) := rfl
theorem w1_none {A : AS} {d f e : Nat} (h : A (40 + d) e = 0) : w1 A d f e = A := by
  unfold w1
  rw [h]
  rfl
theorem w1_fin {A : AS} {d f e j : Nat} (h : A (40 + d) e = j + 1) (hf : A 6 j ≤ f) : w1 A d f e = finA A d e j := by
  unfold w1
  rw [h, oA_s]
  exact if_pos hf
theorem w1_on {A : AS} {d f e j : Nat} (h : A (40 + d) e = j + 1) (hf : ¬ A 6 j ≤ f) : w1 A d f e = up A 6 j (A 6 j - f) := by
  unfold w1
  rw [h, oA_s]
  exact if_neg hf
theorem Inv_w1 {D d e f T : Nat} {su : Nat → Nat → Nat} {A : AS} (hd : d < D) (hi : Inv D su T A) : Inv D su T (w1 A d f e) := by
  have hii := hi
  obtain ⟨⟨i1, i2, i3⟩, i4, i5, i6, i7, i8⟩ := hi
  by_cases h0 : A (40 + d) e = 0
  · rw [w1_none h0]
    exact hii
  · obtain ⟨j, hj⟩ : ∃ j, A (40 + d) e = j + 1 := ⟨A (40 + d) e - 1, by omega⟩
    have hc := i6 d e j hd hj
    have hjj := i4 j hc.2.1
    by_cases hf : A 6 j ≤ f
    · rw [w1_fin hj hf]
      unfold finA Inv
      generalize hk : A 1 j = k
      have hk8 : k < 8 := by omega
      generalize hes : esN (A 21 k) (A 20 k) (A 4 j) = es
      have hes9 : es ≤ 9999 := by
        rw [← hes]
        exact esN_le (i8 k hk8).1 (by omega)
      simp (disch := omega) only [up_k]
      refine ⟨⟨i1, i2, i3⟩, ?_, i5, ?_, ?_, ?_⟩
      · intro i hi
        have := i4 i hi
        simp only [up_at]
        by_cases hq : i = j
        · subst hq
          simp
          omega
        · simp [hq]
          omega
      · intro d' e' j' hd' he'
        rw [up_at] at he'
        by_cases hq : 40 + d' = 40 + d ∧ e' = e
        · rw [if_pos hq] at he'
          omega
        · rw [if_neg hq] at he'
          simp (disch := omega) only [up_k] at he'
          have h2 := i6 d' e' j' hd' he'
          have hne : j' ≠ j := by
            intro q
            subst q
            have hdd : d' = d := by omega
            subst hdd
            have := i7 d' e' e j' hd' he' hj
            omega
          rw [up_i hne]
          exact h2
      · intro d' e1 e2 j' hd' h1 h2
        rw [up_at] at h1 h2
        by_cases hq1 : 40 + d' = 40 + d ∧ e1 = e
        · rw [if_pos hq1] at h1
          omega
        · by_cases hq2 : 40 + d' = 40 + d ∧ e2 = e
          · rw [if_pos hq2] at h2
            omega
          · rw [if_neg hq1] at h1
            rw [if_neg hq2] at h2
            simp (disch := omega) only [up_k] at h1 h2
            exact i7 d' e1 e2 j' hd' h1 h2
      · intro k' hk'
        have h3 := i8 k' hk'
        by_cases hq : k' = k
        · subst hq
          rw [up_self, up_self]
          refine ⟨hes9, ?_⟩
          rw [h3.2, cnt_set (j := j) (q := fun i => decide (up (up A 6 j 0) 7 j 3 7 i = 3) && decide (A 1 i = k')) (p := fun i => decide (A 7 i = 3) && decide (A 1 i = k')) (by simp [hc.2.2.2]) (by simp [up_self, hk]) (fun i hi => by simp [up_at, hi]), if_pos hc.2.1]
        · rw [up_i hq, up_i hq]
          refine ⟨h3.1, h3.2.trans (cnt_congr (fun i hi => ?_))⟩
          by_cases hij : i = j
          · subst hij
            rw [hk]
            simp [Ne.symm hq]
          · rw [up_i hij, up_k (by omega)]
    · rw [w1_on hj hf]
      unfold Inv
      simp (disch := omega) only [up_k]
      refine ⟨⟨i1, i2, i3⟩, ?_, i5, i6, i7, i8⟩
      intro i hi
      have := i4 i hi
      rw [up_at]
      by_cases hq : i = j
      · subst hq
        rw [if_pos ⟨rfl, rfl⟩]
        omega
      · rw [if_neg (fun q => hq q.2)]
        omega
theorem Inv_work {D d f T : Nat} {su : Nat → Nat → Nat} (hd : d < D) : ∀ m k A, Inv D su T A → Inv D su T (workA d f m k A)
  | 0, _, _, hi => hi
  | m + 1, k, A, hi => by
    rw [workA_succ]
    exact Inv_work hd m (k + 1) _ (Inv_w1 hd hi)
theorem w1_k {A : AS} {d f e q i : Nat} (hq : (10 ≤ q ∧ q < 20) ∨ q = 30 ∨ q ≤ 5) : w1 A d f e q i = A q i := by
  by_cases h0 : A (40 + d) e = 0
  · rw [w1_none h0]
  · obtain ⟨j, hj⟩ : ∃ j, A (40 + d) e = j + 1 := ⟨A (40 + d) e - 1, by omega⟩
    by_cases hf : A 6 j ≤ f
    · rw [w1_fin hj hf]
      unfold finA
      simp (disch := omega) only [up_k]
    · rw [w1_on hj hf, up_k (by omega)]
theorem work_k {d f q i : Nat} (hq : (10 ≤ q ∧ q < 20) ∨ q = 30 ∨ q ≤ 5) : ∀ m k A, workA d f m k A q i = A q i
  | 0, _, _ => rfl
  | m + 1, k, A => by
    rw [workA_succ, work_k hq m (k + 1), w1_k hq]
theorem w1_up {A : AS} {d f e q i x : Nat} (hq : 10 ≤ q ∧ q < 20) : w1 (up A q i x) d f e = up (w1 A d f e) q i x := by
  by_cases h0 : A (40 + d) e = 0
  · rw [w1_none h0, w1_none (by rw [up_k (by omega)]; exact h0)]
  · obtain ⟨j, hj⟩ : ∃ j, A (40 + d) e = j + 1 := ⟨A (40 + d) e - 1, by omega⟩
    have hj2 : up A q i x (40 + d) e = j + 1 := by rw [up_k (by omega)]; exact hj
    by_cases hf : A 6 j ≤ f
    · rw [w1_fin hj hf, w1_fin hj2 (by rw [up_k (by omega)]; exact hf)]
      unfold finA
      simp (disch := omega) only [up_k]
      funext a s
      simp only [up_at]
      by_cases ha : a = q ∧ s = i
      · rw [if_pos ha]
        repeat rw [if_neg (by omega)]
        rw [if_pos ha]
      · rw [if_neg ha, if_neg ha]
    · rw [w1_on hj hf, w1_on hj2 (by rw [up_k (by omega)]; exact hf), up_k (by omega), up_comm (by omega)]
theorem work_up {d f q i x : Nat} (hq : 10 ≤ q ∧ q < 20) : ∀ m k A, workA d f m k (up A q i x) = up (workA d f m k A) q i x
  | 0, _, _ => rfl
  | m + 1, k, A => by
    rw [workA_succ, workA_succ, w1_up hq, work_up hq m (k + 1)]
theorem wk_C {r : Int64 × UInt64} {b D d f T : Nat} {su : Nat → Nat → Nat} (hb : b ∈ bL) (hB : SUB D su) (hT : T < 2 ^ 29) (hd : d < D) (hf : f ≤ 999) : ∀ m k F C A v, k + m = su 0 d → m < F → SUC C D su → RC C b D A → Inv D su T A → ∃ C' n, lp_X3_workOnJobs_5 b (nI d) (nI f) F (nI v, nI k, mw C r) = some (nI (v + n), mw C' r) ∧ RC C' b D (workA d f m k A) ∧ FC b C C' ∧ workA d f m k A 31 0 = A 31 0 + n := by
  have hD := hB.2.1
  have hB2 := hB.2.2 d hd
  intro m
  induction m with
  | zero =>
    intro k F C A v hk hF hs h hi
    obtain ⟨F, rfl⟩ := F_succ hF
    have hcs := (hs.2 d hd).1
    refine ⟨C, 0, ?_, h, FC_r, rfl⟩
    have hk : k = su 0 d := by omega
    subst hk
    simp (disch := omega) only [lp_X3_workOnJobs_5, SB hb, P17, A17, hcs]
    rw [if_pos (Int32.le_refl _)]
    rfl
  | succ m ih =>
    intro k F C A v hk hF hs h hi
    obtain ⟨F, rfl⟩ := F_succ hF
    have hcs := (hs.2 d hd).1
    have hh := h
    have hI := Inv_w1 (e := k) (f := f) hd hi
    obtain ⟨⟨h1, h2, h3⟩, h4, h5, h6, h7, h8, h9, h10, h11, h12, h13, h14⟩ := h
    obtain ⟨⟨i1, i2, i3⟩, i4, i5, i6, i7, i8⟩ := hi
    have hcore := h14 d k hd (by omega)
    simp (disch := omega) only [lp_X3_workOnJobs_5, SB hb, SL hb, P17, A17, hcs, nI_m4, nI_add, e_let, nI_1', hcore]
    rw [if_neg (nI_ge (by omega) (by omega)), workA_succ]
    by_cases h0 : A (40 + d) k = 0
    · rw [h0, oA_0]
      simp only [enc, g_has0 hb, e_b, reduceIte, e_bd]
      rw [w1_none h0] at hI ⊢
      exact ih (k + 1) F C A v (by omega) (by omega) hs hh hI
    · obtain ⟨j, hj⟩ : ∃ j, A (40 + d) k = j + 1 := ⟨A (40 + d) k - 1, by omega⟩
      have hc := i6 d k j hd hj
      have hjj := i4 j hc.2.1
      have h6j : C (b + 10) j = nI (A 6 j) := h4 j 6 hc.2.1 (by omega)
      have h1j : C (b + 5) j = nI (A 1 j) := h4 j 1 hc.2.1 (by omega)
      have h4j : C (b + 8) j = nI (A 4 j) := h4 j 4 hc.2.1 (by omega)
      rw [hj, oA_s]
      simp (disch := omega) only [enc, g_has hb h1 i1 hc.2.1, e_b, i10, reduceIte, SB hb, SL hb, h6j, st_self]
      by_cases hle : A 6 j ≤ f
      · have hn : ¬ (0 : Int32) < nI (A 6 j) - nI f := by
          rw [Int32.lt_iff_toInt_lt, pk_sub_toInt (by omega) (by omega)]
          show ¬ (0 : Int) < _
          omega
        rw [if_neg hn]
        have hfin : ∃ M, f_X1_finish (b + 1) (nI j) (nI (A 30 1 + 1)) (mw (st C (b + 10) j (nI (A 6 j) - nI f)) r) = some (mw M r) ∧ RC M b D (up (up (up (up (up A 6 j 0) 7 j 3) 8 j (A 30 1 + 1)) 20 (A 1 j) (esN (A 21 (A 1 j)) (A 20 (A 1 j)) (A 4 j))) 21 (A 1 j) (A 21 (A 1 j) + 1)) ∧ FC b C M := by
          have hk8 : A 1 j < 8 := by omega
          have h21 : A 21 (A 1 j) < 2 ^ 31 := by
            rw [(i8 _ hk8).2]
            exact Nat.lt_of_le_of_lt (cnt_le _ _) (by omega)
          have q1 := g_finC (N := st C (b + 10) j (nI (A 6 j) - nI f)) (r := r) (b := b) (j := j) (k := A 1 j) (x := nI (A 30 1 + 1)) hb (by omega) (by rw [st_cell (by omega)]; exact h1j) hk8
          simp (disch := omega) only [st_cell, h10 (A 1 j) hk8, h11 (A 1 j) hk8, h4j, nI_p1, esA_nI h21 (i8 (A 1 j) hk8).1 (show A 4 j ≤ 9999 by omega)] at q1
          rw [st_st] at q1
          refine ⟨_, q1, ?_, ?_⟩
          · have q2 := rc_dk (k := A 1 j) (x := A 21 (A 1 j) + 1) (rc_es (k := A 1 j) (x := esN (A 21 (A 1 j)) (A 20 (A 1 j)) (A 4 j)) (rc_end (x := A 30 1 + 1) (j := j) (s := C (b + 1) 1) (by omega) (rc_6 (j := j) (x := 0) hh) (by rw [up_k (by omega)]; exact hc.2.1) (by rw [up_k (by omega)]; exact hc.2.2.2) (by rw [st_cell (by omega)])))
            exact q2
          · exact FC_t (FC_t (FC_t (FC_t (FC_s (by omega) (by omega)) (FC_s (by omega) (by omega))) (FC_s (by omega) (by omega))) (FC_s (by omega) (by omega))) (FC_s (by omega) (by omega))
        obtain ⟨M, hM, hRM, hFM⟩ := hfin
        simp (disch := omega) only [SB hb, SL hb, mw_1, st_cell, h2, nI_p1, hM, e_bv, e_let, nI_1', e_bd]
        have hR := rc_gh (x := A 31 0 + 1) (rc_core (e := k) (d := d) (x := 0) (by omega) hRM)
        rw [show enc (-2) (oA 0) = -2 from rfl] at hR
        have hFC : FC b C (st M (b + 24) (d * 4 + k) (-2)) := FC_t hFM (FC_s (by omega) (by omega))
        rw [w1_fin hj hle] at hI ⊢
        obtain ⟨C', n, q1, q2, q3, q4⟩ := ih (k + 1) F _ _ (v + 1) (by omega) (by omega) (SUC_FC (bL_29 b hb) hs hFC) hR hI
        refine ⟨C', 1 + n, ?_, q2, FC_t hFC q3, ?_⟩
        · rw [← Nat.add_assoc]
          exact q1
        · rw [← Nat.add_assoc]
          exact q4.trans (by rw [up_self])
      · have hn : (0 : Int32) < nI (A 6 j) - nI f := by
          rw [pk_sub (by omega)]
          exact nI_lt (a := 0) (by omega) (by omega)
        rw [if_pos hn, e_bd, pk_sub (by omega)]
        have hR := rc_6 (j := j) (x := A 6 j - f) hh
        have hFC : FC b C (st C (b + 10) j (nI (A 6 j - f))) := FC_s (by omega) (by omega)
        rw [w1_on hj hle] at hI ⊢
        obtain ⟨C', n, q1, q2, q3, q4⟩ := ih (k + 1) F _ _ v (by omega) (by omega) (SUC_FC (bL_29 b hb) hs hFC) hR hI
        exact ⟨C', n, q1, q2, FC_t hFC q3, q4⟩
theorem wk_R {r : Int64 × UInt64} {D d f l T : Nat} {x4 x5 : Int32} {su : Nat → Nat → Nat} (hB : SUB D su) (hT : T < 2 ^ 29) (hd : d < D) (hl : l < su 1 d) (hf : su 7 (5 * d + l) = f) : ∀ m k F R A, k + m = su 0 d → m < F → SUR R D su → RR R D A → Inv D su T A → R 336 29 = 0 → ∃ R' n, lp_X10_work_55 336 (nI d) (nI l) x4 x5 F (nI k, mw R r) = some (mw R' r) ∧ RR R' D (workA d f m k A) ∧ FT R R' ∧ R' 336 29 = 0 ∧ R' 336 30 = R 336 30 ∧ R' 336 31 = R 336 31 + nI n ∧ workA d f m k A 31 0 = A 31 0 + n := by
  have hD := hB.2.1
  have hB2 := hB.2.2 d hd
  have hf9 : f ≤ 999 := by
    rw [← hf]
    exact (hB2.2.2.2.2.2.2.2.2.2.2 l hl).2.1
  intro m
  induction m with
  | zero =>
    intro k F R A hk hF hs h hi h29
    obtain ⟨F, rfl⟩ := F_succ hF
    have hcs := (hs.2 d hd).1
    refine ⟨R, 0, ?_, h, FT_r, h29, rfl, ?_, rfl⟩
    · have hk : k = su 0 d := by omega
      subst hk
      simp (disch := omega) only [lp_X10_work_55, PR, AR, hcs]
      rw [if_pos (Int32.le_refl _)]
    · rw [nI_0]
      exact (Int32.add_zero _).symm
  | succ m ih =>
    intro k F R A hk hF hs h hi h29
    obtain ⟨F, rfl⟩ := F_succ hF
    have hcs := (hs.2 d hd).1
    have hfr : R 346 (5 * d + l) = nI f := by
      rw [← hf]
      exact ((hs.2 d hd).2.2.2.2.2.2.2 l hl).1
    have hh := h
    have hI := Inv_w1 (e := k) (f := f) hd hi
    obtain ⟨⟨h1, h2, h3⟩, h4, h5, h6, h7, h8, h9⟩ := h
    obtain ⟨⟨i1, i2, i3⟩, i4, i5, i6, i7, i8⟩ := hi
    have hcore := h9 d k hd (by omega)
    simp (disch := omega) only [lp_X10_work_55, PR, AR, RO, hcs, e_let, nI_1', e_b, hcore, mw_1, h29, reduceIte]
    rw [if_neg (nI_ge (by omega) (by omega)), workA_succ]
    by_cases h0 : A (40 + d) k = 0
    · rw [h0, oA_0]
      simp only [enc, reduceIte, e_bd]
      rw [w1_none h0] at hI ⊢
      exact ih (k + 1) F R A (by omega) (by omega) hs hh hI h29
    · obtain ⟨j, hj⟩ : ∃ j, A (40 + d) k = j + 1 := ⟨A (40 + d) k - 1, by omega⟩
      have hc := i6 d k j hd hj
      have hjj := i4 j hc.2.1
      have h6j : rJ R j 6 = nI (A 6 j) := h4 j 6 hc.2.1 (by omega)
      have h1j : rJ R j 1 = nI (A 1 j) := h4 j 1 hc.2.1 (by omega)
      have h4j : rJ R j 4 = nI (A 4 j) := h4 j 4 hc.2.1 (by omega)
      have hn1 := eq_false (nI_nm1 (j := j) (by omega))
      have e6 : ∀ x, rJ (sJ R j 6 x) j 6 = x := fun x => by rw [rJ_J (by omega) (by omega), if_pos ⟨rfl, rfl⟩]
      rw [hj, oA_s]
      simp (disch := omega) only [enc, hn1, e_b, e_bv, reduceIte, PR, AR, RJ, RQ, h6j, nI_5m, nI_add, hfr, e6]
      by_cases hle : A 6 j ≤ f
      · have hn : ¬ (0 : Int32) < nI (A 6 j) - nI f := by
          rw [Int32.lt_iff_toInt_lt, pk_sub_toInt (by omega) (by omega)]
          show ¬ (0 : Int) < _
          omega
        rw [if_neg hn]
        have hk8 : A 1 j < 8 := by omega
        have h21 : A 21 (A 1 j) < 2 ^ 31 := by
          rw [(i8 _ hk8).2]
          exact Nat.lt_of_le_of_lt (cnt_le _ _) (by omega)
        have hfin : ∃ M, f_X10_finish 336 (nI d) (nI k) (nI j) (mw (sJ R j 6 (nI (A 6 j) - nI f)) r) = some (mw M r) ∧ RR M D (finA A d k j) ∧ FT R M ∧ M 336 29 = 0 ∧ M 336 30 = R 336 30 ∧ M 336 31 = R 336 31 + 1 := by
          have q1 := g_finR (N := sJ R j 6 (nI (A 6 j) - nI f)) (r := r) (d := d) (e := k) (j := j) (k := A 1 j) (by omega) (by omega) (by omega) (by rw [rJ_J (by omega) (by omega), if_neg (by omega)]; exact h1j) hk8
          have e4 : rJ (sJ R j 6 (nI (A 6 j) - nI f)) j 4 = nI (A 4 j) := by rw [rJ_J (by omega) (by omega), if_neg (by omega)]; exact h4j
          simp (disch := omega) only [rL_J, sJ_c, h2, e4, h6 (A 1 j) hk8, h7 (A 1 j) hk8, nI_p1, esA_nI h21 (i8 (A 1 j) hk8).1 (show A 4 j ≤ 9999 by omega)] at q1
          have hsw : sJ (sD (sJ R j 6 (nI (A 6 j) - nI f)) d (9 + k) (-1)) j 6 0 = sJ (sD R d (9 + k) (-1)) j 6 0 := by
            funext a i
            unfold sJ sD
            simp only [st_at]
            split
            · rfl
            · rfl
          rw [hsw] at q1
          refine ⟨_, q1, ?_, ?_, ?_, ?_, ?_⟩
          · have q2 := rr_gh (q := 31) (s := 0) (x := A 31 0 + 1) (.inl rfl) (rr_low (i := 11 + A 1 j) (q := 21) (s := A 1 j) (x := A 21 (A 1 j) + 1) (by omega) (rr_low (i := 3 + A 1 j) (q := 20) (s := A 1 j) (x := esN (A 21 (A 1 j)) (A 20 (A 1 j)) (A 4 j)) (by omega) (RR_336 (k := 31) (x := R 336 31 + 1) (rr_end (x := A 30 1 + 1) (j := j) hD (rr_J (k := 6) (j := j) (x := 0) hD (by omega) (rr_core (e := k) (d := d) (x := 0) (by omega) (by omega) hh))))))
            have hfa : finA A d k j = up (up (up (up (up (up (up A (40 + d) k 0) 6 j 0) 7 j 3) 8 j (A 30 1 + 1)) 20 (A 1 j) (esN (A 21 (A 1 j)) (A 20 (A 1 j)) (A 4 j))) 21 (A 1 j) (A 21 (A 1 j) + 1)) 31 0 (A 31 0 + 1) := by
              unfold finA
              rw [up_comm (k := 21) (by omega), up_comm (k := 20) (by omega), up_comm (k := 8) (by omega), up_comm (k := 7) (by omega), up_comm (k := 6) (by omega)]
            rw [hfa]
            exact q2
          · exact FT_t (FT_t (FT_t (FT_t (FT_t (FT_t FT_D FT_J) FT_J) FT_J) (FT_6 (by omega))) FT_s) FT_s
          · simp (disch := omega) only [st_cell, st_slot, sJ_c, sD_c, h29]
          · simp (disch := omega) only [st_cell, st_slot, sJ_c, sD_c]
          · simp (disch := omega) only [st_cell, st_self, sJ_c, sD_c]
        obtain ⟨M, hM, hRM, hFM, hM29, hM30, hM31⟩ := hfin
        simp only [hM, e_bv, e_bd]
        rw [w1_fin hj hle] at hI ⊢
        obtain ⟨R', n, q1, q2, q3, q4, q5, q6, q7⟩ := ih (k + 1) F _ _ (by omega) (by omega) (SUR_FT hs hFM) hRM hI hM29
        refine ⟨R', 1 + n, q1, q2, FT_t hFM q3, q4, q5.trans hM30, ?_, ?_⟩
        · rw [q6, hM31, Int32.add_assoc]
          exact congrArg (R 336 31 + ·) (nI_add 1 n)
        · rw [← Nat.add_assoc]
          exact q7.trans (by unfold finA; rw [up_self])
      · have hn : (0 : Int32) < nI (A 6 j) - nI f := by
          rw [pk_sub (by omega)]
          exact nI_lt (a := 0) (by omega) (by omega)
        rw [if_pos hn, e_bd, pk_sub (by omega)]
        have hR := rr_J (k := 6) (j := j) (x := A 6 j - f) hD (by omega) hh
        rw [w1_on hj hle] at hI ⊢
        have e29 : ∀ i, sJ R j 6 (nI (A 6 j - f)) 336 i = R 336 i := fun i => by rw [sJ_c (by omega)]
        obtain ⟨R', n, q1, q2, q3, q4, q5, q6, q7⟩ := ih (k + 1) F _ _ (by omega) (by omega) (SUR_FT hs FT_J) hR hI (by rw [e29]; exact h29)
        rw [e29] at q5 q6
        exact ⟨R', n, q1, q2, FT_t FT_J q3, q4, q5, q6, q7⟩
