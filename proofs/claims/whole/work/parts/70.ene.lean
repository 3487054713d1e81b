def smA (f : Nat → Nat) : Nat → Nat
  | 0 => 0
  | n + 1 => smA f n + f n
theorem smA_congr {f g : Nat → Nat} : ∀ {n : Nat}, (∀ i, i < n → f i = g i) → smA f n = smA g n
  | 0, _ => rfl
  | n + 1, h => by
    unfold smA
    rw [smA_congr (n := n) (fun i hi => h i (by omega)), h n (by omega)]
theorem smA_set {f g : Nat → Nat} {j : Nat} (h : ∀ i, i ≠ j → g i = f i) : ∀ {n : Nat}, j < n → smA g n + f j = smA f n + g j
  | 0, hj => by omega
  | n + 1, hj => by
    unfold smA
    by_cases hq : j = n
    · subst hq
      rw [smA_congr (n := j) (f := g) (g := f) (fun i hi => h i (by omega))]
      omega
    · have := smA_set h (n := n) (by omega)
      rw [h n (fun q => hq q.symm)]
      omega
theorem smA_le {f : Nat → Nat} {M : Nat} : ∀ {n : Nat}, (∀ i, i < n → f i ≤ M) → smA f n ≤ M * n
  | 0, _ => Nat.le_refl _
  | n + 1, h => by
    unfold smA
    have := smA_le (n := n) (fun i hi => h i (by omega))
    have := h n (by omega)
    rw [Nat.mul_add]
    omega
def nbA (p : Nat → Bool) : Nat → Nat → Nat
  | 0, _ => 0
  | m + 1, k => (if p k = true then 1 else 0) + nbA p m (k + 1)
theorem nbA_succ (p : Nat → Bool) (m k : Nat) : nbA p (m + 1) k = (if p k = true then 1 else 0) + nbA p m (k + 1) := rfl
theorem nbA_cnt (p : Nat → Bool) : ∀ m k, cnt p (k + m) = cnt p k + nbA p m k
  | 0, k => rfl
  | m + 1, k => by
    have h := nbA_cnt p m (k + 1)
    rw [show k + (m + 1) = k + 1 + m by omega, h]
    rw [nbA_succ, cnt]
    omega
theorem nbA_congr {p q : Nat → Bool} : ∀ m k, (∀ i, k ≤ i → p i = q i) → nbA p m k = nbA q m k
  | 0, _, _ => rfl
  | m + 1, k, h => by
    unfold nbA
    rw [h k (by omega), nbA_congr m (k + 1) (fun i hi => h i (by omega))]
theorem w1_o {A : AS} {d f e e' : Nat} (h : e' ≠ e) : w1 A d f e (40 + d) e' = A (40 + d) e' := by
  by_cases h0 : A (40 + d) e = 0
  · rw [w1_none h0]
  · obtain ⟨j, hj⟩ : ∃ j, A (40 + d) e = j + 1 := ⟨A (40 + d) e - 1, by omega⟩
    by_cases hf : A 6 j ≤ f
    · rw [w1_fin hj hf]
      unfold finA
      rw [up_k (by omega), up_i h]
      simp (disch := omega) only [up_k]
    · rw [w1_on hj hf, up_k (by omega)]
theorem w1_sum {D d e f T : Nat} {su : Nat → Nat → Nat} {A : AS} (hd : d < D) (hf1 : 1 ≤ f) (hi : Inv D su T A) : smA (w1 A d f e 6) (A 30 0) + (if (coA A d e).isSome = true then 1 else 0) ≤ smA (A 6) (A 30 0) := by
  obtain ⟨⟨i1, i2, i3⟩, i4, i5, i6, i7, i8⟩ := hi
  unfold coA
  by_cases h0 : A (40 + d) e = 0
  · rw [w1_none h0, h0]
    exact Nat.le_refl _
  · obtain ⟨j, hj⟩ : ∃ j, A (40 + d) e = j + 1 := ⟨A (40 + d) e - 1, by omega⟩
    have hc := i6 d e j hd hj
    have hjj := i4 j hc.2.1
    rw [hj, oA_s, if_pos (show (some j).isSome = true from rfl)]
    by_cases hf : A 6 j ≤ f
    · rw [w1_fin hj hf]
      have := smA_set (f := A 6) (g := finA A d e j 6) (j := j) (fun i hi => by
        unfold finA
        simp (disch := omega) only [up_k]
        rw [up_i hi]) hc.2.1
      have e6 : finA A d e j 6 j = 0 := by
        unfold finA
        simp (disch := omega) only [up_k, up_self]
      omega
    · rw [w1_on hj hf]
      have := smA_set (f := A 6) (g := up A 6 j (A 6 j - f) 6) (j := j) (fun i hi => up_i hi) hc.2.1
      rw [up_self] at this
      omega
theorem work_sum {D d f T : Nat} {su : Nat → Nat → Nat} (hd : d < D) (hf1 : 1 ≤ f) : ∀ m k A, Inv D su T A → smA (workA d f m k A 6) (A 30 0) + nbA (fun e => (coA A d e).isSome) m k ≤ smA (A 6) (A 30 0)
  | 0, _, _, _ => Nat.le_refl _
  | m + 1, k, A, hi => by
    have h1 := work_sum hd hf1 m (k + 1) (w1 A d f k) (Inv_w1 hd hi)
    have h2 := w1_sum (e := k) hd hf1 hi
    have e1 : w1 A d f k 30 0 = A 30 0 := w1_k (by omega)
    rw [e1, nbA_congr (q := fun e => (coA A d e).isSome) m (k + 1) (fun i hi => by unfold coA; rw [w1_o (by omega)])] at h1
    rw [workA_succ, nbA_succ]
    omega
/-- what a domain's step costs -/
theorem run_ene {D d T : Nat} {su : Nat → Nat → Nat} {A : AS} (hB : SUB D su) (hd : d < D) (hi : Inv D su T A) : runA su A d 14 d + 999 * smA (runA su A d 6) (A 30 0) ≤ A 14 d + 999 * smA (A 6) (A 30 0) + 396 := by
  have hB2 := hB.2.2 d hd
  have hl1 := l1N_lt (A := A) hB hd
  have hl2 := l2N_le (su := su) (A := A) (d := d)
  have hz4 := bzA_le (coA A d) (su 0 d)
  have hB3 := hB2.2.2.2.2.2.2.2.2.2.2 (l2N su A d) (by omega)
  have e14 : runA su A d 14 d = A 14 d + pwN su d (bzA (coA A d) (su 0 d)) (l2N su A d) (haN su A d) := by
    rw [runA_jb, jbA_k (by omega)]
    unfold tlA thA
    simp (disch := omega) only [up_k, up_self]
  rw [e14, runA_jb]
  have hI : Inv D su T (tlA su (thA A d (decide (l2N su A d < l1N su A d)) (haN su A d)) d (bzA (coA A d) (su 0 d)) (l2N su A d) (haN su A d)) := Inv_tl hB hd hz4 (by omega) (Inv_th hi)
  have e6 : tlA su (thA A d (decide (l2N su A d < l1N su A d)) (haN su A d)) d (bzA (coA A d) (su 0 d)) (l2N su A d) (haN su A d) 6 = A 6 := by
    funext i
    unfold tlA thA
    simp (disch := omega) only [up_k]
  have e30 : tlA su (thA A d (decide (l2N su A d < l1N su A d)) (haN su A d)) d (bzA (coA A d) (su 0 d)) (l2N su A d) (haN su A d) 30 0 = A 30 0 := by
    unfold tlA thA
    simp (disch := omega) only [up_k]
  have eco : coA (tlA su (thA A d (decide (l2N su A d < l1N su A d)) (haN su A d)) d (bzA (coA A d) (su 0 d)) (l2N su A d) (haN su A d)) d = coA A d := by
    unfold tlA thA
    simp (disch := omega) only [coA_up]
  have hw := work_sum (f := su 7 (5 * d + l2N su A d)) hd hB3.1 (su 0 d) 0 _ hI
  rw [e6, e30, eco] at hw
  have hcn := nbA_cnt (fun e => (coA A d e).isSome) (su 0 d) 0
  rw [Nat.zero_add] at hcn
  have hbz : bzA (coA A d) (su 0 d) = nbA (fun e => (coA A d e).isSome) (su 0 d) 0 := by
    unfold bzA
    rw [hcn]
    show 0 + _ = _
    omega
  rw [← hbz] at hw
  unfold jbA pwN
  split
  · rw [e6]
    have := powN_le (n := 0) (p := 0) (c := su 0 d) (i := su 4 d) (by omega) (by omega) (by omega) (by omega)
    omega
  · have := powN_le (n := bzA (coA A d) (su 0 d)) (p := su 8 (5 * d + l2N su A d)) (c := su 0 d) (i := su 4 d) hz4 (by omega) hB3.2.2 (by omega)
    omega
theorem as1_6 {A : AS} {d e i : Nat} : as1 A d e 6 i = A 6 i := as1_k (by omega) (by omega)
theorem ds_ene {D d T : Nat} {su : Nat → Nat → Nat} {A : AS} (hB : SUB D su) (hd : d < D) (hi : Inv D su T A) : smA (dsA su A d 14) D + 999 * smA (dsA su A d 6) (A 30 0) ≤ smA (A 14) D + 999 * smA (A 6) (A 30 0) + 396 := by
  have h1 := run_ene hB hd (Inv_sta hd hB.2.1 hi)
  have e6 : staA A d (su 0 d) 6 = A 6 := by
    funext i
    exact sta_k (by omega) (by omega) (by omega) (by omega)
  have e14 : staA A d (su 0 d) 14 d = A 14 d := sta_k (by omega) (by omega) (by omega) (by omega)
  have e30 : staA A d (su 0 d) 30 0 = A 30 0 := sta_k (by omega) (by omega) (by omega) (by omega)
  rw [e6, e14, e30] at h1
  have h2 := smA_set (f := A 14) (g := dsA su A d 14) (j := d) (fun i hi => ds_k (by omega)) hd
  have h3 : dsA su A d 14 d = runA su (staA A d (su 0 d)) d 14 d := rfl
  have h4 : dsA su A d 6 = runA su (staA A d (su 0 d)) d 6 := rfl
  rw [h3] at h2
  rw [h4]
  omega
theorem dt_ene {D T : Nat} {su : Nat → Nat → Nat} (hB : SUB D su) : ∀ m k A, k + m ≤ D → Inv D su T A → smA (dtA su m k A 14) D + 999 * smA (dtA su m k A 6) (A 30 0) ≤ smA (A 14) D + 999 * smA (A 6) (A 30 0) + 396 * m
  | 0, _, _, _, _ => Nat.le_refl _
  | m + 1, k, A, hk, hi => by
    have h1 := dt_ene hB m (k + 1) (dsA su A k) (by omega) (Inv_ds hB (by omega) hi)
    have h2 := ds_ene hB (show k < D by omega) hi
    have e30 : dsA su A k 30 0 = A 30 0 := ds_k (by omega)
    rw [e30] at h1
    rw [dtA_succ]
    omega
def IE (D : Nat) (A : AS) : Prop := smA (A 14) D + 999 * smA (A 6) (A 30 0) ≤ 1584 * A 30 1 + 9989001 * A 30 0
theorem tick_c {su : Nat → Nat → Nat} {D : Nat} {A : AS} : tickA su D A 30 0 = A 30 0 := by
  unfold tickA
  rw [up_i (by omega), dt_k _ _ _ (by omega)]
theorem tick_T {su : Nat → Nat → Nat} {D : Nat} {A : AS} : tickA su D A 30 1 = A 30 1 + 1 := by
  unfold tickA
  rw [up_self, dt_k _ _ _ (by omega)]
theorem IE_tick {D T : Nat} {su : Nat → Nat → Nat} {A : AS} (hB : SUB D su) (hi : Inv D su T A) (h : IE D A) : IE D (tickA su D A) := by
  have h1 := dt_ene hB D 0 A (by omega) hi
  have e14 : tickA su D A 14 = dtA su D 0 A 14 := by
    funext i
    unfold tickA
    rw [up_k (by omega)]
  have e6 : tickA su D A 6 = dtA su D 0 A 6 := by
    funext i
    unfold tickA
    rw [up_k (by omega)]
  have hD := hB.2.1
  unfold IE at h ⊢
  rw [tick_c, tick_T, e14, e6]
  omega
/-- throttles and halts -/
theorem run_th {su : Nat → Nat → Nat} {A : AS} {d : Nat} : runA su A d 16 d = A 16 d + bN (decide (l2N su A d < l1N su A d)) ∧ runA su A d 17 d = A 17 d + bN (haN su A d) := by
  rw [runA_jb, jbA_k (by omega), jbA_k (by omega)]
  unfold tlA thA
  simp (disch := omega) only [up_k, up_self, and_self]
theorem bN_le (x : Bool) : bN x ≤ 1 := by cases x <;> decide
theorem ds_th {su : Nat → Nat → Nat} {A : AS} {d q : Nat} (hq : q = 16 ∨ q = 17) : A q d ≤ dsA su A d q d ∧ dsA su A d q d ≤ A q d + 1 := by
  have h := run_th (su := su) (A := staA A d (su 0 d)) (d := d)
  have b1 := bN_le (decide (l2N su (staA A d (su 0 d)) d < l1N su (staA A d (su 0 d)) d))
  have b2 := bN_le (haN su (staA A d (su 0 d)) d)
  have e : ∀ q, (q = 16 ∨ q = 17) → staA A d (su 0 d) q d = A q d := fun q hq => sta_k (by omega) (by omega) (by omega) (by omega)
  rw [e 16 (by omega), e 17 (by omega)] at h
  unfold dsA
  rcases hq with rfl | rfl
  · rw [h.1]
    omega
  · rw [h.2]
    omega
theorem dt_th {su : Nat → Nat → Nat} {q d : Nat} (hq : q = 16 ∨ q = 17) : ∀ m k A, A q d ≤ dtA su m k A q d ∧ dtA su m k A q d ≤ A q d + 1
  | 0, _, _ => ⟨Nat.le_refl _, Nat.le_succ _⟩
  | m + 1, k, A => by
    rw [dtA_succ]
    by_cases hd : d = k
    · subst hd
      rw [dt_k m (d + 1) _ (by omega)]
      exact ds_th hq
    · have h := dt_th (su := su) (d := d) hq m (k + 1) (dsA su A k)
      rw [ds_k (by omega)] at h
      exact h
theorem tick_th {su : Nat → Nat → Nat} {D q d : Nat} {A : AS} (hq : q = 16 ∨ q = 17) : A q d ≤ tickA su D A q d ∧ tickA su D A q d ≤ A q d + 1 := by
  unfold tickA
  rw [up_k (by omega)]
  exact dt_th hq D 0 A
theorem tick_lo {su : Nat → Nat → Nat} {D q i : Nat} {A : AS} (hq : q ≤ 5 ∨ q = 10 ∨ q = 11) : tickA su D A q i = A q i := by
  unfold tickA
  rw [up_k (by omega), dt_k _ _ _ (by omega)]
def InvX (D : Nat) (su : Nat → Nat → Nat) (T : Nat) (A : AS) : Prop := Inv D su T A ∧ IE D A ∧ (∀ d, d < D → A 16 d ≤ T ∧ A 17 d ≤ T)
theorem InvX_tick {D T : Nat} {su : Nat → Nat → Nat} {A : AS} (hB : SUB D su) (h : InvX D su T A) : InvX D su (T + 1) (tickA su D A) := by
  refine ⟨Inv_tick hB h.1, IE_tick hB h.1 h.2.1, ?_⟩
  intro d hd
  have := h.2.2 d hd
  have h1 := tick_th (su := su) (D := D) (A := A) (d := d) (q := 16) (by omega)
  have h2 := tick_th (su := su) (D := D) (A := A) (d := d) (q := 17) (by omega)
  omega
theorem InvX_mono {D T T' : Nat} {su : Nat → Nat → Nat} {A : AS} (h : T ≤ T') (hi : InvX D su T A) : InvX D su T' A := ⟨Inv_mono h hi.1, hi.2.1, fun d hd => by have := hi.2.2 d hd; omega⟩
