def quP (A : AS) (d j : Nat) : Bool := decide (A 0 j = d) && decide (A 7 j ≤ 1)
def lxP (A : AS) (o j : Nat) : Bool := decide (A 5 o < A 5 j) || (decide (A 5 o = A 5 j) && decide (o < j))
def ahA (A : AS) (d j : Nat) : Nat := cnt (fun o => quP A d o && lxP A o j) (A 30 0)
theorem lxP_iff {A : AS} {o j : Nat} : lxP A o j = true ↔ (A 5 o < A 5 j ∨ (A 5 o = A 5 j ∧ o < j)) := by
  unfold lxP
  simp
/-- the first by deadline is before all others -/
theorem fb_lex {A : AS} {p : Nat → Bool} {T D : Nat} {su : Nat → Nat → Nat} (hT : T < 2 ^ 28) (hi : Inv D su T A) : ∀ {n f : Nat}, n ≤ A 30 0 → fb p (fun j => nI (A 5 j)) n = some f → ∀ j, j < n → p j = true → j = f ∨ lxP A f j = true
  | 0, _, _, _, _, hj, _ => by omega
  | n + 1, f, hn, h, j, hj, hp => by
    rw [fb_succ] at h
    have hb : ∀ j, j < A 30 0 → A 5 j < 2 ^ 30 := fun j hj => by
      have := hi.2.1 j hj
      omega
    cases h0 : fb p (fun j => nI (A 5 j)) n with
    | none =>
      rw [h0] at h
      dsimp only at h
      have hnn := fb_none h0
      by_cases hq : j = n
      · subst hq
        rw [if_pos hp] at h
        cases h
        exact .inl rfl
      · rw [hnn j (by omega)] at hp
        cases hp
    | some g =>
      rw [h0] at h
      dsimp only at h
      have hm := fb_lex hT hi (by omega) h0
      have hg := fb_lt h0
      have b1 := hb n (by omega)
      have b2 := hb g (by omega)
      split at h
      · rename_i hq
        cases h
        have hlt : A 5 n < A 5 g := by
          have := hq.2
          rw [nI_leI (by omega) (by omega)] at this
          omega
        by_cases hj2 : j = n
        · exact .inl hj2
        · rcases hm j (by omega) hp with q | q
          · subst q
            exact .inr (lxP_iff.mpr (.inl hlt))
          · have := lxP_iff.mp q
            exact .inr (lxP_iff.mpr (.inl (by omega)))
      · rename_i hq
        cases h
        by_cases hj2 : j = n
        · subst hj2
          have hle : A 5 f ≤ A 5 j := by
            by_cases hle : nI (A 5 f) ≤ nI (A 5 j)
            · exact (nI_leI (by omega) (by omega)).mp hle
            · exact absurd ⟨hp, hle⟩ hq
          exact .inr (lxP_iff.mpr (by omega))
        · exact hm j (by omega) hp
theorem cnt_sub {p q : Nat → Bool} (h : ∀ j, p j = true → q j = true) : ∀ n, cnt p n ≤ cnt q n
  | 0 => Nat.le_refl _
  | n + 1 => by
    have ih := cnt_sub h n
    rw [cnt, cnt]
    by_cases hp : p n = true
    · rw [if_pos hp, if_pos (h n hp)]
      omega
    · rw [if_neg hp]
      omega
/-- rests of the queue: k are taken out, all of them before those that stay -/
def rsP (A : AS) (d k : Nat) (p : Nat → Bool) : Prop := (∀ j, j < A 30 0 → p j = true → quP A d j = true) ∧ (∀ o j, o < A 30 0 → j < A 30 0 → quP A d o = true → p o = false → p j = true → lxP A o j = true) ∧ cnt (fun o => quP A d o && !p o) (A 30 0) = k
theorem rs_ah {A : AS} {p : Nat → Bool} {T D d k f : Nat} {su : Nat → Nat → Nat} (hT : T < 2 ^ 28) (hi : Inv D su T A) (h : rsP A d k p) (hf : fb p (fun j => nI (A 5 j)) (A 30 0) = some f) : ahA A d f = k := by
  obtain ⟨h1, h2, h3⟩ := h
  have hl := fb_lt hf
  rw [← h3]
  unfold ahA
  refine cnt_congr (fun o ho => ?_)
  cases hq : quP A d o with
  | false => rfl
  | true =>
    cases hp : p o with
    | false =>
      rw [h2 o f ho hl.1 hq hp hl.2]
      rfl
    | true =>
      have : lxP A o f = false := by
        cases hx : lxP A o f with
        | false => rfl
        | true =>
          exfalso
          have e1 := lxP_iff.mp hx
          rcases fb_lex hT hi (Nat.le_refl _) hf o ho hp with q | q
          · subst q
            omega
          · have := lxP_iff.mp q
            omega
      rw [this]
      rfl
theorem rs_next {A : AS} {p : Nat → Bool} {T D d k f : Nat} {su : Nat → Nat → Nat} (hT : T < 2 ^ 28) (hi : Inv D su T A) (h : rsP A d k p) (hf : fb p (fun j => nI (A 5 j)) (A 30 0) = some f) : rsP A d (k + 1) (fun j => p j && !decide (j = f)) := by
  obtain ⟨h1, h2, h3⟩ := h
  have hl := fb_lt hf
  refine ⟨?_, ?_, ?_⟩
  · intro j hj hp
    simp only [Bool.and_eq_true] at hp
    exact h1 j hj hp.1
  · intro o j ho hj hq hp hpj
    simp only [Bool.and_eq_true, Bool.not_eq_true', decide_eq_false_iff_not] at hpj
    by_cases hof : o = f
    · subst hof
      rcases fb_lex hT hi (Nat.le_refl _) hf j hj hpj.1 with q | q
      · exact absurd q hpj.2
      · exact q
    · have hpo : p o = false := by
        cases hh : p o with
        | false => rfl
        | true =>
          have hp' : (p o && !decide (o = f)) = false := hp
          rw [hh, decide_eq_false hof] at hp'
          cases hp'
      exact h2 o j ho hj hq hpo hpj.1
  · have := cnt_set (p := fun o => quP A d o && !p o) (q := fun o => quP A d o && !(p o && !decide (o = f))) (j := f) (by
      show (quP A d f && !p f) = false
      rw [hl.2]
      simp) (by
      show (quP A d f && !(p f && !decide (f = f))) = true
      rw [h1 f hl.1 hl.2]
      simp) (fun i hi2 => by
      show (quP A d i && !(p i && !decide (i = f))) = (quP A d i && !p i)
      rw [decide_eq_false hi2]
      simp) (A 30 0)
    rw [if_pos hl.1, h3] at this
    exact this
theorem rs_some {A : AS} {p : Nat → Bool} {d k : Nat} (h : rsP A d k p) (hk : k < cnt (quP A d) (A 30 0)) : ∃ f, fb p (fun j => nI (A 5 j)) (A 30 0) = some f := by
  cases hf : fb p (fun j => nI (A 5 j)) (A 30 0) with
  | some f => exact ⟨f, rfl⟩
  | none =>
    exfalso
    have hn := fb_none hf
    have : cnt (fun o => quP A d o && !p o) (A 30 0) = cnt (quP A d) (A 30 0) := cnt_congr (fun o ho => by
      rw [hn o ho]
      simp)
    have h3 := h.2.2
    omega
theorem rs_0 {A : AS} {d : Nat} : rsP A d 0 (quP A d) := by
  refine ⟨fun _ _ h => h, ?_, ?_⟩
  · intro o j _ _ h1 h2 _
    rw [h1] at h2
    cases h2
  have : cnt (fun o => quP A d o && !quP A d o) (A 30 0) = cnt (fun _ => false) (A 30 0) := cnt_congr (fun o _ => by cases quP A d o <;> rfl)
  rw [this]
  have h0 : ∀ n, cnt (fun _ => false) n = 0 := fun n => by
    induction n with
    | zero => rfl
    | succ n ih =>
      rw [cnt, ih]
      rfl
  exact h0 _
/-- class: k jobs are taken out -/
theorem qu_C {N : Nat → Nat → Int32} {r : Int64 × UInt64} {D T d n : Nat} {su : Nat → Nat → Nat} {A : AS} (hT : T < 2 ^ 28) (h : RC N 29 D A) (hi : Inv D su T A) (hn : n < cnt (quP A d) (A 30 0)) : ∀ m k F (s : Int32) (p : Nat → Bool), k + m = n → m < F → (∀ i, i < 32 → hbit s i = (decide (i < A 30 0) && p i)) → rsP A d k p → ∃ s' p', lp_X9_queued_55 (nI n) (29 + 1) F (s, nI k, mw N r) = some (s', mw N r) ∧ (∀ i, i < 32 → hbit s' i = (decide (i < A 30 0) && p' i)) ∧ rsP A d n p' := by
  have hc := hi.1.1
  have hcn := cnt_le (quP A d) (A 30 0)
  have kc : N (29 + 1) 0 = nI (A 30 0) := h.1.1
  intro m
  induction m with
  | zero =>
    intro k F s p hk hF hs hp
    obtain ⟨F, rfl⟩ := F_succ hF
    have hk : k = n := by omega
    subst hk
    refine ⟨s, p, ?_, hs, hp⟩
    simp only [lp_X9_queued_55]
    rw [if_pos (Int32.le_refl _)]
  | succ m ih =>
    intro k F s p hk hF hs hp
    obtain ⟨F, rfl⟩ := F_succ hF
    obtain ⟨f, hf⟩ := rs_some hp (by omega)
    have hl := fb_lt hf
    have hg := g_fbd (r := r) (s := s) bL29 kc hc
    rw [fb_congr (q := p) (el := fun j => nI (A 5 j)) (fun i hi2 => by rw [hs i (by omega), decide_eq_true hi2]; simp) (fun i hi2 => h.2.1 i 5 hi2 (by omega)), hf] at hg
    obtain ⟨s', p', q1, q2, q3⟩ := ih (k + 1) F (s &&& (((1 : Int32) <<< (nI f &&& 31)) ^^^ (-1))) (fun j => p j && !decide (j = f)) (by omega) (by omega) (fun i hi2 => by
      rw [hbit_without (by omega) hi2, hs i hi2]
      cases decide (i < A 30 0) <;> cases p i <;> cases decide (i = f) <;> rfl) (rs_next hT hi hp hf)
    refine ⟨s', p', ?_, q2, q3⟩
    simp (disch := omega) only [lp_X9_queued_55, hg, enc, e_b, g_without, e_let, nI_1']
    rw [if_neg (nI_ge (by omega) (by omega))]
    exact q1
theorem isq_R {R : Nat → Nat → Int32} {r : Int64 × UInt64} {D j T d : Nat} {su : Nat → Nat → Nat} {A : AS} (hd : d < 4) (h : RR R D A) (hi : Inv D su T A) (hD : D ≤ 4) (hj : j < A 30 0) : f_X10_isQueued 336 (nI d) (nI j) (mw R r) = some (bI (quP A d j), mw R r) := by
  have hc := hi.1.1
  have h7 := hi.2.1 j hj
  have k7 : rJ R j 7 = nI (A 7 j) := h.2.1 j 7 hj (by omega)
  have k0 : rJ R j 0 = nI (A 0 j) := h.2.1 j 0 hj (by omega)
  simp (disch := omega) only [f_X10_isQueued, PR, RJ, e_b, k7, k0]
  unfold quP
  by_cases q0 : A 0 j = d
  · rw [q0, if_pos rfl]
    by_cases q7 : A 7 j ≤ 1
    · rw [if_neg (show ¬ (1 : Int32) < nI (A 7 j) from nI_nlt (a := 1) q7 (by omega)), e_bd, decide_eq_true rfl, decide_eq_true q7]
      rfl
    · rw [if_pos (show (1 : Int32) < nI (A 7 j) from nI_lt (a := 1) (by omega) (by omega)), e_bd, decide_eq_true rfl, decide_eq_false q7]
      rfl
  · rw [if_neg (fun q => q0 ((nI_eq (by omega) (by omega)).mp q)), e_bd, decide_eq_false q0]
    rfl
theorem l_q44 {R : Nat → Nat → Int32} {r : Int64 × UInt64} {D j T d : Nat} {x : Int32} {su : Nat → Nat → Nat} {A : AS} (hT : T < 2 ^ 28) (hd : d < 4) (h : RR R D A) (hi : Inv D su T A) (hD : D ≤ 4) (hj : j < A 30 0) : ∀ m k F, k + m = A 30 0 → m < F → lp_X10_queued_44 336 (nI d) x (nI j) F (nI (cnt (fun o => quP A d o && lxP A o j) k), nI k, mw R r) = some (nI (ahA A d j), mw R r) := by
  have hc := hi.1.1
  have kc : R 337 2 = nI (A 30 0) := h.1.1
  have k5 : rJ R j 5 = nI (A 5 j) := h.2.1 j 5 hj (by omega)
  have h5 := hi.2.1 j hj
  intro m
  induction m with
  | zero =>
    intro k F hk hF
    obtain ⟨F, rfl⟩ := F_succ hF
    have hk : k = A 30 0 := by omega
    subst hk
    simp (disch := omega) only [lp_X10_queued_44, PR, RLd, kc]
    rw [if_pos (Int32.le_refl _)]
    rfl
  | succ m ih =>
    intro k F hk hF
    obtain ⟨F, rfl⟩ := F_succ hF
    have h2 := ih (k + 1) F (by omega) (by omega)
    have h6 := hi.2.1 k (by omega)
    have k6 : rJ R k 5 = nI (A 5 k) := h.2.1 k 5 (by omega) (by omega)
    simp (disch := omega) only [lp_X10_queued_44, PR, RLd, RJ, kc, k5, k6, isq_R hd h hi hD (show k < A 30 0 by omega), e_b, e_let, nI_1']
    rw [if_neg (nI_ge (by omega) (by omega)), ← h2, cnt]
    have z0 : (0 : Int32).toInt = 0 := by decide
    have d0 : (nI (A 5 k) - nI (A 5 j) < 0) ↔ A 5 k < A 5 j := by
      rw [Int32.lt_iff_toInt_lt, pk_sub_toInt (by omega) (by omega), z0]
      omega
    have d1 : (nI (A 5 k) - nI (A 5 j) = 0) ↔ A 5 k = A 5 j := by
      rw [← Int32.toInt_inj, pk_sub_toInt (by omega) (by omega), z0]
      omega
    unfold lxP
    cases hq : quP A d k with
    | false =>
      simp only [bI_f, reduceIte, e_bd, Bool.false_and, Bool.false_eq_true, nI_p0]
    | true =>
      simp only [bI_t, i10, reduceIte, Bool.true_and]
      by_cases c1 : A 5 k < A 5 j
      · rw [if_pos (d0.mpr c1), e_bd, decide_eq_true c1]
        simp only [Bool.true_or, reduceIte, nI_p1]
      · rw [if_neg (fun q => c1 (d0.mp q)), decide_eq_false c1]
        by_cases c2 : A 5 k = A 5 j
        · rw [if_pos (d1.mpr c2), decide_eq_true c2]
          by_cases c3 : k < j
          · rw [if_neg (nI_ge c3 (by omega)), e_bd, decide_eq_true c3]
            simp only [Bool.false_or, Bool.and_self, reduceIte, nI_p1]
          · rw [if_pos (nI_le (by omega) (by omega)), e_bd, decide_eq_false c3]
            simp only [Bool.false_or, Bool.and_false, Bool.false_eq_true, reduceIte, nI_p0]
        · rw [if_neg (fun q => c2 (d1.mp q)), e_bd, decide_eq_false c2]
          simp only [Bool.false_or, Bool.false_and, Bool.false_eq_true, reduceIte, nI_p0]
def qfP (A : AS) (d : Nat) (x : Int32) (j : Nat) : Bool := quP A d j && decide (nI (ahA A d j) = x)
theorem qu_R {r : Int64 × UInt64} {D T d : Nat} {x : Int32} {su : Nat → Nat → Nat} {A : AS} (hT : T < 2 ^ 28) (hd : d < 4) (hi : Inv D su T A) (hD : D ≤ 4) : ∀ m k F (N : Nat → Nat → Int32), RR N D A → k + m = A 30 0 → m < F → lp_X10_queued_28 336 (nI d) x F (nI k, mw N r) = some (match foA (qfP A d x) m k with
      | none => (0, mw (st N 336 4 3) r)
      | some j => (nI j, mw N r)) := by
  have hc := hi.1.1
  intro m
  induction m with
  | zero =>
    intro k F N h hk hF
    obtain ⟨F, rfl⟩ := F_succ hF
    have kc : N 337 2 = nI (A 30 0) := h.1.1
    have hk : k = A 30 0 := by omega
    subst hk
    simp (disch := omega) only [lp_X10_queued_28, PR, RLd, kc, e_let, mw_pn]
    rw [if_pos (Int32.le_refl _)]
    rfl
  | succ m ih =>
    intro k F N h hk hF
    obtain ⟨F, rfl⟩ := F_succ hF
    have kc : N 337 2 = nI (A 30 0) := h.1.1
    have h2 := ih (k + 1) F N h (by omega) (by omega)
    have h3 := l_q44 (r := r) (x := x) hT hd h hi hD (show k < A 30 0 by omega) (A 30 0) 0 3000 (by omega) (by omega)
    have h3' : lp_X10_queued_44 336 (nI d) x (nI k) 3000 (0, 0, mw N r) = _ := h3
    simp (disch := omega) only [lp_X10_queued_28, PR, RLd, kc, h3', e_bd, isq_R hd h hi hD (show k < A 30 0 by omega), e_b, e_let, nI_1']
    rw [if_neg (nI_ge (by omega) (by omega)), foA_succ]
    unfold qfP
    cases hq : quP A d k with
    | false =>
      simp only [bI_f, reduceIte, Bool.false_and, Bool.false_eq_true]
      exact h2
    | true =>
      simp only [bI_t, i10, reduceIte, Bool.true_and]
      by_cases q : nI (ahA A d k) = x
      · rw [if_pos q, if_pos (decide_eq_true q)]
      · rw [if_neg q, if_neg (by simpa using q)]
        exact h2
theorem ah_lt {A : AS} {d j : Nat} (hj : j < A 30 0) (hq : quP A d j = true) : ahA A d j < cnt (quP A d) (A 30 0) := by
  have := cnt_lt (p := quP A d) (q := fun o => quP A d o && lxP A o j) (f := j) (fun o ho => by
    simp only [Bool.and_eq_true] at ho
    exact ho.1) hq (by
    have : lxP A j j = false := by
      cases hx : lxP A j j with
      | false => rfl
      | true =>
        have := lxP_iff.mp hx
        omega
    rw [this]
    simp) (A 30 0)
  rw [if_pos hj] at this
  unfold ahA
  omega
theorem ah_inj {A : AS} {d i j : Nat} (hi : i < A 30 0) (hj : j < A 30 0) (qi : quP A d i = true) (qj : quP A d j = true) (h : ahA A d i = ahA A d j) : i = j := by
  have key : ∀ i j, i < A 30 0 → quP A d i = true → lxP A i j = true → ahA A d i < ahA A d j := by
    intro i j hi qi hx
    have hx2 := lxP_iff.mp hx
    have := cnt_lt (p := fun o => quP A d o && lxP A o j) (q := fun o => quP A d o && lxP A o i) (f := i) (fun o ho => by
      simp only [Bool.and_eq_true] at ho ⊢
      have h2 := lxP_iff.mp ho.2
      exact ⟨ho.1, lxP_iff.mpr (by omega)⟩) (by
      show (quP A d i && lxP A i j) = true
      rw [qi, hx]
      rfl) (by
      have : lxP A i i = false := by
        cases hx : lxP A i i with
        | false => rfl
        | true =>
          have := lxP_iff.mp hx
          omega
      show (quP A d i && lxP A i i) = false
      rw [this]
      simp) (A 30 0)
    rw [if_pos hi] at this
    unfold ahA
    omega
  by_cases hij : i = j
  · exact hij
  · exfalso
    have tri : lxP A i j = true ∨ lxP A j i = true := by
      rw [lxP_iff, lxP_iff]
      omega
    rcases tri with q | q
    · have := key i j hi qi q
      omega
    · have := key j i hj qj q
      omega
theorem foA_first {p : Nat → Bool} {f : Nat} (hp : p f = true) (hu : ∀ j, p j = true → j = f) : ∀ m k, k ≤ f → f < k + m → foA p m k = some f
  | 0, _, _, _ => by omega
  | m + 1, k, h1, h2 => by
    rw [foA_succ]
    by_cases hk : k = f
    · subst hk
      rw [if_pos hp]
    · rw [if_neg (fun q => hk (hu k q))]
      exact foA_first hp hu m (k + 1) (by omega) (by omega)
theorem foA_none {p : Nat → Bool} : ∀ m k, (∀ j, k ≤ j → j < k + m → p j = false) → foA p m k = none
  | 0, _, _ => rfl
  | m + 1, k, h => by
    rw [foA_succ, h k (by omega) (by omega)]
    exact foA_none m (k + 1) (fun j h1 h2 => h j (by omega) (by omega))
theorem law_22 {xs : Nat → Int32} {Ls i T : Nat} {N : Nat → Nat → Int32} {r : Int64 × UInt64} (hL : Ls ≤ 3584) (h7 : 7 * i + 7 ≤ Ls) (hT : T ≤ 256000) (hg : GI N T) : ∃ N' r', lawc_22 xs Ls (nI (7 * i)) (mw N r) = some (mw N' r') ∧ GI N' (T + 500) := by
  have hg0 := hg
  obtain ⟨g1, g2, g3, g4, g5⟩ := hg
  simp only [lawc_22, e_lds hL h7]
  generalize xs (7 * i + 1) = x1
  generalize xs (7 * i + 2) = x2
  rcases g5 with ⟨u1, u2, u3⟩ | ⟨D, su, A, h, w, H, hS⟩
  · simp only [f_L_queued, f_X9_queued, P0, G356, g_nD0 r _ u1, e_bxl, e_btl, reduceIte, e_b, f_X10_queued, PR, g_isD, u3, rg_0, bI_f, e_bd, g_w0 r _ u2, i10, g_thr, st_self]
    exact ⟨_, _, rfl, GI_q (GF_4 (by omega)) hg0⟩
  · obtain ⟨a1, a2, a3, a4, a5, a6, a7, a8, a9, a10, a11⟩ := hS
    have hD := a3.2.1
    have hc24 := a8.1.1.1.1
    cases hr : rg 0 (nI D - 1) x1 with
    | false =>
      simp only [f_L_queued, f_X9_queued, P0, G356, g_nDf r (x := x1) a1 (by rw [a4.1]; exact hr), e_bxl, e_btl, SX, reduceIte, e_b, f_X10_queued, PR, g_isD, a5.1, hr, bI_f, e_bd, g_w1f r a2, i10, g_thr, st_self]
      exact ⟨_, _, rfl, GI_q (GF_4 (by omega)) hg0⟩
    | true =>
      obtain ⟨d, hd, rfl⟩ := rg_n (by omega) hr
      have hc : f_X9_needDomain 0 (nI d) (mw N r) = some (.inr (), mw N r) := g_nDt r a1 (by rw [a4.1]; exact hr)
      by_cases hn : x2 < 0
      · simp only [f_L_queued, f_X9_queued, P0, G356, hc, e_bx, g_nNf (Int32.not_le.mpr hn), e_bxl, e_btl, SX, reduceIte, e_b, f_X10_queued, PR, g_isD, a5.1, hr, bI_t, i10, hn, e_bd, g_w1f r a2, g_thr, st_self]
        exact ⟨_, _, rfl, GI_q (GF_4 (by omega)) hg0⟩
      · obtain ⟨n, hn31, rfl⟩ := nI_of hn
        have hb8 := a6.2.2.2.2.2.1 d
        have hb9 := a6.2.2.2.2.2.2.1 d
        have hs0 : ∀ i, i < 32 → hbit (N (29 + 2) d ||| N (29 + 3) d) i = (decide (i < A 30 0) && quP A d i) := by
          intro i hi
          rw [hbit_or, hb8 i hd hi, hb9 i hd hi]
          unfold quP
          by_cases q1 : i < A 30 0
          · by_cases q2 : A 0 i = d
            · have q3 : A 7 i = 0 ∨ A 7 i = 1 ∨ ¬ A 7 i ≤ 1 := by omega
              rcases q3 with q | q | q
              · simp [q1, q2, q]
              · simp [q1, q2, q]
              · simp [q1, q2, q, show ¬ A 7 i = 0 by omega, show ¬ A 7 i = 1 by omega]
            · simp [q1, q2]
          · simp [q1]
        have hcnt : cnt (hbit (N (29 + 2) d ||| N (29 + 3) d)) 32 = cnt (quP A d) (A 30 0) := by
          have e1 : cnt (hbit (N (29 + 2) d ||| N (29 + 3) d)) 32 = cnt (fun i => decide (i < A 30 0) && quP A d i) 32 := cnt_congr (fun i hi => hs0 i hi)
          rw [e1, show (32 : Nat) = A 30 0 + (32 - A 30 0) by omega, cnt_ext (fun i hi => by rw [decide_eq_false (by omega)]; rfl)]
          exact cnt_congr (fun i hi => by rw [decide_eq_true hi]; rfl)
        have hcl := cnt_le (quP A d) (A 30 0)
        have hR4 : RR (st N 336 4 0) D A := RR_336 a7
        have k2 : ∀ r, lp_X10_queued_28 336 (nI d) (nI n) 3000 (0, mw (st N 336 4 0) r) = _ := fun r => qu_R (r := r) (x := nI n) (show T < 2 ^ 28 by omega) (show d < 4 by omega) a8.1.1 hD (A 30 0) 0 3000 (st N 336 4 0) hR4 (by omega) (by omega)
        have h0n := Int32.not_lt.mp hn
        by_cases hlt : n < cnt (quP A d) (A 30 0)
        · obtain ⟨s', p', c1, c2, c3⟩ := qu_C (r := r) (show T < 2 ^ 28 by omega) a6 a8.1.1 hlt n 0 3000 (N (29 + 2) d ||| N (29 + 3) d) (quP A d) (by omega) (by omega) hs0 rs_0
          have c1' : lp_X9_queued_55 (nI n) (29 + 1) 3000 (N (29 + 2) d ||| N (29 + 3) d, 0, mw N r) = some (s', mw N r) := c1
          obtain ⟨f, hf⟩ := rs_some c3 hlt
          have hl := fb_lt hf
          have hg := g_fbd (r := r) (s := s') bL29 (show N (29 + 1) 0 = nI (A 30 0) from a6.1.1) hc24
          rw [fb_congr (q := p') (el := fun j => nI (A 5 j)) (fun i hi2 => by rw [c2 i (by omega), decide_eq_true hi2]; simp) (fun i hi2 => a6.2.1 i 5 hi2 (by omega)), hf] at hg
          have hah := rs_ah (show T < 2 ^ 28 by omega) a8.1.1 c3 hf
          have hqf := c3.1 f hl.1 hl.2
          have hfo : foA (qfP A d (nI n)) (A 30 0) 0 = some f := by
            have hu : ∀ j, j < A 30 0 → qfP A d (nI n) j = true → j = f := by
              intro j hj hq
              unfold qfP at hq
              simp only [Bool.and_eq_true, decide_eq_true_eq] at hq
              have := ah_lt hj hq.1
              exact ah_inj hj hl.1 hq.1 hqf (by rw [hah]; exact (nI_eq (by omega) (by omega)).mp hq.2)
            have e : foA (fun j => qfP A d (nI n) j && decide (j < A 30 0)) (A 30 0) 0 = some f := foA_first (by
              unfold qfP
              rw [hqf, hah, decide_eq_true rfl, decide_eq_true hl.1]
              rfl) (fun j hq => by
              simp only [Bool.and_eq_true, decide_eq_true_eq] at hq
              exact hu j hq.2 hq.1) (A 30 0) 0 (by omega) (by have := hl.1; omega)
            have cg : ∀ m k, k + m = A 30 0 → foA (qfP A d (nI n)) m k = foA (fun j => qfP A d (nI n) j && decide (j < A 30 0)) m k := by
              intro m
              induction m with
              | zero => intro k _; rfl
              | succ m ih =>
                intro k hk
                rw [foA_succ, foA_succ, ih (k + 1) (by omega), decide_eq_true (show k < A 30 0 by omega), Bool.and_true]
            rw [cg (A 30 0) 0 (by omega)]
            exact e
          simp only [hfo] at k2
          have n1 : (nI n < nI (cnt (quP A d) (A 30 0))) = True := eq_true (nI_lt hlt (by omega))
          simp (disch := omega) only [f_L_queued, f_X9_queued, P0, G356, hc, e_bx, g_nNt h0n, SB bL29, SL bL29, e_let, g_bc, hcnt, e_b, n1, reduceIte, c1', e_bd, hg, enc, e_bt, mw_po, f_X10_queued, PR, g_isD, a5.1, hr, bI_t, i10, hn, g_w1t _ a2, k2, g_thr, st_self, mw_2, lg_same]
          exact ⟨_, _, rfl, GI_q (GF_4 (by omega)) hg0⟩
        · have hfo : foA (qfP A d (nI n)) (A 30 0) 0 = none := foA_none _ _ (fun j _ h2 => by
            unfold qfP
            cases hq : quP A d j with
            | false => rfl
            | true =>
              have := ah_lt (show j < A 30 0 by omega) hq
              rw [decide_eq_false (fun q => by have := (nI_eq (by omega) (by omega)).mp q; omega)]
              rfl)
          simp only [hfo] at k2
          have n1 : (nI n < nI (cnt (quP A d) (A 30 0))) = False := eq_false (nI_nlt (by omega) (by omega))
          simp (disch := omega) only [f_L_queued, f_X9_queued, P0, G356, hc, e_bx, g_nNt h0n, SB bL29, SL bL29, e_let, g_bc, hcnt, e_b, n1, reduceIte, e_btl, SX, f_X10_queued, PR, g_isD, a5.1, hr, bI_t, i10, hn, e_bd, g_w1t _ a2, k2, g_thr, st_self]
          exact ⟨_, _, rfl, GI_q (GF_t (GF_4 (by omega)) (GF_4 (by omega))) hg0⟩
