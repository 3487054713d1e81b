def bN (x : Bool) : Nat := if x = true then 1 else 0
def l0N (su : Nat → Nat → Nat) (A : AS) (d : Nat) : Nat := sugA (nI (A 11 d)) (bzA (coA A d) (su 0 d)) (su 1 d - 1) (fndA (fun i => decide (mxA (fun e => needA (A 6) (A 5) (A 30 1) (coA A d e)) (su 0 d) ≤ su 7 (5 * d + i))) (su 1 d - 1) 0)
def l1N (su : Nat → Nat → Nat) (A : AS) (d : Nat) : Nat := credA (l0N su A d) (su 5 d) (bzA (coA A d) (su 0 d)) (A 15 d)
def htN (su : Nat → Nat → Nat) (A : AS) (d : Nat) : Nat → Bool := hotN (A 12 d) (su 2 d) (A 30 2) (su 3 d) (A 10 d) (bzA (coA A d) (su 0 d)) (su 0 d) (su 4 d) (fun l => su 8 (5 * d + l))
def l2N (su : Nat → Nat → Nat) (A : AS) (d : Nat) : Nat := chA (bzA (coA A d) (su 0 d)) (l1N su A d) (htN su A d)
def haN (su : Nat → Nat → Nat) (A : AS) (d : Nat) : Bool := haA (bzA (coA A d) (su 0 d)) (l2N su A d) (htN su A d)
def pwN (su : Nat → Nat → Nat) (d bz l : Nat) (ha : Bool) : Nat := if ha = true then powN 0 0 (su 0 d) (su 4 d) else powN bz (su 8 (5 * d + l)) (su 0 d) (su 4 d)
def spN (su : Nat → Nat → Nat) (d bz l : Nat) (ha : Bool) : Bool := decide (0 < bz) && !ha && decide (su 5 d < l)
/-- level, energy, credits, temperature -/
def tlA (su : Nat → Nat → Nat) (A : AS) (d bz l : Nat) (ha : Bool) : AS :=
  up (up (up (up A 13 d l) 14 d (A 14 d + pwN su d bz l ha)) 15 d (ccA (spN su d bz l ha) (A 15 d) (su 6 d))) 12 d (tmpN (A 12 d) (su 2 d) (pwN su d bz l ha) (A 30 2) (su 3 d))
def thA (A : AS) (d : Nat) (th ha : Bool) : AS := up (up A 16 d (A 16 d + bN th)) 17 d (A 17 d + bN ha)
def runA (su : Nat → Nat → Nat) (A : AS) (d : Nat) : AS :=
  if haN su A d = true then tlA su (thA A d (decide (l2N su A d < l1N su A d)) (haN su A d)) d (bzA (coA A d) (su 0 d)) (l2N su A d) (haN su A d)
  else workA d (su 7 (5 * d + l2N su A d)) (su 0 d) 0 (tlA su (thA A d (decide (l2N su A d < l1N su A d)) (haN su A d)) d (bzA (coA A d) (su 0 d)) (l2N su A d) (haN su A d))
theorem pwN_le {D d bz l : Nat} {ha : Bool} {su : Nat → Nat → Nat} (hB : SUB D su) (hd : d < D) (hbz : bz ≤ su 0 d) (hl : l < su 1 d) : pwN su d bz l ha ≤ 3996 := by
  have hB2 := hB.2.2 d hd
  unfold pwN
  split
  · have := powN_le (n := 0) (p := 0) (c := su 0 d) (i := su 4 d) (by omega) (by omega) (by omega) (by omega)
    omega
  · have := powN_le (n := bz) (p := su 8 (5 * d + l)) (c := su 0 d) (i := su 4 d) hbz (by omega) (hB2.2.2.2.2.2.2.2.2.2.2 l hl).2.2 (by omega)
    omega
theorem ccA_le {u : Bool} {cr cap : Nat} (h : cr ≤ cap) : ccA u cr cap ≤ cap := by
  unfold ccA
  split
  · omega
  · split <;> omega
theorem Inv_tl {D d bz l T : Nat} {ha : Bool} {su : Nat → Nat → Nat} {A : AS} (hB : SUB D su) (hd : d < D) (hbz : bz ≤ su 0 d) (hl : l < su 1 d) (hi : Inv D su T A) : Inv D su T (tlA su A d bz l ha) := by
  have hB2 := hB.2.2 d hd
  have hp := pwN_le (ha := ha) hB hd hbz hl
  obtain ⟨⟨i1, i2, i3⟩, i4, i5, i6, i7, i8⟩ := hi
  have h5 := i5 d hd
  have ht := tmpN_le (t := A 12 d) (h := su 2 d) (p := pwN su d bz l ha) (am := A 30 2) (co := su 3 d) (by omega) (by omega) hp i3 (by omega) (by omega)
  have hc := ccA_le (u := spN su d bz l ha) (cr := A 15 d) (cap := su 6 d) (by omega)
  unfold tlA Inv
  simp (disch := omega) only [up_k]
  refine ⟨⟨i1, i2, i3⟩, i4, ?_, i6, i7, i8⟩
  intro d' hd'
  have h6 := i5 d' hd'
  by_cases hq : d' = d
  · subst hq
    rw [up_self, up_self]
    exact ⟨h6.1, h6.2.1, ht, hc⟩
  · simp only [up_i hq]
    exact h6
theorem Inv_th {D d T : Nat} {th ha : Bool} {su : Nat → Nat → Nat} {A : AS} (hi : Inv D su T A) : Inv D su T (thA A d th ha) := Inv_cnt (by omega) (Inv_cnt (by omega) hi)
theorem l0N_lt {D d : Nat} {su : Nat → Nat → Nat} {A : AS} (hB : SUB D su) (hd : d < D) : l0N su A d < su 1 d := by
  have hB2 := hB.2.2 d hd
  unfold l0N sugA
  have := fndA_lt (fun i => decide (mxA (fun e => needA (A 6) (A 5) (A 30 1) (coA A d e)) (su 0 d) ≤ su 7 (5 * d + i))) (su 1 d - 1) 0
  split
  · omega
  · split
    · omega
    · split
      · split <;> omega
      · split <;> omega
theorem l1N_lt {D d : Nat} {su : Nat → Nat → Nat} {A : AS} (hB : SUB D su) (hd : d < D) : l1N su A d < su 1 d := by
  have hB2 := hB.2.2 d hd
  have h0 := l0N_lt (A := A) hB hd
  unfold l1N credA
  split
  · split <;> omega
  · omega
theorem l2N_le {d : Nat} {su : Nat → Nat → Nat} {A : AS} : l2N su A d ≤ l1N su A d := by
  unfold l2N chA
  split
  · exact coolA_le _ _
  · exact Nat.le_refl _
theorem Inv_run {D d T : Nat} {su : Nat → Nat → Nat} {A : AS} (hB : SUB D su) (hd : d < D) (hi : Inv D su T A) : Inv D su T (runA su A d) := by
  have h1 := l1N_lt (A := A) hB hd
  have h2 := l2N_le (su := su) (A := A) (d := d)
  unfold runA
  split
  · exact Inv_tl hB hd (bzA_le _ _) (by omega) (Inv_th hi)
  · exact Inv_work hd _ _ _ (Inv_tl hB hd (bzA_le _ _) (by omega) (Inv_th hi))
theorem bI_t : bI true = 1 := rfl
theorem bI_f : bI false = 0 := rfl
/-- the tail of the class's runDomain -/
def rdT (a0 : Nat) (x1 q3 l2 ha : Int32) (q11 : MW) : Option (Int32 × MW) :=
  hz_ldp q11 a0 7 358 20 (fun b12 => hz_sta q11 b12 x1 l2 (fun w13 => Option.bind ((if ha = 0 then hz_ldp w13 a0 13 358 20 (fun b35 => hz_lda w13 b35 x1 (fun v36 => some v36)) else some 0)) (fun q14 : Int32 => hz_b (f_X3_powerAt a0 x1 l2 q14 w13) (fun v16 w15 => hz_ldp w15 a0 8 358 20 (fun b17 => hz_lda w15 b17 x1 (fun v18 => hz_sta w15 b17 x1 (v18 + v16) (fun w19 => Option.bind ((if q3 = 0 then some 0 else (if ha = 0 then hz_ldp w19 a0 0 358 3 (fun b32 => hz_ldp w19 b32 7 358 20 (fun b33 => hz_lda w19 b33 x1 (fun v34 => (if l2 ≤ v34 then some 0 else some 1)))) else some 0))) (fun q20 : Int32 => hz_bv (f_X3_countCredit a0 x1 q20 w19) (fun w21 => hz_ldp w21 a0 6 358 20 (fun b22 => hz_b (f_X3_temperatureAfter a0 x1 v16 w21) (fun v24 w23 => hz_sta w23 b22 x1 v24 (fun w25 => Option.bind ((if ha = 0 then hz_ldp w25 a0 0 358 3 (fun b27 => hz_ldp w25 b27 11 358 20 (fun b28 => hz_lda w25 b28 ((x1 * 5) + l2) (fun v29 => hz_b (f_X3_workOnJobs a0 x1 v29 w25) (fun v31 w30 => some (v31, w30))))) else some (0, w25))) (fun q26 : Int32 × MW => some (q26.1, q26.2))))))))))))))
theorem rdT_ok {C : Nat → Nat → Int32} {r : Int64 × UInt64} {b D d bz l T : Nat} {ha : Bool} {su : Nat → Nat → Nat} {A : AS} (hb : b ∈ bL) (hs : SUC C D su) (hB : SUB D su) (h : RC C b D A) (hi : Inv D su T A) (hT : T < 2 ^ 29) (hd : d < D) (hbz : A 19 d = bz) (hbz4 : bz ≤ su 0 d) (hl : l < su 1 d) (hcr : spN su d bz l ha = true → 1 ≤ A 15 d) : ∃ C' n, rdT b (nI d) (boA bz) (nI l) (bI ha) (mw C r) = some (nI n, mw C' r) ∧ RC C' b D (if ha = true then tlA su A d bz l ha else workA d (su 7 (5 * d + l)) (su 0 d) 0 (tlA su A d bz l ha)) ∧ FC b C C' ∧ (if ha = true then tlA su A d bz l ha else workA d (su 7 (5 * d + l)) (su 0 d) 0 (tlA su A d bz l ha)) 31 0 = A 31 0 + n := by
  have hD := hB.2.1
  have hB2 := hB.2.2 d hd
  have hB3 := hB2.2.2.2.2.2.2.2.2.2.2 l hl
  have h29 := bL_29 b hb
  have hI := Inv_tl (ha := ha) hB hd hbz4 hl hi
  have hp := pwN_le (ha := ha) hB hd hbz4 hl
  have hh := h
  have hs2 := hs.2 d hd
  obtain ⟨c18, c26, c20, c21, c22, c23, c24, cn⟩ := hs2
  have c27 := (cn l hl).1
  have c28 := (cn l hl).2
  obtain ⟨⟨h1, h2, h3⟩, h4, h5, h6, h7, h8, h9, h10, h11, h12, h13, h14⟩ := h
  obtain ⟨⟨i1, i2, i3⟩, i4, i5, i6, i7, i8⟩ := hi
  have h5d := i5 d hd
  have k23 : C (b + 23) d = nI bz := by
    rw [← hbz]
    exact h13 d 8 hd (by omega)
  have k18 : C (b + 18) d = nI (A 14 d) := h13 d 3 hd (by omega)
  have k19 : C (b + 19) d = nI (A 15 d) := h13 d 4 hd (by omega)
  have k16 : C (b + 16) d = nI (A 12 d) := h13 d 1 hd (by omega)
  have hM : ∀ C3 : Nat → Nat → Int32, C3 = st (st (st (st C (b + 17) d (nI l)) (b + 18) d (nI (A 14 d + pwN su d bz l ha))) (b + 19) d (nI (ccA (spN su d bz l ha) (A 15 d) (su 6 d)))) (b + 16) d (nI (tmpN (A 12 d) (su 2 d) (pwN su d bz l ha) (A 30 2) (su 3 d))) → RC C3 b D (tlA su A d bz l ha) ∧ FC b C C3 := by
    rintro _ rfl
    exact ⟨rc_d (k := 1) (d := d) (by omega) (rc_d (k := 4) (d := d) (by omega) (rc_d (k := 3) (d := d) (by omega) (rc_d (k := 2) (d := d) (x := l) (by omega) hh))), FC_t (FC_t (FC_t (FC_s (by omega) (by omega)) (FC_s (by omega) (by omega))) (FC_s (by omega) (by omega))) (FC_s (by omega) (by omega))⟩
  have hpow : powA (if ha = true then 0 else nI bz) (C 28 (d * 5 + l)) (C 18 d) (C 22 d) = nI (pwN su d bz l ha) := by
    unfold pwN
    rw [c28, c18, c22]
    cases ha with
    | true => exact powA_0 _ _ _
    | false => exact powA_nI hbz4
  have htmp := tmA_nI (t := A 12 d) (h := su 2 d) (p := pwN su d bz l ha) (am := A 30 2) (co := su 3 d) (by omega) (by omega) hp i3 (by omega)
  have hcc : ∀ M : Nat → Nat → Int32, M (b + 19) d = nI (A 15 d) → M 24 d = nI (su 6 d) → f_X3_countCredit b (nI d) (if spN su d bz l ha = true then 1 else 0) (mw M r) = some (mw (st M (b + 19) d (nI (ccA (spN su d bz l ha) (A 15 d) (su 6 d)))) r) := fun M m1 m2 => g_ccC hb (by omega) m1 (by omega) m2 (by omega) hcr
  unfold rdT
  cases ha with
  | true =>
    have hsp : spN su d bz l true = false := by simp [spN]
    simp only [hsp, Bool.false_eq_true, reduceIte] at hcc hpow hM
    simp (disch := omega) only [bI_t, i10, reduceIte, e_bd, g_powC hb, st_cell, hpow, e_b, SB hb, SL hb, k18, nI_add, ite_self]
    rw [hcc _ (by simp (disch := omega) only [st_cell, k19]) (by simp (disch := omega) only [st_cell, c24])]
    simp (disch := omega) only [e_bv, SB hb, SL hb, g_tmpC hb, st_cell, k16, c20, h3, c21, htmp, e_b]
    obtain ⟨a1, a2⟩ := hM _ rfl
    exact ⟨_, 0, rfl, a1, a2, by unfold tlA; simp (disch := omega) only [up_k]; rfl⟩
  | false =>
    simp only [Bool.false_eq_true, reduceIte] at hpow
    have hq20 : (if boA bz = 0 then some (0 : Int32) else if nI l ≤ nI (su 5 d) then some 0 else some 1) = some (if spN su d bz l false = true then 1 else 0) := by
      unfold spN
      by_cases hz : 0 < bz
      · rw [boA_1 hz, if_neg (by decide)]
        by_cases hlt : su 5 d < l
        · rw [if_neg (nI_ge hlt (by omega)), if_pos (by simp [hz, hlt])]
        · rw [if_pos (nI_le (by omega) (by omega)), if_neg (by simp [hlt])]
      · rw [boA_0 hz, if_pos rfl, if_neg (by simp [hz])]
    simp (disch := omega) only [bI_f, Bool.false_eq_true, reduceIte, e_bd, g_powC hb, st_cell, k23, hpow, e_b, SB hb, SL hb, P17, A17, c23, k18, nI_add]
    rw [hq20, e_bd, hcc _ (by simp (disch := omega) only [st_cell, k19]) (by simp (disch := omega) only [st_cell, c24])]
    simp (disch := omega) only [e_bv, SB hb, SL hb, g_tmpC hb, st_cell, k16, c20, h3, c21, htmp, e_b, P17, A17, nI_m5, nI_add, c27]
    obtain ⟨a1, a2⟩ := hM _ rfl
    obtain ⟨C', n, q1, q2, q3, q4⟩ := wk_C (r := r) (f := su 7 (5 * d + l)) hb hB hT hd (by omega) (su 0 d) 0 3000 _ _ 0 (by omega) (by omega) (SUC_FC h29 hs a2) a1 hI
    rw [Nat.zero_add] at q1
    refine ⟨C', n, ?_, q2, FC_t a2 q3, ?_⟩
    · simp only [f_X3_workOnJobs, SB hb]
      rw [show lp_X3_workOnJobs_5 b (nI d) (nI (su 7 (5 * d + l))) 3000 (0, 0, mw _ r) = _ from q1]
      rfl
    · rw [q4]
      unfold tlA
      simp (disch := omega) only [up_k]
theorem run_C {C : Nat → Nat → Int32} {r : Int64 × UInt64} {b D d T : Nat} {su : Nat → Nat → Nat} {A : AS} (hb : b ∈ bL) (hs : SUC C D su) (hB : SUB D su) (h : RC C b D A) (hi : Inv D su T A) (hT : T < 2 ^ 29) (hd : d < D) (h19 : A 19 d = bzA (coA A d) (su 0 d)) : ∃ C' n, f_X3_runDomain b (nI d) (mw C r) = some (nI n, mw C' r) ∧ RC C' b D (runA su A d) ∧ FC b C C' ∧ runA su A d 31 0 = A 31 0 + n := by
  have hD := hB.2.1
  have hB2 := hB.2.2 d hd
  have h29 := bL_29 b hb
  have hDC := DC_of hb hs hB h hi hT hd
  have hl1 := l1N_lt (A := A) hB hd
  have hl0 := l0N_lt (A := A) hB hd
  have hl2 := l2N_le (su := su) (A := A) (d := d)
  have hz4 := bzA_le (coA A d) (su 0 d)
  have hh := h
  have hii := hi
  obtain ⟨c18, c26, c20, c21, c22, c23, c24, cn⟩ := hs.2 d hd
  obtain ⟨⟨h1, h2, h3⟩, h4, h5, h6, h7, h8, h9, h10, h11, h12, h13, h14⟩ := h
  obtain ⟨⟨i1, i2, i3⟩, i4, i5, i6, i7, i8⟩ := hi
  have h5d := i5 d hd
  have k23 : C (b + 23) d = nI (bzA (coA A d) (su 0 d)) := by
    rw [← h19]
    exact h13 d 8 hd (by omega)
  have k15 : C (b + 15) d = nI (A 11 d) := h13 d 0 hd (by omega)
  have k16 : C (b + 16) d = nI (A 12 d) := h13 d 1 hd (by omega)
  have k19 : C (b + 19) d = nI (A 15 d) := h13 d 4 hd (by omega)
  have k20 : C (b + 20) d = nI (A 16 d) := h13 d 5 hd (by omega)
  have k21 : C (b + 21) d = nI (A 17 d) := h13 d 6 hd (by omega)
  have k14 := h12 d hd
  have hpo : nI (A 11 d) = 0 ∨ nI (A 11 d) = 1 ∨ nI (A 11 d) = 2 ∨ nI (A 11 d) = 3 := by
    have : A 11 d = 0 ∨ A 11 d = 1 ∨ A 11 d = 2 ∨ A 11 d = 3 := by omega
    rcases this with q | q | q | q <;> rw [q]
    · exact .inl rfl
    · exact .inr (.inl rfl)
    · exact .inr (.inr (.inl rfl))
    · exact .inr (.inr (.inr rfl))
  have hmx : mxA (fun e => needA (A 6) (A 5) (A 30 1) (coA A d e)) (su 0 d) < 2 ^ 30 := mxA_lt (by omega) (fun e he => needA_lt (by omega) (fun j hj => by
    have := i6 d e j hd (oA_some.mp hj)
    have := i4 j this.2.1
    omega))
  have e1 := g_sugC (r := r) hDC k23 (by omega) k15 hpo
  rw [fndA_congr (q := fun i => decide (mxA (fun e => needA (A 6) (A 5) (A 30 1) (coA A d e)) (su 0 d) ≤ su 7 (5 * d + i))) (fun i hi => by
    have hn := hB2.2.2.2.2.2.2.2.2.2.2 i (by omega)
    rw [(cn i (by omega)).1, dc_le (by omega) (by omega)])] at e1
  have e1' : f_X3_suggestedLevel b (nI d) (mw C r) = some (nI (l0N su A d), mw C r) := e1
  have e2 : f_X3_creditedLevel b (nI d) (nI (l0N su A d)) (mw C r) = some (nI (l1N su A d), mw C r) := g_credC (r := r) hb (by omega) k23 (by omega) k19 (by omega) c23 (by omega) (by omega)
  have hhot : ∀ i, i < su 1 d → decide (¬ tmpA (C (b + 16) d) (C 20 d) (powA (C (b + 23) d) (C 28 (d * 5 + i)) (C 18 d) (C 22 d)) (C b 3) (C 21 d) ≤ C (b + 14) d) = htN su A d i := by
    intro i hi
    have hn := hB2.2.2.2.2.2.2.2.2.2.2 i hi
    rw [k16, c20, k23, c18, c22, h3, c21, k14]
    exact hot_C (pW := fun i => C 28 (d * 5 + i)) (pw := fun i => su 8 (5 * d + i)) (l := i) (cn i hi).2 hz4 (by omega) (by omega) (by omega) hn.2.2 (by omega) i3 (by omega) (by omega) h5d.1
  have e3 := g_cool (N := C) (r := r) (l := l1N su A d) hb (show d < 4 by omega) (by omega)
  rw [coolA_congr (q := htN su A d) (fun i hi => hhot i (by omega))] at e3
  have e4 := g_hotC (N := C) (r := r) (l := 0) hb (show d < 4 by omega) (by omega)
  have e5 : f_X3_isTooHot b (nI d) 0 (mw C r) = some (bI (htN su A d 0), mw C r) := by
    rw [show f_X3_isTooHot b (nI d) 0 (mw C r) = _ from e4, ← hhot 0 (by omega)]
    unfold bI
    by_cases hq : tmpA (C (b + 16) d) (C 20 d) (powA (C (b + 23) d) (C 28 (d * 5 + 0)) (C 18 d) (C 22 d)) (C b 3) (C 21 d) ≤ C (b + 14) d
    · rw [if_pos hq, ifdn hq]
    · rw [if_neg hq, ifdp hq]
  -- the first half: level, halting, the counts
  have f8 : (if boA (bzA (coA A d) (su 0 d)) = 0 then some (nI (l1N su A d), mw C r) else hz_b (f_X3_coolLevel b (nI d) (nI (l1N su A d)) (mw C r)) (fun v46 w45 => some (v46, w45))) = some (nI (l2N su A d), mw C r) := by
    unfold l2N chA
    by_cases hz : 0 < bzA (coA A d) (su 0 d)
    · rw [boA_1 hz, if_neg (by decide), e3, if_pos hz]
      rfl
    · rw [boA_0 hz, if_pos rfl, if_neg hz]
  have f9 : (if boA (bzA (coA A d) (su 0 d)) = 0 then some ((0 : Int32), mw C r) else (if nI (l2N su A d) = 0 then hz_b (f_X3_isTooHot b (nI d) 0 (mw C r)) (fun v44 w43 => (if v44 = 0 then some (0, w43) else some (1, w43))) else some (0, mw C r))) = some (bI (haN su A d), mw C r) := by
    unfold haN haA
    by_cases hz : 0 < bzA (coA A d) (su 0 d)
    · rw [boA_1 hz, if_neg (by decide)]
      by_cases hl : l2N su A d = 0
      · rw [hl, if_pos nI_0, e5]
        cases hq : htN su A d 0 with
        | true => simp [hz, e_b, bI]
        | false => simp [hz, e_b, bI]
      · rw [if_neg (nI_ne0 (by omega) (by omega))]
        simp [hl, bI]
    · rw [boA_0 hz, if_pos rfl]
      simp [hz, bI]
  have f10 : (if nI (l1N su A d) ≤ nI (l2N su A d) then some (mw C r) else some (mw (st C (b + 20) d (nI (A 16 d) + 1)) r)) = some (mw (st C (b + 20) d (nI (A 16 d + bN (decide (l2N su A d < l1N su A d))))) r) := by
    by_cases hq : l2N su A d < l1N su A d
    · rw [if_neg (nI_ge hq (by omega)), decide_eq_true hq, nI_p1]
      rfl
    · rw [if_pos (nI_le (by omega) (by omega)), decide_eq_false hq, show A 16 d + bN false = A 16 d from rfl, st_same k20]
  have hsp : spN su d (bzA (coA A d) (su 0 d)) (l2N su A d) (haN su A d) = true → 1 ≤ A 15 d := by
    intro q
    unfold spN at q
    simp only [Bool.and_eq_true, decide_eq_true_eq] at q
    have q3 : su 5 d < l1N su A d := Nat.lt_of_lt_of_le q.2 hl2
    unfold l1N credA at q3
    by_cases hz : A 15 d = 0
    · rw [if_pos ⟨q.1.1, hz⟩] at q3
      split at q3 <;> omega
    · omega
  have hA1 := rc_d (k := 5) (d := d) (x := A 16 d + bN (decide (l2N su A d < l1N su A d))) (by omega) hh
  have hA2 := rc_d (k := 6) (d := d) (x := A 17 d + bN (haN su A d)) (by omega) hA1
  have hF2 : FC b C (st (st C (b + 20) d (nI (A 16 d + bN (decide (l2N su A d < l1N su A d))))) (b + 21) d (nI (A 17 d + bN (haN su A d)))) := FC_t (FC_s (by omega) (by omega)) (FC_s (by omega) (by omega))
  have hT2 := rdT_ok (r := r) (ha := haN su A d) (bz := bzA (coA A d) (su 0 d)) (l := l2N su A d) (A := thA A d (decide (l2N su A d < l1N su A d)) (haN su A d)) hb (SUC_FC h29 hs hF2) hB hA2 (Inv_th hii) hT hd (by unfold thA; simp (disch := omega) only [up_k]; exact h19) hz4 (by omega) (fun q => by unfold thA; simp (disch := omega) only [up_k]; exact hsp q)
  obtain ⟨C', n, q1, q2, q3, q4⟩ := hT2
  refine ⟨C', n, ?_, q2, FC_t hF2 q3, ?_⟩
  · simp (disch := omega) only [f_X3_runDomain, SB hb, SL hb, k23, boA_le, e1', e2, e_b]
    rw [f8, e_bd]
    dsimp only
    rw [f9, e_bd]
    dsimp only
    simp (disch := omega) only [SB hb, SL hb, k20]
    rw [f10, e_bd]
    show Option.bind (if bI (haN su A d) = 0 then some (mw (st C (b + 20) d (nI (A 16 d + bN (decide (l2N su A d < l1N su A d))))) r) else hz_ldp (mw (st C (b + 20) d (nI (A 16 d + bN (decide (l2N su A d < l1N su A d))))) r) b 11 358 20 (fun b37 => hz_lda (mw (st C (b + 20) d (nI (A 16 d + bN (decide (l2N su A d < l1N su A d))))) r) b37 (nI d) (fun v38 => hz_sta (mw (st C (b + 20) d (nI (A 16 d + bN (decide (l2N su A d < l1N su A d))))) r) b37 (nI d) (v38 + 1) (fun w39 => some w39)))) (fun q11 => rdT b (nI d) (boA (bzA (coA A d) (su 0 d))) (nI (l2N su A d)) (bI (haN su A d)) q11) = some (nI n, mw C' r)
    cases hq : haN su A d with
    | true =>
      rw [hq] at q1
      simp (disch := omega) only [bI_t, i10, reduceIte, SB hb, SL hb, st_cell, k21, nI_p1, e_bd]
      exact q1
    | false =>
      rw [hq] at q1
      simp (disch := omega) only [bI_f, reduceIte, e_bd]
      rw [show A 17 d + bN false = A 17 d from rfl, st_same (by rw [st_cell (by omega)]; exact k21)] at q1
      exact q1
  · rw [show runA su A d 31 0 = _ from q4]
    unfold thA
    simp (disch := omega) only [up_k]
