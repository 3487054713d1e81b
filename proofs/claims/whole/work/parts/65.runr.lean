theorem ch_R {R : Nat → Nat → Int32} {r : Int64 × UInt64} {D d T : Nat} {su : Nat → Nat → Nat} {A : AS} (hs : SUR R D su) (hB : SUB D su) (h : RR R D A) (hi : Inv D su T A) (hT : T < 2 ^ 29) (hd : d < D) : ∃ R', f_X10_chooseLevel 336 (nI d) (mw R r) = some (mw R' r) ∧ RR R' D (up (up A 16 d (A 16 d + bN (decide (l2N su A d < l1N su A d)))) 13 d (l2N su A d)) ∧ FT R R' ∧ R' 336 29 = bI (haN su A d) ∧ R' 336 30 = R 336 30 ∧ R' 336 31 = R 336 31 := by
  have hD := hB.2.1
  have hB2 := hB.2.2 d hd
  have hDR := DR_of hs hB h hi hT hd
  have hl1 := l1N_lt (A := A) hB hd
  have hl0 := l0N_lt (A := A) hB hd
  have hl2 := l2N_le (su := su) (A := A) (d := d)
  have hz4 := bzA_le (coA A d) (su 0 d)
  have hh := h
  obtain ⟨c18, c26, c20, c21, c22, c23, c24, cn⟩ := hs.2 d hd
  obtain ⟨⟨h1, h2, h3⟩, h4, h5, h6, h7, h8, h9⟩ := h
  obtain ⟨⟨i1, i2, i3⟩, i4, i5, i6, i7, i8⟩ := hi
  have h5d := i5 d hd
  have k0 : rD R d 0 = nI (A 10 d) := h8 d 0 hd (by omega)
  have k1 : rD R d 1 = nI (A 11 d) := h8 d 1 hd (by omega)
  have k2 : rD R d 2 = nI (A 12 d) := h8 d 2 hd (by omega)
  have k5 : rD R d 5 = nI (A 15 d) := h8 d 5 hd (by omega)
  have k6 : rD R d 6 = nI (A 16 d) := h8 d 6 hd (by omega)
  have hpo : nI (A 11 d) = 0 ∨ nI (A 11 d) = 1 ∨ nI (A 11 d) = 2 ∨ nI (A 11 d) = 3 := by
    have : A 11 d = 0 ∨ A 11 d = 1 ∨ A 11 d = 2 ∨ A 11 d = 3 := by omega
    rcases this with q | q | q | q <;> rw [q]
    · exact .inl rfl
    · exact .inr (.inl rfl)
    · exact .inr (.inr (.inl rfl))
    · exact .inr (.inr (.inr rfl))
  have hmx : mxA (fun e => needA (A 6) (A 5) (A 30 1) (coA A d e)) (su 0 d) < 2 ^ 30 := mxA_lt (by omega) (fun e he => needA_lt (by omega) (fun j hj => by
    have := i6 d e j hd (oA_some.mp hj)
    have := i4 j this.2.1
    omega))
  have e0 : sugA (nI (A 11 d)) (bzA (coA A d) (su 0 d)) (su 1 d - 1) (fndA (fun i => decide (nI (mxA (fun e => needA (A 6) (A 5) (A 30 1) (coA A d e)) (su 0 d)) ≤ R 346 (5 * d + i))) (su 1 d - 1) 0) = l0N su A d := by
    rw [fndA_congr (q := fun i => decide (mxA (fun e => needA (A 6) (A 5) (A 30 1) (coA A d e)) (su 0 d) ≤ su 7 (5 * d + i))) (fun i hi => by
      have hn := hB2.2.2.2.2.2.2.2.2.2.2 i (by omega)
      rw [(cn i (by omega)).1, dc_le (by omega) (by omega)])]
    rfl
  have hhot : ∀ i, i < su 1 d → hotA (rD R d 2) (R 340 d) (R 337 1) (R 341 d) (rD R d 0) (nI (bzA (coA A d) (su 0 d))) (R 339 d) (R 342 d) (fun l => R 347 (5 * d + l)) i = htN su A d i := by
    intro i hi
    have hn := hB2.2.2.2.2.2.2.2.2.2.2 i hi
    rw [k2, c20, c18, c22, h3, c21, k0]
    exact hot_R (pW := fun i => R 347 (5 * d + i)) (pw := fun i => su 8 (5 * d + i)) (l := i) (cn i hi).2 hz4 (by omega) (by omega) (by omega) hn.2.2 (by omega) i3 (by omega) (by omega) h5d.1
  have e2 : chA (bzA (coA A d) (su 0 d)) (l1N su A d) (hotA (rD R d 2) (R 340 d) (R 337 1) (R 341 d) (rD R d 0) (nI (bzA (coA A d) (su 0 d))) (R 339 d) (R 342 d) (fun l => R 347 (5 * d + l))) = l2N su A d := by
    unfold l2N chA
    rw [coolA_congr (q := htN su A d) (fun i hi => hhot i (by omega))]
  have e3 : haA (bzA (coA A d) (su 0 d)) (l2N su A d) (hotA (rD R d 2) (R 340 d) (R 337 1) (R 341 d) (rD R d 0) (nI (bzA (coA A d) (su 0 d))) (R 339 d) (R 342 d) (fun l => R 347 (5 * d + l))) = haN su A d := by
    unfold haN haA
    rw [hhot 0 (by omega)]
  have hg := g_choose (r := r) (l1 := l1N su A d) (l2 := l2N su A d) hDR k1 hpo k5 (by omega) c23 (by omega) rfl e0 rfl rfl e2 (by omega)
  rw [e3] at hg
  by_cases hz : 0 < bzA (coA A d) (su 0 d)
  · rw [if_pos hz, k6] at hg
    have hbn : (nI (A 16 d) + if l2N su A d < l1N su A d then 1 else 0) = nI (A 16 d + bN (decide (l2N su A d < l1N su A d))) := by
      by_cases hq : l2N su A d < l1N su A d
      · rw [if_pos hq, decide_eq_true hq, nI_p1]
        rfl
      · rw [if_neg hq, decide_eq_false hq, nI_p0]
        rfl
    rw [hbn] at hg
    refine ⟨_, hg, ?_, ?_, ?_, ?_, ?_⟩
    · exact rr_D (k := 3) (d := d) (x := l2N su A d) (by omega) (by omega) (RR_336 (rr_D (k := 6) (d := d) (x := A 16 d + bN (decide (l2N su A d < l1N su A d))) (by omega) (by omega) (RR_336 hh)))
    · exact FT_t (FT_t (FT_t (FT_6 (by omega)) FT_D) (FT_6 (by omega))) FT_D
    · rw [sD_c (by omega), st_self]
      rfl
    · rw [sD_c (by omega), st_slot (by omega), sD_c (by omega), st_slot (by omega)]
    · rw [sD_c (by omega), st_slot (by omega), sD_c (by omega), st_slot (by omega)]
  · rw [if_neg hz] at hg
    have e4 : l2N su A d = l1N su A d := by
      unfold l2N chA
      rw [if_neg hz]
    have e5 : haN su A d = false := by
      unfold haN haA
      simp [hz]
    refine ⟨_, hg, ?_, ?_, ?_, ?_, ?_⟩
    · rw [decide_eq_false (by omega), show A 16 d + bN false = A 16 d from rfl, up_same]
      exact rr_D (k := 3) (d := d) (x := l2N su A d) (by omega) (by omega) (RR_336 hh)
    · exact FT_t (FT_6 (by omega)) FT_D
    · rw [sD_c (by omega), st_self, e5]
      rfl
    · rw [sD_c (by omega), st_slot (by omega)]
    · rw [sD_c (by omega), st_slot (by omega)]
theorem rD_Dk {R : Nat → Nat → Int32} {d k k0 : Nat} {x : Int32} (hk : k < 13) (h0 : k0 < 13) (h : k ≠ k0) : rD (sD R d k0 x) d k = rD R d k := by rw [rD_D hk h0, if_neg (fun q => h q.2)]
theorem bI_N (a : Nat) (h : Bool) : nI a + bI h = nI (a + bN h) := by
  cases h
  · exact nI_p0 a
  · exact nI_p1 a
def jbA (su : Nat → Nat → Nat) (A : AS) (d l : Nat) (ha : Bool) : AS := if ha = true then A else workA d (su 7 (5 * d + l)) (su 0 d) 0 A
def wrA (su : Nat → Nat → Nat) (A : AS) (d bz l : Nat) (ha : Bool) : AS :=
  up (up (up (up (jbA su A d l ha) 14 d (A 14 d + pwN su d bz l ha)) 17 d (A 17 d + bN ha)) 15 d (ccA (spN su d bz l ha) (A 15 d) (su 6 d))) 12 d (tmpN (A 12 d) (su 2 d) (pwN su d bz l ha) (A 30 2) (su 3 d))
theorem jbA_k {su : Nat → Nat → Nat} {A : AS} {d l q i : Nat} {ha : Bool} (hq : (10 ≤ q ∧ q < 20) ∨ q = 30 ∨ q ≤ 5) : jbA su A d l ha q i = A q i := by
  unfold jbA
  split
  · rfl
  · exact work_k hq _ _ _
theorem jb_R {R : Nat → Nat → Int32} {r : Int64 × UInt64} {D d l T : Nat} {x4 x5 : Int32} {ha : Bool} {su : Nat → Nat → Nat} {A : AS} (hs : SUR R D su) (hB : SUB D su) (h : RR R D A) (hi : Inv D su T A) (hT : T < 2 ^ 29) (hd : d < D) (hl : l < su 1 d) (h29 : R 336 29 = bI ha) : ∃ R' n, lp_X10_work_55 336 (nI d) (nI l) x4 x5 3000 (0, mw R r) = some (mw R' r) ∧ RR R' D (jbA su A d l ha) ∧ FT R R' ∧ R' 336 29 = bI ha ∧ R' 336 30 = R 336 30 ∧ R' 336 31 = R 336 31 + nI n ∧ jbA su A d l ha 31 0 = A 31 0 + n := by
  have hB2 := hB.2.2 d hd
  have hD := hB.2.1
  unfold jbA
  cases ha with
  | true =>
    have hcs := (hs.2 d hd).1
    refine ⟨R, 0, ?_, h, FT_r, h29, rfl, ?_, rfl⟩
    · show lp_X10_work_55 336 (nI d) (nI l) x4 x5 (2999 + 1) (0, mw R r) = _
      rw [lp_X10_work_55]
      simp (disch := omega) only [PR, AR, hcs, mw_1, h29, bI_t, i10, reduceIte, ite_self]
    · rw [nI_0]
      exact (Int32.add_zero _).symm
  | false =>
    exact wk_R (r := r) (f := su 7 (5 * d + l)) hB hT hd hl rfl (su 0 d) 0 3000 R A (by omega) (by omega) hs h hi h29
theorem wr_R {R : Nat → Nat → Int32} {r : Int64 × UInt64} {D d bz l T : Nat} {ha : Bool} {su : Nat → Nat → Nat} {A : AS} (hs : SUR R D su) (hB : SUB D su) (h : RR R D A) (hi : Inv D su T A) (hT : T < 2 ^ 29) (hd : d < D) (hbz : bzA (coA A d) (su 0 d) = bz) (hl : l < su 1 d) (h13 : A 13 d = l) (h29 : R 336 29 = bI ha) (hcr : spN su d bz l ha = true → 1 ≤ A 15 d) : ∃ R' n, f_X10_work 336 (nI d) (mw R r) = some (mw R' r) ∧ RR R' D (wrA su A d bz l ha) ∧ FT R R' ∧ R' 336 30 = (if nI d = R 336 32 ∧ 0 < bz then (if R 336 30 < nI (wrA su A d bz l ha 12 d) then nI (wrA su A d bz l ha 12 d) else R 336 30) else R 336 30) ∧ R' 336 31 = R 336 31 + nI n ∧ wrA su A d bz l ha 31 0 = A 31 0 + n := by
  have hD := hB.2.1
  have hB2 := hB.2.2 d hd
  have hB3 := hB2.2.2.2.2.2.2.2.2.2.2 l hl
  have hDR := DR_of hs hB h hi hT hd
  have hbu := g_busyR (r := r) hDR
  have hz4 := bzA_le (coA A d) (su 0 d)
  rw [hbz] at hbu hz4
  have hp := pwN_le (ha := ha) hB hd hz4 hl
  have hh := h
  obtain ⟨c18, c26, c20, c21, c22, c23, c24, cn⟩ := hs.2 d hd
  have c28 := (cn l hl).2
  have hpR := g_powR (N := R) (r := r) (l := l) (show d < 4 by omega) (by omega) hDR.2.1 hDR.2.2.1
  rw [bz_R hDR, hbz, c28, c18, c22, powA_nI hz4] at hpR
  obtain ⟨⟨h1, h2, h3⟩, h4, h5, h6, h7, h8, h9⟩ := h
  have hi0 := hi
  obtain ⟨⟨i1, i2, i3⟩, i4, i5, i6, i7, i8⟩ := hi
  have h5d := i5 d hd
  have k3 : rD R d 3 = nI l := by
    rw [← h13]
    exact h8 d 3 hd (by omega)
  have f6 : (if bI ha = 0 then hz_b (f_X10_powerAt 336 (nI d) (nI l) (mw R r)) (fun v43 w42 => some (v43, w42)) else some (nI (su 0 d) * nI (su 4 d), mw R r)) = some (nI (pwN su d bz l ha), mw R r) := by
    unfold pwN
    cases ha with
    | true =>
      rw [if_neg (by decide), pk_mul, if_pos rfl]
      unfold powN
      simp
    | false =>
      rw [if_pos bI_f, hpR]
      rfl
  obtain ⟨R1, n, q1, q2, q3, q4, q5, q6, q7⟩ := jb_R (r := r) (x4 := boA bz) (x5 := nI (pwN su d bz l ha)) hs hB hh hi0 hT hd hl h29
  have hs1 := SUR_FT hs q3
  obtain ⟨d18, d26, d20, d21, d22, d23, d24, dn⟩ := hs1.2 d hd
  have hq := q2
  obtain ⟨⟨g1, g2, g3⟩, g4, g5, g6, g7, g8, g9⟩ := q2
  have m4 : rD R1 d 4 = nI (A 14 d) := by rw [g8 d 4 hd (by omega), jbA_k (by omega)]
  have m7 : rD R1 d 7 = nI (A 17 d) := by rw [g8 d 7 hd (by omega), jbA_k (by omega)]
  have m5 : rD R1 d 5 = nI (A 15 d) := by rw [g8 d 5 hd (by omega), jbA_k (by omega)]
  have m2 : rD R1 d 2 = nI (A 12 d) := by rw [g8 d 2 hd (by omega), jbA_k (by omega)]
  have mam : R1 337 1 = nI (A 30 2) := by rw [g3, jbA_k (by omega)]
  have htmp := tmA_nI (t := A 12 d) (h := su 2 d) (p := pwN su d bz l ha) (am := A 30 2) (co := su 3 d) (by omega) (by omega) hp i3 (by omega)
  have hR4 := rr_D (k := 2) (d := d) (x := tmpN (A 12 d) (su 2 d) (pwN su d bz l ha) (A 30 2) (su 3 d)) (by omega) (by omega) (rr_D (k := 5) (d := d) (x := ccA (spN su d bz l ha) (A 15 d) (su 6 d)) (by omega) (by omega) (rr_D (k := 7) (d := d) (x := A 17 d + bN ha) (by omega) (by omega) (rr_D (k := 4) (d := d) (x := A 14 d + pwN su d bz l ha) (by omega) (by omega) hq)))
  have f10 : (if bI ha = 0 then some (0 : Int32) else some 1) = some (bI ha) := by cases ha <;> rfl
  have f12 : (if boA bz = 0 then some (0 : Int32) else if bI ha = 0 then (if nI l ≤ nI (su 5 d) then some 0 else some 1) else some 0) = some (bI (spN su d bz l ha)) := by
    unfold spN
    by_cases hz : 0 < bz
    · rw [boA_1 hz, if_neg (by decide)]
      cases ha with
      | true => simp [bI]
      | false =>
        rw [if_pos bI_f]
        by_cases hlt : su 5 d < l
        · rw [if_neg (nI_ge hlt (by omega))]
          simp [hz, hlt, bI]
        · rw [if_pos (nI_le (by omega) (by omega))]
          simp [hlt, bI]
    · rw [boA_0 hz, if_pos rfl]
      simp [hz, bI]
  have f13 : ∀ w : MW, (if bI (spN su d bz l ha) = 0 then some ((if nI (A 15 d + 1) < nI (su 6 d) then nI (A 15 d + 1) else nI (su 6 d)), w) else some (nI (A 15 d) - 1, w)) = some (nI (ccA (spN su d bz l ha) (A 15 d) (su 6 d)), w) := by
    intro w
    unfold ccA
    cases hsp : spN su d bz l ha with
    | true =>
      have := hcr hsp
      rw [if_neg (by decide), if_pos rfl, nI_m1 this]
    | false =>
      rw [if_pos bI_f, if_neg (show ¬ false = true by decide)]
      by_cases hc : A 15 d + 1 < su 6 d
      · rw [if_pos (nI_lt hc (by omega)), if_pos (by omega)]
      · rw [if_neg (nI_nlt (by omega) (by omega))]
        by_cases hc2 : A 15 d < su 6 d
        · rw [if_pos hc2, show su 6 d = A 15 d + 1 by omega]
        · rw [if_neg hc2, show su 6 d = A 15 d by omega]
  have e32 : R1 336 32 = R 336 32 := q3.2 32 (by omega) (by omega) (by omega)
  simp (disch := omega) only [f_X10_work, PR, AR, RO, k3, hbu, e_b, boA_le, mw_1, h29, c18, c22]
  rw [f6, e_bd]
  dsimp only
  rw [q1, e_bd]
  simp (disch := omega) only [RA, m4, e_bv, nI_add, mw_1, sD_c, q4]
  rw [f10, e_bd]
  simp (disch := omega) only [RA, rD_Dk, m7, bI_N, e_bv, mw_1, sD_c, q4, PR, AR, d23]
  rw [f12, e_bd]
  simp (disch := omega) only [PR, AR, RO, sD_c, d24, rD_Dk, m5, e_b, nI_p1]
  rw [f13, e_bd]
  simp (disch := omega) only [RP, e_bv, g_tmpR, rD_Dk, m2, sD_c, rL_D, d20, d21, mam, htmp, e_b, mw_1, e32, q5]
  have e12 : wrA su A d bz l ha 12 d = tmpN (A 12 d) (su 2 d) (pwN su d bz l ha) (A 30 2) (su 3 d) := up_self _ _ _ _
  have e31 : wrA su A d bz l ha 31 0 = A 31 0 + n := by
    unfold wrA
    simp (disch := omega) only [up_k]
    exact q7
  have hF : FT R (sD (sD (sD (sD R1 d 4 (nI (A 14 d + pwN su d bz l ha))) d 7 (nI (A 17 d + bN ha))) d 5 (nI (ccA (spN su d bz l ha) (A 15 d) (su 6 d)))) d 2 (nI (tmpN (A 12 d) (su 2 d) (pwN su d bz l ha) (A 30 2) (su 3 d)))) := FT_t (FT_t (FT_t (FT_t q3 FT_D) FT_D) FT_D) FT_D
  rw [e12]
  by_cases hw : nI d = R 336 32
  · rw [if_pos hw]
    by_cases hz : 0 < bz
    · rw [boA_1 hz, if_neg (show ¬ (1 : Int32) = 0 by decide), if_pos (show nI d = R 336 32 ∧ 0 < bz from ⟨hw, hz⟩)]
      simp only [e_let, e_bd, mw_pn]
      refine ⟨_, n, rfl, RR_336 hR4, FT_t hF (FT_6 (by omega)), ?_, ?_, e31⟩
      · rw [st_self]
      · simp (disch := omega) only [st_slot, sD_c, q6]
    · rw [boA_0 hz, if_pos rfl, e_bd, if_neg (fun q => hz q.2)]
      refine ⟨_, n, rfl, hR4, hF, ?_, ?_, e31⟩
      · simp (disch := omega) only [sD_c, q5]
      · simp (disch := omega) only [sD_c, q6]
  · rw [if_neg hw, e_bd, if_neg (fun q => hw q.1)]
    refine ⟨_, n, rfl, hR4, hF, ?_, ?_, e31⟩
    · simp (disch := omega) only [sD_c, q5]
    · simp (disch := omega) only [sD_c, q6]
