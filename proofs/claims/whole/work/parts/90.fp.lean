theorem fq_nn {a b : Int32} (hb : b ≠ 0) : Jvm.FP.Core.fIsNaN (FP.fdiv (FP.i2f a) (FP.i2f b)) = false := Jvm.FP.Core.fdiv_out (Jvm.FP.Core.i2f_fin a).notNaN (Jvm.FP.Core.i2f_fin b) (fun hz => Jvm.FP.Core.i2f_ne_zero hb ((Jvm.FP.Core.zero_bits232 _).mp hz))
theorem dq_nn {a b : Int32} (hb : b ≠ 0) : Jvm.FP.Core.dIsNaN (FP.ddiv (FP.i2d a) (FP.i2d b)) = false := Jvm.FP.Core.ddiv_out (Jvm.FP.Core.i2d_fin a).notNaN (Jvm.FP.Core.i2d_fin b) (fun hz => Jvm.FP.Core.i2d_ne_zero hb ((Jvm.FP.Core.zero_bits2 _).mp hz))
theorem nfl_ok {σ : Type} {x : UInt32} (h : Jvm.FP.Core.fIsNaN x = false) (K : UInt32 → Option σ) : hz_nfl x K = K x := by
  have h1 : ¬ 2139095040 < x.toNat % 2 ^ 31 := fun q => by
    rw [(Jvm.FP.Core.isNaN_bits32 x).mpr q] at h
    cases h
  have h2 : x &&& 0x7fffffff ≤ 0x7f800000 := by
    rw [UInt32.le_iff_toNat_le, UInt32.toNat_and]
    show x.toNat &&& (2 ^ 31 - 1) ≤ 2139095040
    rw [Nat.and_two_pow_sub_one_eq_mod]
    omega
  unfold hz_nfl
  rw [if_pos h2]
theorem nd_ok {σ : Type} {x : UInt64} (h : Jvm.FP.Core.dIsNaN x = false) (K : UInt64 → Option σ) : hz_nd x K = K x := by
  have h1 : ¬ 9218868437227405312 < x.toNat % 2 ^ 63 := fun q => by
    rw [(Jvm.FP.Core.isNaN_bits x).mpr q] at h
    cases h
  have h2 : x &&& 0x7fffffffffffffff ≤ 0x7ff0000000000000 := by
    rw [UInt64.le_iff_toNat_le, UInt64.toNat_and]
    show x.toNat &&& (2 ^ 63 - 1) ≤ 9218868437227405312
    rw [Nat.and_two_pow_sub_one_eq_mod]
    omega
  unfold hz_nd
  rw [if_pos h2]
theorem dc_self {x : UInt64} (h : Jvm.FP.Core.dIsNaN x = false) : Op.cmpValue (FP.dcmp x x) CmpOp.l = 0 := by
  have h1 : FP.dcmp x x = some .eq := Jvm.FP.Core.dcmp_self ((Jvm.FP.Core.notNaN_iff x).mp h)
  rw [h1]
  rfl
theorem f2_nn {x : UInt32} (h : Jvm.FP.Core.fIsNaN x = false) : Jvm.FP.Core.dIsNaN (FP.f2d x) = false := (Jvm.FP.f2d_nan x).trans h
def dvA (A : AS) (k : Nat) : Nat → Nat
  | 0 => 0
  | i + 1 => dvA A k i + (if A 7 i = 3 ∧ A 1 i = k then (if A 20 k ≤ A 4 i then A 4 i - A 20 k else A 20 k - A 4 i) else 0)
theorem dvA_succ (A : AS) (k i : Nat) : dvA A k (i + 1) = dvA A k i + (if A 7 i = 3 ∧ A 1 i = k then (if A 20 k ≤ A 4 i then A 4 i - A 20 k else A 20 k - A 4 i) else 0) := rfl
theorem abs32 {a b : Nat} (ha : a < 2 ^ 30) (hb : b < 2 ^ 30) : (if 0 ≤ nI a - nI b then nI a - nI b else 0 - (nI a - nI b)) = nI (if b ≤ a then a - b else b - a) := by
  by_cases h : b ≤ a
  · rw [if_pos h, pk_sub h, if_pos (nI_pos' (by omega))]
  · rw [if_neg h, if_neg]
    · rw [← Int32.neg_sub (a := nI b) (b := nI a), pk_sub (by omega), Int32.sub_neg, Int32.zero_add]
    · rw [Int32.le_iff_toInt_le, pk_sub_toInt ha hb]
      show ¬ (0 : Int) ≤ _
      omega
theorem absL {a b : Nat} (ha : a < 2 ^ 30) (hb : b < 2 ^ 30) : (if 0 ≤ nI a - nI b then some (Int32.toInt64 (nI a - nI b)) else some (Int32.toInt64 (-(nI a - nI b)))) = some (lN (if b ≤ a then a - b else b - a)) := by
  by_cases h : b ≤ a
  · rw [if_pos h, pk_sub h, if_pos (nI_pos' (by omega)), nI_l (by omega)]
  · rw [if_neg h, if_neg]
    · rw [Int32.neg_sub, pk_sub (by omega), nI_l (by omega)]
    · rw [Int32.le_iff_toInt_le, pk_sub_toInt ha hb]
      show ¬ (0 : Int) ≤ _
      omega
theorem l_dv {N : Nat → Nat → Int32} {r : Int64 × UInt64} {D T k : Nat} {su : Nat → Nat → Nat} {A : AS} (h : RC N 29 D A) (hi : Inv D su T A) (hk : k < 8) : ∀ m i F, i + m = A 30 0 → m < F → lp_X1_deviationSum_4 (29 + 1) (nI k) F (nI (dvA A k i), nI i, mw N r) = some (nI (dvA A k (A 30 0)), mw N r) := by
  have hc := hi.1.1
  have kc : N (29 + 1) 0 = nI (A 30 0) := h.1.1
  have ke : N (29 + 12) k = nI (A 20 k) := h.2.2.2.2.2.2.2.1 k hk
  have h20 := (hi.2.2.2.2.2 k hk).1
  intro m
  induction m with
  | zero =>
    intro i F hk2 hF
    obtain ⟨F, rfl⟩ := F_succ hF
    have hk2 : i = A 30 0 := by omega
    subst hk2
    simp (disch := omega) only [lp_X1_deviationSum_4, mw_1, kc]
    rw [if_pos (Int32.le_refl _)]
  | succ m ih =>
    intro i F hk2 hF
    obtain ⟨F, rfl⟩ := F_succ hF
    have h2 := ih (i + 1) F (by omega) (by omega)
    have hj := hi.2.1 i (by omega)
    have k1 : N (29 + 5) i = nI (A 1 i) := h.2.1 i 1 (by omega) (by omega)
    have k4 : N (29 + 8) i = nI (A 4 i) := h.2.1 i 4 (by omega) (by omega)
    simp (disch := omega) only [lp_X1_deviationSum_4, SB bL29, SL bL29, mw_1, kc, g_holds, h.2.2.2.1 i (by omega), k1, k4, ke, abs32, nI_add, e_let, nI_1', e_b]
    rw [if_neg (nI_ge (by omega) (by omega)), ← h2, dvA_succ]
    by_cases q7 : A 7 i = 3
    · rw [decide_eq_true (show i < A 30 0 ∧ A 7 i = 3 from ⟨by omega, q7⟩), if_pos rfl, if_neg (show ¬ (1 : Int32) = 0 by decide)]
      by_cases q1 : A 1 i = k
      · rw [q1, if_pos rfl, e_bd, if_pos (show A 7 i = 3 ∧ k = k from ⟨q7, rfl⟩)]
      · rw [if_neg (fun q => q1 ((nI_eq (by omega) (by omega)).mp q)), e_bd, if_neg (fun q => q1 q.2)]
        rfl
    · rw [decide_eq_false (fun q => q7 q.2), if_neg (show ¬ false = true by decide), if_pos rfl, e_bd, if_neg (fun q => q7 q.1)]
      rfl
theorem l_dvR {N : Nat → Nat → Int32} {r : Int64 × UInt64} {D T k : Nat} {su : Nat → Nat → Nat} {A : AS} (h : RR N D A) (hi : Inv D su T A) (hk : k < 8) : ∀ m i F, i + m = A 30 0 → m < F → lp_X10_deviation_26 336 (nI k) F (lN (dvA A k i), nI (cnt (fun j => decide (A 7 j = 3) && decide (A 1 j = k)) i), nI i, mw N r) = some (lN (dvA A k (A 30 0)), nI (cnt (fun j => decide (A 7 j = 3) && decide (A 1 j = k)) (A 30 0)), mw N r) := by
  have hc := hi.1.1
  have kc : N 337 2 = nI (A 30 0) := h.1.1
  have ke : N 337 (3 + k) = nI (A 20 k) := h.2.2.2.1 k hk
  have h20 := (hi.2.2.2.2.2 k hk).1
  intro m
  induction m with
  | zero =>
    intro i F hk2 hF
    obtain ⟨F, rfl⟩ := F_succ hF
    have hk2 : i = A 30 0 := by omega
    subst hk2
    simp (disch := omega) only [lp_X10_deviation_26, PR, RLd, kc]
    rw [if_pos (Int32.le_refl _)]
  | succ m ih =>
    intro i F hk2 hF
    obtain ⟨F, rfl⟩ := F_succ hF
    have h2 := ih (i + 1) F (by omega) (by omega)
    have hj := hi.2.1 i (by omega)
    have k1 : rJ N i 1 = nI (A 1 i) := h.2.1 i 1 (by omega) (by omega)
    have k4 : rJ N i 4 = nI (A 4 i) := h.2.1 i 4 (by omega) (by omega)
    have k7 : rJ N i 7 = nI (A 7 i) := h.2.1 i 7 (by omega) (by omega)
    simp (disch := omega) only [lp_X10_deviation_26, PR, RLd, AR, RJ, kc, k1, k4, k7, nI_3a, ke, e_let, nI_1', e_b, absL, e_bd, lN_add]
    rw [if_neg (nI_ge (by omega) (by omega)), ← h2, dvA_succ, cnt]
    by_cases q1 : A 1 i = k
    · rw [q1, if_pos rfl]
      by_cases q7 : A 7 i = 3
      · rw [q7, if_pos (show nI 3 = 3 from rfl), e_bd]
        simp only [and_self, reduceIte, decide_true, Bool.and_self]
      · rw [if_neg (show ¬ nI (A 7 i) = 3 from fun q => q7 ((nI_eq (b := 3) (by omega) (by omega)).mp q)), e_bd]
        simp only [q7, false_and, reduceIte, decide_false, Bool.false_and, Bool.false_eq_true, Nat.add_zero]
    · rw [if_neg (fun q => q1 ((nI_eq (by omega) (by omega)).mp q)), e_bd]
      simp only [q1, and_false, reduceIte, decide_false, Bool.and_false, Bool.false_eq_true, Nat.add_zero]
theorem dv_le {D T k : Nat} {su : Nat → Nat → Nat} {A : AS} (hi : Inv D su T A) (hk : k < 8) : ∀ i, i ≤ A 30 0 → dvA A k i ≤ 9999 * i
  | 0, _ => Nat.le_refl _
  | i + 1, h => by
    have h1 := dv_le hi hk i (by omega)
    have h2 := hi.2.1 i (by omega)
    have h3 := (hi.2.2.2.2.2 k hk).1
    rw [dvA_succ]
    split
    · split <;> omega
    · omega
theorem l2i {n : Nat} (h : n < 2 ^ 31) : FP.l2d (lN n) = FP.i2d (nI n) := by
  show UInt64.ofNat (Jvm.FP.Core.fromInt Jvm.FP.Core.b64 (lN n).toInt) = UInt64.ofNat (Jvm.FP.Core.fromInt Jvm.FP.Core.b64 (nI n).toInt)
  rw [lN_toInt h, nI_toInt h]
theorem law_17 {xs : Nat → Int32} {Ls i T : Nat} {N : Nat → Nat → Int32} {r : Int64 × UInt64} (hL : Ls ≤ 3584) (h7 : 7 * i + 7 ≤ Ls) (hT : T ≤ 256000) (hg : GI N T) : ∃ N' r', lawc_17 xs Ls (nI (7 * i)) (mw N r) = some (mw N' r') ∧ GI N' (T + 500) := by
  have hg0 := hg
  obtain ⟨g1, g2, g3, g4, g5⟩ := hg
  simp only [lawc_17, e_lds hL h7]
  generalize xs (7 * i + 1) = x1
  rcases g5 with ⟨u1, u2, u3⟩ | ⟨D, su, A, h, w, H, hS⟩
  · simp only [f_L_meanPower, f_X9_meanPower, P0, G356, g_nD0 r _ u1, e_bxl, e_btl, reduceIte, e_b, f_X10_meanPower, PR, g_isD, g_w0 r _ u2, i10, g_thr, st_self, e_bd]
    exact ⟨_, _, rfl, GI_q (GF_4 (by omega)) hg0⟩
  · obtain ⟨a1, a2, a3, a4, a5, a6, a7, a8, a9, a10, a11⟩ := hS
    have hD := a3.2.1
    cases hr : rg 0 (nI D - 1) x1 with
    | false =>
      simp only [f_L_meanPower, f_X9_meanPower, P0, G356, g_nDf r (x := x1) a1 (by rw [a4.1]; exact hr), e_bxl, e_btl, SX, reduceIte, e_b, f_X10_meanPower, PR, g_isD, a5.1, hr, bI_f, g_w1f r a2, i10, g_thr, st_self, e_bd]
      exact ⟨_, _, rfl, GI_q (GF_4 (by omega)) hg0⟩
    | true =>
      obtain ⟨d, hd, rfl⟩ := rg_n (by omega) hr
      have hc : f_X9_needDomain 0 (nI d) (mw N r) = some (.inr (), mw N r) := g_nDt r a1 (by rw [a4.1]; exact hr)
      have k1 : N (29 + 18) d = nI (A 14 d) := a6.2.2.2.2.2.2.2.2.2.2.1 d 3 hd (by omega)
      have k2 : rD N d 4 = nI (A 14 d) := a7.2.2.2.2.2.1 d 4 hd (by omega)
      have kT : N 29 2 = nI (A 30 1) := a6.1.2.1
      have kR : N 337 0 = nI (A 30 1) := a7.1.2.1
      have hTT := a8.1.1.1.2.1
      by_cases h0 : A 30 1 = 0
      · have z : (nI (A 30 1) = 0) = True := eq_true (by rw [h0]; rfl)
        simp (disch := omega) only [f_L_meanPower, f_X9_meanPower, P0, G356, hc, e_bx, mw_1, kT, z, reduceIte, e_btl, SX, e_b, f_X10_meanPower, PR, RLd, g_isD, a5.1, hr, bI_t, g_w1t _ a2, st_cell, kR, e_bd, e_let, mw_pn, st_self, g_thr]
        exact ⟨_, _, rfl, GI_q (GF_t (GF_4 (by omega)) (GF_4 (by omega))) hg0⟩
      · have hne : nI (A 30 1) ≠ 0 := nI_ne0 (by omega) (by omega)
        have z : (nI (A 30 1) = 0) = False := eq_false hne
        have z3 : ((0 : Int32) = 3) = False := eq_false (by decide)
        have nn := fq_nn (a := nI (A 14 d)) hne
        simp (disch := omega) only [f_L_meanPower, f_X9_meanPower, P0, G356, hc, e_bx, mw_1, kT, z, reduceIte, SB bL29, SL bL29, k1, nfl_ok nn, e_bt, nd_ok (f2_nn nn), e_let, mw_pd, e_b, f_X10_meanPower, PR, RLd, g_isD, a5.1, hr, bI_t, i10, g_w1t _ a2, st_cell, kR, e_bd, mw_pn, st_self, z3, RO, rD_c, k2, g_thr]
        simp only [mw_2, dc_self (f2_nn nn), reduceIte]
        exact ⟨_, _, rfl, GI_q (GF_t (GF_4 (by omega)) (GF_4 (by omega))) hg0⟩
theorem law_24 {xs : Nat → Int32} {Ls i T : Nat} {N : Nat → Nat → Int32} {r : Int64 × UInt64} (hL : Ls ≤ 3584) (h7 : 7 * i + 7 ≤ Ls) (hT : T ≤ 256000) (hg : GI N T) : ∃ N' r', lawc_24 xs Ls (nI (7 * i)) (mw N r) = some (mw N' r') ∧ GI N' (T + 500) := by
  have hg0 := hg
  obtain ⟨g1, g2, g3, g4, g5⟩ := hg
  simp only [lawc_24, e_lds hL h7]
  generalize xs (7 * i + 1) = x1
  rcases g5 with ⟨u1, u2, u3⟩ | ⟨D, su, A, h, w, H, hS⟩
  · simp only [f_L_deviation, f_X9_deviation, P0, G356, g_nS0 r u1, e_bxl, e_btl, reduceIte, e_b, f_X10_deviation, PR, IN, g_w0 r _ u2, i10, g_thr, st_self, e_bd]
    exact ⟨_, _, rfl, GI_q (GF_4 (by omega)) hg0⟩
  · obtain ⟨a1, a2, a3, a4, a5, a6, a7, a8, a9, a10, a11⟩ := hS
    have hD := a3.2.1
    cases hr : rg 0 7 x1 with
    | false =>
      simp only [f_L_deviation, f_X9_deviation, P0, G356, g_nS1 r a1, e_bx, g_nRf hr, e_bxl, e_btl, SX, reduceIte, e_b, f_X10_deviation, PR, IN, hr, bI_f, g_w1f r a2, i10, g_thr, st_self, e_bd]
      exact ⟨_, _, rfl, GI_q (GF_4 (by omega)) hg0⟩
    | true =>
      obtain ⟨k, _, hk, rfl⟩ := rg_t (a := 0) (b := 7) (by omega) (by omega) hr
      have hc24 := a8.1.1.1.1
      have i8 := a8.1.1.2.2.2.2.2 k (by omega)
      have hle := cnt_le (fun j => decide (A 7 j = 3) && decide (A 1 j = k)) (A 30 0)
      have k13 : N (29 + 13) k = nI (A 21 k) := a6.2.2.2.2.2.2.2.2.1 k (by omega)
      have hR4 : RR (st N 336 4 0) D A := RR_336 a7
      have k2 : ∀ r, lp_X10_deviation_26 336 (nI k) 3000 (0, 0, 0, mw (st N 336 4 0) r) = _ := fun r => l_dvR (r := r) hR4 a8.1.1 (show k < 8 by omega) (A 30 0) 0 3000 (by omega) (by omega)
      rw [← i8.2] at k2
      by_cases h0 : A 21 k = 0
      · have z : (nI (A 21 k) = 0) = True := eq_true (by rw [h0]; rfl)
        simp (disch := omega) only [f_L_deviation, f_X9_deviation, P0, G356, g_nS1 r a1, e_bx, g_nRt hr, SB bL29, SL bL29, k13, z, reduceIte, e_btl, SX, e_b, f_X10_deviation, PR, IN, hr, bI_t, g_w1t _ a2, k2, e_bd, e_let, mw_pn, st_self, g_thr]
        exact ⟨_, _, rfl, GI_q (GF_t (GF_4 (by omega)) (GF_4 (by omega))) hg0⟩
      · have hne : nI (A 21 k) ≠ 0 := nI_ne0 (by omega) (by omega)
        have z : (nI (A 21 k) = 0) = False := eq_false hne
        have hdv := dv_le a8.1.1 (show k < 8 by omega) (A 30 0) (Nat.le_refl _)
        have nn := dq_nn (a := nI (dvA A k (A 30 0))) hne
        have k1 := l_dv (r := r) a6 a8.1.1 (show k < 8 by omega) (A 30 0) 0 3000 (by omega) (by omega)
        have k1' : f_X1_deviationSum (29 + 1) (nI k) (mw N r) = some (nI (dvA A k (A 30 0)), mw N r) := by
          simp only [f_X1_deviationSum, SB bL29]
          rw [show lp_X1_deviationSum_4 (29 + 1) (nI k) 3000 (0, 0, mw N r) = _ from k1, e_bd]
        simp (disch := omega) only [f_L_deviation, f_X9_deviation, P0, G356, g_nS1 r a1, e_bx, g_nRt hr, SB bL29, SL bL29, k13, z, reduceIte, k1', nd_ok nn, e_bt, e_let, mw_pd, e_b, f_X10_deviation, PR, IN, hr, bI_t, g_w1t _ a2, k2, e_bd, l2i, mw_pn, st_self, g_thr]
        simp only [mw_2, dc_self nn, reduceIte]
        exact ⟨_, _, rfl, GI_q (GF_t (GF_4 (by omega)) (GF_4 (by omega))) hg0⟩
