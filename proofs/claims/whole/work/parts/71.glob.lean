def BY (x y : Int32) : Prop := ∃ v, v < 256 ∧ y = nI v ∧ x.toInt = if v < 128 then (v : Int) else (v : Int) - 256
def TXR (N : Nat → Nat → Int32) : Prop := ∃ len, N 1 1 = nI len ∧ len ≤ 500 ∧ N 336 16 = nI len ∧ ∀ i, i < len → BY (N 2 i) (N 348 i)
def IL (D : Nat) (su : Nat → Nat → Nat) (T : Nat) (A : AS) : Prop := InvX D su T A ∧ ∀ d, d < D → A 10 d ≤ 99999
def GS (N : Nat → Nat → Int32) (T D : Nat) (su : Nat → Nat → Nat) (A : AS) (h w : Nat) (H : Nat → AS) : Prop :=
  N 0 8 = 1 ∧ N 336 3 = 1 ∧ SUB D su ∧ SUC N D su ∧ SUR N D su ∧ RC N 29 D A ∧ RR N D A ∧ IL D su T A ∧ HSC N D h w H ∧ HSR N D h H ∧ ∀ i, i < h → IL D su T (H i)
def GI (N : Nat → Nat → Int32) (T : Nat) : Prop :=
  TXR N ∧ N 336 32 = -1 ∧ N 0 9 = N 336 23 ∧ (∃ w, w < 10 ∧ N 79 1 = nI w) ∧ ((N 0 8 = 0 ∧ N 336 3 = 0 ∧ N 336 5 = 0) ∨ ∃ D su A h w H, GS N T D su A h w H)
/-- the cells that the invariant speaks of -/
def GF (N N' : Nat → Nat → Int32) : Prop :=
  (∀ a, (a < 3 ∨ (17 ≤ a ∧ a < 54) ∨ (79 ≤ a ∧ a < 331) ∨ (338 ≤ a ∧ a < 349)) → N' a = N a) ∧ (∀ k, (k = 2 ∨ k = 3 ∨ k = 5 ∨ k = 16 ∨ k = 23 ∨ k = 32) → N' 336 k = N 336 k) ∧ (∀ k, k < 287 → N' 337 k = N 337 k)
theorem GF_r {N : Nat → Nat → Int32} : GF N N := ⟨fun _ _ => rfl, fun _ _ => rfl, fun _ _ => rfl⟩
theorem GF_t {N N1 N2 : Nat → Nat → Int32} (h : GF N N1) (h2 : GF N1 N2) : GF N N2 := ⟨fun a ha => (h2.1 a ha).trans (h.1 a ha), fun a ha => (h2.2.1 a ha).trans (h.2.1 a ha), fun a ha => (h2.2.2 a ha).trans (h.2.2 a ha)⟩
theorem GF_4 {N : Nat → Nat → Int32} {k : Nat} {x : Int32} (hk : ¬ (k = 2 ∨ k = 3 ∨ k = 5 ∨ k = 16 ∨ k = 23 ∨ k = 32)) : GF N (st N 336 k x) := ⟨fun a ha => st_cell (by omega), fun a ha => st_slot (by intro q; subst q; exact hk ha), fun a ha => by rw [st_cell (by omega)]⟩
theorem SUC_GF {N N' : Nat → Nat → Int32} {D : Nat} {su : Nat → Nat → Nat} (hf : GF N N') (h : SUC N D su) : SUC N' D su := by
  unfold SUC at h ⊢
  simp only [hf.1 17 (by omega), hf.1 18 (by omega), hf.1 20 (by omega), hf.1 21 (by omega), hf.1 22 (by omega), hf.1 23 (by omega), hf.1 24 (by omega), hf.1 26 (by omega), hf.1 27 (by omega), hf.1 28 (by omega)]
  exact h
theorem SUR_GF {N N' : Nat → Nat → Int32} {D : Nat} {su : Nat → Nat → Nat} (hf : GF N N') (h : SUR N D su) : SUR N' D su := by
  unfold SUR at h ⊢
  simp only [hf.2.1 5 (by omega), hf.1 339 (by omega), hf.1 340 (by omega), hf.1 341 (by omega), hf.1 342 (by omega), hf.1 343 (by omega), hf.1 344 (by omega), hf.1 345 (by omega), hf.1 346 (by omega), hf.1 347 (by omega)]
  exact h
theorem GS_ext {N N' : Nat → Nat → Int32} {T D h w : Nat} {su : Nat → Nat → Nat} {A : AS} {H : Nat → AS} (hf : GF N N') (hg : GS N T D su A h w H) : GS N' T D su A h w H := by
  obtain ⟨a1, a2, a3, a4, a5, a6, a7, a8, a9, a10, a11⟩ := hg
  refine ⟨by rw [hf.1 0 (by omega)]; exact a1, by rw [hf.2.1 3 (by omega)]; exact a2, a3, SUC_GF hf a4, SUR_GF hf a5, RC_ext (fun a _ _ => hf.1 a (by omega)) a6, RR_ext a3.2.1 a8.1.1.1.1 hf.2.2 a7, a8, HSC_ext (fun a _ _ => hf.1 a (by omega)) a9, HSR_ext (hf.2.1 2 (by omega)) (hf.1 338 (by omega)) a10, a11⟩
theorem GI_ext {N N' : Nat → Nat → Int32} {T : Nat} (hf : GF N N') (hg : GI N T) : GI N' T := by
  obtain ⟨⟨len, t1, t2, t3, t4⟩, g2, g3, ⟨w, w1, w2⟩, g5⟩ := hg
  refine ⟨⟨len, by rw [hf.1 1 (by omega)]; exact t1, t2, by rw [hf.2.1 16 (by omega)]; exact t3, ?_⟩, by rw [hf.2.1 32 (by omega)]; exact g2, by rw [hf.1 0 (by omega), hf.2.1 23 (by omega)]; exact g3, ⟨w, w1, by rw [hf.1 79 (by omega)]; exact w2⟩, ?_⟩
  · intro i hi
    rw [hf.1 2 (by omega), hf.1 348 (by omega)]
    exact t4 i hi
  · rcases g5 with ⟨u1, u2, u3⟩ | ⟨D, su, A, h, w, H, hS⟩
    · exact .inl ⟨by rw [hf.1 0 (by omega)]; exact u1, by rw [hf.2.1 3 (by omega)]; exact u2, by rw [hf.2.1 5 (by omega)]; exact u3⟩
    · exact .inr ⟨D, su, A, h, w, H, GS_ext hf hS⟩
theorem IL_mono {D T T' : Nat} {su : Nat → Nat → Nat} {A : AS} (h : T ≤ T') (hi : IL D su T A) : IL D su T' A := ⟨InvX_mono h hi.1, hi.2⟩
theorem GI_mono {N : Nat → Nat → Int32} {T T' : Nat} (h : T ≤ T') (hg : GI N T) : GI N T' := by
  obtain ⟨g1, g2, g3, g4, g5⟩ := hg
  refine ⟨g1, g2, g3, g4, ?_⟩
  rcases g5 with u | ⟨D, su, A, hh, w, H, a1, a2, a3, a4, a5, a6, a7, a8, a9, a10, a11⟩
  · exact .inl u
  · exact .inr ⟨D, su, A, hh, w, H, a1, a2, a3, a4, a5, a6, a7, IL_mono h a8, a9, a10, fun i hi => IL_mono h (a11 i hi)⟩
/-- the law's own rules -/
theorem e_lds {σ : Type} {xs : Nat → Int32} {Ls i : Nat} (hL : Ls ≤ 3584) (h : 7 * i + 7 ≤ Ls) (K : Int32 → Option σ) : hz_lds xs Ls (nI (7 * i) + 1) K = K (xs (7 * i + 1)) ∧ hz_lds xs Ls (nI (7 * i) + 2) K = K (xs (7 * i + 2)) ∧ hz_lds xs Ls (nI (7 * i) + 3) K = K (xs (7 * i + 3)) ∧ hz_lds xs Ls (nI (7 * i) + 4) K = K (xs (7 * i + 4)) ∧ hz_lds xs Ls (nI (7 * i) + 5) K = K (xs (7 * i + 5)) ∧ hz_lds xs Ls (nI (7 * i) + 6) K = K (xs (7 * i + 6)) := by
  have hk : ∀ j, j < 7 → hz_lds xs Ls (nI (7 * i + j)) K = K (xs (7 * i + j)) := by
    intro j hj
    unfold hz_lds hz_ix
    rw [nI_clamp (by omega), decide_eq_true (nI_pos' (by omega)), decide_eq_true (by omega)]
    rfl
  simp only [nI_p1, nI_p2, nI_p3, nI_p4, nI_p5, nI_p6]
  exact ⟨hk 1 (by omega), hk 2 (by omega), hk 3 (by omega), hk 4 (by omega), hk 5 (by omega), hk 6 (by omega)⟩
theorem g_thr (N : Nat → Nat → Int32) (r : Int64 × UInt64) : f_X10_thrown 336 (mw N r) = some (N 336 4, mw N r) := by
  simp only [f_X10_thrown, PR, mw_1]
theorem lg_same (x : Int64) : lg_cmp x x = 0 := by
  unfold lg_cmp
  rw [if_neg (fun q => Int64.lt_irrefl q), if_pos rfl]
def rg (lo hi x : Int32) : Bool := decide (lo ≤ x) && decide (x ≤ hi)
theorem g_in (x lo hi : Int32) (w : MW) : f_X10_isIn (Int32.toInt64 x) (Int32.toInt64 lo) (Int32.toInt64 hi) w = some (bI (rg lo hi x), w) := by
  have e1 : (lg_cmp (Int32.toInt64 x) (Int32.toInt64 lo) < 0) ↔ ¬ lo ≤ x := by
    unfold lg_cmp
    rw [← Int32.toInt64_le (a := lo) (b := x)]
    by_cases h : x.toInt64 > lo.toInt64
    · rw [if_pos h]
      exact ⟨fun q => absurd q (by decide), fun q => absurd (Int64.le_of_lt h) q⟩
    · rw [if_neg h]
      by_cases h2 : x.toInt64 = lo.toInt64
      · rw [if_pos h2, h2]
        exact ⟨fun q => absurd q (by decide), fun q => absurd (Int64.le_refl _) q⟩
      · rw [if_neg h2]
        refine ⟨fun _ q => ?_, fun _ => by decide⟩
        rcases Int64.lt_or_eq_of_le q with q | q
        · exact h q
        · exact h2 q.symm
  have e2 : (0 < lg_cmp (Int32.toInt64 x) (Int32.toInt64 hi)) ↔ ¬ x ≤ hi := by
    unfold lg_cmp
    rw [← Int32.toInt64_le (a := x) (b := hi)]
    by_cases h : x.toInt64 > hi.toInt64
    · rw [if_pos h]
      exact ⟨fun _ q => absurd h (Int64.not_lt.mpr q), fun _ => by decide⟩
    · rw [if_neg h]
      have h3 := Int64.not_lt.mp h
      refine ⟨fun q => ?_, fun q => absurd h3 q⟩
      split at q
      · exact absurd q (by decide)
      · exact absurd q (by decide)
  unfold f_X10_isIn rg
  by_cases h1 : lo ≤ x
  · rw [if_neg (fun q => e1.mp q h1), decide_eq_true h1]
    by_cases h2 : x ≤ hi
    · rw [if_neg (fun q => e2.mp q h2), decide_eq_true h2]
      rfl
    · rw [if_pos (e2.mpr h2), decide_eq_false h2]
      rfl
  · rw [if_pos (e1.mpr h1), decide_eq_false h1]
    rfl
theorem IN : (∀ (x : Int32) (w : MW), f_X10_isIn (Int32.toInt64 x) 0 7 w = some (bI (rg 0 7 x), w)) ∧ (∀ (x : Int32) (w : MW), f_X10_isIn (Int32.toInt64 x) 0 999 w = some (bI (rg 0 999 x), w)) ∧ (∀ (x : Int32) (w : MW), f_X10_isIn (Int32.toInt64 x) 1 9999 w = some (bI (rg 1 9999 x), w)) ∧ (∀ (x : Int32) (w : MW), f_X10_isIn (Int32.toInt64 x) 0 3 w = some (bI (rg 0 3 x), w)) ∧ (∀ (x : Int32) (w : MW), f_X10_isIn (Int32.toInt64 x) 0 99999 w = some (bI (rg 0 99999 x), w)) ∧ (∀ (x : Int32) (w : MW), f_X10_isIn (Int32.toInt64 x) 0 9999 w = some (bI (rg 0 9999 x), w)) ∧ (∀ (x : Int32) (w : MW), f_X10_isIn (Int32.toInt64 x) 1 500 w = some (bI (rg 1 500 x), w)) ∧ (∀ (x : Int32) (w : MW), f_X10_isIn (Int32.toInt64 x) 0 8 w = some (bI (rg 0 8 x), w)) ∧ (∀ (x y : Int32) (w : MW), f_X10_isIn (Int32.toInt64 x) 0 (Int32.toInt64 y) w = some (bI (rg 0 y x), w)) ∧ (∀ (x y : Int32) (w : MW), f_X10_isIn (Int32.toInt64 x) 1 (Int32.toInt64 y) w = some (bI (rg 1 y x), w)) :=
  ⟨fun x w => g_in x 0 7 w, fun x w => g_in x 0 999 w, fun x w => g_in x 1 9999 w, fun x w => g_in x 0 3 w, fun x w => g_in x 0 99999 w, fun x w => g_in x 0 9999 w, fun x w => g_in x 1 500 w, fun x w => g_in x 0 8 w, fun x y w => g_in x 0 y w, fun x y w => g_in x 1 y w⟩
theorem bI_isb {σ : Type} (b : Bool) (x : Option σ) : hz_gd (hz_isb (bI b)) x = x := by cases b <;> rfl
theorem g_isD (N : Nat → Nat → Int32) (r : Int64 × UInt64) (x : Int32) : f_X10_isDomain 336 x (mw N r) = some (bI (rg 0 (N 336 5 - 1) x), mw N r) := by
  simp only [f_X10_isDomain, PR, mw_1, IN, e_b, bI_isb]
theorem g_isJ (N : Nat → Nat → Int32) (r : Int64 × UInt64) (x : Int32) : f_X10_isJob 336 x (mw N r) = some (bI (rg 0 (N 337 2 - 1) x), mw N r) := by
  simp only [f_X10_isJob, PR, RLd, IN, e_b, bI_isb]
theorem g_w0 {N : Nat → Nat → Int32} (r : Int64 × UInt64) (x : Int32) (h : N 336 3 = 0) : f_X10_isWrong 336 x (mw N r) = some (1, mw (st N 336 4 1) r) := by
  simp only [f_X10_isWrong, PR, mw_1, h, reduceIte, e_bd, e_let, mw_pn, st_self]
  rfl
theorem g_w1 {N : Nat → Nat → Int32} (r : Int64 × UInt64) (b : Bool) (h : N 336 3 = 1) : f_X10_isWrong 336 (bI b) (mw N r) = some (bI (!b), mw (st N 336 4 (if b = true then 0 else 2)) r) := by
  simp only [f_X10_isWrong, PR, mw_1, h, i10, reduceIte, e_let, mw_pn]
  cases b
  · simp only [bI_f, reduceIte, e_bd, st_self]
    rfl
  · simp only [bI_t, i10, reduceIte, e_bd, st_self]
    rfl
theorem g_w1t {N : Nat → Nat → Int32} (r : Int64 × UInt64) (h : N 336 3 = 1) : f_X10_isWrong 336 1 (mw N r) = some (0, mw (st N 336 4 0) r) := g_w1 r true h
theorem g_w1f {N : Nat → Nat → Int32} (r : Int64 × UInt64) (h : N 336 3 = 1) : f_X10_isWrong 336 0 (mw N r) = some (1, mw (st N 336 4 2) r) := g_w1 r false h
/-- the class's checks -/
theorem g_nS0 {N : Nat → Nat → Int32} (r : Int64 × UInt64) (h : N 0 8 = 0) : f_X9_needSystem 0 (mw N r) = some (.inl "java/lang/IllegalStateException", mw N r) := by
  simp only [f_X9_needSystem, P0, mw_1, h, reduceIte]
theorem g_nS1 {N : Nat → Nat → Int32} (r : Int64 × UInt64) (h : N 0 8 = 1) : f_X9_needSystem 0 (mw N r) = some (.inr (), mw N r) := by
  simp only [f_X9_needSystem, P0, mw_1, h, i10, reduceIte]
theorem g_nRt {lo hi x : Int32} {w : MW} (h : rg lo hi x = true) : f_X9_needRange x lo hi w = some (.inr (), w) := by
  unfold rg at h
  simp only [Bool.and_eq_true, decide_eq_true_eq] at h
  unfold f_X9_needRange
  rw [if_neg (Int32.not_lt.mpr h.1), if_pos h.2]
theorem g_nRf {lo hi x : Int32} {w : MW} (h : rg lo hi x = false) : f_X9_needRange x lo hi w = some (.inl "java/lang/IllegalArgumentException", w) := by
  unfold rg at h
  unfold f_X9_needRange
  by_cases h1 : x < lo
  · rw [if_pos h1]
  · rw [if_neg h1]
    by_cases h2 : x ≤ hi
    · rw [decide_eq_true (Int32.not_lt.mp h1), decide_eq_true h2] at h
      cases h
    · rw [if_neg h2]
theorem g_nD0 {N : Nat → Nat → Int32} (r : Int64 × UInt64) (x : Int32) (h : N 0 8 = 0) : f_X9_needDomain 0 x (mw N r) = some (.inl "java/lang/IllegalStateException", mw N r) := by
  simp only [f_X9_needDomain, P0, g_nS0 r h, e_bxl]
theorem g_nDt {N : Nat → Nat → Int32} (r : Int64 × UInt64) {x : Int32} (h : N 0 8 = 1) (hr : rg 0 (N 17 1 - 1) x = true) : f_X9_needDomain 0 x (mw N r) = some (.inr (), mw N r) := by
  simp only [f_X9_needDomain, P0, g_nS1 r h, e_bx, mw_1, g_nRt hr]
theorem g_nDf {N : Nat → Nat → Int32} (r : Int64 × UInt64) {x : Int32} (h : N 0 8 = 1) (hr : rg 0 (N 17 1 - 1) x = false) : f_X9_needDomain 0 x (mw N r) = some (.inl "java/lang/IllegalArgumentException", mw N r) := by
  simp only [f_X9_needDomain, P0, g_nS1 r h, e_bx, mw_1, g_nRf hr, e_bxl]
theorem g_nJ0 {N : Nat → Nat → Int32} (r : Int64 × UInt64) (x : Int32) (h : N 0 8 = 0) : f_X9_needJob 0 x (mw N r) = some (.inl "java/lang/IllegalStateException", mw N r) := by
  simp only [f_X9_needJob, P0, g_nS0 r h, e_bxl]
theorem g_nJt {N : Nat → Nat → Int32} (r : Int64 × UInt64) {x : Int32} (h : N 0 8 = 1) (hr : rg 0 (N (29 + 1) 0 - 1) x = true) : f_X9_needJob 0 x (mw N r) = some (.inr (), mw N r) := by
  simp only [f_X9_needJob, P0, SB bL29, g_nS1 r h, e_bx, mw_1, g_nRt hr]
theorem g_nJf {N : Nat → Nat → Int32} (r : Int64 × UInt64) {x : Int32} (h : N 0 8 = 1) (hr : rg 0 (N (29 + 1) 0 - 1) x = false) : f_X9_needJob 0 x (mw N r) = some (.inl "java/lang/IllegalArgumentException", mw N r) := by
  simp only [f_X9_needJob, P0, SB bL29, g_nS1 r h, e_bx, mw_1, g_nRf hr, e_bxl]
theorem g_nNt {x : Int32} {w : MW} (h : 0 ≤ x) : f_X9_needNotNegative x w = some (.inr (), w) := if_pos h
theorem g_nNf {x : Int32} {w : MW} (h : ¬ 0 ≤ x) : f_X9_needNotNegative x w = some (.inl "java/lang/IllegalArgumentException", w) := if_neg h
theorem rg_t {a b : Nat} {x : Int32} (ha : a < 2 ^ 31) (hb : b < 2 ^ 31) (h : rg (nI a) (nI b) x = true) : ∃ j, a ≤ j ∧ j ≤ b ∧ x = nI j := by
  unfold rg at h
  simp only [Bool.and_eq_true, decide_eq_true_eq] at h
  have h0 : ¬ x < 0 := by
    have h1 := h.1
    rw [Int32.le_iff_toInt_le, nI_toInt ha] at h1
    rw [Int32.lt_iff_toInt_lt]
    have : (0 : Int32).toInt = 0 := by decide
    omega
  obtain ⟨j, hj, rfl⟩ := nI_of h0
  exact ⟨j, (nI_leI ha hj).mp h.1, (nI_leI hj hb).mp h.2, rfl⟩
theorem rg_of {a b j : Nat} (hb : b < 2 ^ 31) (h1 : a ≤ j) (h2 : j ≤ b) : rg (nI a) (nI b) (nI j) = true := by
  unfold rg
  rw [decide_eq_true (nI_le h1 (by omega)), decide_eq_true (nI_le h2 hb)]
  rfl
theorem rg_n {n : Nat} {x : Int32} (hn : n < 2 ^ 30) (h : rg 0 (nI n - 1) x = true) : ∃ j, j < n ∧ x = nI j := by
  by_cases h0 : n = 0
  · subst h0
    unfold rg at h
    simp only [Bool.and_eq_true, decide_eq_true_eq, Int32.le_iff_toInt_le] at h
    have h1 : (0 : Int32).toInt = 0 := by decide
    have h2 : (nI 0 - 1 : Int32).toInt = -1 := by decide
    omega
  · rw [nI_m1 (by omega)] at h
    obtain ⟨j, _, h2, h3⟩ := rg_t (a := 0) (by omega) (by omega) h
    exact ⟨j, by omega, h3⟩
theorem rg_nof {n j : Nat} (hn : n < 2 ^ 30) (h : j < n) : rg 0 (nI n - 1) (nI j) = true := by
  rw [nI_m1 (by omega)]
  exact rg_of (a := 0) (by omega) (by omega) (by omega)
theorem SX : (("java/lang/IllegalArgumentException" = "java/lang/IllegalStateException") = False) ∧ (("java/util/NoSuchElementException" = "java/lang/IllegalStateException") = False) ∧ (("java/util/NoSuchElementException" = "java/lang/IllegalArgumentException") = False) ∧ (("java/lang/ArithmeticException" = "java/lang/IllegalStateException") = False) ∧ (("java/lang/ArithmeticException" = "java/lang/IllegalArgumentException") = False) := ⟨eq_false (by decide), eq_false (by decide), eq_false (by decide), eq_false (by decide), eq_false (by decide)⟩
theorem G356 {σ : Type} (x : Option σ) : hz_gd (hz_g 358 356 23) x = x ∧ hz_gd (hz_g 358 357 24) x = x := ⟨rfl, rfl⟩
