def dsI (A : AS) (d : Nat) : Int32 := nI (A 10 d) - nI (A 12 d)
def rkP (A : AS) (d o : Nat) : Bool := decide (dsI A o < dsI A d) || (decide (dsI A o = dsI A d) && decide (o < d))
theorem l_rk {N : Nat → Nat → Int32} {r : Int64 × UInt64} {D d : Nat} {A : AS} (hD : D ≤ 4) (hd : d < D) (hs : N 17 1 = nI D) (h : RC N 29 D A) (hl : ∀ d, d < D → A 10 d ≤ 99999) : ∀ m k F, k + m = D → m < F → lp_X3_throttleRank_19 29 (nI d) (dsI A d) (mw N r) F (nI (cnt (rkP A d) k), nI k) = some (nI (cnt (rkP A d) D)) := by
  intro m
  induction m with
  | zero =>
    intro k F hk hF
    obtain ⟨F, rfl⟩ := F_succ hF
    have hk : k = D := by omega
    subst hk
    simp (disch := omega) only [lp_X3_throttleRank_19, SB bL29, mw_1, hs]
    rw [if_pos (Int32.le_refl _)]
  | succ m ih =>
    intro k F hk hF
    obtain ⟨F, rfl⟩ := F_succ hF
    have h2 := ih (k + 1) F (by omega) (by omega)
    have k1 : N (29 + 14) k = nI (A 10 k) := (h.2.2.2.2.2.2.2.2.2.1 k (by omega)).trans (limC_nI (hl k (by omega)))
    have k2 : N (29 + 16) k = nI (A 12 k) := h.2.2.2.2.2.2.2.2.2.2.1 k 1 (by omega) (by omega)
    simp (disch := omega) only [lp_X3_throttleRank_19, SB bL29, SL bL29, mw_1, hs, k1, k2, e_let, nI_1']
    rw [if_neg (nI_ge (by omega) (by omega)), ← h2, cnt]
    show Option.bind (if dsI A k < dsI A d then some (nI (cnt (rkP A d) k + 1)) else if dsI A k = dsI A d then (if nI d ≤ nI k then some (nI (cnt (rkP A d) k)) else some (nI (cnt (rkP A d) k + 1))) else some (nI (cnt (rkP A d) k))) _ = _
    unfold rkP
    by_cases q1 : dsI A k < dsI A d
    · rw [if_pos q1]
      simp [q1, e_bd]
    · rw [if_neg q1]
      by_cases q2 : dsI A k = dsI A d
      · rw [if_pos q2]
        by_cases q3 : k < d
        · rw [if_neg (nI_ge q3 (by omega))]
          simp [q2, q3, e_bd]
        · rw [if_pos (nI_le (by omega) (by omega))]
          simp [q2, q3, e_bd]
      · rw [if_neg q2]
        simp [q1, q2, e_bd]
theorem rk_C {N : Nat → Nat → Int32} {r : Int64 × UInt64} {D d : Nat} {A : AS} (hD : D ≤ 4) (hd : d < D) (hs : N 17 1 = nI D) (h : RC N 29 D A) (hl : ∀ d, d < D → A 10 d ≤ 99999) : f_X3_throttleRank 29 (nI d) (mw N r) = some (nI (cnt (rkP A d) D), mw N r) := by
  have h2 := l_rk (r := r) hD hd hs h hl D 0 3000 (by omega) (by omega)
  have k1 : N (29 + 14) d = nI (A 10 d) := (h.2.2.2.2.2.2.2.2.2.1 d hd).trans (limC_nI (hl d hd))
  have k2 : N (29 + 16) d = nI (A 12 d) := h.2.2.2.2.2.2.2.2.2.2.1 d 1 hd (by omega)
  simp (disch := omega) only [f_X3_throttleRank, SB bL29, SL bL29, k1, k2, e_let]
  rw [show lp_X3_throttleRank_19 29 (nI d) (nI (A 10 d) - nI (A 12 d)) (mw N r) 3000 (0, 0) = _ from h2, e_bd]
theorem room_R {N : Nat → Nat → Int32} {r : Int64 × UInt64} {D d : Nat} {A : AS} (hD : D ≤ 4) (hd : d < D) (h : RR N D A) : f_X10_room 336 (nI d) (mw N r) = some (dsI A d, mw N r) := by
  have k1 : rD N d 0 = nI (A 10 d) := h.2.2.2.2.2.1 d 0 hd (by omega)
  have k2 : rD N d 2 = nI (A 12 d) := h.2.2.2.2.2.1 d 2 hd (by omega)
  simp (disch := omega) only [f_X10_room, PR, RO, k1, k2, e_b, dsI]
theorem l_rkR {N : Nat → Nat → Int32} {r : Int64 × UInt64} {D d : Nat} {x : Int32} {A : AS} (hD : D ≤ 4) (hd : d < D) (hs : N 336 5 = nI D) (h : RR N D A) : ∀ m k F, k + m = D → m < F → lp_X10_throttleOrder_33 336 x (nI d) F (nI (cnt (rkP A d) k), nI k, mw N r) = some (nI (cnt (rkP A d) D), mw N r) := by
  intro m
  induction m with
  | zero =>
    intro k F hk hF
    obtain ⟨F, rfl⟩ := F_succ hF
    have hk : k = D := by omega
    subst hk
    simp (disch := omega) only [lp_X10_throttleOrder_33, mw_1, hs]
    rw [if_pos (Int32.le_refl _)]
  | succ m ih =>
    intro k F hk hF
    obtain ⟨F, rfl⟩ := F_succ hF
    have h2 := ih (k + 1) F (by omega) (by omega)
    simp (disch := omega) only [lp_X10_throttleOrder_33, mw_1, hs, room_R hD hd h, room_R hD (show k < D by omega) h, e_b, e_let, nI_1']
    rw [if_neg (nI_ge (by omega) (by omega)), ← h2, cnt]
    unfold rkP
    by_cases q1 : dsI A k < dsI A d
    · rw [if_pos q1]
      simp [q1, e_bd, nI_p1]
    · rw [if_neg q1]
      by_cases q2 : dsI A k = dsI A d
      · rw [if_pos q2]
        by_cases q3 : k < d
        · rw [if_neg (nI_ge q3 (by omega))]
          simp [q2, q3, e_bd, nI_p1]
        · rw [if_pos (nI_le (by omega) (by omega))]
          simp [q2, q3, e_bd, nI_p0]
      · rw [if_neg q2]
        simp [q1, q2, e_bd, nI_p0]
def foA (p : Nat → Bool) : Nat → Nat → Option Nat
  | 0, _ => none
  | m + 1, k => if p k = true then some k else foA p m (k + 1)
theorem foA_succ (p : Nat → Bool) (m k : Nat) : foA p (m + 1) k = if p k = true then some k else foA p m (k + 1) := rfl
theorem foA_lt {p : Nat → Bool} : ∀ {m k d : Nat}, foA p m k = some d → k ≤ d ∧ d < k + m
  | 0, _, _, h => nomatch h
  | m + 1, k, d, h => by
    rw [foA_succ] at h
    split at h
    · cases h
      omega
    · have := foA_lt h
      omega
def toP (A : AS) (D : Nat) (x : Int32) (d : Nat) : Bool := decide (nI (cnt (rkP A d) D) = x)
def toX : Option Nat → String ⊕ Int32
  | none => .inl "java/util/NoSuchElementException"
  | some d => .inr (nI d)
theorem to_C {N : Nat → Nat → Int32} {r : Int64 × UInt64} {D : Nat} {x : Int32} {A : AS} (hD : D ≤ 4) (hs : N 17 1 = nI D) (h : RC N 29 D A) (hl : ∀ d, d < D → A 10 d ≤ 99999) : ∀ m k F, k + m = D → m < F → lp_X9_throttleOrder_10 0 x F (nI k, mw N r) = some (toX (foA (toP A D x) m k), mw N r) := by
  intro m
  induction m with
  | zero =>
    intro k F hk hF
    obtain ⟨F, rfl⟩ := F_succ hF
    have hk : k = D := by omega
    subst hk
    simp (disch := omega) only [lp_X9_throttleOrder_10, P0, mw_1, hs]
    rw [if_pos (Int32.le_refl _)]
    rfl
  | succ m ih =>
    intro k F hk hF
    obtain ⟨F, rfl⟩ := F_succ hF
    have h2 := ih (k + 1) F (by omega) (by omega)
    simp (disch := omega) only [lp_X9_throttleOrder_10, P0, mw_1, hs, rk_C hD (show k < D by omega) hs h hl, e_b, e_let, nI_1']
    rw [if_neg (nI_ge (by omega) (by omega)), foA_succ]
    unfold toP
    by_cases q : nI (cnt (rkP A k) D) = x
    · rw [if_pos q, if_pos (decide_eq_true q)]
      rfl
    · rw [if_neg q, if_neg (by simpa using q)]
      exact h2
theorem to_R {r : Int64 × UInt64} {D : Nat} {x : Int32} {A : AS} (hD : D ≤ 4) : ∀ m k F (N : Nat → Nat → Int32), N 336 5 = nI D → RR N D A → k + m = D → m < F → lp_X10_throttleOrder_20 336 x F (nI k, mw N r) = some (match foA (toP A D x) m k with
      | none => (0, mw (st N 336 4 3) r)
      | some d => (nI d, mw N r)) := by
  intro m
  induction m with
  | zero =>
    intro k F N hs h hk hF
    obtain ⟨F, rfl⟩ := F_succ hF
    have hk : k = D := by omega
    subst hk
    simp (disch := omega) only [lp_X10_throttleOrder_20, mw_1, hs, e_let, mw_pn]
    rw [if_pos (Int32.le_refl _)]
    rfl
  | succ m ih =>
    intro k F N hs h hk hF
    obtain ⟨F, rfl⟩ := F_succ hF
    have h2 := ih (k + 1) F N hs h (by omega) (by omega)
    have h3 := l_rkR (r := r) (x := x) hD (show k < D by omega) hs h D 0 3000 (by omega) (by omega)
    have h3' : lp_X10_throttleOrder_33 336 x (nI k) 3000 (0, 0, mw N r) = _ := h3
    simp (disch := omega) only [lp_X10_throttleOrder_20, mw_1, hs, h3', e_bd, e_let, nI_1']
    rw [if_neg (nI_ge (by omega) (by omega)), foA_succ]
    unfold toP
    by_cases q : nI (cnt (rkP A k) D) = x
    · rw [if_pos q, if_pos (decide_eq_true q)]
    · rw [if_neg q, if_neg (by simpa using q)]
      exact h2
theorem law_16 {xs : Nat → Int32} {Ls i T : Nat} {N : Nat → Nat → Int32} {r : Int64 × UInt64} (hL : Ls ≤ 3584) (h7 : 7 * i + 7 ≤ Ls) (hT : T ≤ 256000) (hg : GI N T) : ∃ N' r', lawc_16 xs Ls (nI (7 * i)) (mw N r) = some (mw N' r') ∧ GI N' (T + 500) := by
  have hg0 := hg
  obtain ⟨g1, g2, g3, g4, g5⟩ := hg
  simp only [lawc_16, e_lds hL h7]
  generalize xs (7 * i + 1) = x1
  rcases g5 with ⟨u1, u2, u3⟩ | ⟨D, su, A, h, w, H, hS⟩
  · simp only [f_L_throttleOrder, f_X9_throttleOrder, P0, G356, g_nS0 r u1, e_bxl, e_btl, reduceIte, e_b, f_X10_throttleOrder, PR]
    by_cases hn : x1 < 0
    · simp only [hn, reduceIte, e_bd, g_w0 r _ u2, e_b, i10, g_thr, st_self]
      exact ⟨_, _, rfl, GI_q (GF_4 (by omega)) hg0⟩
    · simp only [hn, reduceIte, e_bd, g_w0 r _ u2, e_b, i10, g_thr, st_self]
      exact ⟨_, _, rfl, GI_q (GF_4 (by omega)) hg0⟩
  · obtain ⟨a1, a2, a3, a4, a5, a6, a7, a8, a9, a10, a11⟩ := hS
    have hD := a3.2.1
    by_cases hn : x1 < 0
    · simp only [f_L_throttleOrder, f_X9_throttleOrder, P0, G356, g_nS1 r a1, e_bx, g_nNf (Int32.not_le.mpr hn), e_bxl, e_btl, SX, reduceIte, e_b, f_X10_throttleOrder, PR, hn, e_bd, g_w1f r a2, i10, g_thr, st_self]
      exact ⟨_, _, rfl, GI_q (GF_4 (by omega)) hg0⟩
    · have k1 := to_C (r := r) (x := x1) hD a4.1 a6 a8.2 D 0 3000 (by omega) (by omega)
      have k1' : lp_X9_throttleOrder_10 0 x1 3000 (0, mw N r) = _ := k1
      have k2 : ∀ r, lp_X10_throttleOrder_20 336 x1 3000 (0, mw (st N 336 4 0) r) = _ := fun r => to_R (r := r) (x := x1) hD D 0 3000 (st N 336 4 0) (by rw [st_slot (by omega)]; exact a5.1) (RR_336 a7) (by omega) (by omega)
      simp only [f_L_throttleOrder, f_X9_throttleOrder, P0, G356, g_nS1 r a1, e_bx, g_nNt (Int32.not_lt.mp hn), k1']
      cases hf : foA (toP A D x1) D 0 with
      | none =>
        simp only [hf] at k2
        simp (disch := omega) only [toX, e_btl, SX, reduceIte, e_b, f_X10_throttleOrder, PR, hn, e_bd, g_w1t _ a2, k2, g_thr, st_self]
        exact ⟨_, _, rfl, GI_q (GF_t (GF_4 (by omega)) (GF_4 (by omega))) hg0⟩
      | some d =>
        simp only [hf] at k2
        simp (disch := omega) only [toX, e_bt, e_let, mw_po, reduceIte, e_b, f_X10_throttleOrder, PR, hn, e_bd, g_w1t _ a2, k2, g_thr, st_self, mw_2, lg_same]
        exact ⟨_, _, rfl, GI_q (GF_4 (by omega)) hg0⟩
