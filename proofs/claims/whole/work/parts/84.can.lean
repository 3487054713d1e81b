def clrA (A : AS) (j : Nat) : AS := fun q i => if 40 ≤ q ∧ A q i = j + 1 then 0 else A q i
def caA (A : AS) (j : Nat) : AS := clrA (up A 7 j 4) j
theorem caA_k {A : AS} {j q i : Nat} (h : q < 40) (h7 : ¬ (q = 7 ∧ i = j)) : caA A j q i = A q i := by
  unfold caA clrA
  rw [if_neg (by omega), up_ki h7]
theorem caA_7 {A : AS} {j : Nat} : caA A j 7 j = 4 := by
  unfold caA clrA
  rw [if_neg (by omega), up_self]
theorem caA_o {A : AS} {j d e : Nat} : caA A j (40 + d) e = if A (40 + d) e = j + 1 then 0 else A (40 + d) e := by
  unfold caA clrA
  rw [up_k (by omega)]
  by_cases h : A (40 + d) e = j + 1
  · rw [if_pos h, if_pos ⟨by omega, h⟩]
  · rw [if_neg h, if_neg (fun q => h q.2)]
theorem IL_ca {D T j : Nat} {su : Nat → Nat → Nat} {A : AS} (h7 : A 7 j ≤ 2) (h : IL D su T A) : IL D su T (caA A j) := by
  obtain ⟨⟨⟨⟨i1, i2, i3⟩, i4, i5, i6, i7, i8⟩, hE, hth⟩, hl⟩ := h
  have ek : ∀ q i, q < 40 → q ≠ 7 → caA A j q i = A q i := fun q i h1 h2 => caA_k h1 (by omega)
  refine ⟨⟨⟨⟨?_, ?_, ?_⟩, ?_, ?_, ?_, ?_, ?_⟩, ?_, ?_⟩, ?_⟩
  · rw [ek 30 0 (by omega) (by omega)]; exact i1
  · rw [ek 30 1 (by omega) (by omega)]; exact i2
  · rw [ek 30 2 (by omega) (by omega)]; exact i3
  · intro i hi
    rw [ek 30 0 (by omega) (by omega)] at hi
    have := i4 i hi
    rw [ek 0 i (by omega) (by omega), ek 1 i (by omega) (by omega), ek 2 i (by omega) (by omega), ek 3 i (by omega) (by omega), ek 4 i (by omega) (by omega), ek 5 i (by omega) (by omega), ek 6 i (by omega) (by omega)]
    by_cases hq : i = j
    · subst hq
      rw [caA_7]
      omega
    · rw [caA_k (by omega) (by omega)]
      exact this
  · intro d hd
    rw [ek 10 d (by omega) (by omega), ek 11 d (by omega) (by omega), ek 12 d (by omega) (by omega), ek 15 d (by omega) (by omega)]
    exact i5 d hd
  · intro d e j' hd he
    rw [caA_o] at he
    split at he
    · omega
    · have h2 := i6 d e j' hd he
      have hne : j' ≠ j := by
        intro q
        subst q
        omega
      rw [ek 30 0 (by omega) (by omega), ek 0 j' (by omega) (by omega), caA_k (by omega) (by omega)]
      exact h2
  · intro d e e' j' hd h1 h2
    rw [caA_o] at h1 h2
    split at h1
    · omega
    · split at h2
      · omega
      · exact i7 d e e' j' hd h1 h2
  · intro k hk
    have := i8 k hk
    rw [ek 20 k (by omega) (by omega), ek 21 k (by omega) (by omega), ek 30 0 (by omega) (by omega)]
    refine ⟨this.1, this.2.trans (cnt_congr (fun i hi => ?_))⟩
    rw [ek 1 i (by omega) (by omega)]
    by_cases hq : i = j
    · subst hq
      rw [caA_7, decide_eq_false (show ¬ A 7 i = 3 by omega), decide_eq_false (show ¬ (4 : Nat) = 3 by omega)]
    · rw [caA_k (by omega) (by omega)]
  · unfold IE at hE ⊢
    rw [ek 30 0 (by omega) (by omega), ek 30 1 (by omega) (by omega), smA_congr (f := caA A j 6) (g := A 6) (fun i _ => ek 6 i (by omega) (by omega)), smA_congr (f := caA A j 14) (g := A 14) (fun i _ => ek 14 i (by omega) (by omega))]
    exact hE
  · intro d hd
    rw [ek 16 d (by omega) (by omega), ek 17 d (by omega) (by omega)]
    exact hth d hd
  · intro d hd
    rw [ek 10 d (by omega) (by omega)]
    exact hl d hd
theorem ln53 : hz_ln (29 + 24) = 16 := by decide +kernel
theorem i16n : Int32.ofNat 16 = nI 16 := rfl
def ccN (C : Nat → Nat → Int32) (j k : Nat) : Nat → Nat → Int32 := sa C (29 + 24) (fun i => if i < k ∧ C (29 + 24) i = nI j then -2 else C (29 + 24) i)
theorem ccN_c {C : Nat → Nat → Int32} {j k a : Nat} (h : a ≠ 29 + 24) : ccN C j k a = C a := sa_cell h
theorem ccN_at {C : Nat → Nat → Int32} {j k i : Nat} : ccN C j k (29 + 24) i = if i < k ∧ C (29 + 24) i = nI j then -2 else C (29 + 24) i := by
  unfold ccN
  rw [sa_self]
theorem ccN_0 (C : Nat → Nat → Int32) (j : Nat) : ccN C j 0 = C := by
  funext a i
  by_cases h : a = 29 + 24
  · subst h
    rw [ccN_at, if_neg (by omega)]
  · rw [ccN_c h]
theorem ccN_s1 {C : Nat → Nat → Int32} {j k : Nat} (h : C (29 + 24) k = nI j) : st (ccN C j k) (29 + 24) k (-2) = ccN C j (k + 1) := by
  funext a i
  rw [st_at]
  by_cases ha : a = 29 + 24
  · subst ha
    rw [ccN_at, ccN_at]
    by_cases hi : i = k
    · subst hi
      rw [if_pos ⟨rfl, rfl⟩, if_pos ⟨by omega, h⟩]
    · rw [if_neg (fun q => hi q.2)]
      by_cases h2 : i < k ∧ C (29 + 24) i = nI j
      · rw [if_pos h2, if_pos ⟨by omega, h2.2⟩]
      · rw [if_neg h2, if_neg (fun q => h2 ⟨by omega, q.2⟩)]
  · rw [if_neg (fun q => ha q.1), ccN_c ha, ccN_c ha]
theorem ccN_s0 {C : Nat → Nat → Int32} {j k : Nat} (h : ¬ C (29 + 24) k = nI j) : ccN C j k = ccN C j (k + 1) := by
  funext a i
  by_cases ha : a = 29 + 24
  · subst ha
    rw [ccN_at, ccN_at]
    by_cases h2 : i < k ∧ C (29 + 24) i = nI j
    · rw [if_pos h2, if_pos ⟨by omega, h2.2⟩]
    · rw [if_neg h2, if_neg]
      rintro ⟨q1, q2⟩
      by_cases hi : i = k
      · subst hi
        exact h q2
      · exact h2 ⟨by omega, q2⟩
  · rw [ccN_c ha, ccN_c ha]
theorem l_can {C : Nat → Nat → Int32} {r : Int64 × UInt64} {j : Nat} : ∀ m k F, k + m = 16 → m < F → lp_X3_cancel_10 29 (nI j) F (nI k, mw (ccN C j k) r) = some (mw (ccN C j 16) r) := by
  intro m
  induction m with
  | zero =>
    intro k F hk hF
    obtain ⟨F, rfl⟩ := F_succ hF
    have hk : k = 16 := by omega
    subst hk
    simp only [lp_X3_cancel_10, SB bL29, ln53, i16n]
    rw [if_pos (Int32.le_refl _)]
  | succ m ih =>
    intro k F hk hF
    obtain ⟨F, rfl⟩ := F_succ hF
    have h2 := ih (k + 1) F (by omega) (by omega)
    have ek : ccN C j k (29 + 24) k = C (29 + 24) k := by rw [ccN_at, if_neg (by omega)]
    simp (disch := omega) only [lp_X3_cancel_10, SB bL29, SL bL29, ln53, i16n, ek, e_let, nI_1']
    rw [if_neg (nI_ge (by omega) (by omega))]
    by_cases hq : C (29 + 24) k = nI j
    · rw [if_pos hq, e_bd, ccN_s1 hq]
      exact h2
    · rw [if_neg hq, e_bd, ccN_s0 hq]
      exact h2
def cnM (C : Nat → Nat → Int32) (j d : Nat) : Nat → Nat → Int32 := st (st (st C (29 + 2) d (C (29 + 2) d &&& (((1 : Int32) <<< (nI j &&& 31)) ^^^ (-1)))) (29 + 3) d (C (29 + 3) d &&& (((1 : Int32) <<< (nI j &&& 31)) ^^^ (-1)))) (29 + 1) 2 (C (29 + 1) 2 ||| ((1 : Int32) <<< (nI j &&& 31)))
theorem can_C {C : Nat → Nat → Int32} {r : Int64 × UInt64} {D j T : Nat} {su : Nat → Nat → Nat} {A : AS} (hB : SUB D su) (h : RC C 29 D A) (hi : Inv D su T A) (hj : j < A 30 0) (h7 : A 7 j ≤ 2) : ∃ C', f_X3_cancel 29 (nI j) (mw C r) = some (mw C' r) ∧ RC C' 29 D (caA A j) ∧ FC 29 C C' ∧ C' (29 + 10) j = nI (A 6 j) := by
  have hD := hB.2.1
  have hc := hi.1.1
  have hjj := hi.2.1 j hj
  have k4 : C (29 + 4) j = nI (A 0 j) := h.2.1 j 0 hj (by omega)
  have k10 : C (29 + 10) j = nI (A 6 j) := h.2.1 j 6 hj (by omega)
  have q1 : f_X1_cancel (29 + 1) (nI j) (mw C r) = some (mw (cnM C j (A 0 j)) r) := by
    simp (disch := omega) only [f_X1_cancel, SB bL29, SL bL29, k4, g_without, g_with, e_b, e_let, mw_1, mw_pn, st_cell, cnM]
  have q2 := l_can (C := cnM C j (A 0 j)) (r := r) (j := j) 16 0 3000 (by omega) (by omega)
  rw [ccN_0] at q2
  have e24 : ∀ o, o < 25 → o ≠ 1 → o ≠ 2 → o ≠ 3 → cnM C j (A 0 j) (29 + o) = C (29 + o) := by
    intro o h1 h2 h3 h4
    unfold cnM
    rw [st_cell (by omega), st_cell (by omega), st_cell (by omega)]
  refine ⟨ccN (cnM C j (A 0 j)) j 16, ?_, ?_, ?_, ?_⟩
  · simp only [f_X3_cancel, SB bL29, q1, e_bv]
    rw [show lp_X3_cancel_10 29 (nI j) 3000 (0, mw (cnM C j (A 0 j)) r) = _ from q2, e_bd]
  · obtain ⟨⟨g1, g2, g3⟩, g4, g5, g6, g7, g8, g9, g10, g11, g12, g13, g14⟩ := h
    have i6 := hi.2.2.2.1
    unfold RC
    have ek : ∀ q i, q < 40 → q ≠ 7 → caA A j q i = A q i := fun q i h1 h2 => caA_k h1 (by omega)
    have e7 : ∀ i, caA A j 7 i = if i = j then 4 else A 7 i := by
      intro i
      by_cases hq : i = j
      · subst hq
        rw [if_pos rfl, caA_7]
      · rw [if_neg hq, caA_k (by omega) (by omega)]
    rw [ek 30 0 (by omega) (by omega)]
    refine ⟨⟨?_, ?_, ?_⟩, ?_, ?_, ?_, ?_, ?_, ?_, ?_, ?_, ?_, ?_, ?_⟩
    · rw [ccN_c (by omega)]
      unfold cnM
      rw [st_slot (by omega), st_cell (by omega), st_cell (by omega)]
      exact g1
    · rw [ccN_c (by omega), ek 30 1 (by omega) (by omega)]
      unfold cnM
      rw [st_cell (by omega), st_cell (by omega), st_cell (by omega)]
      exact g2
    · rw [ccN_c (by omega), ek 30 2 (by omega) (by omega)]
      unfold cnM
      rw [st_cell (by omega), st_cell (by omega), st_cell (by omega)]
      exact g3
    · intro i k hi2 hk
      rw [ccN_c (by omega), e24 (4 + k) (by omega) (by omega) (by omega) (by omega), ek k i (by omega) (by omega)]
      exact g4 i k hi2 hk
    · intro i hi2 hi7
      rw [e7] at hi7
      split at hi7
      · omega
      · rw [ccN_c (by omega), e24 11 (by omega) (by omega) (by omega) (by omega), ek 8 i (by omega) (by omega)]
        exact g5 i hi2 hi7
    · intro i hi2
      rw [ccN_c (by omega), e7]
      have : cnM C j (A 0 j) (29 + 1) 1 = C (29 + 1) 1 := by
        unfold cnM
        rw [st_slot (by omega), st_cell (by omega), st_cell (by omega)]
      rw [this, g6 i hi2, decide_eq_decide]
      split
      · rename_i q
        subst q
        omega
      · exact Iff.rfl
    · intro i hi2
      rw [ccN_c (by omega), e7]
      have : cnM C j (A 0 j) (29 + 1) 2 = C (29 + 1) 2 ||| ((1 : Int32) <<< (nI j &&& 31)) := by
        unfold cnM
        rw [st_self]
      rw [this, hbit_with (by omega) hi2, g7 i hi2]
      by_cases q : i = j
      · subst q
        simp [hj]
      · simp [q]
    · intro d i hd hi2
      rw [ccN_c (by omega), e7, ek 0 i (by omega) (by omega)]
      by_cases hdd : d = A 0 j
      · have : cnM C j (A 0 j) (29 + 2) d = C (29 + 2) d &&& (((1 : Int32) <<< (nI j &&& 31)) ^^^ (-1)) := by
          unfold cnM
          rw [hdd, st_cell (by omega), st_cell (by omega), st_self]
        rw [this, hbit_without (by omega) hi2, g8 d i hd hi2]
        by_cases q : i = j
        · subst q
          simp
        · simp [q]
      · have : cnM C j (A 0 j) (29 + 2) d = C (29 + 2) d := by
          unfold cnM
          rw [st_cell (by omega), st_cell (by omega), st_slot hdd]
        rw [this, g8 d i hd hi2, decide_eq_decide]
        split
        · rename_i q
          subst q
          omega
        · exact Iff.rfl
    · intro d i hd hi2
      rw [ccN_c (by omega), e7, ek 0 i (by omega) (by omega)]
      by_cases hdd : d = A 0 j
      · have : cnM C j (A 0 j) (29 + 3) d = C (29 + 3) d &&& (((1 : Int32) <<< (nI j &&& 31)) ^^^ (-1)) := by
          unfold cnM
          rw [hdd, st_cell (by omega), st_self]
        rw [this, hbit_without (by omega) hi2, g9 d i hd hi2]
        by_cases q : i = j
        · subst q
          simp
        · simp [q]
      · have : cnM C j (A 0 j) (29 + 3) d = C (29 + 3) d := by
          unfold cnM
          rw [st_cell (by omega), st_slot hdd, st_cell (by omega)]
        rw [this, g9 d i hd hi2, decide_eq_decide]
        split
        · rename_i q
          subst q
          omega
        · exact Iff.rfl
    · intro i hi2
      rw [ccN_c (by omega), e24 12 (by omega) (by omega) (by omega) (by omega), ek 20 i (by omega) (by omega)]
      exact g10 i hi2
    · intro i hi2
      rw [ccN_c (by omega), e24 13 (by omega) (by omega) (by omega) (by omega), ek 21 i (by omega) (by omega)]
      exact g11 i hi2
    · intro i hi2
      rw [ccN_c (by omega), e24 14 (by omega) (by omega) (by omega) (by omega), ek 10 i (by omega) (by omega)]
      exact g12 i hi2
    · intro i k hi2 hk
      rw [ccN_c (by omega), e24 (15 + k) (by omega) (by omega) (by omega) (by omega), ek (11 + k) i (by omega) (by omega)]
      exact g13 i k hi2 hk
    · intro d e hd he
      rw [ccN_at, e24 24 (by omega) (by omega) (by omega) (by omega), caA_o, g14 d e hd he]
      by_cases h0 : A (40 + d) e = 0
      · rw [h0, if_neg (show ¬ (0 : Nat) = j + 1 by omega), if_neg]
        rintro ⟨_, q⟩
        exact nI_nm2 (j := j) (by omega) q.symm
      · obtain ⟨j', hj'⟩ : ∃ j', A (40 + d) e = j' + 1 := ⟨A (40 + d) e - 1, by omega⟩
        have h6 := i6 d e j' hd hj'
        rw [hj', oA_s]
        by_cases q : j' = j
        · subst q
          rw [if_pos (show d * 4 + e < 16 ∧ enc (-2) (some j') = nI j' from ⟨by omega, rfl⟩), if_pos rfl]
          rfl
        · rw [if_neg (show ¬ (j' + 1 = j + 1) by omega), if_neg]
          · rfl
          · rintro ⟨_, q2⟩
            exact q ((nI_eq (by omega) (by omega)).mp q2)
  · intro a ha
    rw [ccN_c (by omega)]
    unfold cnM
    rw [st_cell (by omega), st_cell (by omega), st_cell (by omega)]
  · rw [ccN_c (by omega), e24 10 (by omega) (by omega) (by omega) (by omega), k10]
theorem l_canR {r : Int64 × UInt64} {d cs j : Nat} (hd : d < 4) (h4 : cs ≤ 4) : ∀ m k F (R : Nat → Nat → Int32), k + m = cs → m < F → R 339 d = nI cs → ∃ R', lp_X10_cancelJob_38 336 (nI j) (nI d) F (nI k, mw R r) = some (mw R' r) ∧ F7 R R' ∧ ∀ i, R' 337 i = if (19 + 13 * d + (9 + k) ≤ i ∧ i < 19 + 13 * d + (9 + k) + m) ∧ R 337 i = nI j then -1 else R 337 i := by
  intro m
  induction m with
  | zero =>
    intro k F R hk hF hcs
    obtain ⟨F, rfl⟩ := F_succ hF
    have hk : k = cs := by omega
    subst hk
    refine ⟨R, ?_, F7_r, fun i => by rw [if_neg (by omega)]⟩
    simp (disch := omega) only [lp_X10_cancelJob_38, PR, AR, hcs]
    rw [if_pos (Int32.le_refl _)]
  | succ m ih =>
    intro k F R hk hF hcs
    obtain ⟨F, rfl⟩ := F_succ hF
    simp (disch := omega) only [lp_X10_cancelJob_38, PR, AR, hcs, RO, RP, e_b, e_bv, e_let, nI_1']
    rw [if_neg (nI_ge (by omega) (by omega))]
    by_cases hq : rD R d (9 + k) = nI j
    · rw [if_pos hq, e_bd]
      obtain ⟨R', p1, p2, p3⟩ := ih (k + 1) F (sD R d (9 + k) (-1)) (by omega) (by omega) (by rw [sD_c (by omega)]; exact hcs)
      refine ⟨R', p1, F7_t F7_D p2, ?_⟩
      intro i
      rw [p3 i]
      unfold sD
      unfold rD at hq
      by_cases hi : i = 19 + 13 * d + (9 + k)
      · subst hi
        rw [if_neg (by omega), st_self, if_pos ⟨by omega, hq⟩]
      · rw [st_slot hi]
        by_cases h2 : R 337 i = nI j
        · by_cases h3 : 19 + 13 * d + (9 + k) ≤ i ∧ i < 19 + 13 * d + (9 + k) + (m + 1)
          · rw [if_pos ⟨by omega, h2⟩, if_pos ⟨h3, h2⟩]
          · rw [if_neg (fun q => h3 (by omega)), if_neg (fun q => h3 q.1)]
        · rw [if_neg (fun q => h2 q.2), if_neg (fun q => h2 q.2)]
    · rw [if_neg hq, e_bd]
      obtain ⟨R', p1, p2, p3⟩ := ih (k + 1) F R (by omega) (by omega) hcs
      refine ⟨R', p1, p2, ?_⟩
      intro i
      rw [p3 i]
      unfold rD at hq
      by_cases hi : i = 19 + 13 * d + (9 + k)
      · subst hi
        rw [if_neg (by omega), if_neg (fun q => hq q.2)]
      · by_cases h2 : R 337 i = nI j
        · by_cases h3 : 19 + 13 * d + (9 + k) ≤ i ∧ i < 19 + 13 * d + (9 + k) + (m + 1)
          · rw [if_pos ⟨by omega, h2⟩, if_pos ⟨h3, h2⟩]
          · rw [if_neg (fun q => h3 (by omega)), if_neg (fun q => h3 q.1)]
        · rw [if_neg (fun q => h2 q.2), if_neg (fun q => h2 q.2)]
theorem can_RR {R R' : Nat → Nat → Int32} {D j T : Nat} {su : Nat → Nat → Nat} {A : AS} (hB : SUB D su) (h : RR R D A) (hi : Inv D su T A) (hj : j < A 30 0) (hR' : ∀ i, R' 337 i = if (19 + 13 * A 0 j + (9 + 0) ≤ i ∧ i < 19 + 13 * A 0 j + (9 + 0) + su 0 (A 0 j)) ∧ R 337 i = nI j then -1 else R 337 i) : RR (sJ R' j 7 4) D (caA A j) := by
  have hD := hB.2.1
  have hc := hi.1.1
  have hjj := hi.2.1 j hj
  have hB2 := hB.2.2 _ hjj.1
  have i6 := hi.2.2.2.1
  obtain ⟨⟨g1, g2, g3⟩, g4, g5, g6, g7, g8, g9⟩ := h
  have ek : ∀ q i, q < 40 → q ≠ 7 → caA A j q i = A q i := fun q i h1 h2 => caA_k h1 (by omega)
  have e7 : ∀ i, caA A j 7 i = if i = j then 4 else A 7 i := by
    intro i
    by_cases hq : i = j
    · subst hq
      rw [if_pos rfl, caA_7]
    · rw [if_neg hq, caA_k (by omega) (by omega)]
  have el : ∀ i, i < 28 → R' 337 i = R 337 i := fun i hi2 => by rw [hR', if_neg (by omega)]
  have eJ : ∀ i k, rJ R' i k = rJ R i k := fun i k => by
    unfold rJ
    rw [hR', if_neg (by omega)]
  have eD : ∀ d k, k < 9 → d < 4 → rD R' d k = rD R d k := fun d k h1 h2 => by
    unfold rD
    rw [hR', if_neg (by omega)]
  unfold RR
  rw [ek 30 0 (by omega) (by omega), ek 30 1 (by omega) (by omega), ek 30 2 (by omega) (by omega)]
  refine ⟨⟨?_, ?_, ?_⟩, ?_, ?_, ?_, ?_, ?_, ?_⟩
  · rw [rL_J (by omega), el _ (by omega)]; exact g1
  · rw [rL_J (by omega), el _ (by omega)]; exact g2
  · rw [rL_J (by omega), el _ (by omega)]; exact g3
  · intro i k hi2 hk
    rw [rJ_J (by omega) (by omega), eJ]
    by_cases hq : i = j ∧ k = 7
    · rw [if_pos hq, hq.1, hq.2, caA_7]
      rfl
    · rw [if_neg hq, caA_k (by omega) (by omega)]
      exact g4 i k hi2 hk
  · intro i hi2 hi7
    rw [e7] at hi7
    split at hi7
    · omega
    · rw [rJ_J (by omega) (by omega), if_neg (by omega), eJ, ek 8 i (by omega) (by omega)]
      exact g5 i hi2 hi7
  · intro k hk
    rw [rL_J (by omega), el _ (by omega), ek 20 k (by omega) (by omega)]
    exact g6 k hk
  · intro k hk
    rw [rL_J (by omega), el _ (by omega), ek 21 k (by omega) (by omega)]
    exact g7 k hk
  · intro d k hd hk
    rw [rD_J (by omega) (by omega), eD d k hk (by omega), ek (10 + k) d (by omega) (by omega)]
    exact g8 d k hd hk
  · intro d e hd he
    rw [rD_J (by omega) (by omega), caA_o]
    have h9 := g9 d e hd he
    unfold rD at h9 ⊢
    rw [hR', h9]
    by_cases h0 : A (40 + d) e = 0
    · rw [h0, if_neg (show ¬ (0 : Nat) = j + 1 by omega), if_neg]
      rintro ⟨_, q⟩
      exact nI_nm1 (j := j) (by omega) q.symm
    · obtain ⟨j', hj'⟩ : ∃ j', A (40 + d) e = j' + 1 := ⟨A (40 + d) e - 1, by omega⟩
      have h6 := i6 d e j' hd hj'
      rw [hj', oA_s]
      by_cases q : j' = j
      · subst q
        have hdd : A 0 j' = d := h6.2.2.1
        rw [hdd, if_pos (show (19 + 13 * d + (9 + 0) ≤ 19 + 13 * d + (9 + e) ∧ 19 + 13 * d + (9 + e) < 19 + 13 * d + (9 + 0) + su 0 d) ∧ enc (-1) (some j') = nI j' from ⟨by omega, rfl⟩), if_pos rfl]
        rfl
      · rw [if_neg (show ¬ (j' + 1 = j + 1) by omega), if_neg]
        · rfl
        · rintro ⟨_, q2⟩
          exact q ((nI_eq (by omega) (by omega)).mp q2)
