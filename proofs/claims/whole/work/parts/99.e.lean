def LF (d j : Nat) (N N' : Nat → Nat → Int32) : Prop := (∀ a, a ≠ 3 → a ≠ 16 → a ≠ 10 → a ≠ 13 → a ≠ 14 → a ≠ 15 → N' a = N a) ∧ ∀ a k, a = 14 ∨ a = 15 → k < d * 5 + j → N' a k = N a k
def LD (N : Nat → Nat → Int32) (t : Nat → Nat) (len d i j c s0 : Nat) : Prop := j ≤ c ∧ 1 ≤ c ∧ c ≤ 5 ∧ N 13 d = nI c ∧ N 10 d = nI (mnS (c - 1) s0) ∧ ∀ n, j ≤ n → n < c → N 14 (d * 5 + n) = nI (VV t len (i + 4 * (n - j) + 1)) ∧ N 15 (d * 5 + n) = nI (VV t len (i + 4 * (n - j) + 2))
theorem lv_fin {N : Nat → Nat → Int32} {t : Nat → Nat} {len d i j s0 : Nat} (h1 : 1 ≤ j) (h5 : j ≤ 5) (h : PC N t len i) : FD d N (st (st N 13 d (nI j)) 10 d (nI (mnS (j - 1) s0))) ∧ LF d j N (st (st N 13 d (nI j)) 10 d (nI (mnS (j - 1) s0))) ∧ PC (st (st N 13 d (nI j)) 10 d (nI (mnS (j - 1) s0))) t len i ∧ LD (st (st N 13 d (nI j)) 10 d (nI (mnS (j - 1) s0))) t len d i j j s0 := by
  refine ⟨FD_t (FD_w (by omega) (by omega)) (FD_w (by omega) (by omega)), ⟨fun a _ _ q1 q2 _ _ => by rw [st_cell q1, st_cell q2], fun a k q _ => by rw [st_cell (by omega), st_cell (by omega)]⟩, PC_s (by omega) (by omega) (PC_s (by omega) (by omega) h), Nat.le_refl _, h1, h5, by rw [st_cell (by omega), st_self], st_self _ _ _ _, fun n q1 q2 => by omega⟩
theorem c_lvs {r : Int64 × UInt64} {t : Nat → Nat} {len d s0 : Nat} (hd : d < 4) (hs0 : s0 ≤ 99999) : ∀ m j i prev F (N : Nat → Nat → Int32), j + m = 5 → m + 1 < F → prev ≤ 99999 → (j = 0 → prev = 0) → (j ≠ 0 → N 14 (d * 5 + j - 1) = nI prev) → N 10 d = nI s0 → PC N t len i → ∃ N', lp_X5_readLevels_2 3 (nI d) F (nI j, mw N r) = some (bI (lvR t len m i j prev).1.isNone, mw N' r) ∧ FD d N N' ∧ LF d j N N' ∧ CX N' t len (lvR t len m i j prev).1 (lvR t len m i j prev).2.2 ∧ ((lvR t len m i j prev).1 = none → LD N' t len d i j (lvR t len m i j prev).2.1 s0) := by
  intro m
  induction m with
  | zero =>
    intro j i prev F N hj hF hpv h0 h1 h10 h
    obtain ⟨G, rfl⟩ := F_succ hF
    have hj5 : j = 5 := by omega
    subst hj5
    have hw := c_isw (r := r) (c := 6) (by omega) h
    rw [lp_X5_readLevels_2, lvR]
    cases hq : WW t len 6 i with
    | true =>
      obtain ⟨N', g1, g2, g3, g4⟩ := c_fail (r := r) (x := 3) (c := 3) h rfl (by omega)
      refine ⟨N', ?_, FD_S g2, ⟨fun a q1 q2 _ _ _ _ => g2 a q1 q2, fun a k q _ => by rw [g2 a (by omega) (by omega)]⟩, ⟨show (3 : Nat) ≠ 0 by omega, g4 (by omega)⟩, fun z => by cases z⟩
      simp only [show ((5 : Int32) ≤ nI 5) = True from eq_true (by decide), if_true, PX, hw, hq, e_b, bI_t, i10, if_false, g1, e_isb0]
      rfl
    | false =>
      obtain ⟨k1, k2, k3, k4⟩ := lv_fin (d := d) (s0 := s0) (j := 5) (by omega) (by omega) h
      refine ⟨_, ?_, k1, k2, k3, fun _ => k4⟩
      simp (disch := omega) only [show ((5 : Int32) ≤ nI 5) = True from eq_true (by decide), if_true, PX, P4, A4, hw, hq, e_b, bI_f, st_cell, h10, nI_m1, mnS_nI (show 5 - 1 < 2 ^ 31 by omega) (show s0 < 2 ^ 31 by omega), e_isb1]
      rfl
  | succ m ih =>
    intro j i prev F N hj hF hpv h0 h1 h10 h
    obtain ⟨G, rfl⟩ := F_succ hF
    have hw := c_isw (r := r) (c := 6) (by omega) h
    have e5 : ((5 : Int32) ≤ nI j) = False := eq_false (fun q => absurd ((nI_leI (a := 5) (by omega) (by omega)).mp q) (by omega))
    have e0 : (nI j = 0) = (j = 0) := propext (nI_eq (b := 0) (by omega) (by omega))
    obtain ⟨N1, g1, f1, l1, x1, v1⟩ := c_lvl (r := r) (n := j) hd (by omega) hpv h0 h1 h
    -- one more level
    have more : WW t len 6 i = true → ∃ N', hz_b (f_X5_readLevel 3 (nI d) (nI j) (mw N r)) (fun v16 w15 => (if v16 = 0 then hz_gd (hz_isb 0) (some (0, w15)) else hz_let (nI j + Int32.ofInt 1) (fun v17 => lp_X5_readLevels_2 3 (nI d) G (v17, w15)))) = some (bI (lvR t len (m + 1) i j prev).1.isNone, mw N' r) ∧ FD d N N' ∧ LF d j N N' ∧ CX N' t len (lvR t len (m + 1) i j prev).1 (lvR t len (m + 1) i j prev).2.2 ∧ ((lvR t len (m + 1) i j prev).1 = none → LD N' t len d i j (lvR t len (m + 1) i j prev).2.1 s0) := by
      intro hq
      rw [lvR, if_pos hq]
      cases hl : lX t len i prev with
      | some e =>
        rw [hl] at g1 x1
        refine ⟨N1, ?_, f1, ⟨fun a q1 q2 q3 q4 q5 q6 => l1.1 a q1 q2 q5 q6, fun a k q q2 => l1.2 a k q (by omega)⟩, x1, fun z => by cases z⟩
        simp only [g1, Option.isNone, bI_f, e_b, if_true, e_isb0]
      | none =>
        have hv := v1 hl
        rw [hl] at g1 x1
        have hp : VV t len (i + 1) ≤ 99999 := by
          have hn : numE t len (i + 1) (prev + 1) 999 = 0 := by
            refine Decidable.byContradiction fun q => ?_
            rw [lX_d] at hl
            cases hz : stp none (wrdE t len 6 i) i with
            | some e => rw [hz] at hl; cases hl
            | none => rw [hz, stp_n q] at hl; cases hl
          unfold numE at hn
          split at hn
          · rename_i hk
            exact VV_le hk
          · omega
        obtain ⟨N', k1, k2, k3, k4, k5⟩ := ih (j + 1) (i + 4) (VV t len (i + 1)) G N1 (by omega) (by omega) hp (fun q => by omega) (fun _ => hv.1) (by rw [l1.1 10 (by omega) (by omega) (by omega) (by omega)]; exact h10) x1
        refine ⟨N', ?_, FD_t f1 k2, ⟨fun a q1 q2 q3 q4 q5 q6 => by rw [k3.1 a q1 q2 q3 q4 q5 q6, l1.1 a q1 q2 q5 q6], fun a k q q2 => by rw [k3.2 a k q (by omega), l1.2 a k q (by omega)]⟩, k4, fun z => ?_⟩
        · simp only [g1, Option.isNone, bI_t, i10, if_false, e_b, e_let, nI_1']
          exact k1
        · obtain ⟨y1, y2, y3, y4, y5, y6⟩ := k5 z
          refine ⟨show j ≤ (lvR t len m (i + 4) (j + 1) (VV t len (i + 1))).2.1 by omega, y2, y3, y4, y5, fun n q1 q2 => ?_⟩
          by_cases hn : n = j
          · subst hn
            rw [k3.2 14 _ (.inl rfl) (by omega), k3.2 15 _ (.inr rfl) (by omega), Nat.sub_self]
            exact hv
          · have := y6 n (by omega) q2
            rw [show i + 4 * (n - j) + 1 = i + 4 + 4 * (n - (j + 1)) + 1 by omega, show i + 4 * (n - j) + 2 = i + 4 + 4 * (n - (j + 1)) + 2 by omega]
            exact this
    rw [lp_X5_readLevels_2]
    simp only [e5, if_false, e0, PX, hw, e_b]
    by_cases c0 : j = 0
    · simp only [c0, if_true]
      cases hq : WW t len 6 i with
      | true =>
        have := more hq
        rw [c0] at this
        exact this
      | false =>
        have hl : lX t len i prev = some (1, i) := by
          rw [lX_d]
          unfold wrdE
          rw [if_neg (by rw [hq]; decide)]
          rfl
        rw [hl] at g1 x1
        rw [lvR, if_neg (show ¬ WW t len 6 i = true by rw [hq]; decide), if_pos rfl]
        rw [c0] at g1 l1
        refine ⟨N1, ?_, f1, ⟨fun a q1 q2 q3 q4 q5 q6 => l1.1 a q1 q2 q5 q6, fun a k q q2 => l1.2 a k q (by omega)⟩, x1, fun z => by cases z⟩
        simp only [g1, Option.isNone, bI_f, e_b, if_true, e_isb0]
    · simp only [c0, if_false]
      cases hq : WW t len 6 i with
      | true =>
        simp only [bI_t, i10, if_false]
        exact more hq
      | false =>
        obtain ⟨k1, k2, k3, k4⟩ := lv_fin (d := d) (s0 := s0) (j := j) (by omega) (by omega) h
        rw [lvR, if_neg (show ¬ WW t len 6 i = true by rw [hq]; decide), if_neg c0]
        refine ⟨_, ?_, k1, k2, k3, fun _ => k4⟩
        simp (disch := omega) only [bI_f, if_true, PX, P4, A4, hw, hq, e_b, st_cell, h10, nI_m1, mnS_nI (show j - 1 < 2 ^ 31 by omega) (show s0 < 2 ^ 31 by omega), e_isb1]
        rfl
