theorem QD_x {N N' : Nat → Nat → Int32} {t : Nat → Nat} {len d d' : Nat} (hf : FE d' N N') (hd : d < d') (hc : cn t len d ≤ 5) (h : QD N t len d) : QD N' t len d := by
  obtain ⟨h1, h2, h3⟩ := h
  have e : ∀ k, k < 9 * d' → N' 349 k = N 349 k := fun k hk => hf.2.2.1 k (.inl hk)
  refine ⟨?_, by rw [e _ (by omega)]; exact h2, fun n hn => ?_⟩
  · rw [e _ (by omega), e _ (by omega), e _ (by omega), e _ (by omega), e _ (by omega), e _ (by omega), e _ (by omega), e _ (by omega)]
    exact h1
  · rw [hf.2.2.2 _ (by omega), hf.2.2.2 _ (by omega)]
    exact h3 n hn
theorem lv_c {t : Nat → Nat} {len : Nat} : ∀ m i j prev, j + m = 5 → (lvR t len m i j prev).2.1 ≤ 5 ∧ ((lvR t len m i j prev).1 = none → 1 ≤ (lvR t len m i j prev).2.1)
  | 0, i, j, prev, h => by
    rw [lvR]
    split
    · exact ⟨show j ≤ 5 by omega, fun z => (by cases z)⟩
    · exact ⟨show j ≤ 5 by omega, fun _ => show 1 ≤ j by omega⟩
  | m + 1, i, j, prev, h => by
    rw [lvR]
    split
    · cases lX t len i prev with
      | some e => exact ⟨show j ≤ 5 by omega, fun z => (by cases z)⟩
      | none => exact lv_c m (i + 4) (j + 1) (VV t len (i + 1)) (by omega)
    · split
      · exact ⟨show j ≤ 5 by omega, fun z => (by cases z)⟩
      · exact ⟨show j ≤ 5 by omega, fun _ => show 1 ≤ j by omega⟩
theorem cn_b (t : Nat → Nat) (len d : Nat) : cn t len d ≤ 5 := (lv_c 5 (ds t len d + 10) 0 0 (by omega)).1
theorem ww_k {t : Nat → Nat} {len c i : Nat} (h : WW t len c i = true) : KK t len i = 2 := by
  unfold WW wd at h
  rw [Bool.and_eq_true, decide_eq_true_eq] at h
  exact h.1
theorem dE_w {t : Nat → Nat} {len d : Nat} (h : ¬ WW t len 0 (ds t len d) = true) : dE t len d = some (1, ds t len d) := by
  unfold dE
  rw [hX_d]
  unfold wrdE
  rw [if_neg h]
  rfl
def FM (N N' : Nat → Nat → Int32) : Prop := (∀ a, a ≠ 336 → a ≠ 349 → a ≠ 350 → N' a = N a) ∧ ∀ k, k < 18 ∨ k = 24 ∨ 25 < k → N' 336 k = N 336 k
theorem FM_t {N N1 N2 : Nat → Nat → Int32} (h : FM N N1) (h2 : FM N1 N2) : FM N N2 := ⟨fun a q1 q2 q3 => (h2.1 a q1 q2 q3).trans (h.1 a q1 q2 q3), fun k q => (h2.2 k q).trans (h.2 k q)⟩
def dmY (t : Nat → Nat) (len m d : Nat) : Option (Nat × Nat) × Nat := if d ≠ 0 ∧ KK t len (ds t len d) = 0 then (none, d) else dmR t len m d
theorem r_loop {r : Int64 × UInt64} {t : Nat → Nat} {len : Nat} : ∀ m d F (N : Nat → Nat → Int32), d + m = 4 → m + 2 < F → N 336 25 = nI d → RS N t len none (ds t len d) → (∀ e, e < d → QD N t len e) → ∃ N', lp_X10_load_76 336 F (mw N r) = some (mw N' r) ∧ FM N N' ∧ ((∃ e, (dmY t len m d).1 = some e ∧ RS N' t len (some e) 0) ∨ (∃ d', d' ≤ 4 ∧ RS N' t len none (ds t len d') ∧ N' 336 25 = nI d' ∧ (∀ e, e < d' → QD N' t len e) ∧ ((d' = 0 ∨ KK t len (ds t len d') ≠ 0) → (dmY t len m d).1 = some (1, ds t len d')) ∧ (d' ≠ 0 ∧ KK t len (ds t len d') = 0 → dmY t len m d = (none, d')))) := by
  intro m
  induction m with
  | zero =>
    intro d F N hm hF h25 h hQ
    obtain ⟨G, rfl⟩ := F_succ hF
    have hd4 : d = 4 := by omega
    subst hd4
    have hw : f_X10_isWord 336 13 (mw N r) = some (bI (WW t len 0 (ds t len 4)), mw N r) := r_isw0 (c := 13) (by omega) h
    rw [lp_X10_load_76]
    cases hq : WW t len 0 (ds t len 4) with
    | true =>
      obtain ⟨N', g1, g2, g3⟩ := r_dom4 (r := r) h25 h
      obtain ⟨G', rfl⟩ : ∃ G', G = G' + 1 := ⟨G - 1, by omega⟩
      refine ⟨N', ?_, ⟨fun a q1 _ _ => g3.1 a q1, fun k hk => g3.2 k (by omega)⟩, .inl ⟨(3, ds t len 4), ?_, g2⟩⟩
      · simp only [hw, hq, e_b, bI_t, i10, if_false, g1, e_bv]
        rw [lp_X10_load_76]
        simp only [r_isw1 (RS_n22 g2), e_b, if_true]
      · unfold dmY
        rw [if_neg (fun q => by have := ww_k hq; omega), dmR, if_pos hq]
    | false =>
      refine ⟨N, by simp only [hw, hq, e_b, bI_f, if_true], ⟨fun _ _ _ _ => rfl, fun _ _ => rfl⟩, .inr ⟨4, Nat.le_refl _, h, h25, hQ, fun q => ?_, fun q => if_pos q⟩⟩
      unfold dmY
      rw [if_neg (fun z => by rcases q with q | q <;> omega), dmR, if_neg (by rw [hq]; decide)]
  | succ m ih =>
    intro d F N hm hF h25 h hQ
    obtain ⟨G, rfl⟩ := F_succ hF
    have hw : f_X10_isWord 336 13 (mw N r) = some (bI (WW t len 0 (ds t len d)), mw N r) := r_isw0 (c := 13) (by omega) h
    rw [lp_X10_load_76]
    cases hq : WW t len 0 (ds t len d) with
    | false =>
      refine ⟨N, by simp only [hw, hq, e_b, bI_f, if_true], ⟨fun _ _ _ _ => rfl, fun _ _ => rfl⟩, .inr ⟨d, by omega, h, h25, hQ, fun q => ?_, fun q => if_pos q⟩⟩
      unfold dmY
      rw [if_neg (fun z => by rcases q with q | q <;> omega), dmR, dE_w (by rw [hq]; decide)]
    | true =>
      obtain ⟨N1, g1, x1, k1, f1, v1⟩ := r_dom (r := r) (show d < 4 by omega) h25 hq h
      have hY : dmY t len (m + 1) d = dmR t len (m + 1) d := if_neg (fun q => by have := ww_k hq; omega)
      have hfm : FM N N1 := ⟨f1.1, f1.2.1⟩
      cases c1 : dE t len d with
      | some e =>
        rw [c1] at x1
        obtain ⟨G', rfl⟩ : ∃ G', G = G' + 1 := ⟨G - 1, by omega⟩
        refine ⟨N1, ?_, hfm, .inl ⟨e, by rw [hY, dmR, c1], x1⟩⟩
        simp only [hw, hq, e_b, bI_t, i10, if_false, g1, e_bv]
        rw [lp_X10_load_76]
        simp only [r_isw1 (RS_n22 x1), e_b, if_true]
      | none =>
        have D1 := v1 c1
        rw [c1] at x1
        obtain ⟨N', k2, k3, k4⟩ := ih (d + 1) G N1 (by omega) (by omega) k1 x1 (fun e he => by
          by_cases q : e = d
          · rw [q]; exact D1
          · exact QD_x f1 (by omega) (cn_b t len e) (hQ e (by omega)))
        have hYY : dmY t len (m + 1) d = dmY t len m (d + 1) := by
          rw [hY, dmR, c1]
          unfold dmY
          by_cases q : KK t len (ds t len (d + 1)) = 0
          · rw [if_pos (show d + 1 ≠ 0 ∧ KK t len (ds t len (d + 1)) = 0 from ⟨by omega, q⟩), if_pos q]
          · rw [if_neg (show ¬ (d + 1 ≠ 0 ∧ KK t len (ds t len (d + 1)) = 0) from fun z => q z.2), if_neg q]
        rw [hYY]
        refine ⟨N', ?_, FM_t hfm k3, k4⟩
        simp only [hw, hq, e_b, bI_t, i10, if_false, g1, e_bv]
        exact k2
