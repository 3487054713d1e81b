/-- one token, class -/
theorem g_crn {N : Nat → Nat → Int32} {r : Int64 × UInt64} {t : Nat → Nat} {len p : Nat} (hc : CB N t len) (hp : p ≤ len) (h3 : N 16 3 = nI p) : ∃ N', f_X7_readNext 16 (mw N r) = some (mw N' r) ∧ N' 16 1 = nI (tK t len p) ∧ N' 16 2 = nI (tS t len p) ∧ N' 16 3 = nI (tE t len p) ∧ ∀ a, a ≠ 16 → N' a = N a := by
  have h5 := hc.1
  have hs := tS_b (t := t) hp
  have he := tE_b (t := t) hp
  have hk5 : tB t len p ≤ 5 := kd_le
  obtain ⟨N1, q1, q2, q3, q4⟩ := l_c8 (r := r) (t := t) (len := len) (N := N) (len - p) p 3000 (st N 16 2 (nI p)) rfl hp (by omega) (CB_x (st_cell (by omega)) (st_cell (by omega)) hc) (st_self _ _ _ _)
  have hc1 : CB N1 t len := CB_x (by rw [q3 1 (by omega), st_cell (by omega)]) (by rw [q3 2 (by omega), st_cell (by omega)]) hc
  have q2' : N1 16 2 = nI (tS t len p) := q2
  have hkd : f_X7_kindAt 16 (nI (tS t len p)) (mw N1 r) = some (nI (tB t len p), mw N1 r) := g_ckd hc1 hs.2
  have hmin : (if nI len < nI (tS t len p) + 1 then nI len else nI (tS t len p) + 1) = nI (if len < tS t len p + 1 then len else tS t len p + 1) := by
    rw [nI_p1]
    by_cases q : len < tS t len p + 1
    · rw [if_pos q, if_pos (nI_lt q (by omega))]
    · rw [if_neg q, if_neg (fun z => q ((nI_ltI (by omega) (by omega)).mp z))]
  have hlen2 : N1 1 1 = nI len := hc1.2.1
  obtain ⟨M', m1, m2, m3, m4⟩ : ∃ M', lp_X7_readNext_79 16 3000 (mw (st (st N1 16 1 (nI (tB t len p))) 16 3 (nI (if len < tS t len p + 1 then len else tS t len p + 1))) r) = some (mw M' r) ∧ M' 16 3 = nI (tE t len p) ∧ (∀ a, a ≠ 16 → M' a = N1 a) ∧ ∀ k, k ≠ 3 → M' 16 k = st N1 16 1 (nI (tB t len p)) 16 k := by
    have hcM : CB (st (st N1 16 1 (nI (tB t len p))) 16 3 (nI (if len < tS t len p + 1 then len else tS t len p + 1))) t len := CB_x (by simp (disch := omega) only [st_cell]) (by simp (disch := omega) only [st_cell]) hc1
    by_cases h23 : tB t len p = 2 ∨ tB t len p = 3
    · have hsl : tS t len p < len := by
        refine Decidable.byContradiction fun q => ?_
        have : tB t len p = 0 := kd_e q
        omega
      have hmn : (if len < tS t len p + 1 then len else tS t len p + 1) = tS t len p + 1 := if_neg (by omega)
      rw [hmn] at hcM ⊢
      obtain ⟨M', m1, m2, m3, m4⟩ := l_c79 (r := r) (t := t) (len := len) h23 (len - (tS t len p + 1)) (tS t len p + 1) 3000 _ rfl (by omega) (by omega) hcM (by rw [st_slot (by omega), st_self]) (st_self _ _ _ _)
      refine ⟨M', m1, ?_, fun a ha => by rw [m3 a ha, st_cell ha, st_cell ha], fun k hk => by rw [m4 k hk, st_slot hk]⟩
      rw [m2]
      unfold tE
      rw [if_neg (by omega), if_pos h23, rn_s (p := tS t len p) hsl, if_pos (show kd t len (tS t len p) = tB t len p from rfl)]
    · refine ⟨st (st N1 16 1 (nI (tB t len p))) 16 3 (nI (if len < tS t len p + 1 then len else tS t len p + 1)), ?_, st_self _ _ _ _ |>.trans ?_, fun a ha => by rw [st_cell ha, st_cell ha], fun k hk => by rw [st_slot hk]⟩
      · have n2 : (nI (tB t len p) = 2) = False := eq_false (fun q => h23 (.inl ((nI_eq (b := 2) (by omega) (by omega)).mp q)))
        have n3 : (nI (tB t len p) = 3) = False := eq_false (fun q => h23 (.inr ((nI_eq (b := 3) (by omega) (by omega)).mp q)))
        show lp_X7_readNext_79 16 (2999 + 1) _ = _
        rw [lp_X7_readNext_79]
        simp (disch := omega) only [PX, mw_1, st_cell, st_slot, st_self, n2, n3, if_false, ite_self]
      · congr 1
        unfold tE
        by_cases h0 : tB t len p = 0
        · have : ¬ tS t len p < len := fun q => kd_n (t := t) q h0
          rw [if_pos h0, if_pos (by omega)]
          omega
        · have : tS t len p < len := by
            refine Decidable.byContradiction fun q => h0 ?_
            exact kd_e q
          rw [if_neg h0, if_neg h23, if_neg (by omega)]
  have k1 : M' 16 1 = nI (tB t len p) := by rw [m4 1 (by omega), st_self]
  have k2 : M' 16 2 = nI (tS t len p) := by rw [m4 2 (by omega), st_slot (by omega)]; exact q2'
  have hsub : nI (tE t len p) - nI (tS t len p) = nI (tE t len p - tS t len p) := pk_sub he.1
  have e3 : (nI (tB t len p) = 3) = (tB t len p = 3) := propext (nI_eq (b := 3) (by omega) (by omega))
  have e5 : (nI (tE t len p - tS t len p) ≤ 5) = (tE t len p - tS t len p ≤ 5) := propext (nI_leI (b := 5) (by omega) (by omega))
  have hfr : ∀ a, a ≠ 16 → M' a = N a := fun a ha => by rw [m3 a ha, q3 a ha, st_cell ha]
  have key : ∀ w, (if tB t len p = 3 then (if tE t len p - tS t len p ≤ 5 then some (mw M' r) else some (mw (st M' 16 1 5) r)) else some (mw M' r)) = w → ∃ N', w = some (mw N' r) ∧ N' 16 1 = nI (tK t len p) ∧ N' 16 2 = nI (tS t len p) ∧ N' 16 3 = nI (tE t len p) ∧ ∀ a, a ≠ 16 → N' a = N a := by
    intro w hw
    rw [← hw]
    by_cases c3 : tB t len p = 3
    · rw [if_pos c3]
      by_cases c5 : tE t len p - tS t len p ≤ 5
      · rw [if_pos c5]
        refine ⟨M', rfl, ?_, k2, m2, hfr⟩
        unfold tK
        rw [if_neg (by omega)]
        exact k1
      · rw [if_neg c5]
        refine ⟨_, rfl, ?_, by rw [st_slot (by omega)]; exact k2, by rw [st_slot (by omega)]; exact m2, fun a ha => by rw [st_cell ha]; exact hfr a ha⟩
        unfold tK
        rw [if_pos (by omega), st_self]
        rfl
    · rw [if_neg c3]
      refine ⟨M', rfl, ?_, k2, m2, hfr⟩
      unfold tK
      rw [if_neg (fun q => c3 q.1)]
      exact k1
  refine key _ ?_
  unfold f_X7_readNext
  simp (disch := omega) only [PX, e_let, mw_pn, mw_1, h3, q1, e_bd, q2', hkd, e_b, st_cell, st_slot, hlen2, hmin, m1, k1, k2, m2, hsub, e3, e5]
  split
  · split <;> rfl
  · rfl
/-- numbers -/
theorem vl_lt {t : Nat → Nat} {s : Nat} : ∀ n, (∀ i, i < n → t (s + i) ≤ 57) → vl t s n < 10 ^ n
  | 0, _ => by rw [vl]; omega
  | n + 1, h => by
    have h1 := vl_lt n (fun i hi => h i (by omega))
    have h2 := h n (by omega)
    rw [vl, Nat.pow_succ]
    omega
theorem tk3 {t : Nat → Nat} {len p : Nat} (h : tK t len p = 3) : tB t len p = 3 ∧ tE t len p - tS t len p ≤ 5 ∧ ∀ i, tS t len p ≤ i → i < tE t len p → kd t len i = 3 := by
  unfold tK at h
  split at h
  · omega
  · rename_i hn
    refine ⟨h, by omega, fun i h1 h2 => ?_⟩
    have he : tE t len p = rn t len 3 (tS t len p) := by
      unfold tE
      rw [h, if_neg (by omega), if_pos (.inr rfl)]
    exact rn_all h1 (by rw [← he]; exact h2)
theorem tk2 {t : Nat → Nat} {len p : Nat} (h : tK t len p = 2) : ∀ i, tS t len p ≤ i → i < tE t len p → kd t len i = 2 := by
  unfold tK at h
  split at h
  · omega
  · intro i h1 h2
    have he : tE t len p = rn t len 2 (tS t len p) := by
      unfold tE
      rw [h, if_neg (by omega), if_pos (.inl rfl)]
    exact rn_all h1 (by rw [← he]; exact h2)
theorem vN_lt {t : Nat → Nat} {len p : Nat} (hp : p ≤ len) (h : tK t len p = 3) : vN t len p ≤ 99999 := by
  have h3 := tk3 h
  have he := tE_b (t := t) hp
  have := vl_lt (t := t) (s := tS t len p) (tE t len p - tS t len p) (fun i hi => by
    have := kd_3 (h3.2.2 (tS t len p + i) (by omega) (by omega))
    omega)
  have h5 : 10 ^ (tE t len p - tS t len p) ≤ 10 ^ 5 := Nat.pow_le_pow_right (by omega) h3.2.1
  unfold vN
  omega
theorem l_cn {N : Nat → Nat → Int32} {r : Int64 × UInt64} {t : Nat → Nat} {len s e : Nat} (hc : CB N t len) (he : e ≤ len) (h3 : N 16 3 = nI e) (hd : ∀ i, s ≤ i → i < e → kd t len i = 3) : ∀ m i F, i + m = e → s ≤ i → m < F → lp_X7_numberHere_7 16 F (nI (vl t s (i - s)), nI i, mw N r) = some (nI (vl t s (e - s)), mw N r) := by
  have h5 := hc.1
  intro m
  induction m with
  | zero =>
    intro i F hi hs hF
    obtain ⟨G, rfl⟩ := F_succ hF
    have : i = e := by omega
    subst this
    rw [lp_X7_numberHere_7]
    simp only [mw_1, h3, Int32.le_refl, if_true]
  | succ m ih =>
    intro i F hi hs hF
    obtain ⟨G, rfl⟩ := F_succ hF
    have e0 : (nI e ≤ nI i) = False := eq_false (fun q => absurd ((nI_leI (by omega) (by omega)).mp q) (by omega))
    have hk := kd_3 (hd i hs (by omega))
    have hx : N 2 i = nI (t i) := (sg_eq (c := t i) (by omega) (hc.2.2 i (by omega))).mpr rfl
    have h2 := ih (i + 1) G (by omega) (by omega) (by omega)
    have hv : nI (vl t s (i - s)) * 10 + (nI (t i) - 48) = nI (vl t s (i + 1 - s)) := by
      rw [show nI (vl t s (i - s)) * 10 = nI (vl t s (i - s) * 10) from pk_mul _ 10, show nI (t i) - 48 = nI (t i - 48) from pk_sub (b := 48) (by omega), nI_add, show i + 1 - s = (i - s) + 1 by omega, vl, show s + (i - s) = i by omega]
      congr 1
      omega
    rw [lp_X7_numberHere_7]
    simp only [mw_1, h3, e0, if_false, PX, g_cby (N := N) (r := r) (show i < 500 by omega), e_b, e_let, hx, hv, nI_1']
    exact h2
theorem g_cnum {N : Nat → Nat → Int32} {r : Int64 × UInt64} {t : Nat → Nat} {len p : Nat} (hc : CB N t len) (hp : p ≤ len) (h2 : N 16 2 = nI (tS t len p)) (h3 : N 16 3 = nI (tE t len p)) (hk : tK t len p = 3) : f_X7_numberHere 16 (mw N r) = some (nI (vN t len p), mw N r) := by
  have he := tE_b (t := t) hp
  have h5 := hc.1
  have h := l_cn (r := r) hc he.2 h3 (tk3 hk).2.2 (tE t len p - tS t len p) (tS t len p) 3000 (by omega) (Nat.le_refl _) (by omega)
  rw [Nat.sub_self] at h
  have h' : lp_X7_numberHere_7 16 3000 (0, nI (tS t len p), mw N r) = some (nI (vN t len p), mw N r) := h
  unfold f_X7_numberHere
  simp only [PX, mw_1, h2, e_let, h', e_bd]
/-- words -/
def alq (f : Nat → Bool) : Nat → Nat → Bool
  | 0, _ => true
  | m + 1, j => f j && alq f m (j + 1)
def wd (t : Nat → Nat) (len c p : Nat) : Bool := decide (tK t len p = 2) && (decide (tE t len p - tS t len p = hz_wlen.getD c 0) && alq (fun i => decide (nI (t (tS t len p + i)) = (hz_wbyt.getD c []).getD i 0)) (hz_wlen.getD c 0) 0)
theorem wl_b : ∀ c, c < 14 → hz_wlen.getD c 0 ≤ 6 := by decide
theorem ofn (n : Nat) : Int32.ofNat n = nI n := rfl
theorem l_cw {N : Nat → Nat → Int32} {r : Int64 × UInt64} {t : Nat → Nat} {len s e c : Nat} (hc : CB N t len) (he : e ≤ len) (h2 : N 16 2 = nI s) (hd : ∀ i, s ≤ i → i < e → kd t len i = 2) (h14 : c < 14) (hw : s + hz_wlen.getD c 0 = e) : ∀ m j F, j + m = hz_wlen.getD c 0 → m < F → lp_X7_isAtWord_28 16 c F (nI j, mw N r) = some (bI (alq (fun i => decide (nI (t (s + i)) = (hz_wbyt.getD c []).getD i 0)) m j), mw N r) := by
  have h5 := hc.1
  have h6 := wl_b c h14
  intro m
  induction m with
  | zero =>
    intro j F hj hF
    obtain ⟨G, rfl⟩ := F_succ hF
    rw [lp_X7_isAtWord_28, decide_eq_true h14, e_gd, ofn, if_pos (nI_le (by omega) (by omega))]
    rfl
  | succ m ih =>
    intro j F hj hF
    obtain ⟨G, rfl⟩ := F_succ hF
    have hk := kd_2 (hd (s + j) (by omega) (by omega))
    have hx : N 2 (s + j) = nI (t (s + j)) := (sg_eq (c := t (s + j)) (by omega) (hc.2.2 (s + j) (by omega))).mpr rfl
    have hi := ih (j + 1) G (by omega) (by omega)
    rw [lp_X7_isAtWord_28, decide_eq_true h14, e_gd, ofn, if_neg (fun q => absurd ((nI_leI (by omega) (by omega)).mp q) (by omega))]
    simp only [PX, mw_1, h2, nI_add, g_cby (N := N) (r := r) (show s + j < 500 by omega), e_b, hx, hz_ix_nI (show j < hz_wlen.getD c 0 by omega) (by omega), Bool.and_true, e_gd, nI_clamp (show j < 2 ^ 31 by omega), e_let, nI_1', hi]
    rw [alq]
    by_cases q : nI (t (s + j)) = (hz_wbyt.getD c []).getD j 0
    · rw [if_pos q, decide_eq_true q, Bool.true_and]
    · rw [if_neg q, decide_eq_false q, Bool.false_and]
      rfl
theorem g_cword {N : Nat → Nat → Int32} {r : Int64 × UInt64} {t : Nat → Nat} {len p c : Nat} (hc : CB N t len) (hp : p ≤ len) (h1 : N 16 1 = nI (tK t len p)) (h2 : N 16 2 = nI (tS t len p)) (h3 : N 16 3 = nI (tE t len p)) (h14 : c < 14) : f_X7_isAtWord 16 c (mw N r) = some (bI (wd t len c p), mw N r) := by
  have he := tE_b (t := t) hp
  have h5 := hc.1
  have h6 := wl_b c h14
  have hk5 : tB t len p ≤ 5 := kd_le
  have hk6 : tK t len p ≤ 5 := by
    unfold tK
    split <;> omega
  have e1 : (nI (tK t len p) = 2) = (tK t len p = 2) := propext (nI_eq (b := 2) (by omega) (by omega))
  have hsub : nI (tE t len p) - nI (tS t len p) = nI (tE t len p - tS t len p) := pk_sub he.1
  have e2 : (nI (tE t len p - tS t len p) = nI (hz_wlen.getD c 0)) = (tE t len p - tS t len p = hz_wlen.getD c 0) := propext (nI_eq (by omega) (by omega))
  unfold f_X7_isAtWord wd
  simp only [PX, mw_1, h1, h2, h3, e1, hsub, ofn, e2, decide_eq_true h14, e_gd]
  by_cases c1 : tK t len p = 2
  · rw [if_pos c1, decide_eq_true c1, Bool.true_and]
    by_cases c2 : tE t len p - tS t len p = hz_wlen.getD c 0
    · rw [if_pos c2, decide_eq_true c2, Bool.true_and]
      exact l_cw hc he.2 h2 (tk2 c1) h14 (by omega) (hz_wlen.getD c 0) 0 3000 (by omega) (by omega)
    · rw [if_neg c2, decide_eq_false c2, Bool.false_and]
      rfl
  · rw [if_neg c1, decide_eq_false c1, Bool.false_and]
    rfl
