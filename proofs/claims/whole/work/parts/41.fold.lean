def fb (p : Nat → Bool) (dl : Nat → Int32) : Nat → Option Nat
  | 0 => none
  | n + 1 => match fb p dl n with
    | none => if p n = true then some n else none
    | some f => if p n = true ∧ ¬ dl f ≤ dl n then some n else some f
theorem fb_succ (p : Nat → Bool) (dl : Nat → Int32) (n : Nat) : fb p dl (n + 1) = match fb p dl n with
    | none => if p n = true then some n else none
    | some f => if p n = true ∧ ¬ dl f ≤ dl n then some n else some f := rfl
theorem fb_lt {p : Nat → Bool} {dl : Nat → Int32} : ∀ {n f : Nat}, fb p dl n = some f → f < n ∧ p f = true
  | 0, f, h => nomatch h
  | n + 1, f, h => by
    unfold fb at h
    cases h0 : fb p dl n with
    | none =>
      rw [h0] at h
      dsimp only at h
      split at h
      · cases h
        exact ⟨by omega, by assumption⟩
      · cases h
    | some g =>
      rw [h0] at h
      dsimp only at h
      have := fb_lt h0
      split at h
      · cases h
        exact ⟨by omega, (by assumption : _ ∧ _).1⟩
      · cases h
        exact ⟨by omega, this.2⟩
theorem fb_congr {p q : Nat → Bool} {dl el : Nat → Int32} : ∀ {n : Nat}, (∀ i, i < n → p i = q i) → (∀ i, i < n → dl i = el i) → fb p dl n = fb q el n
  | 0, _, _ => rfl
  | n + 1, h, h2 => by
    unfold fb
    rw [← fb_congr (n := n) (fun i hi => h i (by omega)) (fun i hi => h2 i (by omega)), ← h n (by omega)]
    cases h0 : fb p dl n with
    | none => rfl
    | some f =>
      have := fb_lt h0
      dsimp only
      rw [h2 n (by omega), h2 f (by omega)]
theorem fb_none {p : Nat → Bool} {dl : Nat → Int32} : ∀ {n : Nat}, fb p dl n = none → ∀ i, i < n → p i = false
  | 0, _, i, hi => by omega
  | n + 1, h, i, hi => by
    unfold fb at h
    cases h0 : fb p dl n with
    | none =>
      rw [h0] at h
      dsimp only at h
      split at h
      · cases h
      · rename_i hp
        by_cases hin : i = n
        · subst hin
          simpa using hp
        · exact fb_none h0 i (by omega)
    | some g =>
      rw [h0] at h
      dsimp only at h
      split at h <;> cases h
def enc (e : Int32) : Option Nat → Int32
  | none => e
  | some j => nI j
theorem nI_nm2 {j : Nat} (h : j < 2 ^ 31) : ¬ nI j = -2 := by
  intro q
  have := congrArg Int32.toInt q
  rw [nI_toInt h] at this
  have h2 : (-2 : Int32).toInt = -2 := by decide
  omega
theorem nI_nm1 {j : Nat} (h : j < 2 ^ 31) : ¬ nI j = -1 := by
  intro q
  have := congrArg Int32.toInt q
  rw [nI_toInt h] at this
  have h2 : (-1 : Int32).toInt = -1 := by decide
  omega
theorem l_fbd {N : Nat → Nat → Int32} {r : Int64 × UInt64} {b c : Nat} {s : Int32} (hb : b ∈ bL) (hc : N (b + 1) 0 = nI c) (h4 : c ≤ 24) : ∀ m k F, k + m = c → m < F → lp_X1_firstByDeadline_5 (b + 1) s F (enc (-2) (fb (hbit s) (N (b + 9)) k), nI k, mw N r) = some (enc (-2) (fb (hbit s) (N (b + 9)) c), mw N r) := by
  intro m
  induction m with
  | zero =>
    intro k F hk hF
    obtain ⟨F, rfl⟩ := F_succ hF
    have hk : k = c := by omega
    subst hk
    simp (disch := omega) only [lp_X1_firstByDeadline_5, mw_1, hc]
    rw [if_pos (Int32.le_refl _)]
  | succ m ih =>
    intro k F hk hF
    obtain ⟨F, rfl⟩ := F_succ hF
    have h2 := ih (k + 1) F (by omega) (by omega)
    simp (disch := omega) only [lp_X1_firstByDeadline_5, mw_1, hc, SB hb, SL hb, e_let, nI_1', g_holds, e_b]
    rw [if_neg (nI_ge (by omega) (by omega)), ← h2, fb_succ]
    cases hs : hbit s k with
    | false =>
      cases hf : fb (hbit s) (N (b + 9)) k with
      | none => simp [enc, hs, e_bd]
      | some f => simp [enc, hs, e_bd]
    | true =>
      cases hf : fb (hbit s) (N (b + 9)) k with
      | none => simp [enc, hs, e_bd]
      | some f =>
        have hl := fb_lt hf
        have hn := eq_false (nI_nm2 (j := f) (by omega))
        simp only [enc, hs, hn, reduceIte]
        simp (disch := omega) only [SL hb]
        by_cases hd : N (b + 9) f ≤ N (b + 9) k <;> simp [hd, e_bd, enc]
theorem g_fbd {N : Nat → Nat → Int32} {r : Int64 × UInt64} {b c : Nat} {s : Int32} (hb : b ∈ bL) (hc : N (b + 1) 0 = nI c) (h4 : c ≤ 24) : f_X1_firstByDeadline (b + 1) s (mw N r) = some (enc (-2) (fb (hbit s) (N (b + 9)) c), mw N r) := by
  have h := l_fbd (r := r) (s := s) hb hc h4 c 0 3000 (by omega) (by omega)
  simp only [f_X1_firstByDeadline, SB hb]
  rw [show lp_X1_firstByDeadline_5 (b + 1) s 3000 (-2, 0, mw N r) = _ from h]
  rfl
theorem l_fr {N : Nat → Nat → Int32} {r : Int64 × UInt64} {d c : Nat} (hc : N 337 2 = nI c) (h4 : c ≤ 24) : ∀ m k F, k + m = c → m < F → lp_X10_firstReady_4 336 (nI d) F (enc (-1) (fb (fun j => decide (rJ N j 0 = nI d) && decide (rJ N j 7 = 1)) (fun j => rJ N j 5) k), nI k, mw N r) = some (enc (-1) (fb (fun j => decide (rJ N j 0 = nI d) && decide (rJ N j 7 = 1)) (fun j => rJ N j 5) c), mw N r) := by
  intro m
  induction m with
  | zero =>
    intro k F hk hF
    obtain ⟨F, rfl⟩ := F_succ hF
    have hk : k = c := by omega
    subst hk
    simp (disch := omega) only [lp_X10_firstReady_4, PR, RLd, hc]
    rw [if_pos (Int32.le_refl _)]
  | succ m ih =>
    intro k F hk hF
    obtain ⟨F, rfl⟩ := F_succ hF
    have h2 := ih (k + 1) F (by omega) (by omega)
    simp (disch := omega) only [lp_X10_firstReady_4, PR, RLd, hc, RJ, e_let, nI_1', e_b]
    rw [if_neg (nI_ge (by omega) (by omega)), ← h2]
    rw [fb_succ]
    by_cases h0 : rJ N k 0 = nI d
    · by_cases h7 : rJ N k 7 = 1
      · cases hf : fb (fun j => decide (rJ N j 0 = nI d) && decide (rJ N j 7 = 1)) (fun j => rJ N j 5) k with
        | none => simp [enc, h0, h7]
        | some f =>
          have hl := fb_lt hf
          have hn := eq_false (nI_nm1 (j := f) (by omega))
          simp only [enc, h0, h7, hn, reduceIte]
          simp (disch := omega) only [RJ, e_b]
          by_cases hd : rJ N f 5 ≤ rJ N k 5 <;> simp [hd, h0, h7]
      · cases hf : fb (fun j => decide (rJ N j 0 = nI d) && decide (rJ N j 7 = 1)) (fun j => rJ N j 5) k with
        | none => simp [enc, h0, h7]
        | some f => simp [enc, h0, h7]
    · cases hf : fb (fun j => decide (rJ N j 0 = nI d) && decide (rJ N j 7 = 1)) (fun j => rJ N j 5) k with
      | none => simp [enc, h0]
      | some f => simp [enc, h0]
theorem g_fr {N : Nat → Nat → Int32} {r : Int64 × UInt64} {d c : Nat} (hc : N 337 2 = nI c) (h4 : c ≤ 24) : f_X10_firstReady 336 (nI d) (mw N r) = some (enc (-1) (fb (fun j => decide (rJ N j 0 = nI d) && decide (rJ N j 7 = 1)) (fun j => rJ N j 5) c), mw N r) := by
  have h := l_fr (r := r) (d := d) hc h4 c 0 3000 (by omega) (by omega)
  simp only [f_X10_firstReady, PR]
  rw [show lp_X10_firstReady_4 336 (nI d) 3000 (-1, 0, mw N r) = _ from h]
  rfl
