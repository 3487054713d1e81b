def bzA (co : Nat → Option Nat) (cs : Nat) : Nat := cnt (fun e => (co e).isSome) cs
def DC (N : Nat → Nat → Int32) (b d cs lv c T : Nat) (co : Nat → Option Nat) (rem dl : Nat → Nat) : Prop :=
  b ∈ bL ∧ d < 4 ∧ N 18 d = nI cs ∧ cs ≤ 4 ∧ N 26 d = nI lv ∧ 1 ≤ lv ∧ lv ≤ 5 ∧ N (b + 1) 0 = nI c ∧ c ≤ 24 ∧ (∀ e, e < cs → N (b + 24) (d * 4 + e) = enc (-2) (co e)) ∧ (∀ e j, e < cs → co e = some j → j < c) ∧ (∀ j, j < c → N (b + 10) j = nI (rem j) ∧ rem j < 2 ^ 30) ∧ (∀ j, j < c → N (b + 9) j = nI (dl j) ∧ dl j < 2 ^ 30) ∧ N b 2 = nI T ∧ T < 2 ^ 30
def DR (N : Nat → Nat → Int32) (d cs lv c T : Nat) (co : Nat → Option Nat) (rem dl : Nat → Nat) : Prop :=
  d < 4 ∧ N 339 d = nI cs ∧ cs ≤ 4 ∧ N 345 d = nI lv ∧ 1 ≤ lv ∧ lv ≤ 5 ∧ N 337 2 = nI c ∧ c ≤ 24 ∧ (∀ e, e < cs → rD N d (9 + e) = enc (-1) (co e)) ∧ (∀ e j, e < cs → co e = some j → j < c) ∧ (∀ j, j < c → rJ N j 6 = nI (rem j) ∧ rem j < 2 ^ 30) ∧ (∀ j, j < c → rJ N j 5 = nI (dl j) ∧ dl j < 2 ^ 30) ∧ N 337 0 = nI T ∧ T < 2 ^ 30
theorem g_busyC {N : Nat → Nat → Int32} {r : Int64 × UInt64} {b d cs lv c T : Nat} {co : Nat → Option Nat} {rem dl : Nat → Nat} (h : DC N b d cs lv c T co rem dl) : f_X3_countBusyCores b (nI d) (mw N r) = some (nI (bzA co cs), mw N r) := by
  obtain ⟨hb, hd, hcs, h4, hlv, h1, h5, hc, hc4, hco, hj, hrem, hdl, hT, hT2⟩ := h
  rw [g_cbc hb hd hcs h4]
  unfold bzA
  rw [cnt_congr (q := fun e => (co e).isSome)]
  intro i hi
  show decide (N (b + 24) (d * 4 + i) ≠ -2) = _
  rw [hco i hi]
  cases ho : co i with
  | none => rfl
  | some j => 
    have := hj i j hi ho
    exact decide_eq_true (nI_nm2 (j := j) (by omega))
theorem bz_R {N : Nat → Nat → Int32} {d cs lv c T : Nat} {co : Nat → Option Nat} {rem dl : Nat → Nat} (h : DR N d cs lv c T co rem dl) : cnt (fun c => decide (rD N d (9 + c) ≠ -1)) cs = bzA co cs := by
  obtain ⟨hd, hcs, h4, hlv, h1, h5, hc, hc4, hco, hj, hrem, hdl, hT, hT2⟩ := h
  unfold bzA
  rw [cnt_congr (q := fun e => (co e).isSome)]
  intro i hi
  show decide (rD N d (9 + i) ≠ -1) = _
  rw [hco i hi]
  cases ho : co i with
  | none => rfl
  | some j => 
    have := hj i j hi ho
    exact decide_eq_true (nI_nm1 (j := j) (by omega))
theorem g_busyR {N : Nat → Nat → Int32} {r : Int64 × UInt64} {d cs lv c T : Nat} {co : Nat → Option Nat} {rem dl : Nat → Nat} (h : DR N d cs lv c T co rem dl) : f_X10_busy 336 (nI d) (mw N r) = some (nI (bzA co cs), mw N r) := by
  rw [← bz_R h]
  exact g_busy h.1 h.2.1 h.2.2.1
theorem bzA_le (co : Nat → Option Nat) (cs : Nat) : bzA co cs ≤ cs := cnt_le _ _
def sugA (po : Int32) (bz hi dm : Nat) : Nat := if po = 0 then hi else if po = 1 then 0 else if po = 2 then (if 0 < bz then dm else 0) else (if 0 < bz then hi else 0)
def boA (n : Nat) : Int32 := if 0 < n then 1 else 0
theorem boA_le {σ : Type} {n : Nat} (h : n < 2 ^ 31) (K : Int32 → Option σ) : Option.bind (if nI n ≤ 0 then some 0 else some 1) K = K (boA n) := by
  unfold boA
  by_cases h0 : 0 < n
  · rw [if_pos h0, if_neg (nI_nle h0 h)]
    rfl
  · have : n = 0 := by omega
    subst this
    rfl
theorem boA_0 {n : Nat} (h : ¬ 0 < n) : boA n = 0 := if_neg h
theorem boA_1 {n : Nat} (h : 0 < n) : boA n = 1 := if_pos h
theorem nI_m1 {n : Nat} (h : 1 ≤ n) : nI n - 1 = nI (n - 1) := pk_sub (b := 1) h
theorem g_sugC {N : Nat → Nat → Int32} {r : Int64 × UInt64} {b d cs lv c T bz : Nat} {co : Nat → Option Nat} {rem dl : Nat → Nat} {po : Int32} (h : DC N b d cs lv c T co rem dl) (hbz : N (b + 23) d = nI bz) (hbz4 : bz ≤ 4) (hpo : N (b + 15) d = po) (hp : po = 0 ∨ po = 1 ∨ po = 2 ∨ po = 3) : f_X3_suggestedLevel b (nI d) (mw N r) = some (nI (sugA po bz (lv - 1) (fndA (fun i => decide (nI (mxA (fun e => needA rem dl T (co e)) cs) ≤ N 27 (d * 5 + i))) (lv - 1) 0)), mw N r) := by
  obtain ⟨hb, hd, hcs, h4, hlv, h1, h5, hc, hc4, hco, hj, hrem, hdl, hT, hT2⟩ := h
  simp (disch := omega) only [f_X3_suggestedLevel, SB hb, SL hb, P17, A17, hbz, hlv, hpo, e_let, boA_le, nI_m1]
  unfold sugA
  rcases hp with rfl | rfl | rfl | rfl
  · rfl
  · rfl
  · by_cases h0 : 0 < bz
    · simp (disch := omega) only [boA_1 h0, h0, g_gr hb hd hcs h4 hc hc4 hco hj hrem hdl hT hT2, g_lf hb hd hlv h1 h5, e_b, i10, reduceIte]
      rfl
    · simp only [boA_0 h0, h0, reduceIte]
      rfl
  · by_cases h0 : 0 < bz
    · simp only [boA_1 h0, h0, i10, reduceIte]
      rfl
    · simp only [boA_0 h0, h0, reduceIte]
      rfl
theorem g_sugR {N : Nat → Nat → Int32} {r : Int64 × UInt64} {d cs lv c T : Nat} {co : Nat → Option Nat} {rem dl : Nat → Nat} {po : Int32} (h : DR N d cs lv c T co rem dl) (hpo : rD N d 1 = po) (hp : po = 0 ∨ po = 1 ∨ po = 2 ∨ po = 3) : f_X10_suggested 336 (nI d) (mw N r) = some (nI (sugA po (bzA co cs) (lv - 1) (fndA (fun i => decide (nI (mxA (fun e => needA rem dl T (co e)) cs) ≤ N 346 (5 * d + i))) (lv - 1) 0)), mw N r) := by
  have hB := g_busyR (r := r) h
  have hle := bzA_le co cs
  obtain ⟨hd, hcs, h4, hlv, h1, h5, hc, hc4, hco, hj, hrem, hdl, hT, hT2⟩ := h
  simp (disch := omega) only [f_X10_suggested, PR, AR, RO, hB, hlv, hpo, e_let, e_b, boA_le, nI_m1]
  unfold sugA
  rcases hp with rfl | rfl | rfl | rfl
  · rfl
  · rfl
  · by_cases h0 : 0 < bzA co cs
    · have hm := l_dem (r := r) hd hcs h4 hc4 hco hj hrem hdl hT hT2 cs 0 3000 (by omega) (by omega)
      have hf := l_lr (N := N) (r := r) (x := mxA (fun e => needA rem dl T (co e)) cs) hd hlv h1 h5 (lv - 1) 0 3000 (by omega) (by omega)
      have hD : f_X10_demanded 336 (nI d) (mw N r) = some (nI (fndA (fun i => decide (nI (mxA (fun e => needA rem dl T (co e)) cs) ≤ N 346 (5 * d + i))) (lv - 1) 0), mw N r) := by
        simp only [f_X10_demanded, PR]
        rw [show lp_X10_demanded_4 336 (nI d) 3000 (0, 0, mw N r) = _ from hm, e_bd]
        exact hf
      simp only [boA_1 h0, h0, hD, e_b, i10, reduceIte]
      rfl
    · simp only [boA_0 h0, h0, reduceIte]
      rfl
  · by_cases h0 : 0 < bzA co cs
    · simp (disch := omega) only [boA_1 h0, h0, i10, reduceIte, PR, AR, hlv, nI_m1]
      rfl
    · simp only [boA_0 h0, h0, reduceIte]
      rfl
def credA (l base bz cr : Nat) : Nat := if 0 < bz ∧ cr = 0 then (if base < l then base else l) else l
theorem g_credC {N : Nat → Nat → Int32} {r : Int64 × UInt64} {b d l bz cr base : Nat} (hb : b ∈ bL) (hd : d < 4) (hbz : N (b + 23) d = nI bz) (hbz4 : bz ≤ 4) (hcr : N (b + 19) d = nI cr) (hcr9 : cr ≤ 99) (hba : N 23 d = nI base) (hba5 : base < 5) (hl : l < 5) : f_X3_creditedLevel b (nI d) (nI l) (mw N r) = some (nI (credA l base bz cr), mw N r) := by
  simp (disch := omega) only [f_X3_creditedLevel, SB hb, SL hb, P17, A17, hbz, hcr, hba]
  unfold credA
  by_cases h0 : 0 < bz
  · rw [if_neg (nI_nle h0 (by omega))]
    by_cases h1 : cr = 0
    · subst h1
      rw [if_pos nI_0, e_bd, if_neg (show ¬ (1 : Int32) = 0 by decide), e_bd, if_pos (show 0 < bz ∧ (0 : Nat) = 0 from ⟨h0, rfl⟩)]
      by_cases h2 : base < l
      · rw [if_pos h2, if_pos (nI_lt h2 (by omega))]
      · rw [if_neg h2, if_neg (nI_nlt (by omega) (by omega))]
    · rw [if_neg (nI_ne0 (by omega) (by omega)), e_bd, if_pos rfl, e_bd, if_neg (fun q => h1 q.2)]
  · have h1 : bz = 0 := by omega
    subst h1
    rfl
