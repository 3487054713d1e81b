theorem i10 : ((1 : Int32) = 0) = False := eq_false (by decide)
theorem needA_s (rem dl : Nat → Nat) (T j : Nat) : needA rem dl T (some j) = rqA (rem j) (dl j) T := rfl
theorem needA_n (rem dl : Nat → Nat) (T : Nat) : needA rem dl T none = 0 := rfl
theorem l_gr {N : Nat → Nat → Int32} {r : Int64 × UInt64} {b d cs c T : Nat} {co : Nat → Option Nat} {rem dl : Nat → Nat} (hb : b ∈ bL) (hd : d < 4) (hcs : N 18 d = nI cs) (h4 : cs ≤ 4) (hc : N (b + 1) 0 = nI c) (hc4 : c ≤ 24) (hco : ∀ e, e < cs → N (b + 24) (d * 4 + e) = enc (-2) (co e)) (hj : ∀ e j, e < cs → co e = some j → j < c) (hrem : ∀ j, j < c → N (b + 10) j = nI (rem j) ∧ rem j < 2 ^ 30) (hdl : ∀ j, j < c → N (b + 9) j = nI (dl j) ∧ dl j < 2 ^ 30) (hT : N b 2 = nI T) (hT2 : T < 2 ^ 30) : ∀ m k F, k + m = cs → m < F → lp_X3_greatestRequirement_4 b (nI d) F (nI (mxA (fun e => needA rem dl T (co e)) k), nI k, mw N r) = some (nI (mxA (fun e => needA rem dl T (co e)) cs), mw N r) := by
  intro m
  induction m with
  | zero =>
    intro k F hk hF
    obtain ⟨F, rfl⟩ := F_succ hF
    have hk : k = cs := by omega
    subst hk
    simp (disch := omega) only [lp_X3_greatestRequirement_4, SB hb, P17, A17, hcs]
    rw [if_pos (Int32.le_refl _)]
  | succ m ih =>
    intro k F hk hF
    obtain ⟨F, rfl⟩ := F_succ hF
    have h2 := ih (k + 1) F (by omega) (by omega)
    simp (disch := omega) only [lp_X3_greatestRequirement_4, SB hb, SL hb, P17, A17, hcs, nI_m4, nI_add, hco, e_let, nI_1']
    rw [if_neg (nI_ge (by omega) (by omega)), ← h2, mxA]
    cases ho : co k with
    | none =>
      simp only [enc, g_has0 hb, e_b, needA_n, Nat.not_lt_zero, reduceIte]
      rfl
    | some j =>
      have hjc := hj k j (by omega) ho
      have hr := hrem j hjc
      have hd2 := hdl j hjc
      have hm : mxA (fun e => needA rem dl T (co e)) k < 2 ^ 30 := mxA_lt (by omega) (fun i hi => needA_lt (by omega) (fun j hj2 => (hrem j (hj i j (by omega) hj2)).2))
      have hq : rqA (rem j) (dl j) T < 2 ^ 30 := Nat.lt_of_le_of_lt rqA_le hr.2
      simp (disch := omega) only [enc, g_has hb hc hc4 hjc, e_b, i10, reduceIte, needA_s, SB hb, SL hb, hr.1, hd2.1, mw_1, hT, g_divC hr.2 hd2.2 hT2, mx_nI, e_let]
      rfl
theorem g_gr {N : Nat → Nat → Int32} {r : Int64 × UInt64} {b d cs c T : Nat} {co : Nat → Option Nat} {rem dl : Nat → Nat} (hb : b ∈ bL) (hd : d < 4) (hcs : N 18 d = nI cs) (h4 : cs ≤ 4) (hc : N (b + 1) 0 = nI c) (hc4 : c ≤ 24) (hco : ∀ e, e < cs → N (b + 24) (d * 4 + e) = enc (-2) (co e)) (hj : ∀ e j, e < cs → co e = some j → j < c) (hrem : ∀ j, j < c → N (b + 10) j = nI (rem j) ∧ rem j < 2 ^ 30) (hdl : ∀ j, j < c → N (b + 9) j = nI (dl j) ∧ dl j < 2 ^ 30) (hT : N b 2 = nI T) (hT2 : T < 2 ^ 30) : f_X3_greatestRequirement b (nI d) (mw N r) = some (nI (mxA (fun e => needA rem dl T (co e)) cs), mw N r) := by
  have h := l_gr (r := r) hb hd hcs h4 hc hc4 hco hj hrem hdl hT hT2 cs 0 3000 (by omega) (by omega)
  simp only [f_X3_greatestRequirement, SB hb]
  rw [show lp_X3_greatestRequirement_4 b (nI d) 3000 (0, 0, mw N r) = _ from h]
  rfl
theorem l_dem {N : Nat → Nat → Int32} {r : Int64 × UInt64} {d cs c T : Nat} {co : Nat → Option Nat} {rem dl : Nat → Nat} (hd : d < 4) (hcs : N 339 d = nI cs) (h4 : cs ≤ 4) (hc4 : c ≤ 24) (hco : ∀ e, e < cs → rD N d (9 + e) = enc (-1) (co e)) (hj : ∀ e j, e < cs → co e = some j → j < c) (hrem : ∀ j, j < c → rJ N j 6 = nI (rem j) ∧ rem j < 2 ^ 30) (hdl : ∀ j, j < c → rJ N j 5 = nI (dl j) ∧ dl j < 2 ^ 30) (hT : N 337 0 = nI T) (hT2 : T < 2 ^ 30) : ∀ m k F, k + m = cs → m < F → lp_X10_demanded_4 336 (nI d) F (nI (mxA (fun e => needA rem dl T (co e)) k), nI k, mw N r) = some (nI (mxA (fun e => needA rem dl T (co e)) cs), mw N r) := by
  intro m
  induction m with
  | zero =>
    intro k F hk hF
    obtain ⟨F, rfl⟩ := F_succ hF
    have hk : k = cs := by omega
    subst hk
    simp (disch := omega) only [lp_X10_demanded_4, PR, AR, hcs]
    rw [if_pos (Int32.le_refl _)]
  | succ m ih =>
    intro k F hk hF
    obtain ⟨F, rfl⟩ := F_succ hF
    have h2 := ih (k + 1) F (by omega) (by omega)
    simp (disch := omega) only [lp_X10_demanded_4, PR, AR, RO, RLd, hcs, hco, e_let, e_b, nI_1']
    rw [if_neg (nI_ge (by omega) (by omega)), ← h2, mxA]
    cases ho : co k with
    | none =>
      simp only [enc, needA_n, Nat.not_lt_zero, reduceIte]
      rfl
    | some j =>
      have hjc := hj k j (by omega) ho
      have hr := hrem j hjc
      have hd2 := hdl j hjc
      have hm : mxA (fun e => needA rem dl T (co e)) k < 2 ^ 30 := mxA_lt (by omega) (fun i hi => needA_lt (by omega) (fun j hj2 => (hrem j (hj i j (by omega) hj2)).2))
      have hq : rqA (rem j) (dl j) T < 2 ^ 30 := Nat.lt_of_le_of_lt rqA_le hr.2
      have hn := eq_false (nI_nm1 (j := j) (by omega))
      simp (disch := omega) only [enc, hn, reduceIte, RJ, e_b, needA_s, PR, RLd, hr.1, hd2.1, hT, g_divR hr.2 hd2.2 hT2, mx_nI, e_let]
      rfl
def fndA (q : Nat → Bool) : Nat → Nat → Nat
  | 0, k => k
  | m + 1, k => if q k = true then k else fndA q m (k + 1)
theorem fndA_lt (q : Nat → Bool) : ∀ m k, fndA q m k ≤ k + m
  | 0, k => Nat.le_refl _
  | m + 1, k => by
    unfold fndA
    have := fndA_lt q m (k + 1)
    split <;> omega
theorem fndA_congr {p q : Nat → Bool} : ∀ {m k : Nat}, (∀ i, i < k + m → p i = q i) → fndA p m k = fndA q m k
  | 0, _, _ => rfl
  | m + 1, k, h => by
    unfold fndA
    rw [h k (by omega), fndA_congr (m := m) (fun i hi => h i (by omega))]
theorem l_lf {N : Nat → Nat → Int32} {r : Int64 × UInt64} {b d lv x : Nat} (hb : b ∈ bL) (hd : d < 4) (hlv : N 26 d = nI lv) (h1 : 1 ≤ lv) (h5 : lv ≤ 5) : ∀ m k F, k + m + 1 = lv → m < F → lp_X3_levelFor_2 b (nI d) (nI x) (mw N r) F (nI k) = some (nI (fndA (fun i => decide (nI x ≤ N 27 (d * 5 + i))) m k)) := by
  intro m
  induction m with
  | zero =>
    intro k F hk hF
    obtain ⟨F, rfl⟩ := F_succ hF
    simp (disch := omega) only [lp_X3_levelFor_2, SB hb, P17, A17, hlv]
    rw [show nI lv - 1 = nI k from by rw [← hk]; exact nI_pred k, if_pos (Int32.le_refl _)]
    rfl
  | succ m ih =>
    intro k F hk hF
    obtain ⟨F, rfl⟩ := F_succ hF
    simp (disch := omega) only [lp_X3_levelFor_2, SB hb, P17, A17, hlv, nI_m5, nI_add, e_let, nI_1']
    rw [show nI lv - 1 = nI (lv - 1) from pk_sub (b := 1) (by omega), if_neg (nI_ge (by omega) (by omega)), fndA]
    by_cases h : nI x ≤ N 27 (d * 5 + k)
    · rw [if_pos h, if_pos (decide_eq_true h)]
    · rw [if_neg h, if_neg (by simpa using h)]
      exact ih (k + 1) F (by omega) (by omega)
theorem g_lf {N : Nat → Nat → Int32} {r : Int64 × UInt64} {b d lv x : Nat} (hb : b ∈ bL) (hd : d < 4) (hlv : N 26 d = nI lv) (h1 : 1 ≤ lv) (h5 : lv ≤ 5) : f_X3_levelFor b (nI d) (nI x) (mw N r) = some (nI (fndA (fun i => decide (nI x ≤ N 27 (d * 5 + i))) (lv - 1) 0), mw N r) := by
  have h := l_lf (r := r) (x := x) hb hd hlv h1 h5 (lv - 1) 0 3000 (by omega) (by omega)
  simp only [f_X3_levelFor, SB hb]
  rw [show lp_X3_levelFor_2 b (nI d) (nI x) (mw N r) 3000 0 = _ from h]
  rfl
theorem l_lr {N : Nat → Nat → Int32} {r : Int64 × UInt64} {d lv x : Nat} (hd : d < 4) (hlv : N 345 d = nI lv) (h1 : 1 ≤ lv) (h5 : lv ≤ 5) : ∀ m k F, k + m + 1 = lv → m + 1 < F → lp_X10_demanded_73 336 (nI d) (nI x) (mw N r) F (nI k) = some (nI (fndA (fun i => decide (nI x ≤ N 346 (5 * d + i))) m k), mw N r) := by
  intro m
  induction m with
  | zero =>
    intro k F hk hF
    obtain ⟨F, rfl⟩ := F_succ hF
    have hp : nI lv - 1 = nI k := by rw [← hk]; exact nI_pred k
    simp (disch := omega) only [lp_X10_demanded_73, PR, AR, hlv, nI_5m, nI_add, e_let, nI_1', hp]
    rw [if_neg (nI_ge (by omega) (by omega))]
    obtain ⟨F, rfl⟩ := F_succ (F := F) (m := 0) (by omega)
    by_cases h : N 346 (5 * d + k) < nI x
    · rw [if_pos h]
      simp (disch := omega) only [lp_X10_demanded_73, PR, AR, hlv, hp]
      rw [if_pos (nI_le (by omega) (by omega))]
      rfl
    · rw [if_neg h]
      rfl
  | succ m ih =>
    intro k F hk hF
    obtain ⟨F, rfl⟩ := F_succ hF
    simp (disch := omega) only [lp_X10_demanded_73, PR, AR, hlv, nI_5m, nI_add, e_let, nI_1']
    rw [if_neg (nI_ge (by omega) (by omega)), fndA]
    by_cases h : N 346 (5 * d + k) < nI x
    · rw [if_pos h, if_neg (by simpa using h)]
      exact ih (k + 1) F (by omega) (by omega)
    · rw [if_neg h, if_pos (by simpa using h)]
