theorem nI_m287 {k : Nat} (h : 287 ≤ k) : nI k - 287 = nI (k - 287) := pk_sub (b := 287) h
theorem nI_z : (0 : Int32) = nI 0 := nI_0.symm
def cyN (N : Nat → Nat → Int32) (a sp a' dp n : Nat) : Nat → Nat → Int32 := sa N a' (va_cpy (N a) (N a') sp dp n)
theorem cyN_0 (N : Nat → Nat → Int32) (a sp a' dp : Nat) : cyN N a sp a' dp 0 = N := by
  funext x k
  unfold cyN
  by_cases h : x = a'
  · subst h
    rw [sa_self, pk_cpy_out (by omega)]
  · rw [sa_cell h]
theorem cyN_c {N : Nat → Nat → Int32} {a sp a' dp n x : Nat} (h : x ≠ a') : cyN N a sp a' dp n x = N x := sa_cell h
theorem cyN_in {N : Nat → Nat → Int32} {a sp a' dp n k : Nat} (h : dp ≤ k) (h2 : k < dp + n) : cyN N a sp a' dp n a' k = N a (sp + (k - dp)) := by
  unfold cyN
  rw [sa_self, pk_cpy_in h h2]
theorem cyN_out {N : Nat → Nat → Int32} {a sp a' dp n k : Nat} (h : k < dp ∨ dp + n ≤ k) : cyN N a sp a' dp n a' k = N a' k := by
  unfold cyN
  rw [sa_self, pk_cpy_out h]
theorem cyN_s {N : Nat → Nat → Int32} {a sp a' dp n : Nat} {x : Int32} (hx : x = N a (sp + n)) : st (cyN N a sp a' dp n) a' (dp + n) x = cyN N a sp a' dp (n + 1) := by
  funext y k
  rw [st_at]
  by_cases h : y = a'
  · subst h
    by_cases hk : k = dp + n
    · subst hk
      rw [if_pos ⟨rfl, rfl⟩, cyN_in (by omega) (by omega), hx]
      congr 1
      omega
    · rw [if_neg (fun q => hk q.2)]
      by_cases h2 : dp ≤ k ∧ k < dp + n
      · rw [cyN_in h2.1 h2.2, cyN_in h2.1 (by omega)]
      · rw [cyN_out (by omega), cyN_out (by omega)]
  · rw [if_neg (fun q => h q.1), cyN_c h, cyN_c h]
theorem l_rem54 {N : Nat → Nat → Int32} {r : Int64 × UInt64} {h : Nat} (hh : N 336 2 = nI h) (h10 : h < 10) : ∀ m k F, k + m = 287 → m < F → lp_X10_remember_54 336 F (nI k, mw (cyN N 337 0 338 (287 * h) k) r) = some (mw (cyN N 337 0 338 (287 * h) 287) r) := by
  intro m
  induction m with
  | zero =>
    intro k F hk hF
    obtain ⟨F, rfl⟩ := F_succ hF
    have hk : k = 287 := by omega
    subst hk
    simp only [lp_X10_remember_54]
    rw [if_pos (by decide)]
  | succ m ih =>
    intro k F hk hF
    obtain ⟨F, rfl⟩ := F_succ hF
    have h2 := ih (k + 1) F (by omega) (by omega)
    rw [lp_X10_remember_54, if_neg (show ¬ (287 : Int32) ≤ nI k from nI_ge (b := 287) (by omega) (by omega))]
    simp (disch := omega) only [PR, AR, mw_1, cyN_c, hh, nI_287m, nI_add, e_let, nI_1']
    rw [cyN_s (by rw [Nat.zero_add])]
    exact h2
theorem l_und32 {N : Nat → Nat → Int32} {r : Int64 × UInt64} {h : Nat} (hh : N 336 2 = nI h) (h10 : h < 10) : ∀ m k F, k + m = 287 → m < F → lp_X10_undo_32 336 F (nI k, mw (cyN N 338 (287 * h) 337 0 k) r) = some (mw (cyN N 338 (287 * h) 337 0 287) r) := by
  intro m
  induction m with
  | zero =>
    intro k F hk hF
    obtain ⟨F, rfl⟩ := F_succ hF
    have hk : k = 287 := by omega
    subst hk
    simp only [lp_X10_undo_32]
    rw [if_pos (by decide)]
  | succ m ih =>
    intro k F hk hF
    obtain ⟨F, rfl⟩ := F_succ hF
    have h2 := ih (k + 1) F (by omega) (by omega)
    rw [lp_X10_undo_32, if_neg (show ¬ (287 : Int32) ≤ nI k from nI_ge (b := 287) (by omega) (by omega))]
    simp (disch := omega) only [PR, AR, mw_1, cyN_c, hh, nI_287m, nI_add, e_let, nI_1']
    have e := cyN_s (N := N) (a := 338) (sp := 287 * h) (a' := 337) (dp := 0) (n := k) (x := N 338 (287 * h + k)) rfl
    rw [Nat.zero_add] at e
    rw [e]
    exact h2
theorem l_asi {N : Nat → Nat → Int32} {r : Int64 × UInt64} : ∀ m k F, k + m = 287 → m < F → lp_X10_putAside_2 336 F (nI k, mw (cyN N 337 0 351 0 k) r) = some (mw (cyN N 337 0 351 0 287) r) := by
  intro m
  induction m with
  | zero =>
    intro k F hk hF
    obtain ⟨F, rfl⟩ := F_succ hF
    have hk : k = 287 := by omega
    subst hk
    simp only [lp_X10_putAside_2]
    rw [if_pos (by decide)]
  | succ m ih =>
    intro k F hk hF
    obtain ⟨F, rfl⟩ := F_succ hF
    have h2 := ih (k + 1) F (by omega) (by omega)
    rw [lp_X10_putAside_2, if_neg (show ¬ (287 : Int32) ≤ nI k from nI_ge (b := 287) (by omega) (by omega))]
    simp (disch := omega) only [PR, AR, cyN_c, e_let, nI_1']
    have e := cyN_s (N := N) (a := 337) (sp := 0) (a' := 351) (dp := 0) (n := k) (x := N 337 k) (by rw [Nat.zero_add])
    rw [Nat.zero_add] at e
    rw [e]
    exact h2
theorem l_tak {N : Nat → Nat → Int32} {r : Int64 × UInt64} : ∀ m k F, k + m = 287 → m < F → lp_X10_takeBack_2 336 F (nI k, mw (cyN N 351 0 337 0 k) r) = some (mw (cyN N 351 0 337 0 287) r) := by
  intro m
  induction m with
  | zero =>
    intro k F hk hF
    obtain ⟨F, rfl⟩ := F_succ hF
    have hk : k = 287 := by omega
    subst hk
    simp only [lp_X10_takeBack_2]
    rw [if_pos (by decide)]
  | succ m ih =>
    intro k F hk hF
    obtain ⟨F, rfl⟩ := F_succ hF
    have h2 := ih (k + 1) F (by omega) (by omega)
    rw [lp_X10_takeBack_2, if_neg (show ¬ (287 : Int32) ≤ nI k from nI_ge (b := 287) (by omega) (by omega))]
    simp (disch := omega) only [PR, AR, cyN_c, e_let, nI_1']
    have e := cyN_s (N := N) (a := 351) (sp := 0) (a' := 337) (dp := 0) (n := k) (x := N 351 k) (by rw [Nat.zero_add])
    rw [Nat.zero_add] at e
    rw [e]
    exact h2
def shN (N : Nat → Nat → Int32) (k : Nat) : Nat → Nat → Int32 := sa N 338 (fun i => if i + 287 < k then N 338 (i + 287) else N 338 i)
theorem shN_c {N : Nat → Nat → Int32} {k x : Nat} (h : x ≠ 338) : shN N k x = N x := sa_cell h
theorem shN_at {N : Nat → Nat → Int32} {k i : Nat} : shN N k 338 i = if i + 287 < k then N 338 (i + 287) else N 338 i := by
  unfold shN
  rw [sa_self]
theorem shN_s {N : Nat → Nat → Int32} {k : Nat} (h : 287 ≤ k) : st (shN N k) 338 (k - 287) (N 338 k) = shN N (k + 1) := by
  funext y i
  rw [st_at]
  by_cases hy : y = 338
  · subst hy
    rw [shN_at, shN_at]
    by_cases hi : i = k - 287
    · rw [if_pos (show (338 : Nat) = 338 ∧ i = k - 287 from ⟨rfl, hi⟩), if_pos (show i + 287 < k + 1 by omega), show i + 287 = k by omega]
    · rw [if_neg (fun q => hi q.2)]
      by_cases h2 : i + 287 < k
      · rw [if_pos h2, if_pos (by omega)]
      · rw [if_neg h2, if_neg (by omega)]
  · rw [if_neg (fun q => hy q.1), shN_c hy, shN_c hy]
theorem l_rem13 {N : Nat → Nat → Int32} {r : Int64 × UInt64} : ∀ m k F, k + m = 2870 → 287 ≤ k → m < F → lp_X10_remember_13 336 F (nI k, mw (shN N k) r) = some (mw (shN N 2870) r) := by
  intro m
  induction m with
  | zero =>
    intro k F hk h0 hF
    obtain ⟨F, rfl⟩ := F_succ hF
    have hk : k = 2870 := by omega
    subst hk
    simp only [lp_X10_remember_13]
    rw [if_pos (by decide)]
  | succ m ih =>
    intro k F hk h0 hF
    obtain ⟨F, rfl⟩ := F_succ hF
    have h2 := ih (k + 1) F (by omega) (by omega) (by omega)
    rw [lp_X10_remember_13, if_neg (show ¬ (2870 : Int32) ≤ nI k from nI_ge (b := 2870) (by omega) (by omega))]
    have e : shN N k 338 k = N 338 k := by rw [shN_at, if_neg (by omega)]
    simp (disch := omega) only [PR, AR, e, nI_m287 h0, e_let, nI_1']
    rw [shN_s h0]
    exact h2
theorem g_asi {N : Nat → Nat → Int32} {r : Int64 × UInt64} : f_X10_putAside 336 (mw N r) = some (mw (cyN N 337 0 351 0 287) r) := by
  have h := l_asi (N := N) (r := r) 287 0 3000 (by omega) (by omega)
  rw [cyN_0] at h
  simp only [f_X10_putAside, PR]
  rw [show lp_X10_putAside_2 336 3000 (0, mw N r) = _ from h]
  rfl
theorem g_tak {N : Nat → Nat → Int32} {r : Int64 × UInt64} : f_X10_takeBack 336 (mw N r) = some (mw (cyN N 351 0 337 0 287) r) := by
  have h := l_tak (N := N) (r := r) 287 0 3000 (by omega) (by omega)
  rw [cyN_0] at h
  simp only [f_X10_takeBack, PR]
  rw [show lp_X10_takeBack_2 336 3000 (0, mw N r) = _ from h]
  rfl
theorem shN_0 (N : Nat → Nat → Int32) : shN N 287 = N := by
  funext y i
  by_cases hy : y = 338
  · subst hy
    rw [shN_at, if_neg (by omega)]
  · rw [shN_c hy]
/-- the reference's remember: a memory whose past holds the rows and the newest -/
theorem g_remR {N : Nat → Nat → Int32} {r : Int64 × UInt64} {h : Nat} (hh : N 336 2 = nI h) (h10 : h ≤ 10) : ∃ N', f_X10_remember 336 (mw N r) = some (mw N' r) ∧ (∀ a, a ≠ 336 → a ≠ 338 → N' a = N a) ∧ (∀ k, k ≠ 2 → N' 336 k = N 336 k) ∧ N' 336 2 = nI (if h = 10 then 10 else h + 1) ∧ (∀ i k, k < 287 → i < (if h = 10 then 9 else h) → N' 338 (287 * i + k) = N 338 (287 * (if h = 10 then i + 1 else i) + k)) ∧ (∀ k, k < 287 → N' 338 (287 * (if h = 10 then 9 else h) + k) = N 337 k) := by
  by_cases hq : h = 10
  · subst hq
    have e1 := l_rem13 (N := N) (r := r) 2583 287 3000 (by omega) (by omega) (by omega)
    rw [shN_0] at e1
    have e2 := l_rem54 (N := st (shN N 2870) 336 2 (nI 9)) (r := r) (h := 9) (st_self _ _ _ _) (by omega) 287 0 3000 (by omega) (by omega)
    rw [cyN_0] at e2
    refine ⟨st (cyN (st (shN N 2870) 336 2 (nI 9)) 337 0 338 (287 * 9) 287) 336 2 (nI 10), ?_, ?_, ?_, ?_, ?_, ?_⟩
    · simp only [f_X10_remember, PR, mw_1, hh]
      rw [if_pos (by decide), show lp_X10_remember_13 336 3000 (287, mw N r) = _ from e1, e_bd]
      simp (disch := omega) only [e_let, mw_pn, mw_1, shN_c, hh]
      rw [e_bd, show nI 10 - 1 = nI 9 from by decide, show lp_X10_remember_54 336 3000 (0, mw (st (shN N 2870) 336 2 (nI 9)) r) = _ from e2, e_bd]
      simp (disch := omega) only [e_let, mw_pn, mw_1, cyN_c, st_self, nI_p1]
    · intro a h1 h2
      rw [st_cell h1, cyN_c h2, st_cell h1, shN_c h2]
    · intro k hk
      rw [st_slot hk, cyN_c (by omega), st_slot hk, shN_c (by omega)]
    · rw [st_self, if_pos rfl]
    · intro i k hk hi
      rw [if_pos rfl] at hi
      rw [if_pos rfl, st_cell (by omega), cyN_out (by omega), st_cell (by omega), shN_at, if_pos (by omega), show 287 * i + k + 287 = 287 * (i + 1) + k by omega]
    · intro k hk
      rw [if_pos rfl, st_cell (by omega), cyN_in (by omega) (by omega), st_cell (by omega), shN_c (by omega), show 0 + (287 * 9 + k - 287 * 9) = k by omega]
  · have e2 := l_rem54 (N := N) (r := r) hh (by omega) 287 0 3000 (by omega) (by omega)
    rw [cyN_0] at e2
    refine ⟨st (cyN N 337 0 338 (287 * h) 287) 336 2 (nI (h + 1)), ?_, ?_, ?_, ?_, ?_, ?_⟩
    · simp only [f_X10_remember, PR, mw_1, hh]
      have hne : ¬ nI h = 10 := by
        intro q
        rw [show (10 : Int32) = nI 10 from rfl, nI_eq (by omega) (by omega)] at q
        omega
      rw [if_neg hne, e_bd, show lp_X10_remember_54 336 3000 (0, mw N r) = _ from e2, e_bd]
      simp (disch := omega) only [e_let, mw_pn, mw_1, cyN_c, hh, nI_p1]
    · intro a h1 h2
      rw [st_cell h1, cyN_c h2]
    · intro k hk
      rw [st_slot hk, cyN_c (by omega)]
    · rw [st_self, if_neg hq]
    · intro i k hk hi
      rw [if_neg hq] at hi
      rw [if_neg hq, st_cell (by omega), cyN_out (by omega)]
    · intro k hk
      rw [if_neg hq, st_cell (by omega), cyN_in (by omega) (by omega), show 0 + (287 * h + k - 287 * h) = k by omega]
