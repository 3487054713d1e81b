def cnt (p : Nat → Bool) : Nat → Nat
  | 0 => 0
  | n + 1 => cnt p n + (if p n = true then 1 else 0)
theorem cnt_le (p : Nat → Bool) : ∀ n, cnt p n ≤ n
  | 0 => Nat.le_refl 0
  | n + 1 => by
    have h := cnt_le p n
    unfold cnt
    split <;> omega
theorem cnt_congr {p q : Nat → Bool} : ∀ {n : Nat}, (∀ i, i < n → p i = q i) → cnt p n = cnt q n
  | 0, _ => rfl
  | n + 1, h => by
    unfold cnt
    rw [cnt_congr (n := n) (fun i hi => h i (by omega)), h n (by omega)]
theorem F_succ {F m : Nat} (h : m < F) : ∃ G, F = G + 1 := ⟨F - 1, by omega⟩
theorem l_cbc {N : Nat → Nat → Int32} {r : Int64 × UInt64} {b d cs : Nat} (hb : b ∈ bL) (hd : d < 4) (hcs : N 18 d = nI cs) (h4 : cs ≤ 4) : ∀ m k F, k + m = cs → m < F → lp_X3_countBusyCores_4 b (nI d) (mw N r) F (nI (cnt (fun c => decide (N (b + 24) (d * 4 + c) ≠ -2)) k), nI k) = some (nI (cnt (fun c => decide (N (b + 24) (d * 4 + c) ≠ -2)) cs)) := by
  intro m
  induction m with
  | zero =>
    intro k F hk hF
    obtain ⟨F, rfl⟩ := F_succ hF
    have hk : k = cs := by omega
    subst hk
    simp (disch := omega) only [lp_X3_countBusyCores_4, SB hb, P17, A17, hcs]
    rw [if_pos (Int32.le_refl _)]
  | succ m ih =>
    intro k F hk hF
    obtain ⟨F, rfl⟩ := F_succ hF
    simp (disch := omega) only [lp_X3_countBusyCores_4, SB hb, SL hb, P17, A17, hcs, nI_m4, nI_add, e_let, nI_1']
    rw [if_neg (nI_ge (by omega) (by omega))]
    have h2 := ih (k + 1) F (by omega) (by omega)
    by_cases h : N (b + 24) (d * 4 + k) = -2
    · rw [if_pos h, e_bd]
      simpa [cnt, h] using h2
    · rw [if_neg h, e_bd]
      simpa [cnt, h] using h2
theorem g_cbc {N : Nat → Nat → Int32} {r : Int64 × UInt64} {b d cs : Nat} (hb : b ∈ bL) (hd : d < 4) (hcs : N 18 d = nI cs) (h4 : cs ≤ 4) : f_X3_countBusyCores b (nI d) (mw N r) = some (nI (cnt (fun c => decide (N (b + 24) (d * 4 + c) ≠ -2)) cs), mw N r) := by
  have h := l_cbc (r := r) hb hd hcs h4 cs 0 3000 (by omega) (by omega)
  simp only [f_X3_countBusyCores, SB hb]
  rw [show lp_X3_countBusyCores_4 b (nI d) (mw N r) 3000 (0, 0) = _ from h]
  rfl
