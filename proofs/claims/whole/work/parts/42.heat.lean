theorem ifdn {P : Prop} {ip : Decidable P} {α : Type} {a b : α} (h : P) : (if decide (¬ P) = true then a else b) = b := if_neg (fun q => (of_decide_eq_true q : ¬ P) h)
theorem ifdp {P : Prop} {ip : Decidable P} {α : Type} {a b : α} (h : ¬ P) : (if decide (¬ P) = true then a else b) = a := if_pos (decide_eq_true h)
theorem l_busy {N : Nat → Nat → Int32} {r : Int64 × UInt64} {d cs : Nat} (hd : d < 4) (hcs : N 339 d = nI cs) (h4 : cs ≤ 4) : ∀ m k F, k + m = cs → m < F → lp_X10_busy_4 336 (nI d) F (nI (cnt (fun c => decide (rD N d (9 + c) ≠ -1)) k), nI k, mw N r) = some (nI (cnt (fun c => decide (rD N d (9 + c) ≠ -1)) cs), mw N r) := by
  intro m
  induction m with
  | zero =>
    intro k F hk hF
    obtain ⟨F, rfl⟩ := F_succ hF
    have hk : k = cs := by omega
    subst hk
    simp (disch := omega) only [lp_X10_busy_4, PR, AR, hcs]
    rw [if_pos (Int32.le_refl _)]
  | succ m ih =>
    intro k F hk hF
    obtain ⟨F, rfl⟩ := F_succ hF
    simp (disch := omega) only [lp_X10_busy_4, PR, AR, RO, hcs, e_let, nI_1', e_b]
    rw [if_neg (nI_ge (by omega) (by omega))]
    have h2 := ih (k + 1) F (by omega) (by omega)
    by_cases h : rD N d (9 + k) = -1
    · rw [if_pos h, e_bd]
      simpa [cnt, h] using h2
    · rw [if_neg h, e_bd]
      simpa [cnt, h, nI_1] using h2
theorem g_busy {N : Nat → Nat → Int32} {r : Int64 × UInt64} {d cs : Nat} (hd : d < 4) (hcs : N 339 d = nI cs) (h4 : cs ≤ 4) : f_X10_busy 336 (nI d) (mw N r) = some (nI (cnt (fun c => decide (rD N d (9 + c) ≠ -1)) cs), mw N r) := by
  have h := l_busy (r := r) hd hcs h4 cs 0 3000 (by omega) (by omega)
  simp only [f_X10_busy, PR]
  rw [show lp_X10_busy_4 336 (nI d) 3000 (0, 0, mw N r) = _ from h]
  rfl
def powA (n p c i : Int32) : Int32 := n * p + (c - n) * i
def tmpA (t h p am co : Int32) : Int32 := Int64.toInt32 ((t.toInt64 + h.toInt64 * p.toInt64 / 100) - (t.toInt64 - am.toInt64) * co.toInt64 / 1000)
theorem cldiv_100 {σ : Type} (x : Int64) (K : Int64 → Option σ) : hz_cldiv x 100 K = K (x / 100) := by
  unfold hz_cldiv
  rw [if_neg (by decide)]
theorem cldiv_1000 {σ : Type} (x : Int64) (K : Int64 → Option σ) : hz_cldiv x 1000 K = K (x / 1000) := by
  unfold hz_cldiv
  rw [if_neg (by decide)]
theorem g_powC {N : Nat → Nat → Int32} {r : Int64 × UInt64} {b d l : Nat} {x : Int32} (hb : b ∈ bL) (hd : d < 4) (hl : l < 5) : f_X3_powerAt b (nI d) (nI l) x (mw N r) = some (powA x (N 28 (d * 5 + l)) (N 18 d) (N 22 d), mw N r) := by
  simp (disch := omega) only [f_X3_powerAt, SB hb, P17, A17, e_let, nI_m5, nI_add, powA]
theorem g_tmpC {N : Nat → Nat → Int32} {r : Int64 × UInt64} {b d : Nat} {x : Int32} (hb : b ∈ bL) (hd : d < 4) : f_X3_temperatureAfter b (nI d) x (mw N r) = some (tmpA (N (b + 16) d) (N 20 d) x (N b 3) (N 21 d), mw N r) := by
  simp (disch := omega) only [f_X3_temperatureAfter, SB hb, SL hb, P17, A17, e_let, cldiv_100, cldiv_1000, mw_1, tmpA]
theorem g_powR {N : Nat → Nat → Int32} {r : Int64 × UInt64} {d l cs : Nat} (hd : d < 4) (hl : l < 5) (hcs : N 339 d = nI cs) (h4 : cs ≤ 4) : f_X10_powerAt 336 (nI d) (nI l) (mw N r) = some (powA (nI (cnt (fun c => decide (rD N d (9 + c) ≠ -1)) cs)) (N 347 (5 * d + l)) (N 339 d) (N 342 d), mw N r) := by
  simp (disch := omega) only [f_X10_powerAt, PR, AR, g_busy hd hcs h4, e_b, nI_5m, nI_add, powA]
theorem g_tmpR {N : Nat → Nat → Int32} {r : Int64 × UInt64} {d : Nat} {x : Int32} (hd : d < 4) : f_X10_heated 336 (nI d) x (mw N r) = some (tmpA (rD N d 2) (N 340 d) x (N 337 1) (N 341 d), mw N r) := by
  simp (disch := omega) only [f_X10_heated, PR, AR, RO, RLd, e_let, e_b, cldiv_100, cldiv_1000, tmpA]
theorem g_hotC {N : Nat → Nat → Int32} {r : Int64 × UInt64} {b d l : Nat} (hb : b ∈ bL) (hd : d < 4) (hl : l < 5) : f_X3_isTooHot b (nI d) (nI l) (mw N r) = some (if tmpA (N (b + 16) d) (N 20 d) (powA (N (b + 23) d) (N 28 (d * 5 + l)) (N 18 d) (N 22 d)) (N b 3) (N 21 d) ≤ N (b + 14) d then 0 else 1, mw N r) := by
  simp (disch := omega) only [f_X3_isTooHot, SB hb, SL hb, g_powC hb, g_tmpC hb, e_b, e_let]
  split <;> rfl
def coolA (hot : Nat → Bool) : Nat → Nat
  | 0 => 0
  | l + 1 => if hot (l + 1) = true then coolA hot l else l + 1
theorem coolA_le (hot : Nat → Bool) : ∀ l, coolA hot l ≤ l
  | 0 => Nat.le_refl 0
  | l + 1 => by
    unfold coolA
    split
    · exact Nat.le_succ_of_le (coolA_le hot l)
    · exact Nat.le_refl _
theorem coolA_congr {p q : Nat → Bool} : ∀ {l : Nat}, (∀ i, i ≤ l → p i = q i) → coolA p l = coolA q l
  | 0, _ => rfl
  | l + 1, h => by
    unfold coolA
    rw [h (l + 1) (Nat.le_refl _), coolA_congr (fun i hi => h i (by omega))]
theorem nI_d1 (n : Nat) : nI (n + 1) + Int32.ofInt (-1) = nI n := pk_m1 n
theorem l_cool {N : Nat → Nat → Int32} {r : Int64 × UInt64} {b d : Nat} (hb : b ∈ bL) (hd : d < 4) : ∀ l F, l < 5 → l < F → lp_X3_coolLevel_2 b (nI d) F (nI l, mw N r) = some (nI (coolA (fun l => decide (¬ tmpA (N (b + 16) d) (N 20 d) (powA (N (b + 23) d) (N 28 (d * 5 + l)) (N 18 d) (N 22 d)) (N b 3) (N 21 d) ≤ N (b + 14) d)) l), mw N r) := by
  intro l
  induction l with
  | zero =>
    intro F hl hF
    obtain ⟨F, rfl⟩ := F_succ hF
    simp only [lp_X3_coolLevel_2]
    rw [if_pos (by decide)]
    rfl
  | succ l ih =>
    intro F hl hF
    obtain ⟨F, rfl⟩ := F_succ hF
    simp (disch := omega) only [lp_X3_coolLevel_2, g_hotC hb, e_b, e_let, nI_d1]
    rw [if_neg (nI_nle (by omega) (by omega)), coolA]
    by_cases h : tmpA (N (b + 16) d) (N 20 d) (powA (N (b + 23) d) (N 28 (d * 5 + (l + 1))) (N 18 d) (N 22 d)) (N b 3) (N 21 d) ≤ N (b + 14) d
    · rw [ifdn h]
      first | (rw [if_pos h, if_pos rfl]; done) | (rw [if_pos h]; done)
    · rw [ifdp h]
      first | exact (if_neg h).trans (ih F (by omega) (by omega)) | (rw [if_neg h, if_neg (by decide)]; exact ih F (by omega) (by omega))
theorem g_cool {N : Nat → Nat → Int32} {r : Int64 × UInt64} {b d l : Nat} (hb : b ∈ bL) (hd : d < 4) (hl : l < 5) : f_X3_coolLevel b (nI d) (nI l) (mw N r) = some (nI (coolA (fun l => decide (¬ tmpA (N (b + 16) d) (N 20 d) (powA (N (b + 23) d) (N 28 (d * 5 + l)) (N 18 d) (N 22 d)) (N b 3) (N 21 d) ≤ N (b + 14) d)) l), mw N r) := by
  simp only [f_X3_coolLevel, SB hb, l_cool hb hd l 3000 hl (by omega)]
  rfl
theorem l_choose {N : Nat → Nat → Int32} {r : Int64 × UInt64} {d cs : Nat} {x : Int32} (hd : d < 4) (hcs : N 339 d = nI cs) (h4 : cs ≤ 4) : ∀ l F, l < 5 → l < F → lp_X10_chooseLevel_56 336 (nI d) x F (nI l, mw N r) = some (nI (coolA (fun l => decide (¬ tmpA (rD N d 2) (N 340 d) (powA (nI (cnt (fun c => decide (rD N d (9 + c) ≠ -1)) cs)) (N 347 (5 * d + l)) (N 339 d) (N 342 d)) (N 337 1) (N 341 d) ≤ rD N d 0)) l), mw N r) := by
  intro l
  induction l with
  | zero =>
    intro F hl hF
    obtain ⟨F, rfl⟩ := F_succ hF
    simp only [lp_X10_chooseLevel_56]
    rw [if_pos (by decide)]
    rfl
  | succ l ih =>
    intro F hl hF
    obtain ⟨F, rfl⟩ := F_succ hF
    simp (disch := omega) only [lp_X10_chooseLevel_56, g_powR hd _ hcs h4, g_tmpR, RO, e_b, e_let, nI_d1]
    rw [if_neg (nI_nle (by omega) (by omega)), coolA]
    by_cases h : tmpA (rD N d 2) (N 340 d) (powA (nI (cnt (fun c => decide (rD N d (9 + c) ≠ -1)) cs)) (N 347 (5 * d + (l + 1))) (N 339 d) (N 342 d)) (N 337 1) (N 341 d) ≤ rD N d 0
    · rw [ifdn h]
      first | (rw [if_pos h, if_pos rfl]; done) | (rw [if_pos h]; done)
    · rw [ifdp h]
      first | exact (if_neg h).trans (ih F (by omega) (by omega)) | (rw [if_neg h, if_neg (by decide)]; exact ih F (by omega) (by omega))
