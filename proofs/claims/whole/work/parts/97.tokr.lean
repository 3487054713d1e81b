/-- reference tokenizer -/
def btR (t : Nat → Nat) (len p : Nat) : Int32 := if p < len then nI (t p) else -1
theorem g_rby {N : Nat → Nat → Int32} {r : Int64 × UInt64} {t : Nat → Nat} {len p : Nat} (hc : QB N t len) (hp : p ≤ len) : f_X10_byteAt 336 (nI p) (mw N r) = some (btR t len p, mw N r) := by
  obtain ⟨h5, h1, h2⟩ := hc
  simp only [f_X10_byteAt, PR, mw_1, h1]
  unfold btR
  by_cases hl : p < len
  · rw [if_neg (fun q => absurd ((nI_leI (by omega) (by omega)).mp q) (by omega)), if_pos hl]
    simp (disch := omega) only [AR, e_bd]
    rw [(h2 p hl).2]
  · rw [if_pos (nI_le (by omega) (by omega)), if_neg hl]
    rfl
theorem bt_eq {t : Nat → Nat} {len p c : Nat} (h : ∀ i, i < len → t i < 256) (hc : c < 128) : btR t len p = nI c ↔ (p < len ∧ t p = c) := by
  unfold btR
  by_cases hl : p < len
  · have := h p hl
    rw [if_pos hl, nI_eq (by omega) (by omega)]
    exact ⟨fun q => ⟨hl, q⟩, fun q => q.2⟩
  · rw [if_neg hl]
    exact ⟨fun q => absurd q.symm (nI_nm1 (by omega)), fun q => absurd q.1 hl⟩
theorem bt_rg {t : Nat → Nat} {len p a b : Nat} (h : ∀ i, i < len → t i < 256) (ha : a < 128) (hb : b < 128) : rg (nI a) (nI b) (btR t len p) = decide (p < len ∧ a ≤ t p ∧ t p ≤ b) := by
  unfold btR rg
  by_cases hl : p < len
  · have := h p hl
    rw [if_pos hl, dc_le (by omega) (by omega), dc_le (by omega) (by omega)]
    simp [hl]
  · rw [if_neg hl]
    have h1 : ¬ nI a ≤ (-1 : Int32) := fun q => by
      rw [Int32.le_iff_toInt_le, nI_toInt (by omega)] at q
      have : (-1 : Int32).toInt = -1 := by decide
      omega
    simp [hl, h1]
theorem kd_2i {t : Nat → Nat} {len p : Nat} : (p < len ∧ 97 ≤ t p ∧ t p ≤ 122) ↔ kd t len p = 2 := by
  refine ⟨fun h => ?_, kd_2⟩
  unfold kd
  rw [if_pos h.1, if_neg (by omega), if_neg (by omega), if_pos h.2]
theorem kd_3i {t : Nat → Nat} {len p : Nat} : (p < len ∧ 48 ≤ t p ∧ t p ≤ 57) ↔ kd t len p = 3 := by
  refine ⟨fun h => ?_, kd_3⟩
  unfold kd
  rw [if_pos h.1, if_neg (by omega), if_neg (by omega), if_neg (by omega), if_pos h.2]
theorem kd_1i {t : Nat → Nat} {len p : Nat} : (p < len ∧ (t p = 32 ∨ t p = 10)) ↔ kd t len p = 1 := by
  constructor
  · intro h
    unfold kd
    rw [if_pos h.1]
    by_cases q : t p = 32
    · rw [if_pos q]
    · rw [if_neg q, if_pos (by omega)]
  · intro h
    unfold kd at h
    repeat' split at h
    all_goals omega
theorem kd_45 {t : Nat → Nat} {len p : Nat} (hl : p < len) (h1 : kd t len p ≠ 1) (h2 : ¬ kd t len p = 2) (h3 : ¬ kd t len p = 3) : kd t len p = if t p = 59 then 4 else 5 := by
  have a1 : ¬ (t p = 32 ∨ t p = 10) := fun q => h1 (kd_1i.mp ⟨hl, q⟩)
  have a2 : ¬ (97 ≤ t p ∧ t p ≤ 122) := fun q => h2 (kd_2i.mp ⟨hl, q⟩)
  have a3 : ¬ (48 ≤ t p ∧ t p ≤ 57) := fun q => h3 (kd_3i.mp ⟨hl, q⟩)
  unfold kd
  rw [if_pos hl, if_neg (by omega), if_neg (by omega), if_neg a2, if_neg a3]
theorem g_rle {N : Nat → Nat → Int32} {r : Int64 × UInt64} {t : Nat → Nat} {len p : Nat} (hc : QB N t len) (hp : p ≤ len) : f_X10_isLetterAt 336 (nI p) (mw N r) = some (bI (decide (kd t len p = 2)), mw N r) := by
  have hg : ∀ (x : Int32) (w : MW), f_X10_isIn (Int32.toInt64 x) 97 122 w = some (bI (rg 97 122 x), w) := fun x w => g_in x 97 122 w
  have hb : rg 97 122 (btR t len p) = decide (kd t len p = 2) := (bt_rg (a := 97) (b := 122) (fun i hi => (hc.2.2 i hi).1) (by omega) (by omega)).trans (decide_eq_decide.mpr kd_2i)
  simp only [f_X10_isLetterAt, PR, g_rby hc hp, e_b, hg, hb, bI_isb]
theorem g_rdi {N : Nat → Nat → Int32} {r : Int64 × UInt64} {t : Nat → Nat} {len p : Nat} (hc : QB N t len) (hp : p ≤ len) : f_X10_isDigitAt 336 (nI p) (mw N r) = some (bI (decide (kd t len p = 3)), mw N r) := by
  have hg : ∀ (x : Int32) (w : MW), f_X10_isIn (Int32.toInt64 x) 48 57 w = some (bI (rg 48 57 x), w) := fun x w => g_in x 48 57 w
  have hb : rg 48 57 (btR t len p) = decide (kd t len p = 3) := (bt_rg (a := 48) (b := 57) (fun i hi => (hc.2.2 i hi).1) (by omega) (by omega)).trans (decide_eq_decide.mpr kd_3i)
  simp only [f_X10_isDigitAt, PR, g_rby hc hp, e_b, hg, hb, bI_isb]
theorem QB_s {N : Nat → Nat → Int32} {t : Nat → Nat} {len k : Nat} {x : Int32} (hk : k ≠ 17) (h : QB N t len) : QB (st N 336 k x) t len := QB_x (st_slot (fun q => hk q.symm)) (st_cell (by omega)) h
theorem l_r8 {r : Int64 × UInt64} {t : Nat → Nat} {len : Nat} : ∀ m p F (N : Nat → Nat → Int32), len - p = m → p ≤ len → m < F → QB N t len → N 336 18 = nI p → ∃ N', lp_X10_next_8 336 F (mw N r) = some (mw N' r) ∧ N' 336 18 = nI (rn t len 1 p) ∧ (∀ a, a ≠ 336 → N' a = N a) ∧ ∀ k, k ≠ 18 → N' 336 k = N 336 k := by
  intro m
  induction m with
  | zero =>
    intro p F N hm hp hF hc h2
    obtain ⟨G, rfl⟩ := F_succ hF
    have hl : ¬ p < len := by omega
    have e1 : (btR t len p = 32) = False := eq_false (fun q => hl ((bt_eq (c := 32) (fun i hi => (hc.2.2 i hi).1) (by omega)).mp q).1)
    have e2 : (btR t len p = 10) = False := eq_false (fun q => hl ((bt_eq (c := 10) (fun i hi => (hc.2.2 i hi).1) (by omega)).mp q).1)
    refine ⟨N, ?_, by rw [rn_e (by omega)]; exact h2, fun _ _ => rfl, fun _ _ => rfl⟩
    rw [lp_X10_next_8]
    simp only [mw_1, h2, g_rby hc hp, e_b, e1, e2, if_false]
  | succ m ih =>
    intro p F N hm hp hF hc h2
    obtain ⟨G, rfl⟩ := F_succ hF
    have h5 := hc.1
    have hl : p < len := by omega
    have e1 : (btR t len p = 32) = (t p = 32) := propext ((bt_eq (c := 32) (fun i hi => (hc.2.2 i hi).1) (by omega)).trans ⟨fun q => q.2, fun q => ⟨hl, q⟩⟩)
    have e2 : (btR t len p = 10) = (t p = 10) := propext ((bt_eq (c := 10) (fun i hi => (hc.2.2 i hi).1) (by omega)).trans ⟨fun q => q.2, fun q => ⟨hl, q⟩⟩)
    rw [lp_X10_next_8]
    simp only [mw_1, h2, g_rby hc hp, e_b, e1, e2, e_let, mw_pn, nI_p1]
    obtain ⟨N', g1, g2, g3, g4⟩ := ih (p + 1) G (st N 336 18 (nI (p + 1))) (by omega) (by omega) (by omega) (QB_s (by omega) hc) (st_self _ _ _ _)
    by_cases hk : kd t len p = 1
    · refine ⟨N', ?_, by rw [rn_s (by omega), if_pos hk]; exact g2, fun a ha => by rw [g3 a ha, st_cell ha], fun k hk => by rw [g4 k hk, st_slot hk]⟩
      have := (kd_1i.mpr hk).2
      by_cases q : t p = 32
      · rw [if_pos q]
        exact g1
      · rw [if_neg q, if_pos (by omega)]
        exact g1
    · refine ⟨N, ?_, by rw [rn_s (by omega), if_neg hk]; exact h2, fun _ _ => rfl, fun _ _ => rfl⟩
      have h32 : ¬ t p = 32 := fun q => hk (kd_1i.mp ⟨hl, .inl q⟩)
      have h10 : ¬ t p = 10 := fun q => hk (kd_1i.mp ⟨hl, .inr q⟩)
      rw [if_neg h32, if_neg h10]
theorem l_r85 {r : Int64 × UInt64} {t : Nat → Nat} {len : Nat} : ∀ m p F (N : Nat → Nat → Int32), len - p = m → p ≤ len → m < F → QB N t len → N 336 18 = nI p → ∃ N', lp_X10_next_85 336 F (mw N r) = some (mw N' r) ∧ N' 336 18 = nI (rn t len 2 p) ∧ (∀ a, a ≠ 336 → N' a = N a) ∧ ∀ k, k ≠ 18 → N' 336 k = N 336 k := by
  intro m
  induction m with
  | zero =>
    intro p F N hm hp hF hc h2
    obtain ⟨G, rfl⟩ := F_succ hF
    have hk : ¬ kd t len p = 2 := by rw [kd_e (by omega)]; omega
    refine ⟨N, ?_, by rw [rn_e (by omega)]; exact h2, fun _ _ => rfl, fun _ _ => rfl⟩
    rw [lp_X10_next_85]
    simp only [mw_1, h2, g_rle hc hp, e_b, decide_eq_false hk, bI_f, reduceIte]
  | succ m ih =>
    intro p F N hm hp hF hc h2
    obtain ⟨G, rfl⟩ := F_succ hF
    rw [lp_X10_next_85]
    by_cases hk : kd t len p = 2
    · obtain ⟨N', g1, g2, g3, g4⟩ := ih (p + 1) G (st N 336 18 (nI (p + 1))) (by omega) (by omega) (by omega) (QB_s (by omega) hc) (st_self _ _ _ _)
      refine ⟨N', ?_, by rw [rn_s (by omega), if_pos hk]; exact g2, fun a ha => by rw [g3 a ha, st_cell ha], fun k hk => by rw [g4 k hk, st_slot hk]⟩
      simp only [mw_1, h2, g_rle hc hp, e_b, decide_eq_true hk, bI_t, i10, reduceIte, e_let, mw_pn, nI_p1]
      exact g1
    · refine ⟨N, ?_, by rw [rn_s (by omega), if_neg hk]; exact h2, fun _ _ => rfl, fun _ _ => rfl⟩
      simp only [mw_1, h2, g_rle hc hp, e_b, decide_eq_false hk, bI_f, reduceIte]
theorem l_r133 {r : Int64 × UInt64} {t : Nat → Nat} {len s : Nat} : ∀ m p F (N : Nat → Nat → Int32), len - p = m → s ≤ p → p ≤ len → m < F → QB N t len → N 336 18 = nI p → N 336 19 = nI s → N 336 21 = nI (vl t s (min (p - s) 5)) → ∃ N', lp_X10_next_133 336 F (mw N r) = some (mw N' r) ∧ N' 336 18 = nI (rn t len 3 p) ∧ N' 336 21 = nI (vl t s (min (rn t len 3 p - s) 5)) ∧ (∀ a, a ≠ 336 → N' a = N a) ∧ ∀ k, k ≠ 18 → k ≠ 21 → N' 336 k = N 336 k := by
  intro m
  induction m with
  | zero =>
    intro p F N hm hs hp hF hc h2 h19 h21
    obtain ⟨G, rfl⟩ := F_succ hF
    have hk : ¬ kd t len p = 3 := by rw [kd_e (by omega)]; omega
    refine ⟨N, ?_, by rw [rn_e (by omega)]; exact h2, by rw [rn_e (by omega)]; exact h21, fun _ _ => rfl, fun _ _ _ => rfl⟩
    rw [lp_X10_next_133]
    simp only [mw_1, h2, g_rdi hc hp, e_b, decide_eq_false hk, bI_f, reduceIte]
  | succ m ih =>
    intro p F N hm hs hp hF hc h2 h19 h21
    obtain ⟨G, rfl⟩ := F_succ hF
    have h5 := hc.1
    rw [lp_X10_next_133]
    by_cases hk : kd t len p = 3
    · have h3 := kd_3 hk
      have hsub : nI p - nI s = nI (p - s) := pk_sub hs
      have hbt : btR t len p = nI (t p) := if_pos h3.1
      by_cases h6 : 5 ≤ p - s
      · obtain ⟨N', g1, g2, g5, g3, g4⟩ := ih (p + 1) G (st N 336 18 (nI (p + 1))) (by omega) (by omega) (by omega) (by omega) (QB_s (by omega) hc) (st_self _ _ _ _) (by rw [st_slot (by omega)]; exact h19) (by rw [st_slot (by omega), show min (p + 1 - s) 5 = min (p - s) 5 by omega]; exact h21)
        refine ⟨N', ?_, by rw [rn_s (by omega), if_pos hk]; exact g2, by rw [rn_s (by omega), if_pos hk]; exact g5, fun a ha => by rw [g3 a ha, st_cell ha], fun k hk hk2 => by rw [g4 k hk hk2, st_slot hk]⟩
        have e5 : ((5 : Int32) ≤ nI (p - s)) = True := eq_true (nI_le (a := 5) h6 (by omega))
        simp only [mw_1, h2, h19, g_rdi hc hp, e_b, decide_eq_true hk, bI_t, i10, reduceIte, hsub, e5, e_bd, e_let, mw_pn, nI_p1]
        exact g1
      · have hv : 10 * nI (vl t s (min (p - s) 5)) + nI (t p) - 48 = nI (vl t s (min (p + 1 - s) 5)) := by
          rw [show (10 : Int32) * nI (vl t s (min (p - s) 5)) = nI (10 * vl t s (min (p - s) 5)) from pk_mul 10 _, nI_add, show nI (10 * vl t s (min (p - s) 5) + t p) - 48 = nI (10 * vl t s (min (p - s) 5) + t p - 48) from pk_sub (b := 48) (by omega), show min (p + 1 - s) 5 = (p - s) + 1 by omega, show min (p - s) 5 = p - s by omega, vl, show s + (p - s) = p by omega]
          congr 1
          omega
        obtain ⟨N', g1, g2, g5, g3, g4⟩ := ih (p + 1) G (st (st N 336 21 (nI (vl t s (min (p + 1 - s) 5)))) 336 18 (nI (p + 1))) (by omega) (by omega) (by omega) (by omega) (QB_s (by omega) (QB_s (by omega) hc)) (st_self _ _ _ _) (by rw [st_slot (by omega), st_slot (by omega)]; exact h19) (by rw [st_slot (by omega), st_self])
        refine ⟨N', ?_, by rw [rn_s (by omega), if_pos hk]; exact g2, by rw [rn_s (by omega), if_pos hk]; exact g5, fun a ha => by rw [g3 a ha, st_cell ha, st_cell ha], fun k hk hk2 => by rw [g4 k hk hk2, st_slot hk, st_slot hk2]⟩
        have e5 : ((5 : Int32) ≤ nI (p - s)) = False := eq_false (fun q => h6 ((nI_leI (a := 5) (by omega) (by omega)).mp q))
        simp (disch := omega) only [mw_1, h2, h19, h21, g_rdi hc hp, g_rby hc hp, hbt, e_b, decide_eq_true hk, bI_t, i10, reduceIte, hsub, e5, e_bd, e_let, mw_pn, hv, st_slot, nI_p1]
        exact g1
    · refine ⟨N, ?_, by rw [rn_s (by omega), if_neg hk]; exact h2, by rw [rn_s (by omega), if_neg hk]; exact h21, fun _ _ => rfl, fun _ _ _ => rfl⟩
      simp only [mw_1, h2, g_rdi hc hp, e_b, decide_eq_false hk, bI_f, reduceIte]
theorem rnf_ne {t : Nat → Nat} {len c : Nat} (hc : c ≠ 0) : ∀ n p, len - p = n → kd t len (rnf t len c n p) ≠ c
  | 0, p, h => by
    rw [rnf, kd_e (by omega)]
    exact fun q => hc q.symm
  | n + 1, p, h => by
    rw [rnf]
    by_cases hk : kd t len p = c
    · rw [if_pos hk]
      exact rnf_ne hc n (p + 1) (by omega)
    · rw [if_neg hk]
      exact hk
theorem rn_ne {t : Nat → Nat} {len c p : Nat} (_hp : p ≤ len) (hc : c ≠ 0) : kd t len (rn t len c p) ≠ c := rnf_ne hc _ _ rfl
theorem g_fi0 {N : Nat → Nat → Int32} {r : Int64 × UInt64} (h : N 336 22 = 0) : f_X10_isFine 336 (mw N r) = some (1, mw N r) := by
  simp only [f_X10_isFine, PR, mw_1, h, reduceIte, e_bd, e_isb1]
theorem g_fi1 {N : Nat → Nat → Int32} {r : Int64 × UInt64} (h : N 336 22 ≠ 0) : f_X10_isFine 336 (mw N r) = some (0, mw N r) := by
  simp only [f_X10_isFine, PR, mw_1, h, reduceIte, e_bd, e_isb0]
/-- live at the token that begins at or after p -/
def PQ (N : Nat → Nat → Int32) (t : Nat → Nat) (len p : Nat) : Prop := QB N t len ∧ N 336 22 = 0 ∧ N 336 20 = nI (rk (tK t len p)) ∧ N 336 19 = nI (tS t len p) ∧ N 336 18 = nI (tE t len p) ∧ (tK t len p = 3 → N 336 21 = nI (vN t len p))
def FQ (N N' : Nat → Nat → Int32) : Prop := (∀ a, a ≠ 336 → N' a = N a) ∧ ∀ k, k < 18 ∨ 21 < k → N' 336 k = N 336 k
theorem g_rnx {N : Nat → Nat → Int32} {r : Int64 × UInt64} {t : Nat → Nat} {len p : Nat} (hc : QB N t len) (hp : p ≤ len) (h22 : N 336 22 = 0) (h18 : N 336 18 = nI p) : ∃ N', f_X10_next 336 (mw N r) = some (mw N' r) ∧ PQ N' t len p ∧ FQ N N' := by
  have h5 := hc.1
  have hs := tS_b (t := t) hp
  have he := tE_b (t := t) hp
  obtain ⟨N1, q1, q2, q3, q4⟩ := l_r8 (r := r) (t := t) (len := len) (len - p) p 3000 N rfl hp (by omega) hc h18
  have q2' : N1 336 18 = nI (tS t len p) := q2
  have hc1 : QB N1 t len := QB_x (q4 17 (by omega)) (q3 348 (by omega)) hc
  have hc2 : QB (st N1 336 19 (nI (tS t len p))) t len := QB_s (by omega) hc1
  have k17 : N1 336 17 = nI len := hc1.2.1
  have k22 : N1 336 22 = 0 := by rw [q4 22 (by omega)]; exact h22
  have e17 : (nI (tS t len p) = nI len) = (tS t len p = len) := propext (nI_eq (by omega) (by omega))
  have hF1 : FQ N (st N1 336 19 (nI (tS t len p))) := ⟨fun a ha => by rw [st_cell ha, q3 a ha], fun k hk => by rw [st_slot (by omega), q4 k (by omega)]⟩
  have hne : ∀ (x : Int32), ((1 : Int32) = 0) = False := fun _ => eq_false (by decide)
  unfold f_X10_next
  simp (disch := omega) only [PR, g_fi0 h22, e_b, i10, if_false, q1, e_bd, e_let, mw_1, q2', mw_pn, st_slot, k17, e17, g_rle hc2 hs.2, g_rdi hc2 hs.2, g_rby hc2 hs.2]
  by_cases h0 : tS t len p = len
  · have hb0 : tB t len p = 0 := kd_e (by omega)
    have hE : tE t len p = tS t len p := by unfold tE; rw [if_pos hb0]
    have hK : tK t len p = 0 := by unfold tK; rw [hb0, if_neg (by omega)]
    rw [if_pos h0]
    refine ⟨_, rfl, ⟨QB_s (by omega) hc2, ?_, ?_, ?_, ?_, fun q => by omega⟩, ⟨fun a ha => ?_, fun k hk => ?_⟩⟩
    · simp (disch := omega) only [st_slot]; exact k22
    · rw [st_self, hK]; rfl
    · simp (disch := omega) only [st_slot, st_self]
    · simp (disch := omega) only [st_slot]; rw [q2', hE]
    · rw [st_cell ha]; exact hF1.1 a ha
    · rw [st_slot (by omega)]; exact hF1.2 k hk
  · rw [if_neg h0]
    have hsl : tS t len p < len := by omega
    have hbn : tB t len p ≠ 0 := kd_n hsl
    by_cases h2 : kd t len (tS t len p) = 2
    · have hB : tB t len p = 2 := h2
      have hE : tE t len p = rn t len 2 (tS t len p) := by unfold tE; rw [hB, if_neg (by omega), if_pos (.inl rfl)]
      have hK : tK t len p = 2 := by unfold tK; rw [hB, if_neg (by omega)]
      obtain ⟨M, m1, m2, m3, m4⟩ := l_r85 (r := r) (t := t) (len := len) (len - tS t len p) (tS t len p) 3000 (st N1 336 19 (nI (tS t len p))) rfl hs.2 (by omega) hc2 (by rw [st_slot (by omega)]; exact q2')
      simp only [decide_eq_true h2, bI_t, i10, if_false, m1, e_bd, mw_pn]
      refine ⟨_, rfl, ⟨QB_s (by omega) (QB_x (m4 17 (by omega)) (m3 348 (by omega)) hc2), ?_, ?_, ?_, ?_, fun q => by omega⟩, ⟨fun a ha => ?_, fun k hk => ?_⟩⟩
      · rw [st_slot (by omega), m4 22 (by omega), st_slot (by omega)]; exact k22
      · rw [st_self, hK]; rfl
      · rw [st_slot (by omega), m4 19 (by omega), st_self]
      · rw [st_slot (by omega), m2, hE]
      · rw [st_cell ha, m3 a ha]; exact hF1.1 a ha
      · rw [st_slot (by omega), m4 k (by omega)]; exact hF1.2 k hk
    · simp only [decide_eq_false h2, bI_f, if_true]
      by_cases h3 : kd t len (tS t len p) = 3
      · have hB : tB t len p = 3 := h3
        have hE : tE t len p = rn t len 3 (tS t len p) := by unfold tE; rw [hB, if_neg (by omega), if_pos (.inr rfl)]
        obtain ⟨M, m1, m2, m5, m3, m4⟩ := l_r133 (r := r) (t := t) (len := len) (s := tS t len p) (len - tS t len p) (tS t len p) 3000 (st (st N1 336 19 (nI (tS t len p))) 336 21 0) rfl (Nat.le_refl _) hs.2 (by omega) (QB_s (by omega) hc2) (by rw [st_slot (by omega), st_slot (by omega)]; exact q2') (by rw [st_slot (by omega), st_self]) (by rw [st_self, Nat.sub_self]; rfl)
        rw [← hE] at m2 m5
        have m19 : M 336 19 = nI (tS t len p) := by rw [m4 19 (by omega) (by omega), st_slot (by omega), st_self]
        have hsub : nI (tE t len p) - nI (tS t len p) = nI (tE t len p - tS t len p) := pk_sub he.1
        have e5 : (nI (tE t len p - tS t len p) ≤ 5) = (tE t len p - tS t len p ≤ 5) := propext (nI_leI (b := 5) (by omega) (by omega))
        have hmQ : QB M t len := QB_x (m4 17 (by omega) (by omega)) (m3 348 (by omega)) (QB_s (by omega) hc2)
        simp only [decide_eq_true h3, bI_t, i10, if_false, m1, e_bd, mw_1, mw_pn, m2, m19, hsub, e5]
        have hsome : ∀ (c : Int32), c = nI (rk (tK t len p)) → ∃ N', some (mw (st M 336 20 c) r) = some (mw N' r) ∧ PQ N' t len p ∧ FQ N N' := by
          intro c hcK
          refine ⟨_, rfl, ⟨QB_s (by omega) hmQ, ?_, ?_, ?_, ?_, fun q => ?_⟩, ⟨fun a ha => ?_, fun k hk => ?_⟩⟩
          · rw [st_slot (by omega), m4 22 (by omega) (by omega), st_slot (by omega), st_slot (by omega)]; exact k22
          · rw [st_self, hcK]
          · rw [st_slot (by omega)]; exact m19
          · rw [st_slot (by omega), m2]
          · have := (tk3 q).2.1
            rw [st_slot (by omega), m5, show min (tE t len p - tS t len p) 5 = tE t len p - tS t len p by omega]
            rfl
          · rw [st_cell ha, m3 a ha, st_cell ha]; exact hF1.1 a ha
          · rw [st_slot (by omega), m4 k (by omega) (by omega), st_slot (by omega)]; exact hF1.2 k hk
        by_cases h6 : tE t len p - tS t len p ≤ 5
        · rw [if_pos h6]
          exact hsome 3 (by unfold tK; rw [if_neg (by omega), hB]; rfl)
        · rw [if_neg h6]
          exact hsome 1 (by unfold tK; rw [if_pos (by omega)]; rfl)
      · simp only [decide_eq_false h3, bI_f, if_true]
        have hB2 : ¬ (tB t len p = 2 ∨ tB t len p = 3) := fun q => q.elim h2 h3
        have hE : tE t len p = tS t len p + 1 := by unfold tE; rw [if_neg hbn, if_neg hB2]
        have hK : tK t len p = tB t len p := by unfold tK; rw [if_neg (fun q => h3 q.1)]
        have h1 : tB t len p ≠ 1 := by
          intro q
          exact rn_ne (t := t) (c := 1) hp (by omega) q
        have hsome : ∀ (c : Int32), c = nI (rk (tK t len p)) → ∃ N', some (mw (st (st (st N1 336 19 (nI (tS t len p))) 336 20 c) 336 18 (nI (tS t len p + 1))) r) = some (mw N' r) ∧ PQ N' t len p ∧ FQ N N' := by
          intro c hcK
          refine ⟨_, rfl, ⟨QB_s (by omega) (QB_s (by omega) hc2), ?_, ?_, ?_, ?_, fun q => ?_⟩, ⟨fun a ha => ?_, fun k hk => ?_⟩⟩
          · simp (disch := omega) only [st_slot]; exact k22
          · simp (disch := omega) only [st_slot, st_self]; exact hcK
          · simp (disch := omega) only [st_slot, st_self]
          · rw [st_self, hE]
          · exact absurd (hK.symm.trans q) (fun z => hB2 (.inr z))
          · rw [st_cell ha, st_cell ha]; exact hF1.1 a ha
          · rw [st_slot (by omega), st_slot (by omega)]; exact hF1.2 k hk
        have e59 : (btR t len (tS t len p) = 59) = (t (tS t len p) = 59) := propext ((bt_eq (c := 59) (fun i hi => (hc.2.2 i hi).1) (by omega)).trans ⟨fun q => q.2, fun q => ⟨hsl, q⟩⟩)
        have hkk : tB t len p = if t (tS t len p) = 59 then 4 else 5 := kd_45 hsl h1 h2 h3
        simp only [e59]
        by_cases h59 : t (tS t len p) = 59
        · simp (disch := omega) only [h59, if_true, e_bd, mw_1, st_slot, q2', nI_p1]
          exact hsome 4 (by rw [hK, hkk, if_pos h59]; rfl)
        · simp (disch := omega) only [h59, if_false, e_bd, mw_1, st_slot, q2', nI_p1]
          exact hsome 1 (by rw [hK, hkk, if_neg h59]; rfl)
