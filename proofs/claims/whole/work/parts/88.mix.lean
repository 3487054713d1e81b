theorem ln335 : hz_ln 335 = 501 := by decide +kernel
theorem i501 : Int32.ofNat 501 = nI 501 := rfl
theorem mx0 {a f : Nat} (ha : a < 2 ^ 30) (hf : f < 2 ^ 30) : (if 0 < nI a - nI f then nI a - nI f else 0) = nI (a - f) := by
  by_cases h : f < a
  · rw [pk_sub (by omega), if_pos (show (0 : Int32) < nI (a - f) from nI_lt (a := 0) (by omega) (by omega))]
  · rw [if_neg, show a - f = 0 by omega]
    · rfl
    · rw [Int32.lt_iff_toInt_lt, pk_sub_toInt ha hf]
      show ¬ (0 : Int) < _
      omega
def mnN (x y : Nat) : Nat := if x < y then x else y
theorem mnN_nI {x y : Nat} (hx : x < 2 ^ 31) (hy : y < 2 ^ 31) : (if nI x < nI y then nI x else nI y) = nI (mnN x y) := by
  unfold mnN
  by_cases h : x < y
  · rw [if_pos h, if_pos (nI_lt h hy)]
  · rw [if_neg h, if_neg (nI_nlt (by omega) hx)]
def mfA (su : Nat → Nat → Nat) (d : Nat) (L : Nat → Nat) (w : Nat) : Nat → Nat
  | 0 => L w + su 4 d
  | n + 1 => mnN (L (w - su 7 (5 * d + n)) + su 8 (5 * d + n)) (mfA su d L w n)
theorem mfA_succ (su : Nat → Nat → Nat) (d : Nat) (L : Nat → Nat) (w n : Nat) : mfA su d L w (n + 1) = mnN (L (w - su 7 (5 * d + n)) + su 8 (5 * d + n)) (mfA su d L w n) := rfl
def sxA (su : Nat → Nat → Nat) (d : Nat) (L : Nat → Nat) (w : Nat) : Nat := mnN (mfA su d L w (su 1 d)) 1000000000
theorem mnN_le (x y : Nat) : mnN x y ≤ x ∧ mnN x y ≤ y := by
  unfold mnN
  split <;> omega
theorem mfA_le {su : Nat → Nat → Nat} {d w : Nat} {L : Nat → Nat} (h : L w ≤ 1000000000) (h4 : su 4 d ≤ 99) : ∀ n, mfA su d L w n ≤ 1000000099
  | 0 => by
    show L w + su 4 d ≤ _
    omega
  | n + 1 => by
    rw [mfA_succ]
    have h1 := mfA_le (su := su) (d := d) (L := L) (w := w) h h4 n
    have h2 := (mnN_le (L (w - su 7 (5 * d + n)) + su 8 (5 * d + n)) (mfA su d L w n)).2
    omega
theorem sxA_le (su : Nat → Nat → Nat) (d : Nat) (L : Nat → Nat) (w : Nat) : sxA su d L w ≤ 1000000000 := (mnN_le _ _).2
def itM (su : Nat → Nat → Nat) (d : Nat) : Nat → (Nat → Nat) → Nat → Nat
  | 0, L => L
  | t + 1, L => itM su d t (sxA su d L)
theorem itM_succ (su : Nat → Nat → Nat) (d t : Nat) (L : Nat → Nat) : itM su d (t + 1) L = itM su d t (sxA su d L) := rfl
def L0 : Nat → Nat := fun w => if w = 0 then 0 else 1000000000
theorem itM_le {su : Nat → Nat → Nat} {d w : Nat} : ∀ t L, (∀ w, L w ≤ 1000000000) → itM su d t L w ≤ 1000000000
  | 0, _, h => h w
  | t + 1, L, h => by
    rw [itM_succ]
    exact itM_le t _ (fun w => sxA_le su d L w)
/-- class: one amount -/
theorem l_at48 {N : Nat → Nat → Int32} {r : Int64 × UInt64} {D d a : Nat} {x : Int32} {su : Nat → Nat → Nat} {L : Nat → Nat} (hs : SUC N D su) (hB : SUB D su) (hd : d < D) (ha : a ≤ 500) (hL : ∀ w, w ≤ a → N 335 w = nI (L w) ∧ L w ≤ 1000000000) : ∀ m n F, n + m = su 1 d → m < F → lp_X6_addTick_48 334 17 x (nI (d * 5)) (nI (d * 5 + su 1 d)) (nI a) (mw N r) F (nI (mfA su d L a n), nI (d * 5 + n)) = some (nI (mfA su d L a (su 1 d))) := by
  have hD := hB.2.1
  have hB2 := hB.2.2 d hd
  intro m
  induction m with
  | zero =>
    intro n F hk hF
    obtain ⟨F, rfl⟩ := F_succ hF
    have hk : n = su 1 d := by omega
    subst hk
    simp only [lp_X6_addTick_48]
    rw [if_pos (Int32.le_refl _)]
  | succ m ih =>
    intro n F hk hF
    obtain ⟨F, rfl⟩ := F_succ hF
    have h2 := ih (n + 1) F (by omega) (by omega)
    have hB3 := hB2.2.2.2.2.2.2.2.2.2.2 n (by omega)
    have c27 := ((hs.2 d hd).2.2.2.2.2.2.2 n (by omega)).1
    have c28 := ((hs.2 d hd).2.2.2.2.2.2.2 n (by omega)).2
    have hl := hL (a - su 7 (5 * d + n)) (by omega)
    have hm := mfA_le (su := su) (d := d) (L := L) (w := a) (hL a (by omega)).2 (by omega) n
    simp (disch := omega) only [lp_X6_addTick_48, P17, A17, PX, AX, c27, c28, mx0, hl.1, nI_add, mnN_nI, e_let, nI_1']
    rw [if_neg (nI_ge (by omega) (by omega))]
    exact h2
theorem at_C {r : Int64 × UInt64} {D d wk : Nat} {su : Nat → Nat → Nat} {L : Nat → Nat} (hB : SUB D su) (hd : d < D) (hw : wk ≤ 500) (hL9 : ∀ w, L w ≤ 1000000000) : ∀ m F (N : Nat → Nat → Int32), m ≤ wk + 1 → m < F → SUC N D su → (∀ w, w < m → N 335 w = nI (L w)) → (∀ w, m ≤ w → w ≤ wk → N 335 w = nI (sxA su d L w)) → ∃ N', lp_X6_addTick_27 334 17 (nI (su 4 d)) (nI (d * 5)) (nI (d * 5 + su 1 d)) F (nI m - 1, mw N r) = some (mw N' r) ∧ (∀ w, w ≤ wk → N' 335 w = nI (sxA su d L w)) ∧ ∀ a, a ≠ 335 → N' a = N a := by
  have hD := hB.2.1
  have hB2 := hB.2.2 d hd
  intro m
  induction m with
  | zero =>
    intro F N hm hF hs h1 h2
    obtain ⟨F, rfl⟩ := F_succ hF
    refine ⟨N, ?_, fun w hw => h2 w (by omega) hw, fun _ _ => rfl⟩
    simp only [lp_X6_addTick_27]
    rw [if_pos (by decide)]
  | succ m ih =>
    intro F N hm hF hs h1 h2
    obtain ⟨F, rfl⟩ := F_succ hF
    have e0 : nI (m + 1) - 1 = nI m := nI_pred m
    have e1 : nI m + Int32.ofInt (-1) = nI m - 1 := by
      rw [Int32.sub_eq_add_neg]
      rfl
    have k0 := h1 m (by omega)
    have hml := mfA_le (su := su) (d := d) (L := L) (w := m) (hL9 m) (by omega) (su 1 d)
    have k2 := l_at48 (r := r) (x := nI (su 4 d)) (L := L) hs hB hd (show m ≤ 500 by omega) (fun w hw => ⟨h1 w (by omega), hL9 w⟩) (su 1 d) 0 3000 (by omega) (by omega)
    have k2' : lp_X6_addTick_48 334 17 (nI (su 4 d)) (nI (d * 5)) (nI (d * 5 + su 1 d)) (nI m) (mw N r) 3000 (nI (L m + su 4 d), nI (d * 5)) = some (nI (mfA su d L m (su 1 d))) := k2
    have hmn : (if 1000000000 < nI (mfA su d L m (su 1 d)) then 1000000000 else nI (mfA su d L m (su 1 d))) = nI (sxA su d L m) := by
      unfold sxA mnN
      by_cases hq : mfA su d L m (su 1 d) < 1000000000
      · rw [if_pos hq, if_neg (show ¬ (1000000000 : Int32) < nI (mfA su d L m (su 1 d)) from nI_nlt (a := 1000000000) (by omega) (by omega))]
      · rw [if_neg hq]
        by_cases hq2 : mfA su d L m (su 1 d) = 1000000000
        · rw [hq2, if_neg (by decide)]
        · rw [if_pos (show (1000000000 : Int32) < nI (mfA su d L m (su 1 d)) from nI_lt (a := 1000000000) (by omega) (by omega))]
          rfl
    rw [e0]
    simp (disch := omega) only [lp_X6_addTick_27, PX, AX, k0, nI_add, e_let, k2', e_bd, hmn, e1]
    rw [if_neg (nI_pos (by omega))]
    obtain ⟨N', p1, p2, p3⟩ := ih F (st N 335 m (nI (sxA su d L m))) (by omega) (by omega) (by
      unfold SUC at hs ⊢
      simp (disch := omega) only [st_cell]
      exact hs) (fun w hw => by rw [st_slot (by omega)]; exact h1 w (by omega)) (fun w h3 h4 => by
        rw [st_at]
        split
        · rename_i q
          rw [q.2]
        · exact h2 w (by omega) h4)
    exact ⟨N', p1, p2, fun a ha => by rw [p3 a ha, st_cell ha]⟩
theorem g_at {N : Nat → Nat → Int32} {r : Int64 × UInt64} {D d wk : Nat} {su : Nat → Nat → Nat} {L : Nat → Nat} (hs : SUC N D su) (hB : SUB D su) (hd : d < D) (hw : wk ≤ 500) (hL9 : ∀ w, L w ≤ 1000000000) (hL : ∀ w, w ≤ wk → N 335 w = nI (L w)) : ∃ N', f_X6_addTick 334 17 (nI d) (nI wk) (mw N r) = some (mw N' r) ∧ (∀ w, w ≤ wk → N' 335 w = nI (sxA su d L w)) ∧ ∀ a, a ≠ 335 → N' a = N a := by
  have hD := hB.2.1
  have hB2 := hB.2.2 d hd
  obtain ⟨c18, c26, c20, c21, c22, c23, c24, cn⟩ := hs.2 d hd
  obtain ⟨N', p1, p2, p3⟩ := at_C (r := r) (L := L) hB hd hw hL9 (wk + 1) 3000 N (by omega) (by omega) hs (fun w h => hL w (by omega)) (fun w h1 h2 => by omega)
  refine ⟨N', ?_, p2, p3⟩
  rw [nI_pred] at p1
  simp (disch := omega) only [f_X6_addTick, PX, P17, A17, c22, c26, nI_m5, nI_add, e_let, p1, e_bd]
theorem l_le46 {r : Int64 × UInt64} {D d wk wi : Nat} {su : Nat → Nat → Nat} (hB : SUB D su) (hd : d < D) (hw : wk ≤ 500) (hwi : wi ≤ 100) : ∀ m k F (N : Nat → Nat → Int32) (L : Nat → Nat), k + m = wi → m < F → SUC N D su → (∀ w, L w ≤ 1000000000) → (∀ w, w ≤ wk → N 335 w = nI (L w)) → ∃ N', lp_X6_leastEnergy_46 334 17 (nI d) (nI wk) (nI wi) F (nI k, mw N r) = some (mw N' r) ∧ (∀ w, w ≤ wk → N' 335 w = nI (itM su d m L w)) ∧ ∀ a, a ≠ 335 → N' a = N a := by
  intro m
  induction m with
  | zero =>
    intro k F N L hk hF hs hL9 hL
    obtain ⟨F, rfl⟩ := F_succ hF
    have hk : k = wi := by omega
    subst hk
    refine ⟨N, ?_, hL, fun _ _ => rfl⟩
    simp only [lp_X6_leastEnergy_46]
    rw [if_pos (Int32.le_refl _)]
  | succ m ih =>
    intro k F N L hk hF hs hL9 hL
    obtain ⟨F, rfl⟩ := F_succ hF
    obtain ⟨N1, q1, q2, q3⟩ := g_at (r := r) hs hB hd hw hL9 hL
    obtain ⟨N2, p1, p2, p3⟩ := ih (k + 1) F N1 _ (by omega) (by omega) (by
      unfold SUC at hs ⊢
      simp (disch := omega) only [q3]
      exact hs) (fun w => sxA_le su d L w) q2
    simp (disch := omega) only [lp_X6_leastEnergy_46, q1, e_bv, e_let, nI_1']
    rw [if_neg (nI_ge (by omega) (by omega))]
    exact ⟨N2, p1, p2, fun a ha => by rw [p3 a ha, q3 a ha]⟩
theorem l_le22 {r : Int64 × UInt64} {wk : Nat} {x y : Int32} (hw : wk ≤ 500) : ∀ m k F (N : Nat → Nat → Int32), k + m = wk + 1 → m < F → 1 ≤ k → (∀ w, w < k → N 335 w = nI (L0 w)) → ∃ N', lp_X6_leastEnergy_22 334 17 x (nI wk) y F (nI k, mw N r) = some (mw N' r) ∧ (∀ w, w ≤ wk → N' 335 w = nI (L0 w)) ∧ ∀ a, a ≠ 335 → N' a = N a := by
  intro m
  induction m with
  | zero =>
    intro k F N hk hF h1 hL
    obtain ⟨F, rfl⟩ := F_succ hF
    refine ⟨N, ?_, fun w hw => hL w (by omega), fun _ _ => rfl⟩
    simp only [lp_X6_leastEnergy_22]
    rw [if_pos (nI_lt (by omega) (by omega))]
  | succ m ih =>
    intro k F N hk hF h1 hL
    obtain ⟨F, rfl⟩ := F_succ hF
    obtain ⟨N2, p1, p2, p3⟩ := ih (k + 1) F (st N 335 k 1000000000) (by omega) (by omega) (by omega) (fun w hw => by
      rw [st_at]
      split
      · rename_i q
        rw [q.2]
        unfold L0
        rw [if_neg (by omega)]
        rfl
      · exact hL w (by omega))
    simp (disch := omega) only [lp_X6_leastEnergy_22, PX, AX, e_let, nI_1']
    rw [if_neg (nI_nlt (by omega) (by omega))]
    exact ⟨N2, p1, p2, fun a ha => by rw [p3 a ha, st_cell ha]⟩
def meV (su : Nat → Nat → Nat) (d wk wi : Nat) : Int32 := if itM su d wi L0 wk = 1000000000 then -2 else nI (itM su d wi L0 wk)
theorem L0_le (w : Nat) : L0 w ≤ 1000000000 := by
  unfold L0
  split <;> omega
theorem me_C {N : Nat → Nat → Int32} {r : Int64 × UInt64} {D d wk wi : Nat} {su : Nat → Nat → Nat} (hs : SUC N D su) (hB : SUB D su) (hd : d < D) (hw : wk ≤ 500) (hwi : wi ≤ 100) : ∃ N', f_X6_leastEnergy 334 17 (nI d) (nI wk) (nI wi) (mw N r) = some (meV su d wk wi, mw N' r) ∧ ∀ a, a ≠ 335 → N' a = N a := by
  obtain ⟨N1, q1, q2, q3⟩ := l_le22 (r := r) (x := nI d) (y := nI wi) hw wk 1 3000 (st N 335 0 0) (by omega) (by omega) (by omega) (fun w hw => by
    have : w = 0 := by omega
    subst this
    rw [st_self]
    rfl)
  have hs1 : SUC N1 D su := by
    unfold SUC at hs ⊢
    simp (disch := omega) only [q3, st_cell]
    exact hs
  obtain ⟨N2, p1, p2, p3⟩ := l_le46 (r := r) hB hd hw hwi wi 0 3000 N1 L0 (by omega) (by omega) hs1 L0_le q2
  have q1' : lp_X6_leastEnergy_22 334 17 (nI d) (nI wk) (nI wi) 3000 (1, mw (st N 335 0 0) r) = some (mw N1 r) := q1
  have p1' : lp_X6_leastEnergy_46 334 17 (nI d) (nI wk) (nI wi) 3000 (0, mw N1 r) = some (mw N2 r) := p1
  have k1 := p2 wk (by omega)
  have hle := itM_le (su := su) (d := d) (w := wk) wi L0 L0_le
  have z0 : ∀ K : MW → Option (Int32 × MW), hz_sta (mw N r) 335 0 0 K = K (mw (st N 335 0 0) r) := fun K => e_sta (a := 335) (n := 501) ln335 (by omega) N r K 0 0 (by omega)
  refine ⟨N2, ?_, fun a ha => by rw [p3 a ha, q3 a ha, st_cell ha]⟩
  simp (disch := omega) only [f_X6_leastEnergy, PX, P17, ln335, i501, z0, q1', e_bd, p1', AX, k1]
  rw [if_pos (nI_lt (by omega) (by omega))]
  unfold meV
  by_cases hq : itM su d wi L0 wk = 1000000000
  · rw [hq, if_pos (by decide), e_bd, if_pos rfl]
  · rw [if_neg (show ¬ (1000000000 : Int32) ≤ nI (itM su d wi L0 wk) from nI_ge (b := 1000000000) (by omega) (by omega)), e_bd, if_neg hq]
/-- reference -/
theorem l_me92 {N : Nat → Nat → Int32} {r : Int64 × UInt64} {D d a : Nat} {x2 x3 x4 : Int32} {su : Nat → Nat → Nat} {L : Nat → Nat} (hs : SUR N D su) (hB : SUB D su) (hd : d < D) (ha : a ≤ 500) (hL : ∀ w, w ≤ a → N 352 w = nI (L w) ∧ L w ≤ 1000000000) : ∀ m n F, n + m = su 1 d → m < F → lp_X10_mixedEnergy_92 336 (nI d) x2 x3 x4 (nI a) (mw N r) F (nI (mfA su d L a n), nI n) = some (nI (mfA su d L a (su 1 d))) := by
  have hD := hB.2.1
  have hB2 := hB.2.2 d hd
  have c26 := (hs.2 d hd).2.1
  intro m
  induction m with
  | zero =>
    intro n F hk hF
    obtain ⟨F, rfl⟩ := F_succ hF
    have hk : n = su 1 d := by omega
    subst hk
    simp (disch := omega) only [lp_X10_mixedEnergy_92, PR, AR, c26]
    rw [if_pos (Int32.le_refl _)]
  | succ m ih =>
    intro n F hk hF
    obtain ⟨F, rfl⟩ := F_succ hF
    have h2 := ih (n + 1) F (by omega) (by omega)
    have hB3 := hB2.2.2.2.2.2.2.2.2.2.2 n (by omega)
    have c27 := ((hs.2 d hd).2.2.2.2.2.2.2 n (by omega)).1
    have c28 := ((hs.2 d hd).2.2.2.2.2.2.2 n (by omega)).2
    have hl := hL (a - su 7 (5 * d + n)) (by omega)
    have hm := mfA_le (su := su) (d := d) (L := L) (w := a) (hL a (by omega)).2 (by omega) n
    simp (disch := omega) only [lp_X10_mixedEnergy_92, PR, AR, c26, nI_5m, nI_add, c27, c28, mx0, hl.1, mnN_nI, e_let, nI_1']
    rw [if_neg (nI_ge (by omega) (by omega))]
    exact h2
theorem l_me67 {r : Int64 × UInt64} {D d wk : Nat} {x3 x4 : Int32} {su : Nat → Nat → Nat} {L : Nat → Nat} (hB : SUB D su) (hd : d < D) (hw : wk ≤ 500) (hL9 : ∀ w, L w ≤ 1000000000) : ∀ m k F (N : Nat → Nat → Int32), k + m = wk + 1 → m < F → SUR N D su → (∀ w, w ≤ wk → N 352 w = nI (L w)) → (∀ w, w < k → N 353 w = nI (sxA su d L w)) → ∃ N', lp_X10_mixedEnergy_67 336 (nI d) (nI wk) x3 x4 F (nI k, mw N r) = some (mw N' r) ∧ (∀ w, w ≤ wk → N' 353 w = nI (sxA su d L w)) ∧ ∀ a, a ≠ 353 → N' a = N a := by
  have hD := hB.2.1
  have hB2 := hB.2.2 d hd
  intro m
  induction m with
  | zero =>
    intro k F N hk hF hs hL h3
    obtain ⟨F, rfl⟩ := F_succ hF
    refine ⟨N, ?_, fun w hw => h3 w (by omega), fun _ _ => rfl⟩
    simp only [lp_X10_mixedEnergy_67]
    rw [if_pos (nI_lt (by omega) (by omega))]
  | succ m ih =>
    intro k F N hk hF hs hL h3
    obtain ⟨F, rfl⟩ := F_succ hF
    have c22 := (hs.2 d hd).2.2.2.2.1
    have k0 := hL k (by omega)
    have hml := mfA_le (su := su) (d := d) (L := L) (w := k) (hL9 k) (by omega) (su 1 d)
    have k2 := l_me92 (r := r) (x2 := nI wk) (x3 := x3) (x4 := x4) (L := L) hs hB hd (show k ≤ 500 by omega) (fun w hw => ⟨hL w (by omega), hL9 w⟩) (su 1 d) 0 3000 (by omega) (by omega)
    have k2' : lp_X10_mixedEnergy_92 336 (nI d) (nI wk) x3 x4 (nI k) (mw N r) 3000 (nI (L k + su 4 d), 0) = some (nI (mfA su d L k (su 1 d))) := k2
    have hmn : (if nI (mfA su d L k (su 1 d)) < 1000000000 then nI (mfA su d L k (su 1 d)) else 1000000000) = nI (sxA su d L k) := mnN_nI (y := 1000000000) (by omega) (by omega)
    obtain ⟨N', p1, p2, p3⟩ := ih (k + 1) F (st N 353 k (nI (sxA su d L k))) (by omega) (by omega) (by
      unfold SUR at hs ⊢
      simp (disch := omega) only [st_cell]
      exact hs) (fun w hw => by rw [st_cell (by omega)]; exact hL w hw) (fun w hw => by
        rw [st_at]
        split
        · rename_i q
          rw [q.2]
        · exact h3 w (by omega))
    simp (disch := omega) only [lp_X10_mixedEnergy_67, PR, AR, k0, c22, nI_add, e_let, k2', e_bd, hmn, nI_1']
    rw [if_neg (nI_nlt (by omega) (by omega))]
    exact ⟨N', p1, p2, fun a ha => by rw [p3 a ha, st_cell ha]⟩
theorem l_me175 {r : Int64 × UInt64} {wk : Nat} {x1 x3 x4 : Int32} {L : Nat → Nat} (hw : wk ≤ 500) : ∀ m k F (N : Nat → Nat → Int32), k + m = wk + 1 → m < F → (∀ w, w ≤ wk → N 353 w = nI (L w)) → (∀ w, w < k → N 352 w = nI (L w)) → ∃ N', lp_X10_mixedEnergy_175 336 x1 (nI wk) x3 x4 F (nI k, mw N r) = some (mw N' r) ∧ (∀ w, w ≤ wk → N' 352 w = nI (L w)) ∧ ∀ a, a ≠ 352 → N' a = N a := by
  intro m
  induction m with
  | zero =>
    intro k F N hk hF hL h3
    obtain ⟨F, rfl⟩ := F_succ hF
    refine ⟨N, ?_, fun w hw => h3 w (by omega), fun _ _ => rfl⟩
    simp only [lp_X10_mixedEnergy_175]
    rw [if_pos (nI_lt (by omega) (by omega))]
  | succ m ih =>
    intro k F N hk hF hL h3
    obtain ⟨F, rfl⟩ := F_succ hF
    have k0 := hL k (by omega)
    obtain ⟨N', p1, p2, p3⟩ := ih (k + 1) F (st N 352 k (nI (L k))) (by omega) (by omega) (fun w hw => by rw [st_cell (by omega)]; exact hL w hw) (fun w hw => by
        rw [st_at]
        split
        · rename_i q
          rw [q.2]
        · exact h3 w (by omega))
    simp (disch := omega) only [lp_X10_mixedEnergy_175, PR, AR, k0, e_let, nI_1']
    rw [if_neg (nI_nlt (by omega) (by omega))]
    exact ⟨N', p1, p2, fun a ha => by rw [p3 a ha, st_cell ha]⟩
theorem l_me58 {r : Int64 × UInt64} {D d wk wi : Nat} {su : Nat → Nat → Nat} (hB : SUB D su) (hd : d < D) (hw : wk ≤ 500) (hwi : wi ≤ 100) : ∀ m k F (N : Nat → Nat → Int32) (L : Nat → Nat), k + m = wi → m < F → SUR N D su → (∀ w, L w ≤ 1000000000) → (∀ w, w ≤ wk → N 352 w = nI (L w)) → ∃ N', lp_X10_mixedEnergy_58 336 (nI d) (nI wk) (nI wi) F (nI k, mw N r) = some (mw N' r) ∧ (∀ w, w ≤ wk → N' 352 w = nI (itM su d m L w)) ∧ ∀ a, a ≠ 352 → a ≠ 353 → N' a = N a := by
  intro m
  induction m with
  | zero =>
    intro k F N L hk hF hs hL9 hL
    obtain ⟨F, rfl⟩ := F_succ hF
    have hk : k = wi := by omega
    subst hk
    refine ⟨N, ?_, hL, fun _ _ _ => rfl⟩
    simp only [lp_X10_mixedEnergy_58]
    rw [if_pos (Int32.le_refl _)]
  | succ m ih =>
    intro k F N L hk hF hs hL9 hL
    obtain ⟨F, rfl⟩ := F_succ hF
    obtain ⟨N1, q1, q2, q3⟩ := l_me67 (r := r) (x3 := nI wi) (x4 := nI k) hB hd hw hL9 (wk + 1) 0 3000 N (by omega) (by omega) hs hL (fun w hw => by omega)
    have q1' : lp_X10_mixedEnergy_67 336 (nI d) (nI wk) (nI wi) (nI k) 3000 (0, mw N r) = some (mw N1 r) := q1
    obtain ⟨N2, t1, t2, t3⟩ := l_me175 (r := r) (x1 := nI d) (x3 := nI wi) (x4 := nI k) hw (wk + 1) 0 3000 N1 (by omega) (by omega) q2 (fun w hw => by omega)
    have t1' : lp_X10_mixedEnergy_175 336 (nI d) (nI wk) (nI wi) (nI k) 3000 (0, mw N1 r) = some (mw N2 r) := t1
    obtain ⟨N3, p1, p2, p3⟩ := ih (k + 1) F N2 _ (by omega) (by omega) (by
      unfold SUR at hs ⊢
      simp (disch := omega) only [t3, q3]
      exact hs) (fun w => sxA_le su d L w) t2
    simp (disch := omega) only [lp_X10_mixedEnergy_58, q1', t1', e_bd, e_let, nI_1']
    rw [if_neg (nI_ge (by omega) (by omega))]
    exact ⟨N3, p1, p2, fun a h1 h2 => by rw [p3 a h1 h2, t3 a h1, q3 a h2]⟩
theorem l_me24 {r : Int64 × UInt64} {wk : Nat} {x y : Int32} (hw : wk ≤ 500) : ∀ m k F (N : Nat → Nat → Int32), k + m = wk + 1 → m < F → (∀ w, w < k → N 352 w = nI (L0 w)) → ∃ N', lp_X10_mixedEnergy_24 336 x (nI wk) y F (nI k, mw N r) = some (mw N' r) ∧ (∀ w, w ≤ wk → N' 352 w = nI (L0 w)) ∧ ∀ a, a ≠ 352 → N' a = N a := by
  intro m
  induction m with
  | zero =>
    intro k F N hk hF hL
    obtain ⟨F, rfl⟩ := F_succ hF
    refine ⟨N, ?_, fun w hw => hL w (by omega), fun _ _ => rfl⟩
    simp only [lp_X10_mixedEnergy_24]
    rw [if_pos (nI_lt (by omega) (by omega))]
  | succ m ih =>
    intro k F N hk hF hL
    obtain ⟨F, rfl⟩ := F_succ hF
    have hv : (if nI k = 0 then some (0 : Int32) else some 1000000000) = some (nI (L0 k)) := by
      unfold L0
      by_cases hq : k = 0
      · subst hq
        rw [if_pos nI_0, if_pos rfl]
        rfl
      · rw [if_neg (nI_ne0 (by omega) (by omega)), if_neg hq]
        rfl
    obtain ⟨N2, p1, p2, p3⟩ := ih (k + 1) F (st N 352 k (nI (L0 k))) (by omega) (by omega) (fun w hw => by
      rw [st_at]
      split
      · rename_i q
        rw [q.2]
      · exact hL w (by omega))
    simp (disch := omega) only [lp_X10_mixedEnergy_24, PR, hv, e_bd, AR, e_let, nI_1']
    rw [if_neg (nI_nlt (by omega) (by omega))]
    exact ⟨N2, p1, p2, fun a ha => by rw [p3 a ha, st_cell ha]⟩
theorem law_35 {xs : Nat → Int32} {Ls i T : Nat} {N : Nat → Nat → Int32} {r : Int64 × UInt64} (hL : Ls ≤ 3584) (h7 : 7 * i + 7 ≤ Ls) (hT : T ≤ 256000) (hg : GI N T) : ∃ N' r', lawc_35 xs Ls (nI (7 * i)) (mw N r) = some (mw N' r') ∧ GI N' (T + 500) := by
  have hg0 := hg
  obtain ⟨g1, g2, g3, g4, g5⟩ := hg
  simp only [lawc_35, e_lds hL h7]
  generalize xs (7 * i + 1) = x1
  generalize xs (7 * i + 2) = x2
  generalize xs (7 * i + 3) = x3
  rcases g5 with ⟨u1, u2, u3⟩ | ⟨D, su, A, h, w, H, hS⟩
  · simp only [f_L_mixedEnergy, f_X9_mixedEnergy, P0, G356, g_nD0 r _ u1, e_bxl, e_btl, reduceIte, e_b, f_X10_mixedEnergy, PR, g_tsk, u3, rg_0, Bool.false_and, bI_f, e_bd, g_w0 r _ u2, i10, g_thr, st_self]
    exact ⟨_, _, rfl, GI_q (GF_4 (by omega)) hg0⟩
  · obtain ⟨a1, a2, a3, a4, a5, a6, a7, a8, a9, a10, a11⟩ := hS
    have hD := a3.2.1
    cases hr : rg 0 (nI D - 1) x1 with
    | false =>
      simp only [f_L_mixedEnergy, f_X9_mixedEnergy, P0, G356, g_nDf r (x := x1) a1 (by rw [a4.1]; exact hr), e_bxl, e_btl, SX, reduceIte, e_b, f_X10_mixedEnergy, PR, g_tsk, a5.1, hr, Bool.false_and, bI_f, e_bd, g_w1f r a2, i10, g_thr, st_self]
      exact ⟨_, _, rfl, GI_q (GF_4 (by omega)) hg0⟩
    | true =>
      obtain ⟨d, hd, rfl⟩ := rg_n (by omega) hr
      have hc : f_X9_needDomain 0 (nI d) (mw N r) = some (.inr (), mw N r) := g_nDt r a1 (by rw [a4.1]; exact hr)
      cases hr3 : rg 1 500 x2 with
      | false =>
        simp (disch := omega) only [f_L_mixedEnergy, f_X9_mixedEnergy, P0, G356, hc, e_bx, g_nRf hr3, e_bxl, e_btl, SX, reduceIte, e_b, f_X10_mixedEnergy, PR, g_tsk, a5.1, hr, hr3, Bool.and_false, Bool.false_and, bI_f, e_bd, g_w1f r a2, i10, g_thr, st_self]
        exact ⟨_, _, rfl, GI_q (GF_4 (by omega)) hg0⟩
      | true =>
        cases hr4 : rg 1 100 x3 with
        | false =>
          simp (disch := omega) only [f_L_mixedEnergy, f_X9_mixedEnergy, P0, G356, hc, e_bx, g_nRt hr3, g_nRf hr4, e_bxl, e_btl, SX, reduceIte, e_b, f_X10_mixedEnergy, PR, g_tsk, a5.1, hr, hr3, hr4, Bool.and_false, bI_f, e_bd, g_w1f r a2, i10, g_thr, st_self]
          exact ⟨_, _, rfl, GI_q (GF_4 (by omega)) hg0⟩
        | true =>
          obtain ⟨wk, wk1, wk2, rfl⟩ := rg_t (a := 1) (b := 500) (by omega) (by omega) hr3
          obtain ⟨wi, wi1, wi2, rfl⟩ := rg_t (a := 1) (b := 100) (by omega) (by omega) hr4
          obtain ⟨N1, q1, q2⟩ := me_C (r := r) a4 a3 hd wk2 wi2
          have e3 : N1 336 3 = 1 := by rw [q2 336 (by omega)]; exact a2
          have eD : N1 336 5 = nI D := by rw [q2 336 (by omega)]; exact a5.1
          have hS1 : SUR (st N1 336 4 0) D su := SUR_4 (by omega) (SUR_F (fun a ha => q2 a (by omega)) a5)
          obtain ⟨N2, t1, t2, t3⟩ := l_me24 (r := (Int32.toInt64 (meV su d wk wi), r.2)) (x := nI d) (y := nI wi) wk2 (wk + 1) 0 3000 (st N1 336 4 0) (by omega) (by omega) (fun w hw => by omega)
          have t1' : lp_X10_mixedEnergy_24 336 (nI d) (nI wk) (nI wi) 3000 (0, mw (st N1 336 4 0) (Int32.toInt64 (meV su d wk wi), r.2)) = some (mw N2 (Int32.toInt64 (meV su d wk wi), r.2)) := t1
          have hS2 : SUR N2 D su := by
            unfold SUR at hS1 ⊢
            simp (disch := omega) only [t3]
            exact hS1
          obtain ⟨N3, s1, s2, s3⟩ := l_me58 (r := (Int32.toInt64 (meV su d wk wi), r.2)) a3 hd wk2 wi2 wi 0 3000 N2 L0 (by omega) (by omega) hS2 L0_le t2
          have s1' : lp_X10_mixedEnergy_58 336 (nI d) (nI wk) (nI wi) 3000 (0, mw N2 (Int32.toInt64 (meV su d wk wi), r.2)) = some (mw N3 (Int32.toInt64 (meV su d wk wi), r.2)) := s1
          have k1 := s2 wk (by omega)
          have hle := itM_le (su := su) (d := d) (w := wk) wi L0 L0_le
          have hv : (if nI (itM su d wi L0 wk) = 1000000000 then some (-2) else some (nI (itM su d wi L0 wk))) = some (meV su d wk wi) := by
            unfold meV
            by_cases hq : itM su d wi L0 wk = 1000000000
            · rw [hq, if_pos (by decide), if_pos rfl]
            · rw [if_neg (show ¬ nI (itM su d wi L0 wk) = 1000000000 from fun q => hq ((nI_eq (b := 1000000000) (by omega) (by omega)).mp q)), if_neg hq]
          have e4 : N3 336 4 = 0 := by rw [s3 336 (by omega) (by omega), t3 336 (by omega), st_self]
          simp (disch := omega) only [f_L_mixedEnergy, f_X9_mixedEnergy, P0, G356, hc, e_bx, g_nRt hr3, g_nRt hr4, q1, e_bt, e_let, mw_po, reduceIte, e_b, f_X10_mixedEnergy, PR, AR, g_tsk, eD, hr, hr3, hr4, Bool.and_self, bI_t, i10, e_bd, g_w1t _ e3, t1', s1', k1]
          rw [hv, e_bd]
          simp only [g_thr, e4, e_b, mw_2, lg_same, reduceIte]
          refine ⟨_, _, rfl, GI_q (N := N) ⟨fun a ha => ?_, fun k hk => ?_, fun k hk => ?_⟩ hg0⟩
          · rw [s3 a (by omega) (by omega), t3 a (by omega), st_cell (by omega), q2 a (by omega)]
          · rw [s3 336 (by omega) (by omega), t3 336 (by omega), st_slot (by omega), q2 336 (by omega)]
          · rw [s3 337 (by omega) (by omega), t3 337 (by omega), st_cell (by omega), q2 337 (by omega)]
