theorem ln80 : hz_ln 80 = 10 := by decide +kernel
theorem i10n : Int32.ofNat 10 = nI 10 := rfl
theorem pt80 : ∀ i, i < 10 → (80, i, 81 + 25 * i) ∈ hz_ptab := by decide +kernel
theorem sh80 : ∀ i, i < 10 → hz_sh (81 + 25 * i) = 4 := by decide +kernel
theorem bL80 : ∀ i, i < 10 → 81 + 25 * i ∈ bL := by decide
theorem bL29 : 29 ∈ bL := by decide
theorem bL54 : 54 ∈ bL := by decide
theorem g_ldq {σ : Type} (N : Nat → Nat → Int32) (r : Int64 × UInt64) (i : Nat) (K : Nat → Option σ) (hi : i < 10) : hz_ldq (mw N r) 80 (nI i) 358 4 K = K (81 + 25 * i) := by
  unfold hz_ldq
  rw [ln80, hz_ix_nI hi (by omega), nI_clamp (by omega)]
  exact e_ldp (pt80 i hi) (sh80 i hi) N r K
def hp (h : Nat) : Nat := if h = 10 then 10 else h + 1
def pushH (A : AS) (H : Nat → AS) : Nat → AS
  | 0 => A
  | i + 1 => H i
def HSC (N : Nat → Nat → Int32) (D h w : Nat) (H : Nat → AS) : Prop := N 79 0 = nI h ∧ N 79 1 = nI w ∧ w < 10 ∧ h ≤ 10 ∧ ∀ i, i < h → RC N (81 + 25 * ((w + 10 - i) % 10)) D (H i)
def HSR (N : Nat → Nat → Int32) (D h : Nat) (H : Nat → AS) : Prop := N 336 2 = nI h ∧ h ≤ 10 ∧ ∀ i, i < h → RR (fun _ k => N 338 (287 * (h - 1 - i) + k)) D (H i)
def HSI (D : Nat) (su : Nat → Nat → Nat) (T h : Nat) (H : Nat → AS) : Prop := ∀ i, i < h → Inv D su T (H i)
theorem HSI_push {D T h : Nat} {su : Nat → Nat → Nat} {A : AS} {H : Nat → AS} (hi : Inv D su T A) (h1 : HSI D su T h H) : HSI D su T (hp h) (pushH A H) := by
  intro i hi2
  cases i with
  | zero => exact hi
  | succ i =>
    refine h1 i ?_
    unfold hp at hi2
    split at hi2 <;> omega
theorem HSC_ext {N N' : Nat → Nat → Int32} {D h w : Nat} {H : Nat → AS} (hx : ∀ a, 79 ≤ a → a < 331 → N' a = N a) (h1 : HSC N D h w H) : HSC N' D h w H := by
  obtain ⟨a1, a2, a3, a4, a5⟩ := h1
  refine ⟨by rw [hx _ (by omega) (by omega)]; exact a1, by rw [hx _ (by omega) (by omega)]; exact a2, a3, a4, ?_⟩
  intro i hi
  have := Nat.mod_lt (w + 10 - i) (show 0 < 10 by omega)
  exact RC_ext (fun a h2 h3 => hx a (by omega) (by omega)) (a5 i hi)
theorem HSR_ext {N N' : Nat → Nat → Int32} {D h : Nat} {H : Nat → AS} (h2 : N' 336 2 = N 336 2) (hx : N' 338 = N 338) (h1 : HSR N D h H) : HSR N' D h H := by
  obtain ⟨a1, a2, a3⟩ := h1
  refine ⟨by rw [h2]; exact a1, a2, ?_⟩
  intro i hi
  rw [hx]
  exact a3 i hi
/-- the class remembers -/
theorem rem_C {N : Nat → Nat → Int32} {r : Int64 × UInt64} {D h w : Nat} {A : AS} {H : Nat → AS} (hD : D ≤ 4) (hc : A 30 0 ≤ 24) (hR : RC N 29 D A) (hH : HSC N D h w H) : ∃ N', f_X0_remember 79 29 (mw N r) = some (mw N' r) ∧ HSC N' D (hp h) ((w + 1) % 10) (pushH A H) ∧ ∀ a, (a < 79 ∨ 331 ≤ a) → N' a = N a := by
  obtain ⟨a1, a2, a3, a4, a5⟩ := hH
  have hw' : (w + 1) % 10 < 10 := Nat.mod_lt _ (by omega)
  generalize hwe : (w + 1) % 10 = w' at *
  have eq2 : (if nI 10 ≤ nI (w + 1) then some (0 : Int32) else some (nI (w + 1))) = some (nI w') := by
    by_cases hq : 10 ≤ w + 1
    · rw [if_pos (nI_le hq (by omega)), show w' = 0 by omega]
      rfl
    · rw [if_neg (nI_ge (by omega) (by omega)), show w' = w + 1 by omega]
  have eq0 : (if nI 10 < nI (h + 1) then nI 10 else nI (h + 1)) = nI (hp h) := by
    unfold hp
    by_cases hq : h = 10
    · subst hq
      rw [if_pos (nI_lt (by omega) (by omega)), if_pos rfl]
    · rw [if_neg (nI_nlt (by omega) (by omega)), if_neg hq]
  have hR1 : RC (st N 79 1 (nI w')) 29 D A := RC_ext (fun a _ _ => st_cell (by omega)) hR
  obtain ⟨C, q1, q2, q3⟩ := cp_C (r := r) bL29 (bL80 w' hw') (by omega) hD hc hR1
  refine ⟨st C 79 0 (nI (hp h)), ?_, ?_, ?_⟩
  · simp (disch := omega) only [f_X0_remember, SB bL29, PX, ln80, i10n, mw_1, a2, nI_p1]
    rw [eq2, e_bd]
    have e79 : C 79 0 = nI h := by
      rw [q3 79 (by omega), st_slot (by omega)]
      exact a1
    simp (disch := omega) only [e_let, mw_pn, mw_1, PX, st_self, g_ldq, q1, e_bv, ln80, i10n, e79, nI_p1, eq0]
  · refine ⟨st_self _ _ _ _, ?_, hw', by unfold hp; split <;> omega, ?_⟩
    · rw [st_slot (by omega), q3 79 (by omega), st_self]
    · intro i hi
      cases i with
      | zero =>
        rw [show (w' + 10 - 0) % 10 = w' by omega]
        exact RC_ext (fun a _ _ => st_cell (by omega)) q2
      | succ i =>
        have hih : i < h ∧ i < 9 := by
          unfold hp at hi
          split at hi <;> omega
        have hb : (w' + 10 - (i + 1)) % 10 = (w + 10 - i) % 10 := by omega
        have hb2 : (w + 10 - i) % 10 ≠ w' := by omega
        have hb3 : (w + 10 - i) % 10 < 10 := Nat.mod_lt _ (by omega)
        rw [hb]
        have := a5 i hih.1
        generalize (w + 10 - i) % 10 = v at *
        refine RC_ext (fun a h2 h3 => ?_) this
        rw [st_cell (by omega), q3 a (by omega), st_cell (by omega)]
  · intro a ha
    rw [st_cell (by omega), q3 a (by omega), st_cell (by omega)]
/-- the reference remembers -/
theorem rem_R {N : Nat → Nat → Int32} {r : Int64 × UInt64} {D h : Nat} {A : AS} {H : Nat → AS} (hD : D ≤ 4) (hc : A 30 0 ≤ 24) (hcH : ∀ i, i < h → H i 30 0 ≤ 24) (hR : RR N D A) (hH : HSR N D h H) : ∃ N', f_X10_remember 336 (mw N r) = some (mw N' r) ∧ HSR N' D (hp h) (pushH A H) ∧ (∀ a, a ≠ 336 → a ≠ 338 → N' a = N a) ∧ (∀ k, k ≠ 2 → N' 336 k = N 336 k) := by
  obtain ⟨a1, a2, a3⟩ := hH
  obtain ⟨N', q1, q2, q3, q4, q5, q6⟩ := g_remR (r := r) a1 a2
  refine ⟨N', q1, ?_, q2, q3⟩
  refine ⟨q4, by unfold hp; split <;> omega, ?_⟩
  intro i hi
  cases i with
  | zero =>
    refine RR_ext hD hc (fun k hk => ?_) hR
    have := q6 k hk
    unfold hp
    by_cases hq : h = 10
    · rw [if_pos hq] at this
      simp only [if_pos hq]
      exact this
    · rw [if_neg hq] at this
      simp only [if_neg hq]
      exact this
  | succ i =>
    have hih : i < h ∧ i < 9 := by
      unfold hp at hi
      split at hi <;> omega
    refine RR_ext hD (hcH i hih.1) (fun k hk => ?_) (a3 i hih.1)
    show N' 338 (287 * (hp h - 1 - (i + 1)) + k) = N 338 (287 * (h - 1 - i) + k)
    unfold hp
    by_cases hq : h = 10
    · have := q5 (8 - i) k hk (by rw [if_pos hq]; omega)
      rw [if_pos hq] at this
      rw [if_pos hq, show 10 - 1 - (i + 1) = 8 - i by omega, this, show 8 - i + 1 = h - 1 - i by omega]
    · have := q5 (h - 1 - i) k hk (by rw [if_neg hq]; omega)
      rw [if_neg hq] at this
      rw [if_neg hq, show h + 1 - 1 - (i + 1) = h - 1 - i by omega, this]
def popH (H : Nat → AS) : Nat → AS := fun i => H (i + 1)
theorem tb_C {N : Nat → Nat → Int32} {r : Int64 × UInt64} {D h w : Nat} {H : Nat → AS} (hD : D ≤ 4) (hc : H 0 30 0 ≤ 24) (hH : HSC N D (h + 1) w H) : ∃ N' w', f_X0_takeBackInto 79 29 (mw N r) = some (mw N' r) ∧ RC N' 29 D (H 0) ∧ HSC N' D h w' (popH H) ∧ ∀ a, (a < 29 ∨ (54 ≤ a ∧ a < 79) ∨ 331 ≤ a) → N' a = N a := by
  obtain ⟨a1, a2, a3, a4, a5⟩ := hH
  have hR := a5 0 (by omega)
  rw [show (w + 10 - 0) % 10 = w by omega] at hR
  obtain ⟨C, q1, q2, q3⟩ := cp_C (r := r) (bL80 w a3) bL29 (by omega) hD hc hR
  have e79 : ∀ k, C 79 k = N 79 k := fun k => by rw [q3 79 (by omega)]
  have hw' : (w + 9) % 10 < 10 := Nat.mod_lt _ (by omega)
  generalize hwe : (w + 9) % 10 = w' at *
  have eq5 : (if nI w ≤ 0 then some (nI 10 - 1) else some (nI w - 1)) = some (nI w') := by
    by_cases hq : w = 0
    · subst hq
      rw [if_pos (by decide), show w' = 9 by omega]
      decide
    · rw [if_neg (nI_nle (by omega) (by omega)), nI_m1 (by omega), show w' = w - 1 by omega]
  refine ⟨st (st C 79 1 (nI w')) 79 0 (nI h), w', ?_, ?_, ?_, ?_⟩
  · simp (disch := omega) only [f_X0_takeBackInto, SB bL29, PX, ln80, i10n, mw_1, a1, a2, g_ldq, q1, e_bv, e79]
    rw [if_neg (nI_nle (by omega) (by omega)), eq5, e_bd]
    simp (disch := omega) only [e_let, mw_pn, mw_1, st_slot, e79, a1, e_bd]
    rw [show nI (h + 1) - 1 = nI h from nI_pred h]
  · exact RC_ext (fun a _ _ => by rw [st_cell (by omega), st_cell (by omega)]) q2
  · refine ⟨st_self _ _ _ _, by rw [st_slot (by omega), st_self], hw', by omega, ?_⟩
    intro i hi
    have hb : (w' + 10 - i) % 10 = (w + 10 - (i + 1)) % 10 := by omega
    have hb3 : (w + 10 - (i + 1)) % 10 < 10 := Nat.mod_lt _ (by omega)
    rw [hb]
    have := a5 (i + 1) (by omega)
    generalize (w + 10 - (i + 1)) % 10 = v at *
    refine RC_ext (fun a h2 h3 => ?_) this
    rw [st_cell (by omega), st_cell (by omega), q3 a (by omega)]
  · intro a ha
    rw [st_cell (by omega), st_cell (by omega), q3 a (by omega)]
theorem und_R {N : Nat → Nat → Int32} {r : Int64 × UInt64} {D h : Nat} {H : Nat → AS} (hD : D ≤ 4) (hc : H 0 30 0 ≤ 24) (hH : HSR N D (h + 1) H) : ∃ N', lp_X10_undo_32 336 3000 (0, mw (st N 336 2 (nI h)) r) = some (mw N' r) ∧ RR N' D (H 0) ∧ HSR N' D h (popH H) ∧ (∀ a, a ≠ 336 → a ≠ 337 → N' a = N a) ∧ (∀ k, k ≠ 2 → N' 336 k = N 336 k) := by
  obtain ⟨a1, a2, a3⟩ := hH
  have e := l_und32 (N := st N 336 2 (nI h)) (r := r) (h := h) (st_self _ _ _ _) (by omega) 287 0 3000 (by omega) (by omega)
  rw [cyN_0] at e
  refine ⟨_, e, ?_, ⟨?_, by omega, ?_⟩, ?_, ?_⟩
  · refine RR_ext hD hc (fun k hk => ?_) (a3 0 (by omega))
    rw [cyN_in (by omega) (by omega), st_cell (by omega)]
    show N 338 (287 * h + (k - 0)) = N 338 (287 * (h + 1 - 1 - 0) + k)
    rw [show 287 * h + (k - 0) = 287 * (h + 1 - 1 - 0) + k by omega]
  · rw [cyN_c (by omega), st_self]
  · intro i hi
    have := a3 (i + 1) (by omega)
    rw [cyN_c (by omega), st_cell (by omega)]
    rw [show h + 1 - 1 - (i + 1) = h - 1 - i by omega] at this
    exact this
  · intro a h1 h2
    rw [cyN_c h2, st_cell h1]
  · intro k hk
    rw [cyN_c (by omega), st_slot hk]
