/-- reference operations, live or dead -/
def stp (X : Option (Nat × Nat)) (c i : Nat) : Option (Nat × Nat) := match X with
  | none => if c = 0 then none else some (c, i)
  | some e => some e
def RS (N : Nat → Nat → Int32) (t : Nat → Nat) (len : Nat) (X : Option (Nat × Nat)) (i : Nat) : Prop := match X with
  | none => QB N t len ∧ N 336 22 = 0 ∧ N 336 20 = nI (rk (tK t len (tp t len i))) ∧ N 336 19 = nI (tS t len (tp t len i)) ∧ N 336 18 = nI (tE t len (tp t len i)) ∧ (tK t len (tp t len i) = 3 → N 336 21 = nI (vN t len (tp t len i))) ∧ N 336 23 = -1
  | some e => e.1 ≠ 0 ∧ e.1 ≤ 3 ∧ N 336 22 = nI e.1 ∧ N 336 23 = nI (SS t len e.2)
/-- what an operation leaves alone -/
def FR (N N' : Nat → Nat → Int32) : Prop := (∀ a, a ≠ 336 → N' a = N a) ∧ ∀ k, k < 18 ∨ 23 < k → N' 336 k = N 336 k
theorem FR_r {N : Nat → Nat → Int32} : FR N N := ⟨fun _ _ => rfl, fun _ _ => rfl⟩
theorem FR_t {N N1 N2 : Nat → Nat → Int32} (h : FR N N1) (h2 : FR N1 N2) : FR N N2 := ⟨fun a ha => (h2.1 a ha).trans (h.1 a ha), fun a ha => (h2.2 a ha).trans (h.2 a ha)⟩
theorem RS_n22 {N : Nat → Nat → Int32} {t : Nat → Nat} {len i : Nat} {e : Nat × Nat} (h : RS N t len (some e) i) : N 336 22 ≠ 0 := by
  have h1 : e.1 ≠ 0 := h.1
  have h2 : e.1 ≤ 3 := h.2.1
  rw [show N 336 22 = nI e.1 from h.2.2.1]
  exact fun q => h1 ((nI_eq (b := 0) (by omega) (by omega)).mp q)
theorem r_next0 {N : Nat → Nat → Int32} {r : Int64 × UInt64} {t : Nat → Nat} {len i : Nat} (h : RS N t len none i) : ∃ N', f_X10_next 336 (mw N r) = some (mw N' r) ∧ RS N' t len none (i + 1) ∧ FR N N' := by
  obtain ⟨h1, h2, h3, h4, h5, h6, h7⟩ := h
  obtain ⟨N', g1, g2, g3⟩ := g_rnx (r := r) (p := tp t len (i + 1)) h1 (tp_b _) h2 h5
  obtain ⟨y1, y2, y3, y4, y5, y6⟩ := g2
  exact ⟨N', g1, ⟨y1, y2, y3, y4, y5, y6, by rw [g3.2 23 (by omega)]; exact h7⟩, g3.1, fun k hk => g3.2 k (by omega)⟩
theorem r_next1 {N : Nat → Nat → Int32} {r : Int64 × UInt64} (h : N 336 22 ≠ 0) : f_X10_next 336 (mw N r) = some (mw N r) := by
  simp only [f_X10_next, PR, g_fi1 h, e_b, if_true]
theorem r_next {N : Nat → Nat → Int32} {r : Int64 × UInt64} {t : Nat → Nat} {len i : Nat} {X : Option (Nat × Nat)} (h : RS N t len X i) : ∃ N', f_X10_next 336 (mw N r) = some (mw N' r) ∧ RS N' t len X (i + 1) ∧ FR N N' := by
  cases X with
  | none => exact r_next0 h
  | some e => exact ⟨N, r_next1 (RS_n22 h), h, FR_r⟩
theorem r_fail {N : Nat → Nat → Int32} {r : Int64 × UInt64} {t : Nat → Nat} {len i c : Nat} {x : Int32} {X : Option (Nat × Nat)} (h : RS N t len X i) (hx : x = nI c) (hc : c ≠ 0) (h3 : c ≤ 3) : ∃ N', f_X10_fail 336 x (mw N r) = some (mw N' r) ∧ RS N' t len (stp X c i) i ∧ FR N N' := by
  subst hx
  cases X with
  | none =>
    obtain ⟨h1, h2, _, h4, _⟩ := h
    refine ⟨st (st N 336 22 (nI c)) 336 23 (nI (SS t len i)), ?_, ?_, fun a ha => by rw [st_cell ha, st_cell ha], fun k hk => by rw [st_slot (by omega), st_slot (by omega)]⟩
    · simp (disch := omega) only [f_X10_fail, PR, g_fi0 h2, e_b, i10, if_false, e_let, mw_pn, mw_1, st_slot, h4, e_bd]
      rfl
    · unfold stp
      rw [show (match (none : Option (Nat × Nat)) with | none => (if c = 0 then none else some (c, i)) | some e => some e) = some (c, i) from if_neg hc]
      exact ⟨hc, h3, by rw [st_slot (by omega), st_self], st_self _ _ _ _⟩
  | some e =>
    refine ⟨N, ?_, h, FR_r⟩
    simp only [f_X10_fail, PR, g_fi1 (RS_n22 h), e_b, if_true, e_bd]
theorem RS_i {N : Nat → Nat → Int32} {t : Nat → Nat} {len i j : Nat} {e : Nat × Nat} (h : RS N t len (some e) i) : RS N t len (some e) j := h
theorem stp_0 {X : Option (Nat × Nat)} {i : Nat} : stp X 0 i = X := by cases X <;> rfl
theorem stp_s {X : Option (Nat × Nat)} {c i : Nat} (hc : c ≠ 0) : ∃ e, stp X c i = some e := by
  cases X with
  | none => exact ⟨(c, i), if_neg hc⟩
  | some e => exact ⟨e, rfl⟩
theorem rk_k {k c : Nat} (hk : k ≤ 5) (hc : 2 ≤ c) (hc4 : c ≤ 4) : (nI (rk k) = nI c) = (k = c) := by
  unfold rk
  by_cases h : k = 5
  · rw [if_pos h]
    refine propext ⟨fun q => ?_, fun q => by omega⟩
    have := (nI_eq (a := 1) (by omega) (by omega)).mp q
    omega
  · rw [if_neg h]
    exact propext (nI_eq (by omega) (by omega))
theorem r_sem {N : Nat → Nat → Int32} {r : Int64 × UInt64} {t : Nat → Nat} {len i : Nat} {X : Option (Nat × Nat)} (h : RS N t len X i) : ∃ N', f_X10_expectSemicolon 336 (mw N r) = some (mw N' r) ∧ RS N' t len (stp X (semE t len i) i) (i + 1) ∧ FR N N' := by
  have hk := KK_le (t := t) (len := len) (i := i)
  cases X with
  | none =>
    have h20 : N 336 20 = nI (rk (KK t len i)) := h.2.2.1
    have e4 : (nI (rk (KK t len i)) = 4) = (KK t len i = 4) := rk_k (c := 4) hk (by omega) (by omega)
    unfold semE
    by_cases c : KK t len i = 4
    · obtain ⟨N', g1, g2, g3⟩ := r_next (r := r) h
      refine ⟨N', ?_, by rw [if_pos c, stp_0]; exact g2, g3⟩
      simp only [f_X10_expectSemicolon, PR, mw_1, h20, e4.trans (eq_true c), if_true, e_bd, g1, e_bv]
    · obtain ⟨N1, g1, g2, g3⟩ := r_fail (r := r) (x := 1) (c := 1) h rfl (by omega) (by omega)
      obtain ⟨N', f1, f2, f3⟩ := r_next (r := r) g2
      refine ⟨N', ?_, by rw [if_neg c]; exact f2, FR_t g3 f3⟩
      simp only [f_X10_expectSemicolon, PR, mw_1, h20, e4.trans (eq_false c), if_false, g1, e_bd, f1, e_bv]
  | some e =>
    have h2 := RS_n22 h
    refine ⟨N, ?_, h, FR_r⟩
    have hf : f_X10_fail 336 1 (mw N r) = some (mw N r) := by
      simp only [f_X10_fail, PR, g_fi1 h2, e_b, if_true, e_bd]
    simp only [f_X10_expectSemicolon, PR, mw_1, hf, e_bv, ite_self, e_bd, r_next1 h2]
theorem r_read {N : Nat → Nat → Int32} {r : Int64 × UInt64} {t : Nat → Nat} {len i lo hi : Nat} {x y : Int32} {X : Option (Nat × Nat)} (hx : x = nI lo) (hy : y = nI hi) (hlo : lo < 2 ^ 31) (hhi : hi < 2 ^ 31) (h : RS N t len X i) : ∃ v N', f_X10_read 336 x y (mw N r) = some (v, mw N' r) ∧ RS N' t len (stp X (numE t len i lo hi) i) (i + 1) ∧ FR N N' ∧ (stp X (numE t len i lo hi) i = none → v = nI (VV t len i)) := by
  subst hx
  subst hy
  have hk := KK_le (t := t) (len := len) (i := i)
  cases X with
  | none =>
    have h20 : N 336 20 = nI (rk (KK t len i)) := h.2.2.1
    have e3 : (nI (rk (KK t len i)) = 3) = (KK t len i = 3) := rk_k (c := 3) hk (by omega) (by omega)
    unfold numE
    by_cases c : KK t len i = 3
    · have hv := VV_le c
      have h21 : N 336 21 = nI (VV t len i) := h.2.2.2.2.2.1 c
      have hrg : rg (nI lo) (nI hi) (nI (VV t len i)) = decide (lo ≤ VV t len i ∧ VV t len i ≤ hi) := by
        unfold rg
        rw [dc_le hlo (by omega), dc_le (by omega) hhi]
        simp
      by_cases c1 : VV t len i < lo ∨ hi < VV t len i
      · obtain ⟨N1, g1, g2, g3⟩ := r_fail (r := r) (x := 2) (c := 2) h rfl (by omega) (by omega)
        obtain ⟨N', f1, f2, f3⟩ := r_next (r := r) g2
        have hd : decide (lo ≤ VV t len i ∧ VV t len i ≤ hi) = false := decide_eq_false (by omega)
        refine ⟨N1 336 21, N', ?_, by rw [if_pos c, if_pos c1]; exact f2, FR_t g3 f3, fun q => ?_⟩
        · simp only [f_X10_read, PR, mw_1, h20, e3.trans (eq_true c), if_true, h21, g_in, hrg, hd, bI_f, e_b, g1, e_bv, e_bd, e_let, f1]
        · rw [if_pos c, if_pos c1] at q
          cases q
      · obtain ⟨N', f1, f2, f3⟩ := r_next (r := r) h
        have hd : decide (lo ≤ VV t len i ∧ VV t len i ≤ hi) = true := decide_eq_true (by omega)
        refine ⟨nI (VV t len i), N', ?_, by rw [if_pos c, if_neg c1, stp_0]; exact f2, f3, fun q => rfl⟩
        simp only [f_X10_read, PR, mw_1, h20, e3.trans (eq_true c), if_true, h21, g_in, hrg, hd, bI_t, i10, if_false, e_b, e_bv, e_bd, e_let, f1]
    · obtain ⟨N1, g1, g2, g3⟩ := r_fail (r := r) (x := 1) (c := 1) h rfl (by omega) (by omega)
      obtain ⟨N', f1, f2, f3⟩ := r_next (r := r) g2
      refine ⟨N1 336 21, N', ?_, by rw [if_neg c]; exact f2, FR_t g3 f3, fun q => ?_⟩
      · simp only [f_X10_read, PR, mw_1, h20, e3.trans (eq_false c), if_false, g1, e_bv, e_bd, e_let, f1]
      · rw [if_neg c] at q
        cases q
  | some e =>
    have h2 := RS_n22 h
    have hf : ∀ z, f_X10_fail 336 z (mw N r) = some (mw N r) := fun z => by
      simp only [f_X10_fail, PR, g_fi1 h2, e_b, if_true, e_bd]
    refine ⟨N 336 21, N, ?_, h, FR_r, fun q => by cases q⟩
    simp only [f_X10_read, PR, mw_1, g_in, e_b, hf, e_bv, ite_self, e_bd, e_let, r_next1 h2]
/-- words -/
theorem l_rw {N : Nat → Nat → Int32} {r : Int64 × UInt64} {t : Nat → Nat} {len s e c : Nat} (hc : QB N t len) (he : e ≤ len) (h2 : N 336 19 = nI s) (h14 : c < 14) (hw : s + hz_wlen.getD c 0 = e) : ∀ m j F, j + m = hz_wlen.getD c 0 → m < F → lp_X10_isWord_35 336 c (mw N r) F (nI j) = some (bI (alq (fun i => decide (nI (t (s + i)) = (hz_wbyt.getD c []).getD i 0)) m j), mw N r) := by
  have h5 := hc.1
  have h6 := wl_b c h14
  intro m
  induction m with
  | zero =>
    intro j F hj hF
    obtain ⟨G, rfl⟩ := F_succ hF
    rw [lp_X10_isWord_35, decide_eq_true h14, e_gd, ofn, if_pos (nI_le (by omega) (by omega))]
    rfl
  | succ m ih =>
    intro j F hj hF
    obtain ⟨G, rfl⟩ := F_succ hF
    have hx : N 348 (s + j) = nI (t (s + j)) := (hc.2.2 (s + j) (by omega)).2
    have hi := ih (j + 1) G (by omega) (by omega)
    rw [lp_X10_isWord_35, decide_eq_true h14, e_gd, ofn, if_neg (fun q => absurd ((nI_leI (by omega) (by omega)).mp q) (by omega))]
    simp (disch := omega) only [PR, mw_1, h2, nI_add, AR, hx, hz_ix_nI (show j < hz_wlen.getD c 0 by omega) (by omega), Bool.and_true, e_gd, nI_clamp (show j < 2 ^ 31 by omega), e_let, nI_1', hi]
    rw [alq]
    by_cases q : nI (t (s + j)) = (hz_wbyt.getD c []).getD j 0
    · rw [if_pos q, decide_eq_true q, Bool.true_and]
    · rw [if_neg q, decide_eq_false q, Bool.false_and]
      rfl
theorem r_isw0 {N : Nat → Nat → Int32} {r : Int64 × UInt64} {t : Nat → Nat} {len i c : Nat} (h14 : c < 14) (h : RS N t len none i) : f_X10_isWord 336 c (mw N r) = some (bI (WW t len c i), mw N r) := by
  obtain ⟨h1, h2, h3, h4, h5, _⟩ := h
  have he := tE_b (t := t) (tp_b (t := t) (len := len) i)
  have h55 := h1.1
  have h6 := wl_b c h14
  have hk := KK_le (t := t) (len := len) (i := i)
  have e1 : (nI (rk (tK t len (tp t len i))) = 2) = (tK t len (tp t len i) = 2) := rk_k (c := 2) hk (by omega) (by omega)
  have hsub : nI (tE t len (tp t len i)) - nI (tS t len (tp t len i)) = nI (tE t len (tp t len i) - tS t len (tp t len i)) := pk_sub he.1
  have e2 : (nI (tE t len (tp t len i) - tS t len (tp t len i)) = nI (hz_wlen.getD c 0)) = (tE t len (tp t len i) - tS t len (tp t len i) = hz_wlen.getD c 0) := propext (nI_eq (by omega) (by omega))
  unfold f_X10_isWord WW wd
  simp only [PR, g_fi0 h2, e_b, i10, if_false, mw_1, h3, h4, h5, e1, hsub, ofn, e2, decide_eq_true h14, e_gd]
  by_cases c1 : tK t len (tp t len i) = 2
  · rw [if_pos c1, decide_eq_true c1, Bool.true_and]
    by_cases c2 : tE t len (tp t len i) - tS t len (tp t len i) = hz_wlen.getD c 0
    · rw [if_pos c2, decide_eq_true c2, Bool.true_and]
      exact l_rw h1 he.2 h4 h14 (by omega) (hz_wlen.getD c 0) 0 3000 (by omega) (by omega)
    · rw [if_neg c2, decide_eq_false c2, Bool.false_and]
      rfl
  · rw [if_neg c1, decide_eq_false c1, Bool.false_and]
    rfl
theorem r_isw1 {N : Nat → Nat → Int32} {r : Int64 × UInt64} {c : Nat} (h : N 336 22 ≠ 0) : f_X10_isWord 336 c (mw N r) = some (0, mw N r) := by
  simp only [f_X10_isWord, PR, g_fi1 h, e_b, if_true, e_isb0]
theorem WW_e (t : Nat → Nat) (len i : Nat) : WW t len 13 i = WW t len 0 i ∧ WW t len 12 i = WW t len 1 i ∧ WW t len 7 i = WW t len 2 i ∧ WW t len 8 i = WW t len 3 i ∧ WW t len 9 i = WW t len 4 i ∧ WW t len 10 i = WW t len 5 i ∧ WW t len 11 i = WW t len 6 i := ⟨rfl, rfl, rfl, rfl, rfl, rfl, rfl⟩
