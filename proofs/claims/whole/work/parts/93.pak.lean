theorem to_Rr {R : Nat → Nat → Int32} {r : Int64 × UInt64} {D j T : Nat} {su : Nat → Nat → Nat} {A : AS} (hT : T < 2 ^ 28) (h : RR R D A) (hi : Inv D su T A) (hj : j < A 30 0) : f_X10_toOf 336 (nI j) (mw R r) = some (nI (toN A j), mw R r) ∧ f_X10_fromOf 336 (nI j) (mw R r) = some (nI (frN A j), mw R r) ∧ toN A j < 2 ^ 29 ∧ frN A j < 2 ^ 29 := by
  have hc := hi.1.1
  have hT1 := hi.1.2.1
  have h2 := hi.2.1 j hj
  have k2 : rJ R j 2 = nI (A 2 j) := h.2.1 j 2 hj (by omega)
  have k3 : rJ R j 3 = nI (A 3 j) := h.2.1 j 3 hj (by omega)
  have k0 : R 337 0 = nI (A 30 1) := h.1.2.1
  refine ⟨?_, ?_, ?_, ?_⟩
  · simp (disch := omega) only [f_X10_toOf, PR, RLd, RJ, k0, k2, k3, e_b, nI_add, mxN_nI, toN]
  · simp (disch := omega) only [f_X10_fromOf, PR, RLd, RJ, k0, k2, e_b, mxN_nI, frN]
  · unfold toN mxN
    split <;> omega
  · unfold frN mxN
    split <;> omega
def opP (A : AS) (d : Nat) (dn : Int32) (j : Nat) : Bool := decide (A 0 j = d) && decide (A 7 j = 0) && !hbit dn j
theorem op_b {dn : Int32} {j : Nat} (hj : j < 32) : ((dn >>> (nI j &&& 31)) &&& 1 = 0) ↔ hbit dn j = false := by
  rw [bt_and1, bt_sshr hj]
  cases hbit dn j
  · exact ⟨fun _ => rfl, fun _ => if_neg (by decide)⟩
  · rw [if_pos rfl]
    exact ⟨fun q => absurd q (by decide), fun q => by cases q⟩
theorem op_if {R : Nat → Nat → Int32} {D j T d : Nat} {dn : Int32} {su : Nat → Nat → Nat} {A : AS} (hd : d < 4) (hD : D ≤ 4) (h : RR R D A) (hi : Inv D su T A) (hj : j < A 30 0) (w : MW) : (if nI (A 0 j) = nI d then (if nI (A 7 j) = 0 then (if (dn >>> (nI j &&& 31)) &&& 1 = 0 then some ((1 : Int32), w) else some (0, w)) else some (0, w)) else some (0, w)) = some (bI (opP A d dn j), w) := by
  have hc := hi.1.1
  have h7 := hi.2.1 j hj
  unfold opP
  by_cases q0 : A 0 j = d
  · rw [if_pos (by rw [q0]), decide_eq_true q0]
    by_cases q7 : A 7 j = 0
    · rw [if_pos (by rw [q7]; rfl), decide_eq_true q7]
      by_cases qb : hbit dn j = false
      · rw [if_pos ((op_b (by omega)).mpr qb), qb]
        rfl
      · rw [if_neg (fun q => qb ((op_b (by omega)).mp q))]
        cases hh : hbit dn j with
        | false => exact absurd hh qb
        | true => rfl
    · rw [if_neg (nI_ne0 (by omega) (by omega)), decide_eq_false q7]
      rfl
  · rw [if_neg (fun q => q0 ((nI_eq (by omega) (by omega)).mp q)), decide_eq_false q0]
    rfl
theorem l_fe {R : Nat → Nat → Int32} {r : Int64 × UInt64} {D T d : Nat} {dn : Int32} {su : Nat → Nat → Nat} {A : AS} (hT : T < 2 ^ 28) (hd : d < 4) (hD : D ≤ 4) (h : RR R D A) (hi : Inv D su T A) : ∀ m k F, k + m = A 30 0 → m < F → lp_X10_firstEnd_5 336 (nI d) dn F (enc (-1) (fb (opP A d dn) (fun j => nI (toN A j)) k), nI k, mw R r) = some (enc (-1) (fb (opP A d dn) (fun j => nI (toN A j)) (A 30 0)), mw R r) := by
  have hc := hi.1.1
  have kc : R 337 2 = nI (A 30 0) := h.1.1
  intro m
  induction m with
  | zero =>
    intro k F hk hF
    obtain ⟨F, rfl⟩ := F_succ hF
    have hk : k = A 30 0 := by omega
    subst hk
    simp (disch := omega) only [lp_X10_firstEnd_5, PR, RLd, kc]
    rw [if_pos (Int32.le_refl _)]
  | succ m ih =>
    intro k F hk hF
    obtain ⟨F, rfl⟩ := F_succ hF
    have h2 := ih (k + 1) F (by omega) (by omega)
    have k0 : rJ R k 0 = nI (A 0 k) := h.2.1 k 0 (by omega) (by omega)
    have k7 : rJ R k 7 = nI (A 7 k) := h.2.1 k 7 (by omega) (by omega)
    have tk := (to_Rr (r := r) hT h hi (show k < A 30 0 by omega)).1
    simp (disch := omega) only [lp_X10_firstEnd_5, PR, RLd, RJ, kc, k0, k7, tk, e_b, e_let, nI_1']
    rw [if_neg (nI_ge (by omega) (by omega)), op_if hd hD h hi (by omega), e_bd]
    dsimp only
    rw [← h2, fb_succ]
    cases hp : opP A d dn k with
    | false =>
      rw [bI_f, if_pos rfl, e_bd]
      cases hf : fb (opP A d dn) (fun j => nI (toN A j)) k with
      | none => simp
      | some f => simp
    | true =>
      rw [bI_t, if_neg (by decide)]
      cases hf : fb (opP A d dn) (fun j => nI (toN A j)) k with
      | none =>
        simp only [enc, reduceIte, e_bd]
      | some f =>
        have hl := fb_lt hf
        have tf := (to_Rr (r := r) hT h hi (show f < A 30 0 by omega)).1
        have hn := eq_false (nI_nm1 (j := f) (by omega))
        simp only [enc, hn, reduceIte]
        rw [tk, e_b, tf, e_b]
        by_cases hd2 : nI (toN A f) ≤ nI (toN A k)
        · rw [if_pos hd2, e_bd]
          simp [hd2, enc]
        · rw [if_neg hd2, e_bd]
          simp [hd2, enc]
theorem fe_R {R : Nat → Nat → Int32} {r : Int64 × UInt64} {D T d : Nat} {dn : Int32} {su : Nat → Nat → Nat} {A : AS} (hT : T < 2 ^ 28) (hd : d < 4) (hD : D ≤ 4) (h : RR R D A) (hi : Inv D su T A) : f_X10_firstEnd 336 (nI d) dn (mw R r) = some (enc (-1) (fb (opP A d dn) (fun j => nI (toN A j)) (A 30 0)), mw R r) := by
  have hc := hi.1.1
  have h2 := l_fe (r := r) (dn := dn) hT hd hD h hi (A 30 0) 0 3000 (by omega) (by omega)
  simp only [f_X10_firstEnd, PR]
  rw [show lp_X10_firstEnd_5 336 (nI d) dn 3000 (-1, 0, mw R r) = _ from h2, e_bd]
theorem l_p32 {R : Nat → Nat → Int32} {r : Int64 × UInt64} {D T d t : Nat} {dn : Int32} {su : Nat → Nat → Nat} {A : AS} (hT : T < 2 ^ 28) (hd : d < 4) (hD : D ≤ 4) (h : RR R D A) (hi : Inv D su T A) (ht : t < 2 ^ 29) (ht1 : A 30 1 ≤ t) (htm : ∀ j, j < A 30 0 → opP A d dn j = true → t ≤ toN A j) : ∀ m k F, k + m = A 30 0 → m < F → lp_X10_pack_32 336 (nI d) dn (nI t) F (rbA (fun j => opP A d dn j && decide (A 2 j ≤ t)) k, nI k, mw R r) = some (rbA (fun j => opP A d dn j && decide (A 2 j ≤ t)) (A 30 0), mw R r) := by
  have hc := hi.1.1
  have kc : R 337 2 = nI (A 30 0) := h.1.1
  intro m
  induction m with
  | zero =>
    intro k F hk hF
    obtain ⟨F, rfl⟩ := F_succ hF
    have hk : k = A 30 0 := by omega
    subst hk
    simp (disch := omega) only [lp_X10_pack_32, PR, RLd, kc]
    rw [if_pos (Int32.le_refl _)]
  | succ m ih =>
    intro k F hk hF
    obtain ⟨F, rfl⟩ := F_succ hF
    have h2 := ih (k + 1) F (by omega) (by omega)
    have k0 : rJ R k 0 = nI (A 0 k) := h.2.1 k 0 (by omega) (by omega)
    have k7 : rJ R k 7 = nI (A 7 k) := h.2.1 k 7 (by omega) (by omega)
    obtain ⟨tk, fk, b1, b2⟩ := to_Rr (r := r) hT h hi (show k < A 30 0 by omega)
    simp (disch := omega) only [lp_X10_pack_32, PR, RLd, RJ, kc, k0, k7, tk, fk, e_b, e_let, nI_1', g_in]
    rw [if_neg (nI_ge (by omega) (by omega)), op_if hd hD h hi (by omega), e_bd]
    dsimp only
    rw [← h2, rbA_succ]
    cases hp : opP A d dn k with
    | false =>
      rw [bI_f, if_pos rfl, e_bd]
      simp only [Bool.false_and, Bool.false_eq_true, reduceIte, or0]
    | true =>
      rw [bI_t, if_neg (by decide)]
      have hto := htm k (by omega) hp
      have hrg : rg (nI (frN A k)) (nI (toN A k)) (nI t) = decide (A 2 k ≤ t) := by
        unfold rg
        rw [decide_eq_true (nI_le hto (by omega)), Bool.and_true, dc_le (by omega) (by omega), decide_eq_decide]
        unfold frN mxN
        split <;> omega
      rw [fk, e_b, tk, e_b, hrg]
      cases hq : decide (A 2 k ≤ t) with
      | false =>
        rw [bI_f, if_pos rfl, e_bd]
        simp only [Bool.and_false, Bool.false_eq_true, reduceIte, or0]
      | true =>
        rw [bI_t, if_neg (by decide), e_bd]
        simp only [Bool.and_self, reduceIte]
theorem pk_Rl {r : Int64 × UInt64} {D T d : Nat} {su : Nat → Nat → Nat} {A : AS} (hT : T < 2 ^ 28) (hd : d < 4) (hD : D ≤ 4) (hi : Inv D su T A) : ∀ m n F (N : Nat → Nat → Int32) (dn : Int32) (p : Nat → Bool), n + m = 24 → m < F → cnt p (A 30 0) ≤ m → (∀ j, j < A 30 0 → opP A d dn j = p j) → N 336 37 = nI n → RR N D A → ∃ N', lp_X10_pack_14 336 (nI d) F (dn, enc (-1) (fb p (fun j => nI (toN A j)) (A 30 0)), mw N r) = some (mw N' r) ∧ N' 336 37 = nI (n + (pkN A m p).length) ∧ (∀ i, i < (pkN A m p).length → N' 354 (n + i) = nI ((pkN A m p).getD i (0, 0)).1 ∧ N' 355 (n + i) = ((pkN A m p).getD i (0, 0)).2) ∧ (∀ i, i < n → N' 354 i = N 354 i ∧ N' 355 i = N 355 i) ∧ (∀ a, a ≠ 336 → a ≠ 354 → a ≠ 355 → N' a = N a) ∧ (∀ k, k ≠ 37 → N' 336 k = N 336 k) := by
  have hc := hi.1.1
  intro m
  induction m with
  | zero =>
    intro n F N dn p hn hF hcn hp h0 h
    obtain ⟨F, rfl⟩ := F_succ hF
    have hf : fb p (fun j => nI (toN A j)) (A 30 0) = none := fb_false (fun i hi2 => cnt_0 (by omega) i hi2)
    refine ⟨N, ?_, h0, fun i hi2 => absurd hi2 (Nat.not_lt_zero i), fun _ _ => ⟨rfl, rfl⟩, fun _ _ _ _ => rfl, fun _ _ => rfl⟩
    rw [hf]
    simp only [lp_X10_pack_14, enc, reduceIte]
  | succ m ih =>
    intro n F N dn p hn hF hcn hp h0 h
    obtain ⟨F, rfl⟩ := F_succ hF
    cases hf : fb p (fun j => nI (toN A j)) (A 30 0) with
    | none =>
      rw [pkN_none hf]
      refine ⟨N, ?_, h0, fun i hi2 => absurd hi2 (Nat.not_lt_zero i), fun _ _ => ⟨rfl, rfl⟩, fun _ _ _ _ => rfl, fun _ _ => rfl⟩
      simp only [lp_X10_pack_14, enc, reduceIte]
    | some f =>
      obtain ⟨f1, f2, f3, f4, f5⟩ := fb_to hT hi hf
      have hT1 : A 30 1 ≤ toN A f := by
        unfold toN mxN
        split <;> omega
      have tf := (to_Rr (r := r) hT h hi f1).1
      have hset := l_p32 (r := r) (dn := dn) hT hd hD h hi f5 hT1 (fun j hj ho => f3 j hj (by rw [← hp j hj]; exact ho)) (A 30 0) 0 3000 (by omega) (by omega)
      rw [rbA_congr (n := A 30 0) (q := fun j => p j && decide (A 2 j ≤ toN A f)) (fun j hj => by rw [hp j hj])] at hset
      have hset' : lp_X10_pack_32 336 (nI d) dn (nI (toN A f)) 3000 (0, 0, mw N r) = _ := hset
      generalize hq : rbA (fun j => p j && decide (A 2 j ≤ toN A f)) (A 30 0) = q at *
      have hp2 : ∀ j, j < A 30 0 → opP A d (dn ||| q) j = (p j && !decide (A 2 j ≤ toN A f)) := by
        intro j hj
        have h1 := hp j hj
        unfold opP at h1 ⊢
        rw [hbit_or, ← hq, rbA_bit (by omega) _ (by omega), decide_eq_true hj, ← h1]
        cases decide (A 0 j = d) <;> cases decide (A 7 j = 0) <;> cases hbit dn j <;> cases decide (A 2 j ≤ toN A f) <;> rfl
      have hcn2 : cnt (fun j => p j && !decide (A 2 j ≤ toN A f)) (A 30 0) ≤ m := by
        have := cnt_lt (p := p) (q := fun j => p j && !decide (A 2 j ≤ toN A f)) (f := f) (fun j hj => by
          simp only [Bool.and_eq_true] at hj
          exact hj.1) f2 (by simp [f4]) (A 30 0)
        rw [if_pos f1] at this
        omega
      have hRM : RR (st (st (st N 354 n (nI (toN A f))) 355 n q) 336 37 (nI (n + 1))) D A := RR_336 (RR_F (by rw [st_cell (by omega), st_cell (by omega)]) h)
      have hfe := fe_R (r := r) (dn := dn ||| q) hT hd hD hRM hi
      rw [fb_congr (q := fun j => p j && !decide (A 2 j ≤ toN A f)) (el := fun j => nI (toN A j)) hp2 (fun _ _ => rfl)] at hfe
      obtain ⟨N', p1, p2, p4, p5, p6, p7⟩ := ih (n + 1) F (st (st (st N 354 n (nI (toN A f))) 355 n q) 336 37 (nI (n + 1))) (dn ||| q) (fun j => p j && !decide (A 2 j ≤ toN A f)) (by omega) (by omega) hcn2 hp2 (st_self _ _ _ _) hRM
      have hn1 := eq_false (nI_nm1 (j := f) (by omega))
      refine ⟨N', ?_, ?_, ?_, ?_, ?_, ?_⟩
      · rw [lp_X10_pack_14]
        simp (disch := omega) only [enc, hn1, reduceIte, tf, e_b, hset', e_bd, PR, AR, mw_1, h0, st_cell, e_let, mw_pn, nI_p1, hfe]
        exact p1
      · rw [pkN_some hf, hq, List.length_cons, p2]
        congr 1
        omega
      · intro i hi2
        rw [pkN_some hf, hq] at hi2 ⊢
        cases i with
        | zero =>
          have := p5 n (by omega)
          rw [List.getD_cons_zero, Nat.add_zero, this.1, this.2, st_cell (by omega), st_cell (by omega), st_self, st_cell (by omega), st_self]
          exact ⟨rfl, rfl⟩
        | succ i =>
          rw [List.length_cons] at hi2
          have := p4 i (by omega)
          rw [List.getD_cons_succ, show n + (i + 1) = n + 1 + i by omega]
          exact this
      · intro i hi2
        have := p5 i (by omega)
        rw [this.1, this.2, st_cell (by omega), st_cell (by omega), st_slot (by omega), st_cell (by omega), st_slot (by omega), st_cell (by omega)]
        exact ⟨rfl, rfl⟩
      · intro a h1 h2 h3
        rw [p6 a h1 h2 h3, st_cell h1, st_cell h3, st_cell h2]
      · intro k hk
        rw [p7 k hk, st_slot hk, st_cell (by omega), st_cell (by omega)]
/-- both plans -/
def wtP (A : AS) (d j : Nat) : Bool := decide (A 0 j = d) && decide (A 7 j = 0)
theorem mf_C {N : Nat → Nat → Int32} {r : Int64 × UInt64} {D T d : Nat} {su : Nat → Nat → Nat} {A : AS} (hT : T < 2 ^ 28) (hd : d < D) (hD : D ≤ 4) (h : RC N 29 D A) (hi : Inv D su T A) : ∃ N', f_X8_makeFor 331 29 (nI d) (mw N r) = some (mw N' r) ∧ N' 331 0 = nI (pkN A 24 (wtP A d)).length ∧ (pkN A 24 (wtP A d)).length ≤ 24 ∧ (∀ i, i < (pkN A 24 (wtP A d)).length → N' 332 i = nI ((pkN A 24 (wtP A d)).getD i (0, 0)).1 ∧ N' 333 i = ((pkN A 24 (wtP A d)).getD i (0, 0)).2) ∧ (∀ a, a ≠ 331 → a ≠ 332 → a ≠ 333 → N' a = N a) := by
  have hc := hi.1.1
  have hcl := cnt_le (wtP A d) (A 30 0)
  obtain ⟨N', p1, p2, p3, p4, p5, p6⟩ := mk_C (r := r) hT hi 24 0 3000 (st N 331 0 0) (N (29 + 2) d) (wtP A d) (by omega) (by omega) (by omega) (fun i hi2 => by
    rw [h.2.2.2.2.2.1 d i hd hi2]
    unfold wtP
    by_cases q : i < A 30 0 <;> simp [q]) (st_self _ _ _ _) (RC_ext (fun a _ _ => st_cell (by omega)) h)
  simp only [Nat.zero_add] at p2 p3 p4
  refine ⟨N', ?_, p2, p3, p4, fun a h1 h2 h3 => by rw [p6 a h1 h2 h3, st_cell h1]⟩
  simp (disch := omega) only [f_X8_makeFor, PX, SB bL29, SL bL29, e_let, mw_pn, p1, e_bd]
theorem pk_Rr {N : Nat → Nat → Int32} {r : Int64 × UInt64} {D T d : Nat} {su : Nat → Nat → Nat} {A : AS} (hT : T < 2 ^ 28) (hd : d < D) (hD : D ≤ 4) (h : RR N D A) (hi : Inv D su T A) : ∃ N', f_X10_pack 336 (nI d) (mw N r) = some (mw N' r) ∧ N' 336 37 = nI (pkN A 24 (wtP A d)).length ∧ (∀ i, i < (pkN A 24 (wtP A d)).length → N' 354 i = nI ((pkN A 24 (wtP A d)).getD i (0, 0)).1 ∧ N' 355 i = ((pkN A 24 (wtP A d)).getD i (0, 0)).2) ∧ (∀ a, a ≠ 336 → a ≠ 354 → a ≠ 355 → N' a = N a) ∧ (∀ k, k ≠ 37 → N' 336 k = N 336 k) := by
  have hc := hi.1.1
  have hcl := cnt_le (wtP A d) (A 30 0)
  have hR1 : RR (st N 336 37 0) D A := RR_336 h
  have hop : ∀ j, j < A 30 0 → opP A d 0 j = wtP A d j := fun j _ => by
    unfold opP wtP
    rw [hbit_0]
    simp
  have hfe := fe_R (r := r) (dn := 0) hT (show d < 4 by omega) hD hR1 hi
  rw [fb_congr (q := wtP A d) (el := fun j => nI (toN A j)) hop (fun _ _ => rfl)] at hfe
  obtain ⟨N', p1, p2, p4, p5, p6, p7⟩ := pk_Rl (r := r) hT (show d < 4 by omega) hD hi 24 0 3000 (st N 336 37 0) 0 (wtP A d) (by omega) (by omega) (by omega) hop (st_self _ _ _ _) hR1
  simp only [Nat.zero_add] at p2 p4
  refine ⟨N', ?_, p2, p4, fun a h1 h2 h3 => by rw [p6 a h1 h2 h3, st_cell h1], fun k hk => by rw [p7 k hk, st_slot hk]⟩
  simp (disch := omega) only [f_X10_pack, PR, e_let, mw_pn, hfe, e_b, p1, e_bd]
theorem law_36 {xs : Nat → Int32} {Ls i T : Nat} {N : Nat → Nat → Int32} {r : Int64 × UInt64} (hL : Ls ≤ 3584) (h7 : 7 * i + 7 ≤ Ls) (hT : T ≤ 256000) (hg : GI N T) : ∃ N' r', lawc_36 xs Ls (nI (7 * i)) (mw N r) = some (mw N' r') ∧ GI N' (T + 500) := by
  have hg0 := hg
  obtain ⟨g1, g2, g3, g4, g5⟩ := hg
  simp only [lawc_36, e_lds hL h7]
  generalize xs (7 * i + 1) = x1
  rcases g5 with ⟨u1, u2, u3⟩ | ⟨D, su, A, h, w, H, hS⟩
  · simp only [f_L_packedWakeUps, f_X9_packedWakeUps, P0, G356, g_nD0 r _ u1, e_bxl, e_btl, reduceIte, e_b, f_X10_packedWakeUps, PR, g_isD, u3, rg_0, bI_f, e_bd, g_w0 r _ u2, i10, g_thr, st_self]
    exact ⟨_, _, rfl, GI_q (GF_4 (by omega)) hg0⟩
  · obtain ⟨a1, a2, a3, a4, a5, a6, a7, a8, a9, a10, a11⟩ := hS
    have hD := a3.2.1
    cases hr : rg 0 (nI D - 1) x1 with
    | false =>
      simp only [f_L_packedWakeUps, f_X9_packedWakeUps, P0, G356, g_nDf r (x := x1) a1 (by rw [a4.1]; exact hr), e_bxl, e_btl, SX, reduceIte, e_b, f_X10_packedWakeUps, PR, g_isD, a5.1, hr, bI_f, e_bd, g_w1f r a2, i10, g_thr, st_self]
      exact ⟨_, _, rfl, GI_q (GF_4 (by omega)) hg0⟩
    | true =>
      obtain ⟨d, hd, rfl⟩ := rg_n (by omega) hr
      have hc : f_X9_needDomain 0 (nI d) (mw N r) = some (.inr (), mw N r) := g_nDt r a1 (by rw [a4.1]; exact hr)
      have hT28 : T < 2 ^ 28 := by omega
      obtain ⟨N1, p0, p1, p2, p3, p4⟩ := mf_C (r := r) hT28 hd hD a6 a8.1.1
      have hRR : RR (st N1 336 4 0) D A := RR_336 (RR_F (p4 337 (by omega) (by omega) (by omega)) a7)
      have eD : N1 336 5 = nI D := by rw [p4 336 (by omega) (by omega) (by omega)]; exact a5.1
      have e3 : N1 336 3 = 1 := by rw [p4 336 (by omega) (by omega) (by omega)]; exact a2
      obtain ⟨N2, s1, s2, s3, s4, s5⟩ := pk_Rr (r := (Int32.toInt64 (nI (pkN A 24 (wtP A d)).length), r.2)) hT28 hd hD hRR a8.1.1
      have e4 : N2 336 4 = 0 := by rw [s5 4 (by omega), st_self]
      simp (disch := omega) only [f_L_packedWakeUps, f_X9_packedWakeUps, P0, G356, hc, p0, p1, mw_1, e_bx, e_bv, e_bt, e_bd, e_let, mw_po, reduceIte, e_b, f_X10_packedWakeUps, PR, g_isD, eD, hr, bI_t, i10, g_w1t _ e3, s1, s2, g_thr, e4, mw_2, lg_same]
      refine ⟨_, _, rfl, GI_q (N := N) ⟨fun a ha => ?_, fun k hk => ?_, fun k hk => ?_⟩ hg0⟩
      · rw [s4 a (by omega) (by omega) (by omega), st_cell (by omega), p4 a (by omega) (by omega) (by omega)]
      · rw [s5 k (by omega), st_slot (by omega), p4 336 (by omega) (by omega) (by omega)]
      · rw [s4 337 (by omega) (by omega) (by omega), st_cell (by omega), p4 337 (by omega) (by omega) (by omega)]
theorem law_37 {xs : Nat → Int32} {Ls i T : Nat} {N : Nat → Nat → Int32} {r : Int64 × UInt64} (hL : Ls ≤ 3584) (h7 : 7 * i + 7 ≤ Ls) (hT : T ≤ 256000) (hg : GI N T) : ∃ N' r', lawc_37 xs Ls (nI (7 * i)) (mw N r) = some (mw N' r') ∧ GI N' (T + 500) := by
  have hg0 := hg
  obtain ⟨g1, g2, g3, g4, g5⟩ := hg
  simp only [lawc_37, e_lds hL h7]
  generalize xs (7 * i + 1) = x1
  generalize xs (7 * i + 2) = x2
  rcases g5 with ⟨u1, u2, u3⟩ | ⟨D, su, A, h, w, H, hS⟩
  · simp only [f_L_packedTick, f_X9_packedTick, P0, G356, g_nD0 r _ u1, e_bxl, e_btl, reduceIte, e_b, f_X10_packedTick, PR, g_isD, u3, rg_0, bI_f, e_bd, g_w0 r _ u2, i10, g_thr, st_self]
    exact ⟨_, _, rfl, GI_q (GF_4 (by omega)) hg0⟩
  · obtain ⟨a1, a2, a3, a4, a5, a6, a7, a8, a9, a10, a11⟩ := hS
    have hD := a3.2.1
    cases hr : rg 0 (nI D - 1) x1 with
    | false =>
      simp only [f_L_packedTick, f_X9_packedTick, P0, G356, g_nDf r (x := x1) a1 (by rw [a4.1]; exact hr), e_bxl, e_btl, SX, reduceIte, e_b, f_X10_packedTick, PR, g_isD, a5.1, hr, bI_f, e_bd, g_w1f r a2, i10, g_thr, st_self]
      exact ⟨_, _, rfl, GI_q (GF_4 (by omega)) hg0⟩
    | true =>
      obtain ⟨d, hd, rfl⟩ := rg_n (by omega) hr
      have hc : f_X9_needDomain 0 (nI d) (mw N r) = some (.inr (), mw N r) := g_nDt r a1 (by rw [a4.1]; exact hr)
      by_cases hn : x2 < 0
      · simp only [f_L_packedTick, f_X9_packedTick, P0, G356, hc, e_bx, g_nNf (Int32.not_le.mpr hn), e_bxl, e_btl, SX, reduceIte, e_b, f_X10_packedTick, PR, g_isD, a5.1, hr, bI_t, i10, hn, e_bd, g_w1f r a2, g_thr, st_self]
        exact ⟨_, _, rfl, GI_q (GF_4 (by omega)) hg0⟩
      obtain ⟨n, hn31, rfl⟩ := nI_of hn
      have h0n := Int32.not_lt.mp hn
      have hT28 : T < 2 ^ 28 := by omega
      obtain ⟨N1, p0, p1, p2, p3, p4⟩ := mf_C (r := r) hT28 hd hD a6 a8.1.1
      have hRR : RR (st N1 336 4 0) D A := RR_336 (RR_F (p4 337 (by omega) (by omega) (by omega)) a7)
      have eD : N1 336 5 = nI D := by rw [p4 336 (by omega) (by omega) (by omega)]; exact a5.1
      have e3 : N1 336 3 = 1 := by rw [p4 336 (by omega) (by omega) (by omega)]; exact a2
      obtain ⟨N2, s1, s2, s3, s4, s5⟩ := pk_Rr (r := (Int32.toInt64 (if (pkN A 24 (wtP A d)).length ≤ n then -2 else nI ((pkN A 24 (wtP A d)).getD n (0, 0)).1), r.2)) hT28 hd hD hRR a8.1.1
      have e4 : N2 336 4 = 0 := by rw [s5 4 (by omega), st_self]
      by_cases hlt : (pkN A 24 (wtP A d)).length ≤ n
      · have n1 : (nI (pkN A 24 (wtP A d)).length ≤ nI n) = True := eq_true (nI_le hlt hn31)
        simp only [hlt, reduceIte] at s1
        simp (disch := omega) only [f_L_packedTick, f_X9_packedTick, P0, G356, hc, g_nNt h0n, p0, p1, mw_1, n1, e_bx, e_bv, e_bt, e_bd, e_let, mw_po, reduceIte, e_b, f_X10_packedTick, PR, g_isD, eD, hr, bI_t, i10, hn, g_w1t _ e3, s1, s2, g_thr, e4, mw_2, lg_same]
        refine ⟨_, _, rfl, GI_q (N := N) ⟨fun a ha => ?_, fun k hk => ?_, fun k hk => ?_⟩ hg0⟩
        · rw [s4 a (by omega) (by omega) (by omega), st_cell (by omega), p4 a (by omega) (by omega) (by omega)]
        · rw [s5 k (by omega), st_slot (by omega), p4 336 (by omega) (by omega) (by omega)]
        · rw [s4 337 (by omega) (by omega) (by omega), st_cell (by omega), p4 337 (by omega) (by omega) (by omega)]
      · have n1 : (nI (pkN A 24 (wtP A d)).length ≤ nI n) = False := eq_false (nI_ge (by omega) (by omega))
        have v1 := (p3 n (by omega)).1
        have v2 := (s3 n (by omega)).1
        simp only [hlt, reduceIte] at s1
        simp (disch := omega) only [f_L_packedTick, f_X9_packedTick, P0, G356, hc, g_nNt h0n, p0, p1, mw_1, n1, PX, AX, v1, e_bx, e_bv, e_bt, e_bd, e_let, mw_po, reduceIte, e_b, f_X10_packedTick, PR, AR, g_isD, eD, hr, bI_t, i10, hn, g_w1t _ e3, s1, s2, v2, g_thr, e4, mw_2, lg_same]
        refine ⟨_, _, rfl, GI_q (N := N) ⟨fun a ha => ?_, fun k hk => ?_, fun k hk => ?_⟩ hg0⟩
        · rw [s4 a (by omega) (by omega) (by omega), st_cell (by omega), p4 a (by omega) (by omega) (by omega)]
        · rw [s5 k (by omega), st_slot (by omega), p4 336 (by omega) (by omega) (by omega)]
        · rw [s4 337 (by omega) (by omega) (by omega), st_cell (by omega), p4 337 (by omega) (by omega) (by omega)]
theorem law_38 {xs : Nat → Int32} {Ls i T : Nat} {N : Nat → Nat → Int32} {r : Int64 × UInt64} (hL : Ls ≤ 3584) (h7 : 7 * i + 7 ≤ Ls) (hT : T ≤ 256000) (hg : GI N T) : ∃ N' r', lawc_38 xs Ls (nI (7 * i)) (mw N r) = some (mw N' r') ∧ GI N' (T + 500) := by
  have hg0 := hg
  obtain ⟨g1, g2, g3, g4, g5⟩ := hg
  simp only [lawc_38, e_lds hL h7]
  generalize xs (7 * i + 1) = x1
  generalize xs (7 * i + 2) = x2
  rcases g5 with ⟨u1, u2, u3⟩ | ⟨D, su, A, h, w, H, hS⟩
  · simp only [f_L_packedJobs, f_X9_packedJobs, P0, G356, g_nD0 r _ u1, e_bxl, e_btl, reduceIte, e_b, f_X10_packedJobs, PR, g_isD, u3, rg_0, bI_f, e_bd, g_w0 r _ u2, i10, g_thr, st_self]
    exact ⟨_, _, rfl, GI_q (GF_4 (by omega)) hg0⟩
  · obtain ⟨a1, a2, a3, a4, a5, a6, a7, a8, a9, a10, a11⟩ := hS
    have hD := a3.2.1
    cases hr : rg 0 (nI D - 1) x1 with
    | false =>
      simp only [f_L_packedJobs, f_X9_packedJobs, P0, G356, g_nDf r (x := x1) a1 (by rw [a4.1]; exact hr), e_bxl, e_btl, SX, reduceIte, e_b, f_X10_packedJobs, PR, g_isD, a5.1, hr, bI_f, e_bd, g_w1f r a2, i10, g_thr, st_self]
      exact ⟨_, _, rfl, GI_q (GF_4 (by omega)) hg0⟩
    | true =>
      obtain ⟨d, hd, rfl⟩ := rg_n (by omega) hr
      have hc : f_X9_needDomain 0 (nI d) (mw N r) = some (.inr (), mw N r) := g_nDt r a1 (by rw [a4.1]; exact hr)
      by_cases hn : x2 < 0
      · simp only [f_L_packedJobs, f_X9_packedJobs, P0, G356, hc, e_bx, g_nNf (Int32.not_le.mpr hn), e_bxl, e_btl, SX, reduceIte, e_b, f_X10_packedJobs, PR, g_isD, a5.1, hr, bI_t, i10, hn, e_bd, g_w1f r a2, g_thr, st_self]
        exact ⟨_, _, rfl, GI_q (GF_4 (by omega)) hg0⟩
      obtain ⟨n, hn31, rfl⟩ := nI_of hn
      have h0n := Int32.not_lt.mp hn
      have hT28 : T < 2 ^ 28 := by omega
      obtain ⟨N1, p0, p1, p2, p3, p4⟩ := mf_C (r := r) hT28 hd hD a6 a8.1.1
      have hRR : RR (st N1 336 4 0) D A := RR_336 (RR_F (p4 337 (by omega) (by omega) (by omega)) a7)
      have eD : N1 336 5 = nI D := by rw [p4 336 (by omega) (by omega) (by omega)]; exact a5.1
      have e3 : N1 336 3 = 1 := by rw [p4 336 (by omega) (by omega) (by omega)]; exact a2
      obtain ⟨N2, s1, s2, s3, s4, s5⟩ := pk_Rr (r := (Int32.toInt64 (if (pkN A 24 (wtP A d)).length ≤ n then -2 else ((pkN A 24 (wtP A d)).getD n (0, 0)).2), r.2)) hT28 hd hD hRR a8.1.1
      have e4 : N2 336 4 = 0 := by rw [s5 4 (by omega), st_self]
      by_cases hlt : (pkN A 24 (wtP A d)).length ≤ n
      · have n1 : (nI (pkN A 24 (wtP A d)).length ≤ nI n) = True := eq_true (nI_le hlt hn31)
        simp only [hlt, reduceIte] at s1
        simp (disch := omega) only [f_L_packedJobs, f_X9_packedJobs, P0, G356, hc, g_nNt h0n, p0, p1, mw_1, n1, e_bx, e_bv, e_bt, e_bd, e_let, mw_po, reduceIte, e_b, f_X10_packedJobs, PR, g_isD, eD, hr, bI_t, i10, hn, g_w1t _ e3, s1, s2, g_thr, e4, mw_2, lg_same]
        refine ⟨_, _, rfl, GI_q (N := N) ⟨fun a ha => ?_, fun k hk => ?_, fun k hk => ?_⟩ hg0⟩
        · rw [s4 a (by omega) (by omega) (by omega), st_cell (by omega), p4 a (by omega) (by omega) (by omega)]
        · rw [s5 k (by omega), st_slot (by omega), p4 336 (by omega) (by omega) (by omega)]
        · rw [s4 337 (by omega) (by omega) (by omega), st_cell (by omega), p4 337 (by omega) (by omega) (by omega)]
      · have n1 : (nI (pkN A 24 (wtP A d)).length ≤ nI n) = False := eq_false (nI_ge (by omega) (by omega))
        have v1 := (p3 n (by omega)).2
        have v2 := (s3 n (by omega)).2
        simp only [hlt, reduceIte] at s1
        simp (disch := omega) only [f_L_packedJobs, f_X9_packedJobs, P0, G356, hc, g_nNt h0n, p0, p1, mw_1, n1, PX, AX, v1, e_bx, e_bv, e_bt, e_bd, e_let, mw_po, reduceIte, e_b, f_X10_packedJobs, PR, AR, g_isD, eD, hr, bI_t, i10, hn, g_w1t _ e3, s1, s2, v2, g_thr, e4, mw_2, lg_same]
        refine ⟨_, _, rfl, GI_q (N := N) ⟨fun a ha => ?_, fun k hk => ?_, fun k hk => ?_⟩ hg0⟩
        · rw [s4 a (by omega) (by omega) (by omega), st_cell (by omega), p4 a (by omega) (by omega) (by omega)]
        · rw [s5 k (by omega), st_slot (by omega), p4 336 (by omega) (by omega) (by omega)]
        · rw [s4 337 (by omega) (by omega) (by omega), st_cell (by omega), p4 337 (by omega) (by omega) (by omega)]
