/-- what the text says -/
def suF (t : Nat → Nat) (len : Nat) : Nat → Nat → Nat
  | 0, d => VV t len (ds t len d + 1)
  | 1, d => cn t len d
  | 2, d => VV t len (ds t len d + 3)
  | 3, d => VV t len (ds t len d + 4)
  | 4, d => VV t len (ds t len d + 5)
  | 5, d => mnS (cn t len d - 1) (VV t len (ds t len d + 6))
  | 6, d => VV t len (ds t len d + 7)
  | 7, i => VV t len (ds t len (i / 5) + 10 + 4 * (i % 5) + 1)
  | _, i => VV t len (ds t len (i / 5) + 10 + 4 * (i % 5) + 2)
theorem su_7 {t : Nat → Nat} {len d n : Nat} (h : n < 5) : suF t len 7 (5 * d + n) = VV t len (ds t len d + 10 + 4 * n + 1) ∧ suF t len 8 (5 * d + n) = VV t len (ds t len d + 10 + 4 * n + 2) := by
  have h1 : (5 * d + n) / 5 = d := by omega
  have h2 : (5 * d + n) % 5 = n := by omega
  have e7 : suF t len 7 (5 * d + n) = VV t len (ds t len ((5 * d + n) / 5) + 10 + 4 * ((5 * d + n) % 5) + 1) := rfl
  have e8 : suF t len 8 (5 * d + n) = VV t len (ds t len ((5 * d + n) / 5) + 10 + 4 * ((5 * d + n) % 5) + 2) := rfl
  rw [e7, e8, h1, h2]
  exact ⟨rfl, rfl⟩
def A0 (t : Nat → Nat) (len : Nat) : AS := fun k i => if k = 10 then VV t len (ds t len i + 2) else if k = 11 then polV t len (ds t len i + 8) else if k = 12 then VV t len 1 else if k = 15 then VV t len (ds t len i + 7) else if k = 30 ∧ i = 2 then VV t len 1 else 0
theorem A0_0 {t : Nat → Nat} {len k i : Nat} (h1 : k ≠ 10) (h2 : k ≠ 11) (h3 : k ≠ 12) (h4 : k ≠ 15) (h5 : ¬ (k = 30 ∧ i = 2)) : A0 t len k i = 0 := by
  unfold A0
  rw [if_neg h1, if_neg h2, if_neg h3, if_neg h4, if_neg h5]
theorem t_l20 {r : Int64 × UInt64} : ∀ m k F (N : Nat → Nat → Int32), k + m = 287 → m < F → ∃ N', lp_X10_takeOver_20 336 F (nI k, mw N r) = some (mw N' r) ∧ (∀ a, a ≠ 337 → N' a = N a) ∧ (∀ i, i < k → N' 337 i = N 337 i) ∧ ∀ i, k ≤ i → i < 287 → N' 337 i = 0 := by
  intro m
  induction m with
  | zero =>
    intro k F N hk hF
    obtain ⟨G, rfl⟩ := F_succ hF
    refine ⟨N, ?_, fun _ _ => rfl, fun _ _ => rfl, fun i q1 q2 => by omega⟩
    have e : ((287 : Int32) ≤ nI k) = True := eq_true (nI_le (a := 287) (by omega) (by omega))
    rw [lp_X10_takeOver_20]
    simp only [e, if_true]
  | succ m ih =>
    intro k F N hk hF
    obtain ⟨G, rfl⟩ := F_succ hF
    obtain ⟨N', g1, g2, g3, g4⟩ := ih (k + 1) G (st N 337 k 0) (by omega) (by omega)
    refine ⟨N', ?_, fun a ha => by rw [g2 a ha, st_cell ha], fun i hi => by rw [g3 i (by omega), st_slot (by omega)], fun i q1 q2 => ?_⟩
    · have e : ((287 : Int32) ≤ nI k) = False := eq_false (fun q => absurd ((nI_leI (a := 287) (by omega) (by omega)).mp q) (by omega))
      rw [lp_X10_takeOver_20]
      simp (disch := omega) only [e, if_false, PR, AR, e_let, nI_1', g1]
    · by_cases c : i = k
      · subst c
        rw [g3 i (by omega), st_self]
      · exact g4 i (by omega) q2
theorem t_l176 {r : Int64 × UInt64} {d c : Nat} {v8 : Int32} (hd : d < 4) (hc : c ≤ 5) : ∀ m n F (N : Nat → Nat → Int32), n + m = c → m < F → N 345 d = nI c → ∃ N', lp_X10_takeOver_176 336 (nI d) v8 F (nI n, mw N r) = some (mw N' r) ∧ (∀ a, a ≠ 346 → a ≠ 347 → N' a = N a) ∧ (∀ k, k < 5 * d + n ∨ 5 * d + 5 ≤ k → N' 346 k = N 346 k ∧ N' 347 k = N 347 k) ∧ ∀ j, n ≤ j → j < c → N' 346 (5 * d + j) = N 350 (2 * (5 * d + j)) ∧ N' 347 (5 * d + j) = N 350 (2 * (5 * d + j) + 1) := by
  intro m
  induction m with
  | zero =>
    intro n F N hn hF h
    obtain ⟨G, rfl⟩ := F_succ hF
    refine ⟨N, ?_, fun _ _ _ => rfl, fun _ _ => ⟨rfl, rfl⟩, fun j q1 q2 => by omega⟩
    have e : (nI c ≤ nI n) = True := eq_true (nI_le (by omega) (by omega))
    rw [lp_X10_takeOver_176]
    simp (disch := omega) only [PR, AR, h, e, if_true]
  | succ m ih =>
    intro n F N hn hF h
    obtain ⟨G, rfl⟩ := F_succ hF
    have e : (nI c ≤ nI n) = False := eq_false (fun q => absurd ((nI_leI (by omega) (by omega)).mp q) (by omega))
    obtain ⟨N', g1, g2, g3, g4⟩ := ih (n + 1) G (st (st N 346 (5 * d + n) (N 350 (2 * (5 * d + n)))) 347 (5 * d + n) (N 350 (2 * (5 * d + n) + 1))) (by omega) (by omega) (by rw [st_cell (by omega), st_cell (by omega)]; exact h)
    refine ⟨N', ?_, fun a q1 q2 => by rw [g2 a q1 q2, st_cell q2, st_cell q1], fun k hk => ?_, fun j q1 q2 => ?_⟩
    · rw [lp_X10_takeOver_176]
      simp (disch := omega) only [PR, AR, h, e, if_false, nI_5m, nI_add, nI_2m, nI_p1, st_cell, e_let, nI_1', g1]
    · have := g3 k (by omega)
      rw [this.1, this.2, st_cell (by omega), st_slot (by omega), st_slot (by omega), st_cell (by omega)]
      exact ⟨rfl, rfl⟩
    · by_cases c : j = n
      · subst c
        have := g3 (5 * d + j) (by omega)
        rw [this.1, this.2, st_self, st_cell (by omega), st_self]
        exact ⟨rfl, rfl⟩
      · have := g4 j (by omega) q2
        rw [this.1, this.2, st_cell (by omega), st_cell (by omega)]
        exact ⟨rfl, rfl⟩
theorem t_l291 {r : Int64 × UInt64} {d : Nat} (hd : d < 4) : ∀ m e F (N : Nat → Nat → Int32), e + m = 4 → m < F → ∃ N', lp_X10_takeOver_291 336 (nI d) F (nI e, mw N r) = some (mw N' r) ∧ (∀ a, a ≠ 337 → N' a = N a) ∧ (∀ k, k < 19 + 13 * d + (9 + e) ∨ 19 + 13 * d + 13 ≤ k → N' 337 k = N 337 k) ∧ ∀ j, e ≤ j → j < 4 → N' 337 (19 + 13 * d + (9 + j)) = -1 := by
  intro m
  induction m with
  | zero =>
    intro e F N he hF
    obtain ⟨G, rfl⟩ := F_succ hF
    refine ⟨N, ?_, fun _ _ => rfl, fun _ _ => rfl, fun j q1 q2 => by omega⟩
    have e4 : ((4 : Int32) ≤ nI e) = True := eq_true (nI_le (a := 4) (by omega) (by omega))
    rw [lp_X10_takeOver_291]
    simp only [e4, if_true]
  | succ m ih =>
    intro e F N he hF
    obtain ⟨G, rfl⟩ := F_succ hF
    have e4 : ((4 : Int32) ≤ nI e) = False := eq_false (fun q => absurd ((nI_leI (a := 4) (by omega) (by omega)).mp q) (by omega))
    obtain ⟨N', g1, g2, g3, g4⟩ := ih (e + 1) G (sD N d (9 + e) (-1)) (by omega) (by omega)
    refine ⟨N', ?_, fun a ha => by rw [g2 a ha, sD_c ha], fun k hk => ?_, fun j q1 q2 => ?_⟩
    · rw [lp_X10_takeOver_291]
      simp (disch := omega) only [e4, if_false, RP, e_bv, e_let, nI_1', g1]
    · rw [g3 k (by omega)]
      unfold sD
      exact st_slot (by omega)
    · by_cases c : j = e
      · subst c
        rw [g3 _ (by omega)]
        unfold sD
        exact st_self _ _ _ _
      · exact g4 j (by omega) q2
/-- a domain is taken over -/
theorem t_two {M : Nat → Nat → Int32} {r : Int64 × UInt64} {d c G : Nat} {l7 l1 p7 am : Int32} (hd : d < 4) (hc : c ≤ 5) (h345 : M 345 d = nI c) (h344 : M 344 d = l7) (h1 : M 349 (9 * d + 1) = l1) (h7 : M 349 (9 * d + 7) = p7) (h24 : M 336 24 = am) : ∃ N', Option.bind (lp_X10_takeOver_176 336 (nI d) (nI (9 * d)) 3000 (0, mw M r)) (fun q40 : MW => hz_ldp q40 336 26 358 20 (fun b41 => hz_lda q40 b41 (nI (9 * d + 1)) (fun v42 => hz_bv (f_X10_put2 336 (nI d) 0 v42 q40) (fun w43 => hz_ldp w43 336 26 358 20 (fun b44 => hz_lda w43 b44 (nI (9 * d + 7)) (fun v45 => hz_bv (f_X10_put2 336 (nI d) 1 v45 w43) (fun w46 => hz_bv (f_X10_put2 336 (nI d) 2 (w46.1 336 24) w46) (fun w47 => hz_ldp w47 336 11 358 20 (fun b48 => hz_lda w47 b48 (nI d) (fun v49 => hz_bv (f_X10_put2 336 (nI d) 5 v49 w47) (fun w50 => Option.bind (lp_X10_takeOver_291 336 (nI d) 3000 (0, w50)) (fun q52 : MW => lp_X10_takeOver_52 336 G (nI (d + 1), q52))))))))))))) = lp_X10_takeOver_52 336 G (nI (d + 1), mw N' r) ∧ (∀ a, a ≠ 337 → a ≠ 346 → a ≠ 347 → N' a = M a) ∧ (∀ k, k < 5 * d ∨ 5 * d + 5 ≤ k → N' 346 k = M 346 k ∧ N' 347 k = M 347 k) ∧ (∀ j, j < c → N' 346 (5 * d + j) = M 350 (2 * (5 * d + j)) ∧ N' 347 (5 * d + j) = M 350 (2 * (5 * d + j) + 1)) ∧ (∀ k, k < 19 + 13 * d ∨ 19 + 13 * d + 13 ≤ k → N' 337 k = M 337 k) ∧ (∀ k, k < 9 → k ≠ 0 → k ≠ 1 → k ≠ 2 → k ≠ 5 → N' 337 (19 + 13 * d + k) = M 337 (19 + 13 * d + k)) ∧ N' 337 (19 + 13 * d + 0) = l1 ∧ N' 337 (19 + 13 * d + 1) = p7 ∧ N' 337 (19 + 13 * d + 2) = am ∧ N' 337 (19 + 13 * d + 5) = l7 ∧ ∀ e, e < 4 → N' 337 (19 + 13 * d + (9 + e)) = -1 := by
  obtain ⟨N1, g1, f1, k1, v1⟩ := t_l176 (r := r) (v8 := nI (9 * d)) hd hc c 0 3000 M (by omega) (by omega) h345
  have g1' : lp_X10_takeOver_176 336 (nI d) (nI (9 * d)) 3000 (0, mw M r) = some (mw N1 r) := g1
  have j1 : N1 349 (9 * d + 1) = l1 := by rw [f1 349 (by omega) (by omega)]; exact h1
  have j7 : N1 349 (9 * d + 7) = p7 := by rw [f1 349 (by omega) (by omega)]; exact h7
  have j24 : N1 336 24 = am := by rw [f1 336 (by omega) (by omega)]; exact h24
  have j344 : N1 344 d = l7 := by rw [f1 344 (by omega) (by omega)]; exact h344
  obtain ⟨N3, g3, f3, k3, v3⟩ := t_l291 (r := r) hd 4 0 3000 (sD (sD (sD (sD N1 d 0 l1) d 1 p7) d 2 am) d 5 l7) (by omega) (by omega)
  have g3' : lp_X10_takeOver_291 336 (nI d) 3000 (0, mw (sD (sD (sD (sD N1 d 0 l1) d 1 p7) d 2 am) d 5 l7) r) = some (mw N3 r) := g3
  have k0 : ∀ k, k < 9 → N3 337 (19 + 13 * d + k) = sD (sD (sD (sD N1 d 0 l1) d 1 p7) d 2 am) d 5 l7 337 (19 + 13 * d + k) := fun k hk => k3 _ (by omega)
  refine ⟨N3, ?_, fun a q1 q2 q3 => ?_, fun k hk => ?_, fun j hj => ?_, fun k hk => ?_, fun k h9 q0 q1 q2 q5 => ?_, ?_, ?_, ?_, ?_, fun e he => v3 e (by omega) he⟩
  · rw [g1', e_bd]
    simp (disch := omega) only [PR, AR, mw_1, j1, RP, e_bv, sD_c, j7, j24, j344, g3', e_bd]
  · rw [f3 a q1, sD_c q1, sD_c q1, sD_c q1, sD_c q1, f1 a q2 q3]
  · have := k1 k (by omega)
    rw [f3 346 (by omega), f3 347 (by omega)]
    simp (disch := omega) only [sD_c]
    exact this
  · have := v1 j (by omega) hj
    rw [f3 346 (by omega), f3 347 (by omega)]
    simp (disch := omega) only [sD_c]
    exact this
  · rw [k3 k (by omega)]
    unfold sD
    rw [st_slot (by omega), st_slot (by omega), st_slot (by omega), st_slot (by omega), f1 337 (by omega) (by omega)]
  · rw [k0 k h9]
    unfold sD
    rw [st_slot (by omega), st_slot (by omega), st_slot (by omega), st_slot (by omega), f1 337 (by omega) (by omega)]
  · rw [k0 0 (by omega)]
    unfold sD
    rw [st_slot (by omega), st_slot (by omega), st_slot (by omega), st_self]
  · rw [k0 1 (by omega)]
    unfold sD
    rw [st_slot (by omega), st_slot (by omega), st_self]
  · rw [k0 2 (by omega)]
    unfold sD
    rw [st_slot (by omega), st_self]
  · rw [k0 5 (by omega)]
    unfold sD
    rw [st_self]
def tM (N : Nat → Nat → Int32) (t : Nat → Nat) (len d : Nat) : Nat → Nat → Int32 := st (st (st (st (st (st (st N 339 d (nI (VV t len (ds t len d + 1)))) 340 d (nI (VV t len (ds t len d + 3)))) 341 d (nI (VV t len (ds t len d + 4)))) 342 d (nI (VV t len (ds t len d + 5)))) 345 d (nI (cn t len d))) 343 d (nI (mnS (cn t len d - 1) (VV t len (ds t len d + 6))))) 344 d (nI (VV t len (ds t len d + 7)))
theorem tM_c {N : Nat → Nat → Int32} {t : Nat → Nat} {len d a : Nat} (h : a < 339 ∨ 345 < a) : tM N t len d a = N a := by
  unfold tM
  simp (disch := omega) only [st_cell]
theorem tM_s {N : Nat → Nat → Int32} {t : Nat → Nat} {len d a k : Nat} (h : k ≠ d) : tM N t len d a k = N a k := by
  unfold tM
  simp (disch := omega) only [st_slot]
def FO (d : Nat) (N N' : Nat → Nat → Int32) : Prop := (∀ a, a < 337 ∨ a = 338 ∨ 347 < a → N' a = N a) ∧ (∀ a k, 339 ≤ a → a ≤ 345 → k ≠ d → N' a k = N a k) ∧ (∀ k, k < 5 * d ∨ 5 * d + 5 ≤ k → N' 346 k = N 346 k ∧ N' 347 k = N 347 k) ∧ ∀ k, k < 19 + 13 * d ∨ 19 + 13 * d + 13 ≤ k → N' 337 k = N 337 k
def TD (N : Nat → Nat → Int32) (t : Nat → Nat) (len d : Nat) : Prop := (N 339 d = nI (suF t len 0 d) ∧ N 345 d = nI (suF t len 1 d) ∧ N 340 d = nI (suF t len 2 d) ∧ N 341 d = nI (suF t len 3 d) ∧ N 342 d = nI (suF t len 4 d) ∧ N 343 d = nI (suF t len 5 d) ∧ N 344 d = nI (suF t len 6 d) ∧ ∀ n, n < suF t len 1 d → N 346 (5 * d + n) = nI (suF t len 7 (5 * d + n)) ∧ N 347 (5 * d + n) = nI (suF t len 8 (5 * d + n))) ∧ (∀ k, k < 9 → N 337 (19 + 13 * d + k) = nI (A0 t len (10 + k) d)) ∧ ∀ e, e < 4 → N 337 (19 + 13 * d + (9 + e)) = -1
theorem t_one {N : Nat → Nat → Int32} {r : Int64 × UInt64} {t : Nat → Nat} {len d D G : Nat} (hd : d < D) (hD : D ≤ 4) (h5 : N 336 5 = nI D) (h24 : N 336 24 = nI (VV t len 1)) (hq : QD N t len d) (h1c : 1 ≤ cn t len d) (h6 : VV t len (ds t len d + 6) ≤ 99999) (hz : ∀ k, k < 13 → N 337 (19 + 13 * d + k) = 0) : ∃ N', lp_X10_takeOver_52 336 (G + 1) (nI d, mw N r) = lp_X10_takeOver_52 336 G (nI (d + 1), mw N' r) ∧ FO d N N' ∧ TD N' t len d := by
  obtain ⟨⟨q0, q1, q2, q3, q4, q5, q6, q7⟩, q8, q9⟩ := hq
  have hc := cn_b t len d
  have e : (nI D ≤ nI d) = False := eq_false (fun q => absurd ((nI_leI (by omega) (by omega)).mp q) (by omega))
  have hmn := mnS_nI (a := cn t len d - 1) (b := VV t len (ds t len d + 6)) (by omega) (by omega)
  obtain ⟨N', g, f1, f2, v2, f3, z3, w0, w1, w2, w5, w9⟩ := t_two (M := tM N t len d) (r := r) (G := G) (d := d) (c := cn t len d) (l7 := nI (VV t len (ds t len d + 7))) (l1 := nI (VV t len (ds t len d + 2))) (p7 := nI (polV t len (ds t len d + 8))) (am := nI (VV t len 1)) (by omega) hc (by unfold tM; simp (disch := omega) only [st_cell, st_self]) (by unfold tM; rw [st_self]) (by rw [tM_c (by omega)]; exact q1) (by rw [tM_c (by omega)]; exact q7) (by rw [tM_c (by omega)]; exact h24)
  refine ⟨N', ?_, ⟨fun a ha => by rw [f1 a (by omega) (by omega) (by omega), tM_c (by omega)], fun a k h1 h2 hk => by rw [f1 a (by omega) (by omega) (by omega), tM_s hk], fun k hk => ?_, fun k hk => ?_⟩, ⟨?_, ?_, ?_, ?_, ?_, ?_, ?_, fun n hn => ?_⟩, fun k hk => ?_, w9⟩
  · unfold tM at g
    rw [lp_X10_takeOver_52]
    simp (disch := omega) only [mw_1, h5, e, if_false, e_let, nI_9m, PR, AR, nI_p1, nI_p2, nI_p3, nI_p4, nI_p5, nI_p6, nI_p7, nI_p8, st_cell, st_self, q0, q2, q3, q4, q5, q6, q8, nI_m1, hmn, nI_1']
    exact g
  · have := f2 k hk
    rw [this.1, this.2, tM_c (by omega), tM_c (by omega)]
    exact ⟨rfl, rfl⟩
  · rw [f3 k hk, tM_c (by omega)]
  · rw [f1 339 (by omega) (by omega) (by omega)]
    unfold tM
    simp (disch := omega) only [st_cell, st_self]
    rfl
  · rw [f1 345 (by omega) (by omega) (by omega)]
    unfold tM
    simp (disch := omega) only [st_cell, st_self]
    rfl
  · rw [f1 340 (by omega) (by omega) (by omega)]
    unfold tM
    simp (disch := omega) only [st_cell, st_self]
    rfl
  · rw [f1 341 (by omega) (by omega) (by omega)]
    unfold tM
    simp (disch := omega) only [st_cell, st_self]
    rfl
  · rw [f1 342 (by omega) (by omega) (by omega)]
    unfold tM
    simp (disch := omega) only [st_cell, st_self]
    rfl
  · rw [f1 343 (by omega) (by omega) (by omega)]
    unfold tM
    simp (disch := omega) only [st_cell, st_self]
    rfl
  · rw [f1 344 (by omega) (by omega) (by omega)]
    unfold tM
    simp (disch := omega) only [st_cell, st_self]
    rfl
  · have hn' : n < cn t len d := hn
    have y := v2 n hn'
    have z := su_7 (t := t) (len := len) (d := d) (n := n) (by omega)
    have x := q9 n hn'
    rw [y.1, y.2, z.1, z.2, tM_c (by omega)]
    exact x
  · by_cases c0 : k = 0
    · subst c0; exact w0
    · by_cases c1 : k = 1
      · subst c1; exact w1
      · by_cases c2 : k = 2
        · subst c2; exact w2
        · by_cases c5 : k = 5
          · subst c5; exact w5
          · rw [z3 k hk c0 c1 c2 c5, tM_c (by omega), hz k (by omega), A0_0 (by omega) (by omega) (by omega) (by omega) (by omega)]
            rfl
theorem TD_x {N N' : Nat → Nat → Int32} {t : Nat → Nat} {len e d : Nat} (he : e < d) (hf : FO d N N') (h : TD N t len e) : TD N' t len e := by
  obtain ⟨⟨h1, h2, h3, h4, h5, h6, h7, h8⟩, h9, h10⟩ := h
  have hc := cn_b t len e
  have x : ∀ a, 339 ≤ a → a ≤ 345 → N' a e = N a e := fun a q1 q2 => hf.2.1 a e q1 q2 (by omega)
  refine ⟨⟨by rw [x 339 (by omega) (by omega)]; exact h1, by rw [x 345 (by omega) (by omega)]; exact h2, by rw [x 340 (by omega) (by omega)]; exact h3, by rw [x 341 (by omega) (by omega)]; exact h4, by rw [x 342 (by omega) (by omega)]; exact h5, by rw [x 343 (by omega) (by omega)]; exact h6, by rw [x 344 (by omega) (by omega)]; exact h7, fun n hn => ?_⟩, fun k hk => ?_, fun k hk => ?_⟩
  · have hn' : n < cn t len e := hn
    have y := hf.2.2.1 (5 * e + n) (by omega)
    rw [y.1, y.2]
    exact h8 n hn
  · rw [hf.2.2.2 _ (by omega)]
    exact h9 k hk
  · rw [hf.2.2.2 _ (by omega)]
    exact h10 k hk
theorem QD_c {N N' : Nat → Nat → Int32} {t : Nat → Nat} {len d : Nat} (h1 : N' 349 = N 349) (h2 : N' 350 = N 350) (h : QD N t len d) : QD N' t len d := by
  unfold QD at h ⊢
  rw [h1, h2]
  exact h
theorem t_l52 {r : Int64 × UInt64} {t : Nat → Nat} {len D : Nat} (hD : D ≤ 4) (h1c : ∀ d, d < D → 1 ≤ cn t len d) (h6 : ∀ d, d < D → VV t len (ds t len d + 6) ≤ 99999) : ∀ m d F (N : Nat → Nat → Int32), d + m = D → m < F → N 336 5 = nI D → N 336 24 = nI (VV t len 1) → (∀ e, e < D → QD N t len e) → (∀ k, 19 + 13 * d ≤ k → k < 287 → N 337 k = 0) → (∀ e, e < d → TD N t len e) → ∃ N', lp_X10_takeOver_52 336 F (nI d, mw N r) = some (mw N' r) ∧ (∀ a, a < 337 ∨ a = 338 ∨ 347 < a → N' a = N a) ∧ (∀ k, k < 19 → N' 337 k = N 337 k) ∧ ∀ e, e < D → TD N' t len e := by
  intro m
  induction m with
  | zero =>
    intro d F N hd hF h5 h24 hq hz ht
    obtain ⟨G, rfl⟩ := F_succ hF
    have e : (nI D ≤ nI d) = True := eq_true (nI_le (by omega) (by omega))
    refine ⟨N, ?_, fun _ _ => rfl, fun _ _ => rfl, fun e he => ht e (by omega)⟩
    rw [lp_X10_takeOver_52]
    simp only [mw_1, h5, e, if_true]
  | succ m ih =>
    intro d F N hd hF h5 h24 hq hz ht
    obtain ⟨G, rfl⟩ := F_succ hF
    obtain ⟨N1, g1, f1, t1⟩ := t_one (r := r) (G := G) (show d < D by omega) hD h5 h24 (hq d (by omega)) (h1c d (by omega)) (h6 d (by omega)) (fun k hk => hz _ (by omega) (by omega))
    obtain ⟨N', g2, f2, k2, t2⟩ := ih (d + 1) G N1 (by omega) (by omega) (by rw [f1.1 336 (by omega)]; exact h5) (by rw [f1.1 336 (by omega)]; exact h24) (fun e he => QD_c (f1.1 349 (by omega)) (f1.1 350 (by omega)) (hq e he)) (fun k q1 q2 => by rw [f1.2.2.2 k (by omega)]; exact hz k (by omega) q2) (fun e he => by
      by_cases c : e = d
      · rw [c]; exact t1
      · exact TD_x (by omega) f1 (ht e (by omega)))
    exact ⟨N', g1.trans g2, fun a ha => by rw [f2 a ha, f1.1 a ha], fun k hk => by rw [k2 k hk, f1.2.2.2 k (by omega)], t2⟩
theorem t_over {N : Nat → Nat → Int32} {r : Int64 × UInt64} {t : Nat → Nat} {len D : Nat} (hD : D ≤ 4) (h1c : ∀ d, d < D → 1 ≤ cn t len d) (h6 : ∀ d, d < D → VV t len (ds t len d + 6) ≤ 99999) (h25 : N 336 25 = nI D) (h24 : N 336 24 = nI (VV t len 1)) (hq : ∀ e, e < D → QD N t len e) : ∃ N', f_X10_takeOver 336 (mw N r) = some (mw N' r) ∧ (∀ a, a < 336 ∨ a = 338 ∨ 347 < a → N' a = N a) ∧ (∀ k, k ≠ 2 → k ≠ 3 → k ≠ 5 → N' 336 k = N 336 k) ∧ N' 336 3 = 1 ∧ N' 336 2 = nI 0 ∧ SUR N' D (suF t len) ∧ RR N' D (A0 t len) := by
  obtain ⟨N1, g1, f1, _, z1⟩ := t_l20 (r := r) 287 0 3000 (st (st (st N 336 3 1) 336 2 0) 336 5 (nI D)) (by omega) (by omega)
  have g1' : lp_X10_takeOver_20 336 3000 (0, mw (st (st (st N 336 3 1) 336 2 0) 336 5 (nI D)) r) = some (mw N1 r) := g1
  have i24 : N1 336 24 = nI (VV t len 1) := by rw [f1 336 (by omega), st_slot (by omega), st_slot (by omega), st_slot (by omega)]; exact h24
  have i5 : N1 336 5 = nI D := by rw [f1 336 (by omega), st_self]
  have hc : ∀ a, a ≠ 336 → a ≠ 337 → st N1 337 1 (nI (VV t len 1)) a = N a := fun a q1 q2 => by rw [st_cell q2, f1 a q2, st_cell q1, st_cell q1, st_cell q1]
  obtain ⟨N2, g2, f2, k2, t2⟩ := t_l52 (r := r) (t := t) (len := len) hD h1c h6 D 0 3000 (st N1 337 1 (nI (VV t len 1))) (by omega) (by omega) (by rw [st_cell (by omega)]; exact i5) (by rw [st_cell (by omega)]; exact i24) (fun e he => QD_c (hc 349 (by omega) (by omega)) (hc 350 (by omega) (by omega)) (hq e he)) (fun k q1 q2 => by rw [st_slot (by omega)]; exact z1 k (by omega) q2) (fun e he => absurd he (Nat.not_lt_zero e))
  have g2' : lp_X10_takeOver_52 336 3000 (0, mw (st N1 337 1 (nI (VV t len 1))) r) = some (mw N2 r) := g2
  have y6 : N2 336 = st (st (st N 336 3 1) 336 2 0) 336 5 (nI D) 336 := by rw [f2 336 (by omega), st_cell (by omega), f1 336 (by omega)]
  have l0 : ∀ k, k < 19 → k ≠ 1 → N2 337 k = 0 := fun k h1 h2 => by rw [k2 k h1, st_slot h2]; exact z1 k (by omega) (by omega)
  refine ⟨N2, ?_, fun a ha => by rw [f2 a (by omega), hc a (by omega) (by omega)], fun k q2 q3 q5 => by rw [y6, st_slot q5, st_slot q2, st_slot q3], ?_, ?_, ⟨?_, fun d hd => (t2 d hd).1⟩, ⟨⟨?_, ?_, ?_⟩, fun j k hj _ => ?_, fun j hj _ => ?_, fun k hk => ?_, fun k hk => ?_, fun d k hd hk => (t2 d hd).2.1 k hk, fun d e hd he => ?_⟩⟩
  · unfold f_X10_takeOver
    rw [GR, e_isb1, e_let, e_let, e_let]
    simp (disch := omega) only [mw_pn, mw_1, st_slot, h25]
    rw [g1', e_bd]
    simp only [PR, mw_1, i24, RLd]
    rw [g2', e_bd]
  · rw [y6, st_slot (by omega), st_slot (by omega), st_self]
  · rw [y6, st_slot (by omega), st_self]
    rfl
  · rw [y6, st_self]
  · rw [l0 2 (by omega) (by omega), A0_0 (by omega) (by omega) (by omega) (by omega) (by omega)]
    rfl
  · rw [l0 0 (by omega) (by omega), A0_0 (by omega) (by omega) (by omega) (by omega) (by omega)]
    rfl
  · rw [k2 1 (by omega), st_self]
    rfl
  · rw [A0_0 (by omega) (by omega) (by omega) (by omega) (by omega)] at hj
    omega
  · rw [A0_0 (by omega) (by omega) (by omega) (by omega) (by omega)] at hj
    omega
  · rw [l0 (3 + k) (by omega) (by omega), A0_0 (by omega) (by omega) (by omega) (by omega) (by omega)]
    rfl
  · rw [l0 (11 + k) (by omega) (by omega), A0_0 (by omega) (by omega) (by omega) (by omega) (by omega)]
    rfl
  · rw [A0_0 (by omega) (by omega) (by omega) (by omega) (by omega)]
    exact (t2 d hd).2.2 e he
