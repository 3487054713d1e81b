theorem GR {σ : Type} (x : Option σ) : hz_gd (hz_g 358 336 11) x = x := rfl
def X4 (t : Nat → Nat) (len b : Nat) : Option (Nat × Nat) := hX t len (b + 1)
def X9 (t : Nat → Nat) (len b : Nat) : Option (Nat × Nat) := stp (stp (stp (stp (stp (hX t len (b + 1)) (numE t len (b + 5) 0 99) (b + 5)) (numE t len (b + 6) 0 4) (b + 6)) (numE t len (b + 7) 0 99) (b + 7)) (polE t len (b + 8)) (b + 8)) (semE t len (b + 9)) (b + 9)
theorem hd_eq {t : Nat → Nat} {len b : Nat} (hw : wrdE t len 0 b = 0) : X9 t len b = hdX t len b := by
  rw [hX_d, sq_n (stp_z hw)]
  unfold X9
  cases hX t len (b + 1) with
  | some e => rfl
  | none =>
    show stp (stp (pX t len (b + 5)) (polE t len (b + 8)) (b + 8)) (semE t len (b + 9)) (b + 9) = sq none (sq (pX t len (b + 5)) (sq (stp none (polE t len (b + 8)) (b + 8)) (stp none (semE t len (b + 9)) (b + 9))))
    cases pX t len (b + 5) with
    | some e => rfl
    | none => exact stp_sq _ _ _
theorem stp_nn {X : Option (Nat × Nat)} {c i : Nat} (h : stp X c i = none) : X = none := by
  cases X with
  | none => rfl
  | some e => cases h
def F8 (d : Nat) (N N' : Nat → Nat → Int32) : Prop := (∀ a, a ≠ 336 → a ≠ 349 → N' a = N a) ∧ (∀ k, k < 18 ∨ 23 < k → N' 336 k = N 336 k) ∧ ∀ k, k < 9 * d ∨ 9 * d + 7 < k → N' 349 k = N 349 k
/-- the head of a domain -/
theorem r_hd {N : Nat → Nat → Int32} {r : Int64 × UInt64} {t : Nat → Nat} {len b d : Nat} (hd : d < 4) (h25 : N 336 25 = nI d) (h : RS N t len none b) : ∃ N', f_X10_readDomain 336 (mw N r) = hz_bv (f_X10_readLevels 336 (nI (9 * d)) (mw N' r)) (fun w43 => hz_let (hz_pn w43 336 25 ((w43.1 336 25) + 1)) (fun w44 => some w44)) ∧ RS N' t len (X9 t len b) (b + 10) ∧ F8 d N N' ∧ (X9 t len b = none → N' 349 (9 * d) = nI (VV t len (b + 1)) ∧ N' 349 (9 * d + 1) = nI (VV t len (b + 2)) ∧ N' 349 (9 * d + 2) = nI (VV t len (b + 3)) ∧ N' 349 (9 * d + 3) = nI (VV t len (b + 4)) ∧ N' 349 (9 * d + 4) = nI (VV t len (b + 5)) ∧ N' 349 (9 * d + 5) = nI (VV t len (b + 6)) ∧ N' 349 (9 * d + 6) = nI (VV t len (b + 7)) ∧ N' 349 (9 * d + 7) = nI (polV t len (b + 8))) := by
  obtain ⟨N0, g0, x0, f0⟩ := r_next0 (r := r) h
  have k25 : N0 336 25 = nI d := by rw [f0.2 25 (by omega)]; exact h25
  have k22 : N0 336 22 = 0 := x0.2.1
  have e4 : (nI d = 4) = False := eq_false (fun q => absurd ((nI_eq (b := 4) (by omega) (by omega)).mp q) (by omega))
  obtain ⟨N1, g1, x1, f1, v1⟩ := r_rs (r := r) (x := 1) (y := 4) (lo := 1) (hi := 4) (q := 9 * d) rfl rfl (by omega) (by omega) (by omega) x0
  obtain ⟨N2, g2, x2, f2, v2⟩ := r_rs (r := r) (x := 0) (y := 99999) (lo := 0) (hi := 99999) (q := 9 * d + 1) rfl rfl (by omega) (by omega) (by omega) x1
  obtain ⟨N3, g3, x3, f3, v3⟩ := r_rs (r := r) (x := 0) (y := 999) (lo := 0) (hi := 999) (q := 9 * d + 2) rfl rfl (by omega) (by omega) (by omega) x2
  obtain ⟨N4, g4, x4, f4, v4⟩ := r_rs (r := r) (x := 1) (y := 999) (lo := 1) (hi := 999) (q := 9 * d + 3) rfl rfl (by omega) (by omega) (by omega) x3
  obtain ⟨N5, g5, x5, f5, v5⟩ := r_rs (r := r) (x := 0) (y := 99) (lo := 0) (hi := 99) (q := 9 * d + 4) rfl rfl (by omega) (by omega) (by omega) x4
  obtain ⟨N6, g6, x6, f6, v6⟩ := r_rs (r := r) (x := 0) (y := 4) (lo := 0) (hi := 4) (q := 9 * d + 5) rfl rfl (by omega) (by omega) (by omega) x5
  obtain ⟨N7, g7, x7, f7, v7⟩ := r_rs (r := r) (x := 0) (y := 99) (lo := 0) (hi := 99) (q := 9 * d + 6) rfl rfl (by omega) (by omega) (by omega) x6
  obtain ⟨N8, g8, x8, f8, v8⟩ := r_pl (r := r) (q := 9 * d + 7) (by omega) x7
  obtain ⟨N9, g9, x9, f9⟩ := r_sem (r := r) x8
  refine ⟨N9, ?_, x9, ⟨fun a q1 q2 => ?_, fun k hk => ?_, fun k hk => ?_⟩, fun z => ?_⟩
  · simp only [f_X10_readDomain, GR, mw_1, h25, e4, if_false, e_bd, g0, e_bv, g_fi0 k22, e_b, i10, e_let, k25, nI_9m, nI_p1, nI_p2, nI_p3, nI_p4, nI_p5, nI_p6, nI_p7]
    rw [g1, g2, g3, g4, g5, g6, g7, g8, g9, e_bv]
  · rw [f9.1 a q1, f8.1 a q1 q2, f7.1 a q1 q2, f6.1 a q1 q2, f5.1 a q1 q2, f4.1 a q1 q2, f3.1 a q1 q2, f2.1 a q1 q2, f1.1 a q1 q2, f0.1 a q1]
  · rw [f9.2 k hk, f8.2.1 k hk, f7.2.1 k hk, f6.2.1 k hk, f5.2.1 k hk, f4.2.1 k hk, f3.2.1 k hk, f2.2.1 k hk, f1.2.1 k hk, f0.2 k hk]
  · rw [f9.1 349 (by omega), f8.2.2 k (by omega), f7.2.2 k (by omega), f6.2.2 k (by omega), f5.2.2 k (by omega), f4.2.2 k (by omega), f3.2.2 k (by omega), f2.2.2 k (by omega), f1.2.2 k (by omega), f0.1 349 (by omega)]
  · have z8 := stp_nn z
    have z7 := stp_nn z8
    have z6 := stp_nn z7
    have z5 := stp_nn z6
    have z4 := stp_nn z5
    have z3 := stp_nn z4
    have z2 := stp_nn z3
    have z1 := stp_nn z2
    refine ⟨?_, ?_, ?_, ?_, ?_, ?_, ?_, ?_⟩
    · rw [f9.1 349 (by omega), f8.2.2 _ (by omega), f7.2.2 _ (by omega), f6.2.2 _ (by omega), f5.2.2 _ (by omega), f4.2.2 _ (by omega), f3.2.2 _ (by omega), f2.2.2 _ (by omega)]; exact v1 z1
    · rw [f9.1 349 (by omega), f8.2.2 _ (by omega), f7.2.2 _ (by omega), f6.2.2 _ (by omega), f5.2.2 _ (by omega), f4.2.2 _ (by omega), f3.2.2 _ (by omega)]; exact v2 z2
    · rw [f9.1 349 (by omega), f8.2.2 _ (by omega), f7.2.2 _ (by omega), f6.2.2 _ (by omega), f5.2.2 _ (by omega), f4.2.2 _ (by omega)]; exact v3 z3
    · rw [f9.1 349 (by omega), f8.2.2 _ (by omega), f7.2.2 _ (by omega), f6.2.2 _ (by omega), f5.2.2 _ (by omega)]; exact v4 z4
    · rw [f9.1 349 (by omega), f8.2.2 _ (by omega), f7.2.2 _ (by omega), f6.2.2 _ (by omega)]; exact v5 z5
    · rw [f9.1 349 (by omega), f8.2.2 _ (by omega), f7.2.2 _ (by omega)]; exact v6 z6
    · rw [f9.1 349 (by omega), f8.2.2 _ (by omega)]; exact v7 z7
    · rw [f9.1 349 (by omega)]; exact v8 z8
