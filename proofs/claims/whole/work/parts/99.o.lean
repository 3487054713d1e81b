/-- the reference's load, up to the take-over -/
def FLd (N N' : Nat → Nat → Int32) : Prop := (∀ a, a ≠ 336 → a ≠ 349 → a ≠ 350 → N' a = N a) ∧ (∀ k, k < 4 ∨ (4 < k ∧ k < 16) ∨ 25 < k → N' 336 k = N 336 k) ∧ N' 336 16 = 0
theorem RS_24 {N : Nat → Nat → Int32} {t : Nat → Nat} {len i : Nat} {x : Int32} {X : Option (Nat × Nat)} (h : RS N t len X i) : RS (st N 336 24 x) t len X i := by
  cases X with
  | none =>
    unfold RS QB at h ⊢
    simp (disch := omega) only [st_slot, st_cell]
    exact h
  | some e =>
    unfold RS at h ⊢
    simp (disch := omega) only [st_slot]
    exact h
theorem rk_0 {k : Nat} (hk : k ≤ 5) : (nI (rk k) = 0) = (k = 0) := by
  unfold rk
  by_cases h : k = 5
  · rw [if_pos h]
    exact propext ⟨fun q => absurd ((nI_eq (a := 1) (b := 0) (by omega) (by omega)).mp q) (by omega), fun q => by omega⟩
  · rw [if_neg h]
    exact propext (nI_eq (b := 0) (by omega) (by omega))
theorem r_loopd {N : Nat → Nat → Int32} {r : Int64 × UInt64} {F : Nat} (h : N 336 22 ≠ 0) : lp_X10_load_76 336 (F + 1) (mw N r) = some (mw N r) := by
  rw [lp_X10_load_76, r_isw1 h, e_b, if_pos rfl]
def ldU (q18 : MW) : Option (Int32 × MW) := hz_b (f_X10_isFine 336 q18) (fun v20 w19 => Option.bind ((if v20 = 0 then some w19 else (if (w19.1 336 25) = 0 then hz_bv (f_X10_fail 336 1 w19) (fun w25 => some w25) else (if (w19.1 336 20) = 0 then some w19 else hz_bv (f_X10_fail 336 1 w19) (fun w26 => some w26))))) (fun q21 : MW => hz_b (f_X10_isFine 336 q21) (fun v23 w22 => (if v23 = 0 then some (((-10) - (w22.1 336 22)), w22) else hz_bv (f_X10_takeOver 336 w22) (fun w24 => some ((w24.1 336 5), w24))))))
theorem ldU_d {N : Nat → Nat → Int32} {r : Int64 × UInt64} (h : N 336 22 ≠ 0) : ldU (mw N r) = some ((-10) - N 336 22, mw N r) := by
  unfold ldU
  rw [g_fi1 h, e_b, if_pos rfl, e_bd, g_fi1 h, e_b, if_pos rfl, mw_1]
theorem ldU_f {N N1 : Nat → Nat → Int32} {r : Int64 × UInt64} (h : N 336 22 = 0) (hc : N 336 25 = 0 ∨ N 336 20 ≠ 0) (hf : f_X10_fail 336 1 (mw N r) = some (mw N1 r)) (h1 : N1 336 22 ≠ 0) : ldU (mw N r) = some ((-10) - N1 336 22, mw N1 r) := by
  unfold ldU
  rw [g_fi0 h, e_b, if_neg (by decide), mw_1, hf, e_bv]
  have hx : (if N 336 25 = 0 then some (mw N1 r) else if N 336 20 = 0 then some (mw N r) else some (mw N1 r)) = some (mw N1 r) := by
    by_cases c : N 336 25 = 0
    · rw [if_pos c]
    · rw [if_neg c, if_neg (hc.resolve_left c)]
  rw [hx, e_bd, g_fi1 h1, e_b, if_pos rfl, mw_1]
theorem ldU_o {N : Nat → Nat → Int32} {r : Int64 × UInt64} (h : N 336 22 = 0) (h25 : N 336 25 ≠ 0) (h20 : N 336 20 = 0) : ldU (mw N r) = hz_bv (f_X10_takeOver 336 (mw N r)) (fun w24 => some ((w24.1 336 5), w24)) := by
  unfold ldU
  rw [g_fi0 h, e_b, if_neg (by decide), mw_1, if_neg h25, if_pos h20, e_bd, g_fi0 h, e_b, if_neg (by decide)]
theorem ld_hd {N : Nat → Nat → Int32} {r : Int64 × UInt64} {t : Nat → Nat} {len : Nat} (h5 : len ≤ 500) (h16 : N 336 16 = nI len) (hb : ∀ i, i < len → t i < 256 ∧ N 348 i = nI (t i)) : ∃ N5, f_X10_load 336 (mw N r) = Option.bind (lp_X10_load_76 336 3000 (mw N5 r)) ldU ∧ RS N5 t len (sysX t len) 3 ∧ (sysX t len = none → N5 336 24 = nI (VV t len 1)) ∧ N5 336 25 = nI 0 ∧ FLd N N5 := by
  obtain ⟨N0, g0, x0, f0⟩ := r_head (N := N) (r := r) h5 hb
  have hw : f_X10_isWord 336 12 (mw N0 r) = some (bI (WW t len 1 0), mw N0 r) := r_isw0 (c := 12) (by omega) x0
  have hword : ∃ N1, (if bI (WW t len 1 0) = 0 then hz_bv (f_X10_fail 336 1 (mw N0 r)) (fun w30 => some w30) else some (mw N0 r)) = some (mw N1 r) ∧ RS N1 t len (stp none (wrdE t len 1 0) 0) 0 ∧ FR N0 N1 := by
    cases hq : WW t len 1 0 with
    | true =>
      refine ⟨N0, if_neg (by decide), ?_, FR_r⟩
      unfold wrdE
      rw [if_pos hq, stp_0]
      exact x0
    | false =>
      obtain ⟨N1, k1, k2, k3⟩ := r_fail (r := r) (x := 1) (c := 1) x0 rfl (by omega) (by omega)
      refine ⟨N1, ?_, ?_, k3⟩
      · rw [if_pos (by rfl), k1]
        rfl
      · unfold wrdE
        rw [if_neg (by rw [hq]; decide)]
        exact k2
  obtain ⟨N1, g1, x1, f1⟩ := hword
  obtain ⟨N2, g2, x2, f2⟩ := r_next (r := r) x1
  obtain ⟨v3, N3, g3, x3, f3, y3⟩ := r_read (r := r) (x := 0) (y := 9999) (lo := 0) (hi := 9999) rfl rfl (by omega) (by omega) x2
  have x4 := RS_24 (x := v3) x3
  obtain ⟨N5, g5, x5, f5⟩ := r_sem (r := r) x4
  have hsx : stp (stp (stp none (wrdE t len 1 0) 0) (numE t len 1 0 9999) 1) (semE t len 2) 2 = sysX t len := by
    unfold sysX
    rw [stp_sq (stp (stp none _ _) _ _), stp_sq (stp none _ _), sq_a]
  have x5' : RS N5 t len (sysX t len) 3 := by rw [← hsx]; exact x5
  have hfr : ∀ k, k < 18 ∨ 24 < k → N5 336 k = lM N len 336 k := fun k hk => by
    rw [f5.2 k (by omega), st_slot (by omega), f3.2 k (by omega), f2.2 k (by omega), f1.2 k (by omega), f0.2 k (by omega)]
  have hm : ∀ k, k < 4 ∨ (4 < k ∧ k < 16) ∨ 25 < k → lM N len 336 k = N 336 k := fun k hk => by
    unfold lM
    simp (disch := omega) only [st_slot]
  refine ⟨N5, ?_, x5', fun z => ?_, ?_, ⟨fun a q1 _ _ => ?_, fun k hk => ?_, ?_⟩⟩
  · unfold lM at g0
    unfold f_X10_load
    rw [GR]
    simp (disch := omega) only [e_let, mw_pn, mw_1, st_slot, h16]
    rw [g0, e_bv, hw, e_b, g1, e_bd, g2, e_bv, g3, e_b, mw_pn, g5, e_bv]
    rfl
  · rw [f5.2 24 (by omega), st_self]
    rw [← hsx] at z
    exact y3 (stp_nz z).1
  · rw [hfr 25 (by omega)]
    unfold lM
    rw [st_self]
    rfl
  · rw [f5.1 a q1, st_cell q1, f3.1 a q1, f2.1 a q1, f1.1 a q1, f0.1 a q1]
    unfold lM
    simp (disch := omega) only [st_cell]
  · rw [hfr k (by omega), hm k hk]
  · rw [hfr 16 (by omega)]
    unfold lM
    simp (disch := omega) only [st_slot, st_self]
theorem FLd_M {N N1 N2 : Nat → Nat → Int32} (h : FLd N N1) (h2 : FM N1 N2) : FLd N N2 := ⟨fun a q1 q2 q3 => (h2.1 a q1 q2 q3).trans (h.1 a q1 q2 q3), fun k hk => (h2.2 k (by omega)).trans (h.2.1 k hk), (h2.2 16 (by omega)).trans h.2.2⟩
theorem FLd_R {N N1 N2 : Nat → Nat → Int32} (h : FLd N N1) (h2 : FR N1 N2) : FLd N N2 := ⟨fun a q1 q2 q3 => (h2.1 a q1).trans (h.1 a q1 q2 q3), fun k hk => (h2.2 k (by omega)).trans (h.2.1 k hk), (h2.2 16 (by omega)).trans h.2.2⟩
theorem r_load {N : Nat → Nat → Int32} {r : Int64 × UInt64} {t : Nat → Nat} {len : Nat} (h5 : len ≤ 500) (h16 : N 336 16 = nI len) (hb : ∀ i, i < len → t i < 256 ∧ N 348 i = nI (t i)) : (∃ e N', prX t len = some e ∧ f_X10_load 336 (mw N r) = some ((-10) - nI e.1, mw N' r) ∧ FLd N N' ∧ N' 336 23 = nI (SS t len e.2)) ∨ (prX t len = none ∧ ∃ N', f_X10_load 336 (mw N r) = hz_bv (f_X10_takeOver 336 (mw N' r)) (fun w24 => some ((w24.1 336 5), w24)) ∧ FLd N N' ∧ N' 336 23 = -1 ∧ N' 336 24 = nI (VV t len 1) ∧ N' 336 25 = nI (dmR t len 4 0).2 ∧ ∀ e, e < (dmR t len 4 0).2 → QD N' t len e) := by
  obtain ⟨N5, g5, x5, v5, k5, f5⟩ := ld_hd (r := r) h5 h16 hb
  rw [g5]
  unfold prX
  cases hs : sysX t len with
  | some e =>
    rw [hs] at x5
    have h2 := RS_n22 x5
    refine .inl ⟨e, N5, rfl, ?_, f5, x5.2.2.2⟩
    rw [r_loopd h2, e_bd, ldU_d h2, show N5 336 22 = nI e.1 from x5.2.2.1]
  | none =>
    rw [hs] at x5
    have hY : dmY t len 4 0 = dmR t len 4 0 := if_neg (fun q => q.1 rfl)
    obtain ⟨N6, g6, f6, c6⟩ := r_loop (r := r) 4 0 3000 N5 (by omega) (by omega) k5 x5 (fun e he => absurd he (Nat.not_lt_zero e))
    rw [hY] at c6
    have hsn : sq (none : Option (Nat × Nat)) (dmR t len 4 0).1 = (dmR t len 4 0).1 := rfl
    rw [hsn, g6, e_bd]
    rcases c6 with ⟨e, he, x6⟩ | ⟨d', hd4, x6, k6, q6, a6, b6⟩
    · have h2 := RS_n22 x6
      refine .inl ⟨e, N6, he, ?_, FLd_M f5 f6, x6.2.2.2⟩
      rw [ldU_d h2, show N6 336 22 = nI e.1 from x6.2.2.1]
    · have hk := KK_le (t := t) (len := len) (i := ds t len d')
      have h22 : N6 336 22 = 0 := x6.2.1
      have h20 : N6 336 20 = nI (rk (KK t len (ds t len d'))) := x6.2.2.1
      have e25 : (nI d' = 0) = (d' = 0) := propext (nI_eq (b := 0) (by omega) (by omega))
      by_cases c : d' ≠ 0 ∧ KK t len (ds t len d') = 0
      · have hd := b6 c
        rw [hd]
        refine .inr ⟨rfl, N6, ?_, FLd_M f5 f6, x6.2.2.2.2.2.2, ?_, k6, q6⟩
        · exact ldU_o h22 (by rw [k6]; exact fun q => c.1 (e25.mp q)) (by rw [h20]; exact (rk_0 hk).mpr c.2)
        · rw [f6.2 24 (by omega)]
          exact v5 hs
      · have hd := a6 (by
          by_cases q : d' = 0
          · exact .inl q
          · exact .inr (fun z => c ⟨q, z⟩))
        obtain ⟨N7, g7, x7, f7⟩ := r_fail (r := r) (x := 1) (c := 1) x6 rfl (by omega) (by omega)
        have x7' : RS N7 t len (some (1, ds t len d')) 0 := x7
        refine .inl ⟨(1, ds t len d'), N7, hd, ?_, FLd_R (FLd_M f5 f6) f7, x7'.2.2.2⟩
        rw [ldU_f h22 (by
          by_cases q : d' = 0
          · exact .inl (by rw [k6]; exact e25.mpr q)
          · exact .inr (by rw [h20]; exact fun z => c ⟨q, (rk_0 hk).mp z⟩)) g7 (RS_n22 x7'), show N7 336 22 = nI 1 from x7'.2.2.1]
