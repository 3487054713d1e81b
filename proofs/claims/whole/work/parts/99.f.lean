/-- the whole text, class -/
def ds (t : Nat → Nat) (len : Nat) : Nat → Nat
  | 0 => 3
  | d + 1 => (lvR t len 5 (ds t len d + 10) 0 0).2.2
def cn (t : Nat → Nat) (len d : Nat) : Nat := (lvR t len 5 (ds t len d + 10) 0 0).2.1
def dE (t : Nat → Nat) (len d : Nat) : Option (Nat × Nat) := sq (hdX t len (ds t len d)) (lvR t len 5 (ds t len d + 10) 0 0).1
def dmR (t : Nat → Nat) (len : Nat) : Nat → Nat → Option (Nat × Nat) × Nat
  | 0, d => (some (if WW t len 0 (ds t len d) = true then 3 else 1, ds t len d), d)
  | m + 1, d => match dE t len d with
    | some e => (some e, d)
    | none => if KK t len (ds t len (d + 1)) = 0 then (none, d + 1) else dmR t len m (d + 1)
def sysX (t : Nat → Nat) (len : Nat) : Option (Nat × Nat) := sq (stp none (wrdE t len 1 0) 0) (sq (stp none (numE t len 1 0 9999) 1) (stp none (semE t len 2) 2))
def DCd (N : Nat → Nat → Int32) (t : Nat → Nat) (len d : Nat) : Prop := N 5 d = nI (VV t len (ds t len d + 1)) ∧ N 6 d = nI (VV t len (ds t len d + 2)) ∧ N 7 d = nI (VV t len (ds t len d + 3)) ∧ N 8 d = nI (VV t len (ds t len d + 4)) ∧ N 9 d = nI (VV t len (ds t len d + 5)) ∧ N 10 d = nI (mnS (cn t len d - 1) (VV t len (ds t len d + 6))) ∧ N 11 d = nI (VV t len (ds t len d + 7)) ∧ N 12 d = nI (polV t len (ds t len d + 8)) ∧ N 13 d = nI (cn t len d) ∧ (1 ≤ cn t len d ∧ cn t len d ≤ 5) ∧ ∀ n, n < cn t len d → N 14 (d * 5 + n) = nI (VV t len (ds t len d + 10 + 4 * n + 1)) ∧ N 15 (d * 5 + n) = nI (VV t len (ds t len d + 10 + 4 * n + 2))
theorem DCd_x {N N' : Nat → Nat → Int32} {t : Nat → Nat} {len d d' : Nat} (hf : FD d' N N') (hd : d ≠ d') (h : DCd N t len d) : DCd N' t len d := by
  obtain ⟨h1, h2, h3, h4, h5, h6, h7, h8, h9, h10, h11⟩ := h
  have e : ∀ a, 5 ≤ a → a ≤ 13 → N' a d = N a d := fun a q1 q2 => hf.2.1 a d q1 q2 hd
  refine ⟨by rw [e 5 (by omega) (by omega)]; exact h1, by rw [e 6 (by omega) (by omega)]; exact h2, by rw [e 7 (by omega) (by omega)]; exact h3, by rw [e 8 (by omega) (by omega)]; exact h4, by rw [e 9 (by omega) (by omega)]; exact h5, by rw [e 10 (by omega) (by omega)]; exact h6, by rw [e 11 (by omega) (by omega)]; exact h7, by rw [e 12 (by omega) (by omega)]; exact h8, by rw [e 13 (by omega) (by omega)]; exact h9, h10, fun n hn => ?_⟩
  rw [hf.2.2 14 _ (.inl rfl) (by omega), hf.2.2 15 _ (.inr rfl) (by omega)]
  exact h11 n hn
theorem DCd_w {N : Nat → Nat → Int32} {t : Nat → Nat} {len d a k : Nat} {x : Int32} (ha : a < 5 ∨ 15 < a) (h : DCd N t len d) : DCd (st N a k x) t len d := by
  unfold DCd at h ⊢
  simp (disch := omega) only [st_cell]
  exact h
theorem c_one {N : Nat → Nat → Int32} {r : Int64 × UInt64} {t : Nat → Nat} {len d : Nat} {K : MW → Option (Int32 × MW)} (hd : d < 4) (h : PC N t len (ds t len d)) : ∃ N', hz_b (f_X5_readDomain 3 (nI d) (mw N r)) (fun v14 w13 => (if v14 = 0 then hz_gd (hz_isb 0) (some (0, w13)) else hz_b (f_X5_readLevels 3 (nI d) w13) (fun v16 w15 => (if v16 = 0 then hz_gd (hz_isb 0) (some (0, w15)) else K w15)))) = (if (dE t len d).isNone = true then K (mw N' r) else some (0, mw N' r)) ∧ FD d N N' ∧ CX N' t len (dE t len d) (ds t len (d + 1)) ∧ (dE t len d = none → DCd N' t len d) := by
  obtain ⟨N1, g1, f1, z1, x1, v1⟩ := c_dom (r := r) hd h
  unfold dE
  cases c1 : hdX t len (ds t len d) with
  | some e =>
    rw [c1] at g1 x1
    refine ⟨N1, ?_, f1, x1, fun z => by cases z⟩
    simp only [g1, Option.isNone, bI_f, e_b, if_true, e_isb0, sq]
    rfl
  | none =>
    have D1 := v1 c1
    rw [c1] at g1 x1
    have h6 : VV t len (ds t len d + 6) ≤ 99999 := by
      refine VV_le ?_
      refine Decidable.byContradiction fun q => ?_
      have hn : numE t len (ds t len d + 5 + 1) 0 4 ≠ 0 := by
        unfold numE
        rw [if_neg q]
        omega
      rw [hX_d] at c1
      cases y0 : stp none (wrdE t len 0 (ds t len d)) (ds t len d) with
      | some e => rw [y0] at c1; cases c1
      | none =>
        rw [y0] at c1
        cases y1 : hX t len (ds t len d + 1) with
        | some e => rw [y1] at c1; cases c1
        | none =>
          rw [y1] at c1
          have y2 : ∃ e, pX t len (ds t len d + 5) = some e := by
            unfold pX
            cases y3 : stp none (numE t len (ds t len d + 5) 0 99) (ds t len d + 5) with
            | some e => exact ⟨e, rfl⟩
            | none => exact ⟨_, by rw [stp_n hn]; rfl⟩
          obtain ⟨e, y2⟩ := y2
          rw [y2] at c1
          cases c1
    obtain ⟨N2, g2, f2, l2, x2, v2⟩ := c_lvs (r := r) (s0 := VV t len (ds t len d + 6)) hd h6 5 0 (ds t len d + 10) 0 3000 N1 (by omega) (by omega) (by omega) (fun _ => rfl) (fun q => absurd rfl q) D1.2.2.2.2.2.1 x1
    have g2' : f_X5_readLevels 3 (nI d) (mw N1 r) = some (bI (lvR t len 5 (ds t len d + 10) 0 0).1.isNone, mw N2 r) := by
      unfold f_X5_readLevels
      rw [P3.1]
      exact g2
    have hs : sq (none : Option (Nat × Nat)) (lvR t len 5 (ds t len d + 10) 0 0).1 = (lvR t len 5 (ds t len d + 10) 0 0).1 := rfl
    rw [hs]
    refine ⟨N2, ?_, FD_t f1 f2, x2, fun z => ?_⟩
    · simp only [g1, Option.isNone, bI_t, i10, if_false, e_b, g2']
      cases (lvR t len 5 (ds t len d + 10) 0 0).1 with
      | some e => simp only [bI_f, if_true, e_isb0]; rfl
      | none => simp only [bI_t, i10, if_false]; rfl
    · obtain ⟨y1, y2, y3, y4, y5, y6⟩ := v2 z
      have e : ∀ a, 5 ≤ a → a ≤ 12 → a ≠ 10 → N2 a = N1 a := fun a q1 q2 q3 => l2.1 a (by omega) (by omega) q3 (by omega) (by omega) (by omega)
      obtain ⟨w1, w2, w3, w4, w5, w6, w7, w8⟩ := D1
      refine ⟨by rw [e 5 (by omega) (by omega) (by omega)]; exact w1, by rw [e 6 (by omega) (by omega) (by omega)]; exact w2, by rw [e 7 (by omega) (by omega) (by omega)]; exact w3, by rw [e 8 (by omega) (by omega) (by omega)]; exact w4, by rw [e 9 (by omega) (by omega) (by omega)]; exact w5, y5, by rw [e 11 (by omega) (by omega) (by omega)]; exact w7, by rw [e 12 (by omega) (by omega) (by omega)]; exact w8, y4, ⟨y2, y3⟩, fun n hn => y6 n (by omega) hn⟩
def FP (N N' : Nat → Nat → Int32) : Prop := (∀ a, a ≠ 3 → a ≠ 16 → (a < 4 ∨ 15 < a) → N' a = N a) ∧ ∀ k, k ≠ 1 → N' 4 k = N 4 k
theorem FP_D {d : Nat} {N N' : Nat → Nat → Int32} (h : FD d N N') : FP N N' := ⟨fun a q1 q2 q3 => h.1 a q1 q2 (by omega), fun k _ => by rw [h.1 4 (by omega) (by omega) (by omega)]⟩
theorem FP_t {N N1 N2 : Nat → Nat → Int32} (h : FP N N1) (h2 : FP N1 N2) : FP N N2 := ⟨fun a q1 q2 q3 => (h2.1 a q1 q2 q3).trans (h.1 a q1 q2 q3), fun k q => (h2.2 k q).trans (h.2 k q)⟩
theorem c_par {r : Int64 × UInt64} {t : Nat → Nat} {len : Nat} : ∀ m d F (N : Nat → Nat → Int32), d + m = 4 → m + 1 < F → PC N t len (ds t len d) → (∀ e, e < d → DCd N t len e) → ∃ N', lp_X5_parseText_28 3 F (nI d, mw N r) = some (bI (dmR t len m d).1.isNone, mw N' r) ∧ FP N N' ∧ (∀ e, (dmR t len m d).1 = some e → e.1 ≠ 0 ∧ ER N' t len e.1 e.2) ∧ ((dmR t len m d).1 = none → N' 4 1 = nI (dmR t len m d).2 ∧ 1 ≤ (dmR t len m d).2 ∧ (dmR t len m d).2 ≤ 4 ∧ (∀ e, e < (dmR t len m d).2 → DCd N' t len e) ∧ N' 3 2 = -1) := by
  intro m
  induction m with
  | zero =>
    intro d F N hm hF h hD
    obtain ⟨G, rfl⟩ := F_succ hF
    have hd4 : d = 4 := by omega
    subst hd4
    have hw := c_isw (r := r) (c := 0) (by omega) h
    rw [lp_X5_parseText_28, dmR]
    simp only [show ((4 : Int32) ≤ nI 4) = True from eq_true (by decide), if_true, PX, hw, e_b]
    cases hq : WW t len 0 (ds t len 4) with
    | true =>
      obtain ⟨N', g1, g2, g3, g4⟩ := c_fail (r := r) (x := 3) (c := 3) h rfl (by omega)
      refine ⟨N', ?_, FP_D (d := 0) (FD_S g2), fun e z => ?_, fun z => by cases z⟩
      · simp only [bI_t, i10, if_false, e_bd, g1, e_b, e_isb0]
        rfl
      · cases z
        exact ⟨show (3 : Nat) ≠ 0 by omega, g4 (by omega)⟩
    | false =>
      obtain ⟨N', g1, g2, g3, g4⟩ := c_fail (r := r) (x := 1) (c := 1) h rfl (by omega)
      refine ⟨N', ?_, FP_D (d := 0) (FD_S g2), fun e z => ?_, fun z => by cases z⟩
      · simp only [bI_f, if_true, e_bd, g1, e_b, e_isb0]
        rfl
      · cases z
        exact ⟨show (1 : Nat) ≠ 0 by omega, g4 (by omega)⟩
  | succ m ih =>
    intro d F N hm hF h hD
    obtain ⟨G, rfl⟩ := F_succ hF
    have e4 : ((4 : Int32) ≤ nI d) = False := eq_false (fun q => absurd ((nI_leI (a := 4) (by omega) (by omega)).mp q) (by omega))
    rw [lp_X5_parseText_28]
    simp only [e4, if_false]
    obtain ⟨N1, g1, f1, x1, v1⟩ := c_one (r := r) (d := d) (K := fun w15 => hz_ldp w15 3 0 358 3 (fun b17 => hz_let (hz_pn w15 b17 1 (nI d + 1)) (fun w18 => hz_ldp w18 3 3 358 8 (fun b19 => (if (w18.1 b19 1) = 0 then hz_gd (hz_isb 1) (some (1, w18)) else hz_let (nI d + Int32.ofInt 1) (fun v20 => lp_X5_parseText_28 3 G (v20, w18))))))) (by omega) h
    rw [g1, dmR]
    cases c1 : dE t len d with
    | some e =>
      rw [c1] at x1
      exact ⟨N1, rfl, FP_D f1, fun e z => by cases z; exact x1, fun z => by cases z⟩
    | none =>
      have D1 := v1 c1
      rw [c1] at x1
      have hk := KK_le (t := t) (len := len) (i := ds t len (d + 1))
      have x2 : PC (st N1 4 1 (nI (d + 1))) t len (ds t len (d + 1)) := PC_s (by omega) (by omega) x1
      have hfp : FP N (st N1 4 1 (nI (d + 1))) := FP_t (FP_D f1) ⟨fun a _ _ q => st_cell (by omega), fun k q => st_slot q⟩
      have hDD : ∀ e, e < d + 1 → DCd (st N1 4 1 (nI (d + 1))) t len e := by
        intro e he
        refine DCd_w (by omega) ?_
        by_cases q : e = d
        · rw [q]
          exact D1
        · exact DCd_x f1 q (hD e (by omega))
      have k0 : (nI (KK t len (ds t len (d + 1))) = 0) = (KK t len (ds t len (d + 1)) = 0) := propext (nI_eq (b := 0) (by omega) (by omega))
      simp (disch := omega) only [Option.isNone, if_true, PX, e_let, mw_pn, mw_1, nI_p1, x2.2.1, k0, nI_1', e_isb1]
      by_cases c2 : KK t len (ds t len (d + 1)) = 0
      · rw [if_pos c2, if_pos c2]
        exact ⟨_, rfl, hfp, fun e z => (by cases z), fun _ => ⟨st_self _ _ _ _, show 1 ≤ d + 1 by omega, show d + 1 ≤ 4 by omega, hDD, x2.2.2.2.2⟩⟩
      · rw [if_neg c2, if_neg c2]
        obtain ⟨N', k1, k2, k3, k4⟩ := ih (d + 1) G (st N1 4 1 (nI (d + 1))) (by omega) (by omega) x2 hDD
        exact ⟨N', k1, FP_t hfp k2, k3, k4⟩
