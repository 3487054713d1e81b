/-- a domain, reference -/
def F9 (q : Nat) (N N' : Nat → Nat → Int32) : Prop := (∀ a, a ≠ 336 → a ≠ 349 → N' a = N a) ∧ (∀ k, k < 18 ∨ 23 < k → N' 336 k = N 336 k) ∧ ∀ k, k ≠ q → N' 349 k = N 349 k
theorem r_rs {N : Nat → Nat → Int32} {r : Int64 × UInt64} {t : Nat → Nat} {len i lo hi q : Nat} {x y : Int32} {X : Option (Nat × Nat)} (hx : x = nI lo) (hy : y = nI hi) (hlo : lo < 2 ^ 31) (hhi : hi < 2 ^ 31) (hq : q < 36) (h : RS N t len X i) : ∃ N', (∀ (K : MW → Option MW), hz_ldp (mw N r) 336 26 358 20 (fun b6 => hz_b (f_X10_read 336 x y (mw N r)) (fun v8 w7 => hz_sta w7 b6 (nI q) v8 K)) = K (mw N' r)) ∧ RS N' t len (stp X (numE t len i lo hi) i) (i + 1) ∧ F9 q N N' ∧ (stp X (numE t len i lo hi) i = none → N' 349 q = nI (VV t len i)) := by
  obtain ⟨v, N1, g1, g2, g3, g4⟩ := r_read (r := r) hx hy hlo hhi h
  refine ⟨st N1 349 q v, fun K => ?_, RS_s (by omega) (by omega) g2, ⟨fun a q1 q2 => by rw [st_cell q2, g3.1 a q1], fun k hk => by rw [st_cell (by omega), g3.2 k hk], fun k hk => by rw [st_slot hk, g3.1 349 (by omega)]⟩, fun z => by rw [st_self]; exact g4 z⟩
  simp (disch := omega) only [PR, g1, e_b, AR]
def pvR (t : Nat → Nat) (len : Nat) (X : Option (Nat × Nat)) (i : Nat) : Int32 := match X with
  | none => if polV t len i = 4 then -1 else nI (polV t len i)
  | some _ => -1
theorem r_pol {N : Nat → Nat → Int32} {r : Int64 × UInt64} {t : Nat → Nat} {len i : Nat} {X : Option (Nat × Nat)} (h : RS N t len X i) : f_X10_policyHere 336 (mw N r) = some (pvR t len X i, mw N r) := by
  cases X with
  | some e =>
    have h2 := RS_n22 h
    simp only [f_X10_policyHere, PR, r_isw1 h2, e_b, if_true, e_bd]
    rfl
  | none =>
    have w2 : f_X10_isWord 336 7 (mw N r) = some (bI (WW t len 2 i), mw N r) := r_isw0 (c := 7) (by omega) h
    have w3 : f_X10_isWord 336 8 (mw N r) = some (bI (WW t len 3 i), mw N r) := r_isw0 (c := 8) (by omega) h
    have w4 : f_X10_isWord 336 9 (mw N r) = some (bI (WW t len 4 i), mw N r) := r_isw0 (c := 9) (by omega) h
    have w5 : f_X10_isWord 336 10 (mw N r) = some (bI (WW t len 5 i), mw N r) := r_isw0 (c := 10) (by omega) h
    simp only [f_X10_policyHere, PR, w2, w3, w4, w5, e_b]
    show _ = some ((if polV t len i = 4 then -1 else nI (polV t len i)), mw N r)
    by_cases h2 : WW t len 2 i = true
    · have hp : polV t len i = 0 := by unfold polV; rw [if_pos h2]
      rw [hp, h2]
      rfl
    · by_cases h3 : WW t len 3 i = true
      · have hp : polV t len i = 1 := by unfold polV; rw [if_neg h2, if_pos h3]
        rw [hp, Bool.eq_false_iff.mpr h2, h3]
        rfl
      · by_cases h4 : WW t len 4 i = true
        · have hp : polV t len i = 2 := by unfold polV; rw [if_neg h2, if_neg h3, if_pos h4]
          rw [hp, Bool.eq_false_iff.mpr h2, Bool.eq_false_iff.mpr h3, h4]
          rfl
        · by_cases h5 : WW t len 5 i = true
          · have hp : polV t len i = 3 := by unfold polV; rw [if_neg h2, if_neg h3, if_neg h4, if_pos h5]
            rw [hp, Bool.eq_false_iff.mpr h2, Bool.eq_false_iff.mpr h3, Bool.eq_false_iff.mpr h4, h5]
            rfl
          · have hp : polV t len i = 4 := by unfold polV; rw [if_neg h2, if_neg h3, if_neg h4, if_neg h5]
            rw [hp, Bool.eq_false_iff.mpr h2, Bool.eq_false_iff.mpr h3, Bool.eq_false_iff.mpr h4, Bool.eq_false_iff.mpr h5]
            rfl
/-- the policy, as the reference takes it -/
theorem r_pl {N : Nat → Nat → Int32} {r : Int64 × UInt64} {t : Nat → Nat} {len i q : Nat} {X : Option (Nat × Nat)} (hq : q < 36) (h : RS N t len X i) : ∃ N', (∀ (K : MW → Option MW), hz_ldp (mw N r) 336 26 358 20 (fun b34 => hz_b (f_X10_policyHere 336 (mw N r)) (fun v36 w35 => hz_sta w35 b34 (nI q) v36 (fun w37 => hz_ldp w37 336 26 358 20 (fun b38 => hz_lda w37 b38 (nI q) (fun v39 => Option.bind ((if 0 ≤ v39 then some w37 else hz_bv (f_X10_fail 336 1 w37) (fun w45 => some w45))) (fun q40 : MW => hz_bv (f_X10_next 336 q40) K)))))) = K (mw N' r)) ∧ RS N' t len (stp X (polE t len i) i) (i + 1) ∧ F9 q N N' ∧ (stp X (polE t len i) i = none → N' 349 q = nI (polV t len i)) := by
  have h1 : RS (st N 349 q (pvR t len X i)) t len X i := RS_s (by omega) (by omega) h
  have fin : ∀ M, FR (st N 349 q (pvR t len X i)) M → F9 q N M := fun M hM => ⟨fun a q1 q2 => by rw [hM.1 a q1, st_cell q2], fun k hk => by rw [hM.2 k hk, st_cell (by omega)], fun k hk => by rw [hM.1 349 (by omega), st_slot hk]⟩
  by_cases c : X = none ∧ polV t len i ≠ 4
  · obtain ⟨rfl, c4⟩ := c
    have hp4 : polV t len i < 4 := by
      unfold polV at c4 ⊢
      repeat' split
      all_goals first | omega | (simp_all)
    have hpv : pvR t len none i = nI (polV t len i) := if_neg c4
    have hE : polE t len i = 0 := if_neg c4
    obtain ⟨N', g1, g2, g3⟩ := r_next (r := r) h1
    refine ⟨N', fun K => ?_, by rw [stp_z hE]; exact g2, fin N' g3, fun _ => by rw [g3.1 349 (by omega), st_self, hpv]⟩
    have hle : (0 : Int32) ≤ pvR t len none i := by rw [hpv]; exact nI_pos' (by omega)
    simp (disch := omega) only [PR, r_pol h, e_b, AR, st_self, hle, if_true, e_bd, g1, e_bv]
  · have hpv : pvR t len X i = -1 := by
      cases X with
      | some e => rfl
      | none => exact if_pos (Decidable.byContradiction fun q => c ⟨rfl, q⟩)
    have hst : stp X (polE t len i) i = stp X 1 i := by
      cases X with
      | some e => rfl
      | none =>
        have : polV t len i = 4 := Decidable.byContradiction fun q => c ⟨rfl, q⟩
        unfold polE
        rw [if_pos this]
    obtain ⟨N1, k1, k2, k3⟩ := r_fail (r := r) (x := 1) (c := 1) h1 rfl (by omega) (by omega)
    obtain ⟨N', g1, g2, g3⟩ := r_next (r := r) k2
    refine ⟨N', fun K => ?_, by rw [hst]; exact g2, fin N' (FR_t k3 g3), fun z => ?_⟩
    · have hle : ((0 : Int32) ≤ pvR t len X i) = False := eq_false (by rw [hpv]; decide)
      simp (disch := omega) only [PR, r_pol h, e_b, AR, st_self, hle, if_false, k1, e_bd, g1, e_bv]
    · obtain ⟨e, he⟩ := stp_s (X := X) (c := 1) (i := i) (by omega)
      rw [hst, he] at z
      cases z
