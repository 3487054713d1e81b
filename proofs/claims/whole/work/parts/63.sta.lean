def asgA (A : AS) (d cs : Nat) : AS := assA d cs 0 (relA A d (goN A d (bzA (coA A d) cs)))
def staA (A : AS) (d cs : Nat) : AS := if bzA (coA A d) cs = 0 ∧ 0 < bzA (coA (asgA A d cs) d) cs then up (up (asgA A d cs) 19 d (bzA (coA (asgA A d cs) d) cs)) 18 d (asgA A d cs 18 d + 1) else up (asgA A d cs) 19 d (bzA (coA (asgA A d cs) d) cs)
theorem coA_up {A : AS} {k i x d : Nat} (h : k < 40) : coA (up A k i x) d = coA A d := by
  funext e
  unfold coA
  rw [up_k (by omega)]
theorem Inv_asg {D d T : Nat} {su : Nat → Nat → Nat} {A : AS} (hd : d < D) (hD : D ≤ 4) (hi : Inv D su T A) : Inv D su T (asgA A d (su 0 d)) :=
  Inv_ass hd hD _ 0 _ (by omega) (Inv_rel hi)
theorem Inv_cnt {D q i x T : Nat} {su : Nat → Nat → Nat} {A : AS} (hq : q = 13 ∨ q = 14 ∨ (16 ≤ q ∧ q < 20) ∨ q = 31) (hi : Inv D su T A) : Inv D su T (up A q i x) := by
  obtain ⟨⟨i1, i2, i3⟩, i4, i5, i6, i7, i8⟩ := hi
  unfold Inv
  simp (disch := omega) only [up_k]
  exact ⟨⟨i1, i2, i3⟩, i4, i5, i6, i7, i8⟩
theorem Inv_sta {D d T : Nat} {su : Nat → Nat → Nat} {A : AS} (hd : d < D) (hD : D ≤ 4) (hi : Inv D su T A) : Inv D su T (staA A d (su 0 d)) := by
  unfold staA
  split
  · exact Inv_cnt (by omega) (Inv_cnt (by omega) (Inv_asg hd hD hi))
  · exact Inv_cnt (by omega) (Inv_asg hd hD hi)
theorem sta_19 (A : AS) (d cs : Nat) : staA A d cs 19 d = bzA (coA (staA A d cs) d) cs := by
  unfold staA
  split
  · rw [up_k (by omega), up_self, coA_up (by omega), coA_up (by omega)]
  · rw [up_self, coA_up (by omega)]
theorem sta_C {C : Nat → Nat → Int32} {r : Int64 × UInt64} {b D d T : Nat} {su : Nat → Nat → Nat} {A : AS} (hb : b ∈ bL) (hs : SUC C D su) (hB : SUB D su) (h : RC C b D A) (hi : Inv D su T A) (hT : T < 2 ^ 29) (hd : d < D) : ∃ C', f_X3_startJobs b (nI d) (mw C r) = some (mw C' r) ∧ RC C' b D (staA A d (su 0 d)) ∧ FC b C C' := by
  have hD := hB.2.1
  have hB2 := hB.2.2 d hd
  have hc1 := g_busyC (r := r) (DC_of hb hs hB h hi hT hd)
  have hz4 := bzA_le (coA A d) (su 0 d)
  obtain ⟨C1, q1, q2, q3⟩ := rel_C (r := r) hb hB h hi hT hd
  have hi1 := Inv_rel (d := d) (g := goN A d (bzA (coA A d) (su 0 d))) hi
  have hs1 := SUC_FC (bL_29 b hb) hs q3
  obtain ⟨C2, p1, p2, p3⟩ := as_C (r := r) hb hB hT hd (su 0 d) 0 3000 C1 _ (by omega) (by omega) hs1 q2 hi1
  have hs2 := SUC_FC (bL_29 b hb) hs1 p3
  have hi2 := Inv_asg hd hD hi
  have hc2 := g_busyC (r := r) (DC_of hb hs2 hB (show RC C2 b D (asgA A d (su 0 d)) from p2) hi2 hT hd)
  have hz2 := bzA_le (coA (asgA A d (su 0 d)) d) (su 0 d)
  have h18 : C2 (b + 22) d = nI (asgA A d (su 0 d) 18 d) := p2.2.2.2.2.2.2.2.2.2.2.1 d 7 hd (by omega)
  have ha : f_X3_assignJobs b (nI d) (mw C1 r) = some (mw C2 r) := by
    simp only [f_X3_assignJobs, SB hb]
    rw [show lp_X3_assignJobs_2 b (nI d) 3000 (0, mw C1 r) = _ from p1]
    rfl
  have hFC : FC b C C2 := FC_t q3 p3
  have hR1 := rc_d (k := 8) (d := d) (x := bzA (coA (asgA A d (su 0 d)) d) (su 0 d)) (by omega) (show RC C2 b D (asgA A d (su 0 d)) from p2)
  simp (disch := omega) only [f_X3_startJobs, SB hb, SL hb, hc1, e_b, boA_le, q1, e_bv, ha, hc2, st_self]
  unfold staA
  by_cases h0 : 0 < bzA (coA A d) (su 0 d)
  · rw [boA_1 h0, if_neg (by decide), e_bd, if_neg (by omega)]
    exact ⟨_, rfl, hR1, FC_t hFC (FC_s (by omega) (by omega))⟩
  · rw [boA_0 h0, if_pos rfl]
    by_cases h2 : 0 < bzA (coA (asgA A d (su 0 d)) d) (su 0 d)
    · rw [if_neg (nI_nle h2 (by omega)), if_pos (by omega)]
      simp (disch := omega) only [st_cell, h18, nI_p1, e_bd]
      exact ⟨_, rfl, rc_d (k := 7) (d := d) (x := asgA A d (su 0 d) 18 d + 1) (by omega) hR1, FC_t (FC_t hFC (FC_s (by omega) (by omega))) (FC_s (by omega) (by omega))⟩
    · have hz : bzA (coA (asgA A d (su 0 d)) d) (su 0 d) = 0 := by omega
      rw [if_neg (show ¬ (bzA (coA A d) (su 0 d) = 0 ∧ 0 < bzA (coA (asgA A d (su 0 d)) d) (su 0 d)) by omega), hz, if_pos (show nI 0 ≤ 0 by decide), e_bd]
      rw [hz] at hR1
      exact ⟨_, rfl, hR1, FC_t hFC (FC_s (by omega) (by omega))⟩
/-- the reference's start of a domain: three calls of tickOnce -/
def sR (d : Int32) (w : MW) : Option MW :=
  hz_b (f_X10_busy 336 d w) (fun v2 w1 => Option.bind ((if v2 ≤ 0 then some 0 else some 1)) (fun q3 : Int32 => hz_bv (f_X10_release 336 d w1) (fun w4 => hz_bv (f_X10_assign 336 d w4) (fun w5 => Option.bind ((if q3 = 0 then hz_b (f_X10_busy 336 d w5) (fun v12 w11 => (if v12 ≤ 0 then some (0, w11) else some (1, w11))) else some (0, w5))) (fun q6 : Int32 × MW => hz_bv (f_X10_addTo 336 d 8 q6.1 q6.2) (fun w7 => some w7))))))
theorem sta_R {R : Nat → Nat → Int32} {r : Int64 × UInt64} {D d T : Nat} {su : Nat → Nat → Nat} {A : AS} (hs : SUR R D su) (hB : SUB D su) (h : RR R D A) (hi : Inv D su T A) (hT : T < 2 ^ 29) (hd : d < D) : ∃ R', sR (nI d) (mw R r) = some (mw R' r) ∧ RR R' D (staA A d (su 0 d)) ∧ F7 R R' := by
  have hD := hB.2.1
  have hB2 := hB.2.2 d hd
  have hc1 := g_busyR (r := r) (DR_of hs hB h hi hT hd)
  have hz4 := bzA_le (coA A d) (su 0 d)
  obtain ⟨R1, q1, q2, q3⟩ := rel_R (r := r) hs hB h hi hT hd
  have hi1 := Inv_rel (d := d) (g := goN A d (bzA (coA A d) (su 0 d))) hi
  have hs1 := SUR_FT hs (F7_T q3)
  obtain ⟨R2, p1, p2, p3⟩ := as_R (r := r) hB hT hd (su 0 d) 0 3000 R1 _ (by omega) (by omega) hs1 q2 hi1
  have hs2 := SUR_FT hs1 (F7_T p3)
  have hi2 := Inv_asg hd hD hi
  have p2' : RR R2 D (asgA A d (su 0 d)) := p2
  have hc2 := g_busyR (r := r) (DR_of hs2 hB p2' hi2 hT hd)
  have hz2 := bzA_le (coA (asgA A d (su 0 d)) d) (su 0 d)
  have h18 : rD R2 d 8 = nI (asgA A d (su 0 d) 18 d) := p2'.2.2.2.2.2.1 d 8 hd (by omega)
  have ha : f_X10_assign 336 (nI d) (mw R1 r) = some (mw R2 r) := by
    simp only [f_X10_assign, PR]
    rw [show lp_X10_assign_2 336 (nI d) 3000 (0, mw R1 r) = _ from p1]
    rfl
  have hF : F7 R R2 := F7_t q3 p3
  simp (disch := omega) only [sR, hc1, e_b, boA_le, q1, e_bv, ha, hc2]
  unfold staA
  by_cases h0 : 0 < bzA (coA A d) (su 0 d)
  · rw [boA_1 h0, if_neg (by decide), e_bd, if_neg (by omega)]
    simp (disch := omega) only [RA, e_bv, h18, nI_p0]
    rw [Nat.add_zero]
    refine ⟨_, rfl, ?_, F7_t hF F7_D⟩
    have q := rr_D (k := 8) (d := d) (x := asgA A d (su 0 d) 18 d) (by omega) (by omega) p2'
    rw [show (10 + 8 : Nat) = 18 from rfl, up_same] at q
    exact rr_gh (.inr rfl) q
  · rw [boA_0 h0, if_pos rfl]
    by_cases h2 : 0 < bzA (coA (asgA A d (su 0 d)) d) (su 0 d)
    · rw [if_neg (nI_nle h2 (by omega)), if_pos (by omega), e_bd]
      simp (disch := omega) only [RA, e_bv, h18, nI_p1]
      refine ⟨_, rfl, ?_, F7_t hF F7_D⟩
      have q := rr_gh (q := 19) (s := d) (x := bzA (coA (asgA A d (su 0 d)) d) (su 0 d)) (.inr rfl) (rr_D (k := 8) (d := d) (x := asgA A d (su 0 d) 18 d + 1) (by omega) (by omega) p2')
      rw [up_comm (by omega)]
      exact q
    · have hz : bzA (coA (asgA A d (su 0 d)) d) (su 0 d) = 0 := by omega
      rw [if_neg (show ¬ (bzA (coA A d) (su 0 d) = 0 ∧ 0 < bzA (coA (asgA A d (su 0 d)) d) (su 0 d)) by omega), hz, if_pos (show nI 0 ≤ 0 by decide), e_bd]
      simp (disch := omega) only [RA, e_bv, h18, nI_p0]
      rw [Nat.add_zero]
      refine ⟨_, rfl, ?_, F7_t hF F7_D⟩
      have q := rr_D (k := 8) (d := d) (x := asgA A d (su 0 d) 18 d) (by omega) (by omega) p2'
      rw [show (10 + 8 : Nat) = 18 from rfl, up_same] at q
      exact rr_gh (.inr rfl) q
