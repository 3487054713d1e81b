theorem by_nI (n : Nat) : (nI n).toBitVec.toNat = n % 2 ^ 32 := BitVec.toNat_ofNat n 32
theorem by_and (z : Int32) : z &&& 255 = nI (z.toBitVec.toNat % 256) := by
  apply Int32.toBitVec_inj.mp
  apply BitVec.eq_of_toNat_eq
  rw [by_nI, Int32.toBitVec_and, BitVec.toNat_and]
  have h : z.toBitVec.toNat &&& 255 = z.toBitVec.toNat % 256 := Nat.and_two_pow_sub_one_eq_mod z.toBitVec.toNat 8
  have h2 : (255 : Int32).toBitVec.toNat = 255 := rfl
  rw [h2, h]
  omega
theorem by_int (z : Int32) : z.toInt8.toInt32.toInt = if z.toBitVec.toNat % 256 < 128 then ((z.toBitVec.toNat % 256 : Nat) : Int) else ((z.toBitVec.toNat % 256 : Nat) : Int) - 256 := by
  rw [Int8.toInt_toInt32, Int32.toInt_toInt8]
  have h : z.toInt = Int.bmod (z.toBitVec.toNat : Int) (2 ^ 32) := BitVec.toInt_eq_toNat_bmod _
  rw [h, Int.bmod_bmod_of_dvd (by decide), Int.bmod_def]
  split <;> split <;> omega
theorem by_sh (x : Int32) : ∀ s : Nat, s < 4 → ((x >>> (nI (24 - 8 * s) &&& 31)) &&& 255) = ((x.toUInt32 >>> ((nI (24 - 8 * s)).toUInt32 &&& Int32.toUInt32 31)).toInt32) &&& 255 := by
  have key : ∀ k, k ≤ 24 → ∀ b : BitVec 32, (b.sshiftRight k &&& 255#32) = ((b >>> k) &&& 255#32) := by
    intro k hk b
    apply BitVec.eq_of_getLsbD_eq
    intro i hi
    simp only [BitVec.getLsbD_and, BitVec.getLsbD_sshiftRight, BitVec.getLsbD_ushiftRight]
    by_cases h8 : i < 8
    · have : k + i < 32 := by omega
      have h32 : ¬ 32 ≤ i := by omega
      simp [this, hi, h32]
    · have : (255#32).getLsbD i = false := by
        have h255 : ∀ i, i < 32 → ¬ i < 8 → (255#32).getLsbD i = false := by decide
        exact h255 i hi h8
      simp [this]
  intro s hs
  apply Int32.toBitVec_inj.mp
  have q : ∀ t, t < 4 → ((nI (24 - 8 * t) &&& 31).toBitVec.smod 32).toNat = 24 - 8 * t := by decide
  have u : ∀ t, t < 4 → (((nI (24 - 8 * t)).toUInt32 &&& Int32.toUInt32 31).toBitVec % 32).toNat = 24 - 8 * t := by decide
  have a : (x >>> (nI (24 - 8 * s) &&& 31)).toBitVec = x.toBitVec.sshiftRight (24 - 8 * s) := by
    rw [Int32.toBitVec_shiftRight]
    show x.toBitVec.sshiftRight ((nI (24 - 8 * s) &&& 31).toBitVec.smod 32).toNat = _
    rw [q s hs]
  have b : ((x.toUInt32 >>> ((nI (24 - 8 * s)).toUInt32 &&& Int32.toUInt32 31)).toInt32).toBitVec = x.toBitVec >>> (24 - 8 * s) := by
    show x.toBitVec >>> (((nI (24 - 8 * s)).toUInt32 &&& Int32.toUInt32 31).toBitVec % 32) = _
    rw [BitVec.ushiftRight_eq', u s hs]
  rw [Int32.toBitVec_and, Int32.toBitVec_and, a, b]
  exact key _ (by omega) _
/-- a part of the bytes -/
def cb (x s : Int32) : Int32 := Int8.toInt32 (Int32.toInt8 ((x.toUInt32 >>> (s.toUInt32 &&& Int32.toUInt32 31)).toInt32))
def rb (x s : Int32) : Int32 := (x >>> (s &&& 31)) &&& 255
theorem by_cr (x : Int32) (s : Nat) (h : s < 4) : BY (cb x (nI (24 - 8 * s))) (rb x (nI (24 - 8 * s))) := by
  unfold BY cb rb
  exact ⟨_, Nat.mod_lt _ (by omega), (by_sh x s h).trans (by_and _), by_int _⟩
theorem e_stb {σ : Type} (N : Nat → Nat → Int32) (r : Int64 × UInt64) (K : MW → Option σ) (i : Nat) (x : Int32) (hi : i < 500) : hz_stb (mw N r) 2 (nI i) (Int8.toInt32 (Int32.toInt8 x)) K = K (mw (st N 2 i (Int8.toInt32 (Int32.toInt8 x))) r) := by
  unfold hz_stb
  rw [show hz_ln 2 = 500 from rfl, hz_ix_nI hi (by decide), nI_clamp (by omega), pk_vb]
  rfl
theorem ab_s {N : Nat → Nat → Int32} {r : Int64 × UInt64} {x s s' : Int32} {F p : Nat} (h1 : N 1 1 = nI p) (hp : p < 500) (h0 : ¬ s < 0) (hs : s + Int32.ofInt (-8) = s') : lp_X4_addBytesOf_3 1 x (F + 1) (s, mw N r) = lp_X4_addBytesOf_3 1 x F (s', mw (st (st N 2 p (cb x s)) 1 1 (nI (p + 1))) r) := by
  have hn : ¬ Int32.ofNat (hz_ln 2) ≤ nI p := fun q => absurd ((nI_leI (a := 500) (by omega) (by omega)).mp q) (by omega)
  rw [lp_X4_addBytesOf_3]
  simp only [h0, if_false, PX, mw_1, h1, hn, hs]
  rw [e_stb _ _ _ _ _ hp]
  simp (disch := omega) only [e_let, mw_1, mw_pn, st_cell, h1, nI_p1]
  rfl
theorem pt_s {N : Nat → Nat → Int32} {r : Int64 × UInt64} {x s s' : Int32} {F p : Nat} (h1 : N 336 16 = nI p) (hp : p < 500) (h0 : ¬ s < 0) (hs : s + Int32.ofInt (-8) = s') : lp_X10_put_3 336 x (F + 1) (s, mw N r) = lp_X10_put_3 336 x F (s', mw (st (st N 348 p (rb x s)) 336 16 (nI (p + 1))) r) := by
  rw [lp_X10_put_3]
  simp (disch := omega) only [h0, if_false, PR, AR, mw_1, h1, hs, e_let, mw_pn, st_cell, nI_p1]
  rfl
theorem ab_e {x : Int32} {w : MW} {F : Nat} : lp_X4_addBytesOf_3 1 x (F + 1) (-8, w) = some w := by
  rw [lp_X4_addBytesOf_3]
  exact if_pos (show (-8 : Int32) < 0 by decide)
theorem ab_f {x : Int32} {w w' : MW} (h : lp_X4_addBytesOf_3 1 x 3000 (24, w) = some w') : f_X4_addBytesOf 1 x w = some w' := by
  unfold f_X4_addBytesOf
  rw [h]
  rfl
theorem pt_e {x : Int32} {w : MW} {F : Nat} : lp_X10_put_3 336 x (F + 1) (-8, w) = some w := by
  rw [lp_X10_put_3]
  exact if_pos (show (-8 : Int32) < 0 by decide)
theorem pt_f {x : Int32} {w w' : MW} (h : lp_X10_put_3 336 x 3000 (24, w) = some w') : f_X10_put 336 x w = some w' := by
  unfold f_X10_put
  rw [h]
  rfl
def AC (N0 : Nat → Nat → Int32) (X : Nat → Int32) (len m : Nat) (N : Nat → Nat → Int32) : Prop :=
  N 1 1 = nI (len + 4 * m) ∧ (∀ k, k < len → N 2 k = N0 2 k) ∧ (∀ t s, t < m → s < 4 → N 2 (len + 4 * t + s) = cb (X t) (nI (24 - 8 * s))) ∧ ∀ a, a ≠ 1 → a ≠ 2 → N a = N0 a
def AQ (N0 : Nat → Nat → Int32) (X : Nat → Int32) (len m : Nat) (N : Nat → Nat → Int32) : Prop :=
  N 336 16 = nI (len + 4 * m) ∧ (∀ k, k < len → N 348 k = N0 348 k) ∧ (∀ t s, t < m → s < 4 → N 348 (len + 4 * t + s) = rb (X t) (nI (24 - 8 * s))) ∧ (∀ a, a ≠ 336 → a ≠ 348 → N a = N0 a) ∧ ∀ k, k ≠ 16 → N 336 k = N0 336 k
theorem ab_w {N0 N : Nat → Nat → Int32} {r : Int64 × UInt64} {X : Nat → Int32} {len m : Nat} (hm : len + 4 * m + 4 ≤ 500) (h : AC N0 X len m N) : ∃ N', f_X4_addBytesOf 1 (X m) (mw N r) = some (mw N' r) ∧ AC N0 X len (m + 1) N' := by
  obtain ⟨h1, h2, h3, h4⟩ := h
  have e : lp_X4_addBytesOf_3 1 (X m) 3000 (24, mw N r) = _ :=
    (ab_s (F := 2999) (s' := 16) h1 (by omega) (by decide) (by decide)).trans ((ab_s (F := 2998) (s' := 8) (st_self _ _ _ _) (by omega) (by decide) (by decide)).trans ((ab_s (F := 2997) (s' := 0) (st_self _ _ _ _) (by omega) (by decide) (by decide)).trans (ab_s (F := 2996) (s' := -8) (st_self _ _ _ _) (by omega) (by decide) (by decide))))
  refine ⟨_, ab_f (e.trans (ab_e (F := 2995))), ?_⟩
  · refine ⟨by rw [st_self]; congr 1, fun k hk => ?_, fun t s ht hs => ?_, fun a ha hb => ?_⟩
    · simp (disch := omega) only [st_cell, st_slot]
      exact h2 k hk
    · by_cases htm : t < m
      · simp (disch := omega) only [st_cell, st_slot]
        exact h3 t s htm hs
      · have : t = m := by omega
        subst this
        rcases (show s = 0 ∨ s = 1 ∨ s = 2 ∨ s = 3 by omega) with rfl | rfl | rfl | rfl
        · simp (disch := omega) only [st_cell, st_slot, Nat.add_zero, st_self]
          rfl
        · simp (disch := omega) only [st_cell, st_slot, st_self]
          rfl
        · simp (disch := omega) only [st_cell, st_slot, st_self]
          rfl
        · simp (disch := omega) only [st_cell, st_slot, st_self]
          rfl
    · simp (disch := omega) only [st_cell]
      exact h4 a ha hb
theorem pt_w {N0 N : Nat → Nat → Int32} {r : Int64 × UInt64} {X : Nat → Int32} {len m : Nat} (hm : len + 4 * m + 4 ≤ 500) (h : AQ N0 X len m N) : ∃ N', f_X10_put 336 (X m) (mw N r) = some (mw N' r) ∧ AQ N0 X len (m + 1) N' := by
  obtain ⟨h1, h2, h3, h4, h5⟩ := h
  have e : lp_X10_put_3 336 (X m) 3000 (24, mw N r) = _ :=
    (pt_s (F := 2999) (s' := 16) h1 (by omega) (by decide) (by decide)).trans ((pt_s (F := 2998) (s' := 8) (st_self _ _ _ _) (by omega) (by decide) (by decide)).trans ((pt_s (F := 2997) (s' := 0) (st_self _ _ _ _) (by omega) (by decide) (by decide)).trans (pt_s (F := 2996) (s' := -8) (st_self _ _ _ _) (by omega) (by decide) (by decide))))
  refine ⟨_, pt_f (e.trans (pt_e (F := 2995))), ?_⟩
  · refine ⟨by rw [st_self]; congr 1, fun k hk => ?_, fun t s ht hs => ?_, fun a ha hb => ?_, fun k hk => ?_⟩
    · simp (disch := omega) only [st_cell, st_slot]
      exact h2 k hk
    · by_cases htm : t < m
      · simp (disch := omega) only [st_cell, st_slot]
        exact h3 t s htm hs
      · have : t = m := by omega
        subst this
        rcases (show s = 0 ∨ s = 1 ∨ s = 2 ∨ s = 3 by omega) with rfl | rfl | rfl | rfl
        · simp (disch := omega) only [st_cell, st_slot, Nat.add_zero, st_self]
          rfl
        · simp (disch := omega) only [st_cell, st_slot, st_self]
          rfl
        · simp (disch := omega) only [st_cell, st_slot, st_self]
          rfl
        · simp (disch := omega) only [st_cell, st_slot, st_self]
          rfl
    · simp (disch := omega) only [st_cell]
      exact h4 a ha hb
    · simp (disch := omega) only [st_cell, st_slot]
      exact h5 k hk
/-- the cells outside the text -/
def GT (N N' : Nat → Nat → Int32) : Prop :=
  (∀ a, (a = 0 ∨ (17 ≤ a ∧ a < 54) ∨ (79 ≤ a ∧ a < 331) ∨ (337 ≤ a ∧ a < 348)) → N' a = N a) ∧ ∀ k, (k = 2 ∨ k = 3 ∨ k = 5 ∨ k = 23 ∨ k = 32) → N' 336 k = N 336 k
theorem SUC_GT {N N' : Nat → Nat → Int32} {D : Nat} {su : Nat → Nat → Nat} (hf : GT N N') (h : SUC N D su) : SUC N' D su := by
  unfold SUC at h ⊢
  simp only [hf.1 17 (by omega), hf.1 18 (by omega), hf.1 20 (by omega), hf.1 21 (by omega), hf.1 22 (by omega), hf.1 23 (by omega), hf.1 24 (by omega), hf.1 26 (by omega), hf.1 27 (by omega), hf.1 28 (by omega)]
  exact h
theorem SUR_GT {N N' : Nat → Nat → Int32} {D : Nat} {su : Nat → Nat → Nat} (hf : GT N N') (h : SUR N D su) : SUR N' D su := by
  unfold SUR at h ⊢
  simp only [hf.2 5 (by omega), hf.1 339 (by omega), hf.1 340 (by omega), hf.1 341 (by omega), hf.1 342 (by omega), hf.1 343 (by omega), hf.1 344 (by omega), hf.1 345 (by omega), hf.1 346 (by omega), hf.1 347 (by omega)]
  exact h
theorem GS_GT {N N' : Nat → Nat → Int32} {T D h w : Nat} {su : Nat → Nat → Nat} {A : AS} {H : Nat → AS} (hf : GT N N') (hg : GS N T D su A h w H) : GS N' T D su A h w H := by
  obtain ⟨a1, a2, a3, a4, a5, a6, a7, a8, a9, a10, a11⟩ := hg
  refine ⟨by rw [hf.1 0 (by omega)]; exact a1, by rw [hf.2 3 (by omega)]; exact a2, a3, SUC_GT hf a4, SUR_GT hf a5, RC_ext (fun a _ _ => hf.1 a (by omega)) a6, RR_ext a3.2.1 a8.1.1.1.1 (fun k _ => by rw [hf.1 337 (by omega)]) a7, a8, HSC_ext (fun a _ _ => hf.1 a (by omega)) a9, HSR_ext (hf.2 2 (by omega)) (hf.1 338 (by omega)) a10, a11⟩
theorem GI_GT {N N' : Nat → Nat → Int32} {T : Nat} (hf : GT N N') (ht : TXR N') (hg : GI N T) : GI N' (T + 500) := by
  refine GI_mono (T := T) (by omega) ?_
  obtain ⟨g1, g2, g3, ⟨w, w1, w2⟩, g5⟩ := hg
  refine ⟨ht, by rw [hf.2 32 (by omega)]; exact g2, by rw [hf.1 0 (by omega), hf.2 23 (by omega)]; exact g3, ⟨w, w1, by rw [hf.1 79 (by omega)]; exact w2⟩, ?_⟩
  rcases g5 with ⟨u1, u2, u3⟩ | ⟨D, su, A, h, w, H, hS⟩
  · exact .inl ⟨by rw [hf.1 0 (by omega)]; exact u1, by rw [hf.2 3 (by omega)]; exact u2, by rw [hf.2 5 (by omega)]; exact u3⟩
  · exact .inr ⟨D, su, A, h, w, H, GS_GT hf hS⟩
theorem law_1 {xs : Nat → Int32} {Ls i T : Nat} {N : Nat → Nat → Int32} {r : Int64 × UInt64} (hL : Ls ≤ 3584) (h7 : 7 * i + 7 ≤ Ls) (_hT : T ≤ 256000) (hg : GI N T) : ∃ N' r', lawc_1 xs Ls (nI (7 * i)) (mw N r) = some (mw N' r') ∧ GI N' (T + 500) := by
  have hg0 := hg
  obtain ⟨⟨len, t1, t2, t3, t4⟩, g2, g3, g4, g5⟩ := hg
  simp only [lawc_1, e_lds hL h7]
  generalize xs (7 * i + 1) = x1
  simp only [f_L_truncate, f_X9_truncate, P0, G356, mw_1, t1]
  cases hr : rg 0 (nI len) x1 with
  | false =>
    simp (disch := omega) only [g_nRf hr, e_bxl, e_btl, SX, reduceIte, e_b, f_X10_truncate, PR, mw_1, t3, IN, hr, bI_f, e_bd, e_let, mw_pn, st_self, show ((1 : Int32) ≤ 0) = False from eq_false (by decide), if_false, g_thr, i10]
    exact ⟨_, _, rfl, GI_q (GF_4 (by omega)) hg0⟩
  | true =>
    obtain ⟨j, _, hj, rfl⟩ := rg_t (a := 0) (by omega) (by omega) hr
    simp (disch := omega) only [P0, g_nRt hr, e_bx, e_let, mw_pn, e_bt, mw_po, e_b, f_X10_truncate, PR, mw_1, st_cell, t3, IN, hr, bI_t, i10, reduceIte, e_bd, st_self, Int32.le_refl, g_thr, st_slot, lg_same, mw_2]
    refine ⟨_, _, rfl, GI_GT ⟨fun a ha => ?_, fun k hk => ?_⟩ ⟨j, ?_, by omega, st_self _ _ _ _, fun q hq => ?_⟩ hg0⟩
    · simp (disch := omega) only [st_cell]
    · simp (disch := omega) only [st_cell, st_slot]
    · simp (disch := omega) only [st_cell, st_self]
    · simp (disch := omega) only [st_cell]
      exact t4 q (by omega)
def X5w (x1 x2 x3 x4 x5 : Int32) (m : Nat) : Int32 := if m = 0 then x1 else if m = 1 then x2 else if m = 2 then x3 else if m = 3 then x4 else x5
theorem law_0 {xs : Nat → Int32} {Ls i T : Nat} {N : Nat → Nat → Int32} {r : Int64 × UInt64} (hL : Ls ≤ 3584) (h7 : 7 * i + 7 ≤ Ls) (_hT : T ≤ 256000) (hg : GI N T) : ∃ N' r', lawc_0 xs Ls (nI (7 * i)) (mw N r) = some (mw N' r') ∧ GI N' (T + 500) := by
  have hg0 := hg
  obtain ⟨⟨len, t1, t2, t3, t4⟩, g2, g3, g4, g5⟩ := hg
  simp only [lawc_0, e_lds hL h7]
  generalize xs (7 * i + 1) = x1
  generalize xs (7 * i + 2) = x2
  generalize xs (7 * i + 3) = x3
  generalize xs (7 * i + 4) = x4
  generalize xs (7 * i + 5) = x5
  by_cases hl : len ≤ 480
  · have c0 : AC N (X5w x1 x2 x3 x4 x5) len 0 N := ⟨t1, fun _ _ => rfl, fun t s ht => by omega, fun _ _ _ => rfl⟩
    obtain ⟨N1, e1, c1⟩ := ab_w (r := r) (by omega) c0
    obtain ⟨N2, e2, c2⟩ := ab_w (r := r) (by omega) c1
    obtain ⟨N3, e3, c3⟩ := ab_w (r := r) (by omega) c2
    obtain ⟨N4, e4, c4⟩ := ab_w (r := r) (by omega) c3
    obtain ⟨N5, e5, c5⟩ := ab_w (r := r) (by omega) c4
    have hq : N5 336 16 = nI len := by rw [c5.2.2.2 336 (by omega) (by omega)]; exact t3
    have d0 : AQ (st N5 336 4 0) (X5w x1 x2 x3 x4 x5) len 0 (st N5 336 4 0) := ⟨by rw [st_slot (by omega)]; exact hq, fun _ _ => rfl, fun t s ht => by omega, fun _ _ _ => rfl, fun _ _ => rfl⟩
    obtain ⟨M1, f1, d1⟩ := pt_w (r := (Int32.toInt64 (nI (len + 20)), r.2)) (by omega) d0
    obtain ⟨M2, f2, d2⟩ := pt_w (r := (Int32.toInt64 (nI (len + 20)), r.2)) (by omega) d1
    obtain ⟨M3, f3, d3⟩ := pt_w (r := (Int32.toInt64 (nI (len + 20)), r.2)) (by omega) d2
    obtain ⟨M4, f4, d4⟩ := pt_w (r := (Int32.toInt64 (nI (len + 20)), r.2)) (by omega) d3
    obtain ⟨M5, f5, d5⟩ := pt_w (r := (Int32.toInt64 (nI (len + 20)), r.2)) (by omega) d4
    simp only [X5w, reduceIte, Nat.reduceEqDiff] at e1 e2 e3 e4 e5 f1 f2 f3 f4 f5
    have k5 : N5 1 1 = nI (len + 20) := c5.1
    have m5 : M5 336 16 = nI (len + 20) := d5.1
    have m4 : M5 336 4 = 0 := by rw [d5.2.2.2.2 4 (by omega), st_self]
    have hc1 : (nI len ≤ 480) = True := eq_true (nI_le (b := 480) hl (by omega))
    have hc2 : (nI len + 20 ≤ 500) = True := eq_true (by
      rw [show nI len + 20 = nI (len + 20) from nI_add len 20]
      exact nI_le (b := 500) (by omega) (by omega))
    simp only [f_L_append, f_X9_append, P0, G356, mw_1, t1, hc1, if_true, e1, e2, e3, e4, e5, e_bv, k5, e_bt, e_let, mw_po, e_b, f_X10_append, PR, hq, hc2, e_bd, mw_pn, st_self, Int32.le_refl, f1, f2, f3, f4, f5, m5, g_thr, m4, mw_2, lg_same]
    refine ⟨_, _, rfl, GI_GT ⟨fun a ha => ?_, fun k hk => ?_⟩ ⟨len + 20, ?_, by omega, m5, fun q hq => ?_⟩ hg0⟩
    · rw [d5.2.2.2.1 a (by omega) (by omega), st_cell (by omega), c5.2.2.2 a (by omega) (by omega)]
    · rw [d5.2.2.2.2 k (by omega), st_slot (by omega), c5.2.2.2 336 (by omega) (by omega)]
    · rw [d5.2.2.2.1 1 (by omega) (by omega), st_cell (by omega)]
      exact k5
    · rw [d5.2.2.2.1 2 (by omega) (by omega), st_cell (by omega)]
      by_cases h : q < len
      · rw [c5.2.1 q h, d5.2.1 q h, st_cell (by omega), c5.2.2.2 348 (by omega) (by omega)]
        exact t4 q h
      · have hx : q = len + 4 * ((q - len) / 4) + (q - len) % 4 := by omega
        have h4 : (q - len) / 4 < 5 := by omega
        have hm : (q - len) % 4 < 4 := by omega
        rw [hx, c5.2.2.1 _ _ h4 hm, d5.2.2.1 _ _ h4 hm]
        exact by_cr _ _ hm
  · have hc1 : (nI len ≤ 480) = False := eq_false (fun q => hl ((nI_leI (b := 480) (by omega) (by omega)).mp q))
    have hc2 : (nI len + 20 ≤ 500) = False := eq_false (fun q => by
      rw [show nI len + 20 = nI (len + 20) from nI_add len 20] at q
      have := (nI_leI (b := 500) (by omega) (by omega)).mp q
      omega)
    simp only [f_L_append, f_X9_append, P0, G356, mw_1, t1, hc1, if_false, e_btl, reduceIte, e_b, f_X10_append, PR, t3, hc2, e_bd, e_let, mw_pn, st_self, show ((1 : Int32) ≤ 0) = False from eq_false (by decide), g_thr, i10]
    exact ⟨_, _, rfl, GI_q (GF_4 (by omega)) hg0⟩
