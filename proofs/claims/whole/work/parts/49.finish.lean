def esA (dk est wk : Int32) : Int32 := if dk = 0 then wk else est + (wk - est) / 4
theorem cdiv_4 {σ : Type} (x : Int32) (K : Int32 → Option σ) : hz_cdiv x 4 K = K (x / 4) := by
  unfold hz_cdiv
  rw [if_neg (by decide)]
theorem g_finC {N : Nat → Nat → Int32} {r : Int64 × UInt64} {b j k : Nat} {x : Int32} (hb : b ∈ bL) (hj : j < 24) (hk : N (b + 5) j = nI k) (hk8 : k < 8) : f_X1_finish (b + 1) (nI j) x (mw N r) = some (mw (st (st (st (st (st N (b + 10) j 0) (b + 11) j x) (b + 1) 1 (N (b + 1) 1 ||| ((1 : Int32) <<< (nI j &&& 31)))) (b + 12) k (esA (N (b + 13) k) (N (b + 12) k) (N (b + 8) j))) (b + 13) k (N (b + 13) k + 1)) r) := by
  simp (disch := omega) only [f_X1_finish, SB hb, SL hb, hk, mw_1, mw_pn, g_with, e_b, e_let, st_cell, cdiv_4]
  unfold esA
  by_cases h : N (b + 13) k = 0
  · simp (disch := omega) only [h, reduceIte, e_bd, SB hb, SL hb, st_cell]
  · simp (disch := omega) only [h, reduceIte, e_bd, SB hb, SL hb, st_cell]
theorem g_finR {N : Nat → Nat → Int32} {r : Int64 × UInt64} {d e j k : Nat} (hd : d < 4) (he : e < 4) (hj : j < 24) (hk : rJ N j 1 = nI k) (hk8 : k < 8) : f_X10_finish 336 (nI d) (nI e) (nI j) (mw N r) = some (mw (st (st (st (sJ (sJ (sJ (sD N d (9 + e) (-1)) j 6 0) j 7 3) j 8 (N 337 0 + 1)) 336 31 (N 336 31 + 1)) 337 (3 + k) (esA (N 337 (11 + k)) (N 337 (3 + k)) (rJ N j 4))) 337 (11 + k) (N 337 (11 + k) + 1)) r) := by
  have e1 : ∀ (M : Nat → Nat → Int32) (i : Nat), i < 71 → sJ (sJ (sJ M j 6 0) j 7 3) j 8 (N 337 0 + 1) 337 i = M 337 i := by
    intro M i hi
    rw [rL_J hi, rL_J hi, rL_J hi]
  have e2 : ∀ i, i < 19 → sD N d (9 + e) (-1) 337 i = N 337 i := fun i hi => rL_D hi
  have e3 : rJ (st (sJ (sJ (sJ (sD N d (9 + e) (-1)) j 6 0) j 7 3) j 8 (N 337 0 + 1)) 336 31 (N 336 31 + 1)) j 4 = rJ N j 4 := by
    rw [rJ_c (by omega), rJ_J (by omega) (by omega), if_neg (by omega), rJ_J (by omega) (by omega), if_neg (by omega), rJ_J (by omega) (by omega), if_neg (by omega), rJ_D hd (by omega)]
  simp (disch := omega) only [f_X10_finish, PR, AR, RJ, RP, RQ, RLd, hk, e_b, e_bv, e_let, mw_1, mw_pn, nI_3a, nI_11a, cdiv_4, sJ_c, sD_c, rL_J, rL_D, st_cell]
  unfold esA
  by_cases h : N 337 (11 + k) = 0
  · simp (disch := omega) only [h, reduceIte, e_bd, PR, AR, RJ, e_b, e3, st_slot, sJ_c, sD_c, rL_J, rL_D, st_cell]
  · simp (disch := omega) only [h, reduceIte, e_bd, PR, AR, RJ, e_b, e3, cdiv_4, st_slot, sJ_c, sD_c, rL_J, rL_D, st_cell]
