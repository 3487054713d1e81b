theorem sT29 {N : Nat → Nat → Int32} {x : Int32} : st N 336 29 x 336 29 = x := st_self N 336 29 x
theorem g_choose {N : Nat → Nat → Int32} {r : Int64 × UInt64} {d cs lv c T cr base l0 l1 l2 bz : Nat} {co : Nat → Option Nat} {rem dl : Nat → Nat} {po : Int32} {hot : Nat → Bool} (h : DR N d cs lv c T co rem dl) (hpo : rD N d 1 = po) (hp : po = 0 ∨ po = 1 ∨ po = 2 ∨ po = 3) (hcr : rD N d 5 = nI cr) (hcr9 : cr ≤ 99) (hba : N 343 d = nI base) (hba5 : base < 5) (hbz : bzA co cs = bz)
    (h0 : sugA po bz (lv - 1) (fndA (fun i => decide (nI (mxA (fun e => needA rem dl T (co e)) cs) ≤ N 346 (5 * d + i))) (lv - 1) 0) = l0) (h1 : credA l0 base bz cr = l1) (hhot : hotA (rD N d 2) (N 340 d) (N 337 1) (N 341 d) (rD N d 0) (nI bz) (N 339 d) (N 342 d) (fun l => N 347 (5 * d + l)) = hot) (h2 : chA bz l1 hot = l2) (hl0 : l0 < 5) :
    f_X10_chooseLevel 336 (nI d) (mw N r) = some (mw (sD (if 0 < bz then st (sD (st N 336 29 0) d 6 (rD N d 6 + (if l2 < l1 then 1 else 0))) 336 29 (if haA bz l2 hot = true then 1 else 0) else st N 336 29 0) d 3 (nI l2)) r) := by
  have hd := h.1
  have hS := g_sugR (r := r) h hpo hp
  rw [hbz, h0] at hS
  have hB := g_busyR (r := r) h
  rw [hbz] at hB
  have hle : bz ≤ 4 := by rw [← hbz]; exact Nat.le_trans (bzA_le co cs) h.2.2.1
  have hl1 : l1 < 5 := by
    rw [← h1]
    unfold credA
    split
    · split <;> omega
    · exact hl0
  simp (disch := omega) only [f_X10_chooseLevel, PR, hS, hB, e_b, e_let, boA_le, e_isb0, mw_pn]
  by_cases hw : 0 < bz
  · have hA := DR_336 (k := 29) (x := 0) h
    have e1 := g_ch1 (M := st N 336 29 0) (r := r) (l0 := l0) hd hw (by rw [rD_c (by omega)]; exact hcr) hcr9 (by rw [st_cell (by omega)]; exact hba) hba5 hl0
    rw [h1] at e1
    have e2 := l_choose (N := st N 336 29 0) (r := r) (x := nI l1) hd hA.2.1 hA.2.2.1 l1 3000 hl1 (by omega)
    have hb2 := bz_R hA
    rw [hbz] at hb2
    rw [hb2] at e2
    have hh : (fun l => decide (¬ tmpA (rD (st N 336 29 0) d 2) (st N 336 29 0 340 d) (powA (nI bz) (st N 336 29 0 347 (5 * d + l)) (st N 336 29 0 339 d) (st N 336 29 0 342 d)) (st N 336 29 0 337 1) (st N 336 29 0 341 d) ≤ rD (st N 336 29 0) d 0)) = hot := by
      rw [← hhot]
      funext l
      simp (disch := omega) only [rD_c, st_cell]
      rfl
    rw [hh] at e2
    have hl2 : coolA hot l1 = l2 := by rw [← h2]; unfold chA; rw [if_pos hw]
    rw [hl2] at e2
    simp only [boA_1 hw, i10, reduceIte, hw]
    simp only [e_let] at e1
    rw [e1, e_bd]
    dsimp only
    rw [e2, e_bd]
    dsimp only
    have hl2le : l2 ≤ l1 := by rw [← hl2]; exact coolA_le hot l1
    have e3 : (if nI l1 ≤ nI l2 then some (0 : Int32) else some 1) = some (if l2 < l1 then 1 else 0) := by
      by_cases hlt : l2 < l1
      · rw [if_pos hlt, if_neg (nI_ge hlt (by omega))]
      · rw [if_neg hlt, if_pos (nI_le (by omega) (by omega))]
    rw [e3, e_bd]
    simp (disch := omega) only [RA, e_bv, rD_c]
    generalize hx : (rD N d 6 + if l2 < l1 then 1 else 0) = x
    have hA2 : DR (sD (st N 336 29 0) d 6 x) d cs lv c T co rem dl := DR_D (by omega) hA
    have e4 := g_ch2 (M := sD (st N 336 29 0) d 6 x) (r := r) hd hA2.2.1 hA2.2.2.1
    rw [bz_R hA2, hbz] at e4
    have hh2 : hotA (rD (sD (st N 336 29 0) d 6 x) d 2) (sD (st N 336 29 0) d 6 x 340 d) (sD (st N 336 29 0) d 6 x 337 1) (sD (st N 336 29 0) d 6 x 341 d) (rD (sD (st N 336 29 0) d 6 x) d 0) (nI bz) (sD (st N 336 29 0) d 6 x 339 d) (sD (st N 336 29 0) d 6 x 342 d) (fun l => sD (st N 336 29 0) d 6 x 347 (5 * d + l)) = hot := by
      rw [← hhot]
      rw [rD_D (by omega) (by omega), rD_D (by omega) (by omega), if_neg (by omega), if_neg (by omega), rL_D (by omega), sD_c (by omega), sD_c (by omega), sD_c (by omega), sD_c (by omega), sD_c (by omega)]
      simp (disch := omega) only [rD_c, st_cell]
    rw [hh2] at e4
    by_cases hz : l2 = 0
    · subst hz
      rw [if_pos nI_0, e4, e_bd]
      cases hq : hot 0 with
      | true =>
        simp only [reduceIte, e_isb1, mw_pn, e_bd, mw_1, sT29, i10]
        have hha : haA bz 0 hot = true := by simp [haA, hw, hq]
        simp (disch := omega) only [hha, reduceIte, RP, e_bv]
        rfl
      | false =>
        have hha : haA bz 0 hot = false := by simp [haA, hq]
        simp (disch := omega) only [hha, Bool.false_eq_true, reduceIte, e_isb0, mw_pn, e_bd, mw_1, sT29, RP, e_bv]
    · have hha : haA bz l2 hot = false := by simp [haA, hz]
      rw [if_neg (nI_ne0 (by omega) (by omega)), e_bd]
      simp (disch := omega) only [hha, Bool.false_eq_true, reduceIte, e_isb0, mw_pn, e_bd, mw_1, sT29, RP, e_bv]
  · have hl2 : l1 = l2 := by rw [← h2]; unfold chA; rw [if_neg hw]
    have hl01 : l0 = l1 := by rw [← h1]; unfold credA; rw [if_neg (fun q => hw q.1)]
    simp only [boA_0 hw, reduceIte, hw, e_bd, mw_1, sT29]
    simp (disch := omega) only [RP, e_bv, hl01, hl2]
