def hotA (t h am co lim n cs idl : Int32) (pw : Nat → Int32) (l : Nat) : Bool := decide (¬ tmpA t h (powA n (pw l) cs idl) am co ≤ lim)
theorem hotA_congr {t h am co lim n cs idl : Int32} {pw qw : Nat → Int32} {l : Nat} (hl : pw l = qw l) : hotA t h am co lim n cs idl pw l = hotA t h am co lim n cs idl qw l := by
  unfold hotA
  rw [hl]
theorem DR_336 {N : Nat → Nat → Int32} {d cs lv c T k : Nat} {x : Int32} {co : Nat → Option Nat} {rem dl : Nat → Nat} (h : DR N d cs lv c T co rem dl) : DR (st N 336 k x) d cs lv c T co rem dl := by
  unfold DR at h ⊢
  simp only [st_cell (N := N) (a := 336) (k := k) (x := x) (a' := 339) (by omega), st_cell (N := N) (a := 336) (k := k) (x := x) (a' := 345) (by omega), st_cell (N := N) (a := 336) (k := k) (x := x) (a' := 337) (by omega), rD_c (R := N) (a := 336) (i := k) (x := x) (by omega), rJ_c (R := N) (a := 336) (i := k) (x := x) (by omega)]
  exact h
theorem DR_D {N : Nat → Nat → Int32} {d cs lv c T k : Nat} {x : Int32} {co : Nat → Option Nat} {rem dl : Nat → Nat} (hk : k < 9) (h : DR N d cs lv c T co rem dl) : DR (sD N d k x) d cs lv c T co rem dl := by
  obtain ⟨hd, hcs, h4, hlv, h1, h5, hc, hc4, hco, hj, hrem, hdl, hT, hT2⟩ := h
  refine ⟨hd, ?_, h4, ?_, h1, h5, ?_, hc4, ?_, hj, ?_, ?_, ?_, hT2⟩
  · rw [sD_c (by omega)]; exact hcs
  · rw [sD_c (by omega)]; exact hlv
  · rw [rL_D (by omega)]; exact hc
  · intro e he
    rw [rD_D (by omega) (by omega), if_neg (by omega)]
    exact hco e he
  · intro j hj2
    rw [rJ_D hd (by omega)]
    exact hrem j hj2
  · intro j hj2
    rw [rJ_D hd (by omega)]
    exact hdl j hj2
  · rw [rL_D (by omega)]; exact hT
/-- chooseLevel's level: works or not -/
def chA (bz l1 : Nat) (hot : Nat → Bool) : Nat := if 0 < bz then coolA hot l1 else l1
def haA (bz l2 : Nat) (hot : Nat → Bool) : Bool := decide (0 < bz) && decide (l2 = 0) && hot 0
theorem g_ch1 {M : Nat → Nat → Int32} {r : Int64 × UInt64} {d cr base l0 bz : Nat} (hd : d < 4) (hw : 0 < bz) (hcr : rD M d 5 = nI cr) (hcr9 : cr ≤ 99) (hba : M 343 d = nI base) (hba5 : base < 5) (hl0 : l0 < 5) : hz_b (f_X10_of 336 (nI d) 5 (mw M r)) (fun v31 w30 => (if v31 = 0 then hz_ldp w30 336 10 358 20 (fun b32 => hz_lda w30 b32 (nI d) (fun v33 => hz_let (if v33 < nI l0 then v33 else nI l0) (fun v34 => some (v34, w30)))) else some (nI l0, w30))) = some (nI (credA l0 base bz cr), mw M r) := by
  simp (disch := omega) only [RO, PR, AR, e_b, hcr, hba, e_let]
  unfold credA
  by_cases hz : cr = 0
  · subst hz
    rw [if_pos nI_0, if_pos (show 0 < bz ∧ (0 : Nat) = 0 from ⟨hw, rfl⟩)]
    by_cases hlt : base < l0
    · rw [if_pos hlt, if_pos (nI_lt hlt (by omega))]
    · rw [if_neg hlt, if_neg (nI_nlt (by omega) (by omega))]
  · rw [if_neg (nI_ne0 (by omega) (by omega)), if_neg (fun q => hz q.2)]
theorem g_ch2 {M : Nat → Nat → Int32} {r : Int64 × UInt64} {d cs : Nat} (hd : d < 4) (hcs : M 339 d = nI cs) (h4 : cs ≤ 4) : hz_b (f_X10_powerAt 336 (nI d) 0 (mw M r)) (fun v18 w17 => hz_b (f_X10_heated 336 (nI d) v18 w17) (fun v20 w19 => hz_b (f_X10_of 336 (nI d) 0 w19) (fun v22 w21 => (if v20 ≤ v22 then some ((0 : Int32), w21) else some (1, w21))))) = some (if hotA (rD M d 2) (M 340 d) (M 337 1) (M 341 d) (rD M d 0) (nI (cnt (fun c => decide (rD M d (9 + c) ≠ -1)) cs)) (M 339 d) (M 342 d) (fun l => M 347 (5 * d + l)) 0 = true then 1 else 0, mw M r) := by
  rw [show f_X10_powerAt 336 (nI d) 0 (mw M r) = _ from g_powR (r := r) (l := 0) hd (by omega) hcs h4]
  simp (disch := omega) only [g_tmpR, RO, e_b]
  unfold hotA
  by_cases h : tmpA (rD M d 2) (M 340 d) (powA (nI (cnt (fun c => decide (rD M d (9 + c) ≠ -1)) cs)) (M 347 (5 * d + 0)) (M 339 d) (M 342 d)) (M 337 1) (M 341 d) ≤ rD M d 0
  · rw [if_pos h, ifdn h]
  · rw [if_neg h, ifdp h]
