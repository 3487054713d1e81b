theorem up_div {a dv : Nat} (h : 0 < dv) : (a + dv - 1) / dv = a / dv + (if a % dv = 0 then 0 else 1) := by
  have h1 := Nat.div_add_mod a dv
  have h2 := Nat.mod_lt a h
  generalize hq : a / dv = q at *
  generalize hm : a % dv = m at *
  have h3 : dv * q = q * dv := Nat.mul_comm _ _
  split
  · refine Nat.div_eq_of_lt_le ?_ ?_
    · rw [Nat.add_zero]
      omega
    · rw [Nat.add_zero, Nat.add_mul]
      omega
  · refine Nat.div_eq_of_lt_le ?_ ?_
    · rw [Nat.add_mul]
      omega
    · rw [Nat.add_mul, Nat.add_mul]
      omega
theorem g_divN {a dv : Nat} (ha : a < 2 ^ 30) (h0 : 0 < dv) (hd : dv < 2 ^ 30) (w : MW) : f_X9_dividedUp (nI a) (nI dv) w = some (nI ((a + dv - 1) / dv), w) := by
  unfold f_X9_dividedUp hz_cdiv hz_crem
  rw [if_neg (nI_nle h0 (by omega)), e_bd, if_neg (nI_ne0 h0 (by omega))]
  dsimp only
  rw [if_neg (nI_ne0 h0 (by omega)), pk_div (by omega) h0 (by omega), up_div h0]
  have hr := pk_rem (a := a) (d := dv) (by omega) h0 (by omega)
  rw [pk_div (by omega) h0 (by omega)] at hr
  rw [hr]
  have h2 := Nat.mod_lt a h0
  by_cases hm : a % dv = 0
  · rw [if_pos hm, hm, if_pos (by decide), e_bd]
    simp [nI_p0]
  · rw [if_neg hm, if_neg (nI_nle (by omega) (by omega)), e_bd, nI_1]
theorem g_div0 {a : Nat} {y : Int32} (ha : a < 2 ^ 30) (hy : y ≤ 0) (w : MW) : f_X9_dividedUp (nI a) y w = some (nI a, w) := by
  have h := g_divN ha (dv := 1) (by omega) (by omega) w
  unfold f_X9_dividedUp at h ⊢
  rw [if_neg (nI_nle (by omega) (by omega))] at h
  rw [if_pos hy]
  rw [show a + 1 - 1 = a by omega, Nat.div_one] at h
  exact h
def rqA (a x T : Nat) : Nat := if T < x then (a + (x - T) - 1) / (x - T) else a
theorem g_divC {a x T : Nat} (ha : a < 2 ^ 30) (hx : x < 2 ^ 30) (hT : T < 2 ^ 30) (w : MW) : f_X9_dividedUp (nI a) (nI x - nI T) w = some (nI (rqA a x T), w) := by
  unfold rqA
  by_cases h : T < x
  · rw [if_pos h, pk_sub (by omega)]
    exact g_divN ha (by omega) (by omega) w
  · rw [if_neg h]
    refine g_div0 ha ?_ w
    rw [Int32.le_iff_toInt_le, pk_sub_toInt hx hT]
    show _ ≤ (0 : Int)
    omega
theorem g_up {a dv : Nat} (ha : a < 2 ^ 30) (h0 : 0 < dv) (hd : dv < 2 ^ 30) (w : MW) : f_X10_upward (nI a) (nI dv) w = some (nI ((a + dv - 1) / dv), w) := by
  unfold f_X10_upward hz_cdiv
  rw [if_neg (nI_ne0 h0 (by omega)), nI_add, show nI (a + dv) - 1 = nI (a + dv - 1) from pk_sub (a := a + dv) (b := 1) (by omega), pk_div (by omega) h0 (by omega)]
theorem g_divR {a x T : Nat} (ha : a < 2 ^ 30) (hx : x < 2 ^ 30) (hT : T < 2 ^ 30) (w : MW) : f_X10_upward (nI a) (if 1 < nI x - nI T then nI x - nI T else 1) w = some (nI (rqA a x T), w) := by
  unfold rqA
  by_cases h : T < x
  · rw [if_pos h, pk_sub (by omega)]
    by_cases h1 : 1 < x - T
    · rw [if_pos (show (1 : Int32) < nI (x - T) from nI_lt (a := 1) h1 (by omega))]
      exact g_up ha (by omega) (by omega) w
    · rw [if_neg (show ¬ (1 : Int32) < nI (x - T) from nI_nlt (a := 1) (b := x - T) (by omega) (by omega))]
      have h2 : x - T = 1 := by omega
      rw [h2]
      exact g_up ha (dv := 1) (by omega) (by omega) w
  · rw [if_neg h, if_neg]
    · have h3 := g_up ha (dv := 1) (by omega) (by omega) w
      rw [show a + 1 - 1 = a by omega, Nat.div_one] at h3
      exact h3
    · rw [Int32.lt_iff_toInt_lt, pk_sub_toInt hx hT]
      show ¬ (1 : Int) < _
      omega
def mxA (v : Nat → Nat) : Nat → Nat
  | 0 => 0
  | n + 1 => if mxA v n < v n then v n else mxA v n
theorem mxA_lt {v : Nat → Nat} {M : Nat} : ∀ {n : Nat}, 0 < M → (∀ i, i < n → v i < M) → mxA v n < M
  | 0, h, _ => h
  | n + 1, h, hv => by
    unfold mxA
    have := mxA_lt (n := n) h (fun i hi => hv i (by omega))
    split
    · exact hv n (by omega)
    · exact this
def needA (rem dl : Nat → Nat) (T : Nat) : Option Nat → Nat
  | none => 0
  | some j => rqA (rem j) (dl j) T
theorem rqA_le {a x T : Nat} : rqA a x T ≤ a := by
  unfold rqA
  split
  · rename_i h
    rw [up_div (by omega)]
    have h1 := Nat.div_add_mod a (x - T)
    generalize a / (x - T) = q at *
    generalize a % (x - T) = m at *
    have h3 : 1 * q ≤ (x - T) * q := Nat.mul_le_mul_right q (by omega)
    split <;> omega
  · exact Nat.le_refl a
theorem needA_lt {rem dl : Nat → Nat} {T M : Nat} {o : Option Nat} (h0 : 0 < M) (h : ∀ j, o = some j → rem j < M) : needA rem dl T o < M := by
  cases o with
  | none => exact h0
  | some j => exact Nat.lt_of_le_of_lt rqA_le (h j rfl)
theorem mx_nI {x y : Nat} (hx : x < 2 ^ 31) (hy : y < 2 ^ 31) : (if nI x < nI y then nI y else nI x) = nI (if x < y then y else x) := by
  by_cases h : x < y
  · rw [if_pos h, if_pos (nI_lt h hy)]
  · rw [if_neg h, if_neg (nI_nlt (by omega) hx)]
theorem g_has {N : Nat → Nat → Int32} {r : Int64 × UInt64} {b c j : Nat} (hb : b ∈ bL) (hc : N (b + 1) 0 = nI c) (h4 : c ≤ 24) (hj : j < c) : f_X1_has (b + 1) (nI j) (mw N r) = some (1, mw N r) := by
  simp only [f_X1_has, SB hb, mw_1, hc]
  rw [if_neg (nI_pos (by omega)), if_neg (nI_ge hj (by omega))]
  rfl
theorem g_has0 {N : Nat → Nat → Int32} {r : Int64 × UInt64} {b : Nat} (hb : b ∈ bL) : f_X1_has (b + 1) (-2) (mw N r) = some (0, mw N r) := by
  simp only [f_X1_has, SB hb]
  rw [if_pos (by decide)]
  rfl
