theorem bm32 {x : Int} (h : -2147483648 ≤ x) (h2 : x < 2147483648) : x.bmod (2 ^ 32) = x := Int.bmod_eq_of_le_mul_two (by omega) (by omega)
theorem bm64 {x : Int} (h : -9223372036854775808 ≤ x) (h2 : x < 9223372036854775808) : x.bmod (2 ^ 64) = x := Int.bmod_eq_of_le_mul_two (by omega) (by omega)
theorem ng_divI {a d : Nat} (ha : a < 2 ^ 31) (h0 : 0 < d) (hd : d < 2 ^ 31) : (-(nI a)) / nI d = -(nI (a / d)) := by
  have hq : a / d ≤ a := Nat.div_le_self a d
  have hne : nI d ≠ -1 := nI_nm1 hd
  refine Int32.toInt_inj.mp ?_
  have e2 : (-(nI (a / d))).toInt = -((a / d : Nat) : Int) := by
    generalize a / d = q at hq ⊢
    rw [Int32.toInt_neg, nI_toInt (by omega), bm32 (by omega) (by omega)]
  rw [Int32.toInt_div_of_ne_right _ _ hne, e2, Int32.toInt_neg, nI_toInt ha, nI_toInt hd, bm32 (by omega) (by omega), Int.neg_tdiv]
  rfl
theorem ng_divL {a d : Nat} (ha : a < 2 ^ 62) (h0 : 0 < d) (hd : d < 2 ^ 62) : (-(lN a)) / lN d = -(lN (a / d)) := by
  have hq : a / d ≤ a := Nat.div_le_self a d
  have hne : lN d ≠ -1 := by
    intro q
    have := congrArg Int64.toInt q
    rw [pk_lT (by omega)] at this
    have h2 : (-1 : Int64).toInt = -1 := by decide
    omega
  refine Int64.toInt_inj.mp ?_
  have e2 : (-(lN (a / d))).toInt = -((a / d : Nat) : Int) := by
    generalize a / d = q at hq ⊢
    rw [Int64.toInt_neg, pk_lT (by omega), bm64 (by omega) (by omega)]
  rw [Int64.toInt_div_of_ne_right _ _ hne, e2, Int64.toInt_neg, pk_lT (by omega), pk_lT (by omega), bm64 (by omega) (by omega), Int.neg_tdiv]
  rfl
def esN (dk est wk : Nat) : Nat := if dk = 0 then wk else if est ≤ wk then est + (wk - est) / 4 else est - (est - wk) / 4
theorem esN_le {dk est wk M : Nat} (h1 : est ≤ M) (h2 : wk ≤ M) : esN dk est wk ≤ M := by
  unfold esN
  split
  · exact h2
  · split <;> omega
theorem esA_nI {dk est wk : Nat} (hd : dk < 2 ^ 31) (he : est ≤ 9999) (hw : wk ≤ 9999) : esA (nI dk) (nI est) (nI wk) = nI (esN dk est wk) := by
  unfold esA esN
  by_cases h : dk = 0
  · subst h
    rw [if_pos nI_0, if_pos rfl]
  · rw [if_neg (nI_ne0 (by omega) hd), if_neg h]
    by_cases h2 : est ≤ wk
    · rw [if_pos h2, pk_sub h2, show (nI (wk - est) / 4 : Int32) = nI ((wk - est) / 4) from pk_div (d := 4) (by omega) (by omega) (by omega), nI_add]
    · rw [if_neg h2, ← Int32.neg_sub, pk_sub (by omega), show (-(nI (est - wk)) / 4 : Int32) = -(nI ((est - wk) / 4)) from ng_divI (d := 4) (by omega) (by omega) (by omega), ← Int32.sub_eq_add_neg, pk_sub (by omega)]
def powN (n p c i : Nat) : Nat := n * p + (c - n) * i
theorem powA_nI {n p c i : Nat} (h : n ≤ c) : powA (nI n) (nI p) (nI c) (nI i) = nI (powN n p c i) := by
  unfold powA powN
  rw [pk_sub h, pk_mul, pk_mul, nI_add]
theorem powA_0 (p : Int32) (c i : Nat) : powA 0 p (nI c) (nI i) = nI (powN 0 0 c i) := by
  unfold powA powN
  rw [show nI c - 0 = nI c from pk_sub (b := 0) (by omega), pk_mul]
  simp
theorem powN_le {n p c i : Nat} (h : n ≤ c) (hc : c ≤ 4) (hp : p ≤ 999) (hi : i ≤ 99) : powN n p c i ≤ 999 * n + 99 * (c - n) := by
  unfold powN
  have h1 : n * p ≤ n * 999 := Nat.mul_le_mul_left n hp
  have h2 : (c - n) * i ≤ (c - n) * 99 := Nat.mul_le_mul_left (c - n) hi
  omega
def tmpN (t h p am co : Nat) : Nat := if am ≤ t then t + h * p / 100 - (t - am) * co / 1000 else t + h * p / 100 + (am - t) * co / 1000
theorem tmA_nI {t h p am co : Nat} (ht : t ≤ 40000000) (hh : h ≤ 999) (hp : p ≤ 3996) (ha : am ≤ 9999) (hc : co ≤ 999) : tmpA (nI t) (nI h) (nI p) (nI am) (nI co) = nI (tmpN t h p am co) := by
  have h1 : h * p ≤ 999 * 3996 := Nat.mul_le_mul hh hp
  have h2 : (t - am) * co ≤ (t - am) * 1000 := Nat.mul_le_mul_left _ (by omega)
  have h3 : (am - t) * co ≤ (am - t) * 1000 := Nat.mul_le_mul_left _ (by omega)
  have e1 : (lN (h * p) / 100 : Int64) = lN (h * p / 100) := pk_lDiv (b := 100) (by omega) (by omega) (by omega)
  unfold tmpA tmpN
  rw [nI_l (n := t) (by omega), nI_l (n := h) (by omega), nI_l (n := p) (by omega), nI_l (n := am) (by omega), nI_l (n := co) (by omega), lN_mul, e1, lN_add]
  by_cases hle : am ≤ t
  · have e2 : (lN ((t - am) * co) / 1000 : Int64) = lN ((t - am) * co / 1000) := pk_lDiv (b := 1000) (by omega) (by omega) (by omega)
    rw [if_pos hle, lN_sub hle, lN_mul, e2, lN_sub (by omega), lN_i]
  · have e2 : (-(lN ((am - t) * co)) / 1000 : Int64) = -(lN ((am - t) * co / 1000)) := ng_divL (d := 1000) (by omega) (by omega) (by omega)
    rw [if_neg hle, ← Int64.neg_sub (a := lN am) (b := lN t), lN_sub (by omega), Int64.neg_mul, lN_mul, e2, Int64.sub_neg, lN_add, lN_i]
theorem tmpN_le {t h p am co : Nat} (ht : t ≤ 40000000) (hh : h ≤ 999) (hp : p ≤ 3996) (ha : am ≤ 9999) (hc1 : 1 ≤ co) (hc : co ≤ 999) : tmpN t h p am co ≤ 40000000 := by
  have h1 : h * p ≤ 999 * 3996 := Nat.mul_le_mul hh hp
  have h2 : (t - am) * 1 ≤ (t - am) * co := Nat.mul_le_mul_left _ hc1
  have h3 : (am - t) * co ≤ (am - t) * 1000 := Nat.mul_le_mul_left _ (by omega)
  unfold tmpN
  split <;> omega
def hotN (t h am co lim n cs idl : Nat) (pw : Nat → Nat) (l : Nat) : Bool := decide (lim < tmpN t h (powN n (pw l) cs idl) am co)
theorem limC_le {x lim : Nat} (hx : x ≤ 40000000) (hl : lim ≤ 99999 ∨ lim = 1000000000) : (nI x ≤ limC lim) ↔ (x ≤ lim) := by
  unfold limC
  by_cases h : lim = 1000000000
  · rw [if_pos h]
    constructor
    · intro _
      omega
    · intro _
      rw [Int32.le_iff_toInt_le, nI_toInt (by omega)]
      show _ ≤ (2147483647 : Int)
      omega
  · rw [if_neg h, nI_leI (by omega) (by omega)]
theorem hot_C {t h am co lim n cs idl l : Nat} {pw : Nat → Nat} {pW : Nat → Int32} (hw : pW l = nI (pw l)) (hn : n ≤ cs) (hcs : cs ≤ 4) (ht : t ≤ 40000000) (hh : h ≤ 999) (hpw : pw l ≤ 999) (hid : idl ≤ 99) (ha : am ≤ 9999) (hc1 : 1 ≤ co) (hc : co ≤ 999) (hl : lim ≤ 99999 ∨ lim = 1000000000) : decide (¬ tmpA (nI t) (nI h) (powA (nI n) (pW l) (nI cs) (nI idl)) (nI am) (nI co) ≤ limC lim) = hotN t h am co lim n cs idl pw l := by
  have hp := powN_le (p := pw l) (i := idl) hn hcs hpw hid
  unfold hotN
  rw [hw, powA_nI hn, tmA_nI ht hh (by omega) ha hc]
  have h0 := tmpN_le (p := powN n (pw l) cs idl) ht hh (by omega) ha hc1 hc
  have h1 := limC_le h0 hl
  by_cases h2 : tmpN t h (powN n (pw l) cs idl) am co ≤ lim
  · rw [decide_eq_false (fun q => q (h1.mpr h2)), decide_eq_false (by omega)]
  · have h3 : ¬ nI (tmpN t h (powN n (pw l) cs idl) am co) ≤ limC lim := fun q => h2 (h1.mp q)
    rw [decide_eq_true h3, decide_eq_true (by omega)]
theorem hot_R {t h am co lim n cs idl l : Nat} {pw : Nat → Nat} {pW : Nat → Int32} (hw : pW l = nI (pw l)) (hn : n ≤ cs) (hcs : cs ≤ 4) (ht : t ≤ 40000000) (hh : h ≤ 999) (hpw : pw l ≤ 999) (hid : idl ≤ 99) (ha : am ≤ 9999) (hc1 : 1 ≤ co) (hc : co ≤ 999) (hl : lim ≤ 99999 ∨ lim = 1000000000) : hotA (nI t) (nI h) (nI am) (nI co) (nI lim) (nI n) (nI cs) (nI idl) pW l = hotN t h am co lim n cs idl pw l := by
  have hp := powN_le (p := pw l) (i := idl) hn hcs hpw hid
  unfold hotN hotA
  rw [hw, powA_nI hn, tmA_nI ht hh (by omega) ha hc]
  have h0 := tmpN_le (p := powN n (pw l) cs idl) ht hh (by omega) ha hc1 hc
  have h1 := nI_leI (a := tmpN t h (powN n (pw l) cs idl) am co) (b := lim) (by omega) (by omega)
  by_cases h2 : tmpN t h (powN n (pw l) cs idl) am co ≤ lim
  · rw [decide_eq_false (fun q => q (h1.mpr h2)), decide_eq_false (by omega)]
  · have h3 : ¬ nI (tmpN t h (powN n (pw l) cs idl) am co) ≤ nI lim := fun q => h2 (h1.mp q)
    rw [decide_eq_true h3, decide_eq_true (by omega)]
theorem anyA_iff {g : Bool} {p : Nat → Bool} : ∀ {n : Nat}, anyA g p n = true ↔ (g = true ∨ ∃ j, j < n ∧ p j = true)
  | 0 => by
    show g = true ↔ _
    constructor
    · exact fun h => .inl h
    · rintro (h | ⟨j, hj, _⟩)
      · exact h
      · omega
  | n + 1 => by
    rw [anyA_succ, Bool.or_eq_true, anyA_iff (n := n)]
    constructor
    · rintro ((h | ⟨j, hj, h1⟩) | h)
      · exact .inl h
      · exact .inr ⟨j, by omega, h1⟩
      · exact .inr ⟨n, by omega, h⟩
    · rintro (h | ⟨j, hj, h1⟩)
      · exact .inl (.inl h)
      · by_cases hjn : j = n
        · subst hjn
          exact .inr h1
        · exact .inl (.inr ⟨j, by omega, h1⟩)
theorem anyA_congr {g : Bool} {p q : Nat → Bool} : ∀ {n : Nat}, (∀ j, j < n → p j = q j) → anyA g p n = anyA g q n
  | 0, _ => rfl
  | n + 1, h => by rw [anyA_succ, anyA_succ, h n (by omega), anyA_congr (n := n) (fun j hj => h j (by omega))]
