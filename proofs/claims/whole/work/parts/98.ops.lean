/-- the tokens by number -/
def tp (t : Nat → Nat) (len : Nat) : Nat → Nat
  | 0 => 0
  | i + 1 => tE t len (tp t len i)
theorem tp_b {t : Nat → Nat} {len : Nat} : ∀ i, tp t len i ≤ len
  | 0 => Nat.zero_le _
  | i + 1 => (tE_b (tp_b i)).2
def KK (t : Nat → Nat) (len i : Nat) : Nat := tK t len (tp t len i)
def VV (t : Nat → Nat) (len i : Nat) : Nat := vN t len (tp t len i)
def SS (t : Nat → Nat) (len i : Nat) : Nat := tS t len (tp t len i)
def WW (t : Nat → Nat) (len c i : Nat) : Bool := wd t len c (tp t len i)
def numE (t : Nat → Nat) (len i lo hi : Nat) : Nat := if KK t len i = 3 then (if VV t len i < lo ∨ hi < VV t len i then 2 else 0) else 1
def semE (t : Nat → Nat) (len i : Nat) : Nat := if KK t len i = 4 then 0 else 1
def wrdE (t : Nat → Nat) (len c i : Nat) : Nat := if WW t len c i = true then 0 else 1
theorem KK_le {t : Nat → Nat} {len i : Nat} : KK t len i ≤ 5 := by
  have : tB t len (tp t len i) ≤ 5 := kd_le
  unfold KK tK
  split <;> omega
/-- class operations -/
def PC (N : Nat → Nat → Int32) (t : Nat → Nat) (len i : Nat) : Prop := CB N t len ∧ N 16 1 = nI (KK t len i) ∧ N 16 2 = nI (SS t len i) ∧ N 16 3 = nI (tp t len (i + 1)) ∧ N 3 2 = -1
def FS (N N' : Nat → Nat → Int32) : Prop := ∀ a, a ≠ 3 → a ≠ 16 → N' a = N a
def ER (N : Nat → Nat → Int32) (t : Nat → Nat) (len c i : Nat) : Prop := N 3 1 = nI c ∧ N 3 2 = nI (SS t len i)
def CO (N N' : Nat → Nat → Int32) (t : Nat → Nat) (len c i : Nat) : Prop := FS N N' ∧ (c = 0 → PC N' t len (i + 1)) ∧ (c ≠ 0 → ER N' t len c i)
theorem FS_t {N N1 N2 : Nat → Nat → Int32} (h : FS N N1) (h2 : FS N1 N2) : FS N N2 := fun a h3 h4 => (h2 a h3 h4).trans (h a h3 h4)
theorem P3 : (∀ (σ : Type) (x : Option σ), hz_gd (hz_g 358 3 6) x = x) ∧ (∀ (σ : Type) (x : Option σ), hz_gd (hz_g 358 16 8) x = x) := ⟨fun _ _ => rfl, fun _ _ => rfl⟩
theorem c_fail {N : Nat → Nat → Int32} {r : Int64 × UInt64} {t : Nat → Nat} {len i c : Nat} {x : Int32} (h : PC N t len i) (hx : x = nI c) (hc : c ≠ 0) : ∃ N', f_X5_fail 3 x (mw N r) = some (0, mw N' r) ∧ CO N N' t len c i := by
  subst hx
  refine ⟨st (st N 3 1 (nI c)) 3 2 (nI (SS t len i)), ?_, fun a h1 h2 => by rw [st_cell h1, st_cell h1], fun q => absurd q hc, fun _ => ⟨by rw [st_slot (by omega), st_self], st_self _ _ _ _⟩⟩
  simp (disch := omega) only [f_X5_fail, P3, PX, e_let, mw_pn, mw_1, st_cell, h.2.2.1, e_isb0]
theorem c_next {N : Nat → Nat → Int32} {r : Int64 × UInt64} {t : Nat → Nat} {len i : Nat} (hc : CB N t len) (h : N 16 3 = nI (tp t len (i + 1))) (h32 : N 3 2 = -1) : ∃ N', f_X7_readNext 16 (mw N r) = some (mw N' r) ∧ CO N N' t len 0 i ∧ ∀ a, a ≠ 16 → N' a = N a := by
  obtain ⟨N', h1, h2, h3, h4, h5⟩ := g_crn (r := r) hc (tp_b (i + 1)) h
  exact ⟨N', h1, ⟨fun a _ ha => h5 a ha, fun _ => ⟨CB_x (h5 1 (by omega)) (h5 2 (by omega)) hc, h2, h3, h4, by rw [h5 3 (by omega)]; exact h32⟩, fun q => absurd rfl q⟩, h5⟩
theorem c_sem {N : Nat → Nat → Int32} {r : Int64 × UInt64} {t : Nat → Nat} {len i : Nat} (h : PC N t len i) : ∃ N', f_X5_acceptSemicolon 3 (mw N r) = some (bI (decide (semE t len i = 0)), mw N' r) ∧ CO N N' t len (semE t len i) i := by
  have hk := KK_le (t := t) (len := len) (i := i)
  have e4 : (nI (KK t len i) = 4) = (KK t len i = 4) := propext (nI_eq (b := 4) (by omega) (by omega))
  unfold semE
  by_cases c : KK t len i = 4
  · obtain ⟨N', h1, h2, _⟩ := c_next (r := r) h.1 h.2.2.2.1 h.2.2.2.2
    rw [if_pos c]
    refine ⟨N', ?_, h2⟩
    simp only [f_X5_acceptSemicolon, P3, PX, mw_1, h.2.1, e4, c, if_true, h1, e_bv, e_isb1]
    rfl
  · obtain ⟨N', h1, h2⟩ := c_fail (r := r) (x := 1) (c := 1) h rfl (by omega)
    rw [if_neg c]
    refine ⟨N', ?_, h2⟩
    simp only [f_X5_acceptSemicolon, P3, PX, mw_1, h.2.1, e4, c, if_false, h1, e_b, e_isb0]
    rfl
theorem c_isw {N : Nat → Nat → Int32} {r : Int64 × UInt64} {t : Nat → Nat} {len i c : Nat} (h14 : c < 14) (h : PC N t len i) : f_X7_isAtWord 16 c (mw N r) = some (bI (WW t len c i), mw N r) := g_cword h.1 (tp_b i) h.2.1 h.2.2.1 h.2.2.2.1 h14
theorem c_wrd {N : Nat → Nat → Int32} {r : Int64 × UInt64} {t : Nat → Nat} {len i c : Nat} (h14 : c < 14) (h : PC N t len i) : ∃ N', f_X5_acceptWord 3 c (mw N r) = some (bI (decide (wrdE t len c i = 0)), mw N' r) ∧ CO N N' t len (wrdE t len c i) i := by
  have hw := c_isw (r := r) h14 h
  unfold wrdE
  cases hq : WW t len c i with
  | true =>
    obtain ⟨N', h1, h2, _⟩ := c_next (r := r) h.1 h.2.2.2.1 h.2.2.2.2
    rw [if_pos rfl]
    refine ⟨N', ?_, h2⟩
    simp only [f_X5_acceptWord, P3, PX, hw, hq, bI_t, i10, if_false, e_b, h1, e_bv, e_isb1]
    rfl
  | false =>
    obtain ⟨N', h1, h2⟩ := c_fail (r := r) (x := 1) (c := 1) h rfl (by omega)
    rw [if_neg (by decide)]
    refine ⟨N', ?_, h2⟩
    simp only [f_X5_acceptWord, P3, PX, hw, hq, bI_f, if_true, e_b, h1, e_isb0]
    rfl
theorem VV_le {t : Nat → Nat} {len i : Nat} (h : KK t len i = 3) : VV t len i ≤ 99999 := vN_lt (tp_b i) h
theorem c_num {N : Nat → Nat → Int32} {r : Int64 × UInt64} {t : Nat → Nat} {len i lo hi : Nat} {x y : Int32} (hx : x = nI lo) (hy : y = nI hi) (hlo : lo < 2 ^ 31) (hhi : hi < 2 ^ 31) (h : PC N t len i) : ∃ N', f_X5_acceptNumber 3 x y (mw N r) = some (bI (decide (numE t len i lo hi = 0)), mw N' r) ∧ CO N N' t len (numE t len i lo hi) i ∧ (numE t len i lo hi = 0 → N' 3 4 = nI (VV t len i)) := by
  subst hx
  subst hy
  have hk := KK_le (t := t) (len := len) (i := i)
  have e3 : (nI (KK t len i) = 3) = (KK t len i = 3) := propext (nI_eq (b := 3) (by omega) (by omega))
  unfold numE
  by_cases c : KK t len i = 3
  · have hv := VV_le c
    have hn : f_X7_numberHere 16 (mw N r) = some (nI (VV t len i), mw N r) := g_cnum h.1 (tp_b i) h.2.2.1 h.2.2.2.1 c
    have hP : PC (st N 3 4 (nI (VV t len i))) t len i := by
      refine ⟨CB_x (st_cell (by omega)) (st_cell (by omega)) h.1, ?_, ?_, ?_, by rw [st_slot (by omega)]; exact h.2.2.2.2⟩
      · rw [st_cell (by omega)]; exact h.2.1
      · rw [st_cell (by omega)]; exact h.2.2.1
      · rw [st_cell (by omega)]; exact h.2.2.2.1
    have hF : FS N (st N 3 4 (nI (VV t len i))) := fun a h1 _ => st_cell h1
    have e1 : (nI (VV t len i) < nI lo) = (VV t len i < lo) := propext (nI_ltI (by omega) hlo)
    have e2 : (nI (VV t len i) ≤ nI hi) = (VV t len i ≤ hi) := propext (nI_leI (by omega) hhi)
    rw [if_pos c]
    by_cases c1 : VV t len i < lo
    · obtain ⟨N', h1, h2, h3, h4⟩ := c_fail (r := r) (x := 2) (c := 2) hP rfl (by omega)
      rw [if_pos (.inl c1)]
      refine ⟨N', ?_, ⟨FS_t hF h2, h3, h4⟩, fun q => absurd q (by omega)⟩
      simp only [f_X5_acceptNumber, P3, PX, mw_1, h.2.1, e3, c, if_true, hn, e_b, e_let, mw_pn, st_self, e1, c1, h1, e_isb0]
      rfl
    · by_cases c2 : VV t len i ≤ hi
      · obtain ⟨N', h1, ⟨h2, h3, h4⟩, h5⟩ := c_next (r := r) hP.1 hP.2.2.2.1 hP.2.2.2.2
        rw [if_neg (by omega)]
        refine ⟨N', ?_, ⟨FS_t hF h2, h3, h4⟩, fun _ => by rw [h5 3 (by omega), st_self]⟩
        simp only [f_X5_acceptNumber, P3, PX, mw_1, h.2.1, e3, c, if_true, hn, e_b, e_let, mw_pn, st_self, e1, c1, if_false, e2, c2, h1, e_bv, e_isb1]
        rfl
      · obtain ⟨N', h1, h2, h3, h4⟩ := c_fail (r := r) (x := 2) (c := 2) hP rfl (by omega)
        rw [if_pos (by omega)]
        refine ⟨N', ?_, ⟨FS_t hF h2, h3, h4⟩, fun q => absurd q (by omega)⟩
        simp only [f_X5_acceptNumber, P3, PX, mw_1, h.2.1, e3, c, if_true, hn, e_b, e_let, mw_pn, st_self, e1, c1, if_false, e2, c2, h1, e_isb0]
        rfl
  · obtain ⟨N', h1, h2⟩ := c_fail (r := r) (x := 1) (c := 1) h rfl (by omega)
    rw [if_neg c]
    refine ⟨N', ?_, h2, fun q => absurd q (by omega)⟩
    simp only [f_X5_acceptNumber, P3, PX, mw_1, h.2.1, e3, c, if_false, h1, e_b, e_isb0]
    rfl
