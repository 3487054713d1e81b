/-- the text as numbers, and its tokens -/
def kd (t : Nat → Nat) (len p : Nat) : Nat := if p < len then (if t p = 32 then 1 else if t p = 10 then 1 else if 97 ≤ t p ∧ t p ≤ 122 then 2 else if 48 ≤ t p ∧ t p ≤ 57 then 3 else if t p = 59 then 4 else 5) else 0
def rnf (t : Nat → Nat) (len c : Nat) : Nat → Nat → Nat
  | 0, p => p
  | n + 1, p => if kd t len p = c then rnf t len c n (p + 1) else p
def rn (t : Nat → Nat) (len c p : Nat) : Nat := rnf t len c (len - p) p
theorem rn_s {t : Nat → Nat} {len c p : Nat} (h : p < len) : rn t len c p = if kd t len p = c then rn t len c (p + 1) else p := by
  unfold rn
  rw [show len - p = (len - (p + 1)) + 1 by omega, rnf]
theorem rn_e {t : Nat → Nat} {len c p : Nat} (h : ¬ p < len) : rn t len c p = p := by
  unfold rn
  rw [show len - p = 0 by omega, rnf]
theorem rnf_b {t : Nat → Nat} {len c : Nat} : ∀ n p, p ≤ rnf t len c n p ∧ rnf t len c n p ≤ p + n
  | 0, p => by rw [rnf]; omega
  | n + 1, p => by
    rw [rnf]
    split
    · have := rnf_b (t := t) (len := len) (c := c) n (p + 1)
      omega
    · omega
theorem rn_b {t : Nat → Nat} {len c p : Nat} (h : p ≤ len) : p ≤ rn t len c p ∧ rn t len c p ≤ len := by
  have := rnf_b (t := t) (len := len) (c := c) (len - p) p
  unfold rn
  omega
theorem rnf_all {t : Nat → Nat} {len c : Nat} : ∀ n p i, p ≤ i → i < rnf t len c n p → kd t len i = c
  | 0, p, i, h1, h2 => by rw [rnf] at h2; omega
  | n + 1, p, i, h1, h2 => by
    rw [rnf] at h2
    by_cases hk : kd t len p = c
    · rw [if_pos hk] at h2
      by_cases hi : i = p
      · rw [hi]; exact hk
      · exact rnf_all n (p + 1) i (by omega) h2
    · rw [if_neg hk] at h2
      omega
theorem rn_all {t : Nat → Nat} {len c p i : Nat} (h1 : p ≤ i) (h2 : i < rn t len c p) : kd t len i = c := rnf_all _ _ _ h1 h2
theorem kd_e {t : Nat → Nat} {len p : Nat} (h : ¬ p < len) : kd t len p = 0 := if_neg h
theorem kd_n {t : Nat → Nat} {len p : Nat} (h : p < len) : kd t len p ≠ 0 := by
  unfold kd
  rw [if_pos h]
  repeat' split
  all_goals omega
theorem kd_le {t : Nat → Nat} {len p : Nat} : kd t len p ≤ 5 := by
  unfold kd
  repeat' split
  all_goals omega
theorem kd_2 {t : Nat → Nat} {len p : Nat} (h : kd t len p = 2) : p < len ∧ 97 ≤ t p ∧ t p ≤ 122 := by
  unfold kd at h
  repeat' split at h
  all_goals omega
theorem kd_3 {t : Nat → Nat} {len p : Nat} (h : kd t len p = 3) : p < len ∧ 48 ≤ t p ∧ t p ≤ 57 := by
  unfold kd at h
  repeat' split at h
  all_goals omega
def tS (t : Nat → Nat) (len p : Nat) : Nat := rn t len 1 p
def tB (t : Nat → Nat) (len p : Nat) : Nat := kd t len (tS t len p)
def tE (t : Nat → Nat) (len p : Nat) : Nat := if tB t len p = 0 then tS t len p else if tB t len p = 2 ∨ tB t len p = 3 then rn t len (tB t len p) (tS t len p) else tS t len p + 1
def tK (t : Nat → Nat) (len p : Nat) : Nat := if tB t len p = 3 ∧ 5 < tE t len p - tS t len p then 5 else tB t len p
def vl (t : Nat → Nat) (s : Nat) : Nat → Nat
  | 0 => 0
  | n + 1 => 10 * vl t s n + (t (s + n) - 48)
def vN (t : Nat → Nat) (len p : Nat) : Nat := vl t (tS t len p) (tE t len p - tS t len p)
def rk (k : Nat) : Nat := if k = 5 then 1 else k
theorem tS_b {t : Nat → Nat} {len p : Nat} (h : p ≤ len) : p ≤ tS t len p ∧ tS t len p ≤ len := rn_b h
theorem tE_b {t : Nat → Nat} {len p : Nat} (h : p ≤ len) : tS t len p ≤ tE t len p ∧ tE t len p ≤ len := by
  have hs := tS_b (t := t) h
  unfold tE
  split
  · omega
  · rename_i h0
    have hl : tS t len p < len := by
      refine Decidable.byContradiction fun q => h0 ?_
      exact kd_e q
    split
    · exact rn_b hs.2
    · omega
/-- signed bytes -/
def SG (x : Int32) (v : Nat) : Prop := v < 256 ∧ x.toInt = if v < 128 then (v : Int) else (v : Int) - 256
theorem sg_eq {x : Int32} {v c : Nat} (hc : c < 128) (h : SG x v) : x = nI c ↔ v = c := by
  obtain ⟨hv, h⟩ := h
  have hn := nI_toInt (n := c) (by omega)
  constructor
  · intro q
    rw [q, hn] at h
    split at h <;> omega
  · intro q
    apply Int32.toInt_inj.mp
    rw [h, hn]
    split <;> omega
theorem sg_lt {x : Int32} {v c : Nat} (hc : c < 128) (h : SG x v) : x < nI c ↔ (v < c ∨ 128 ≤ v) := by
  obtain ⟨hv, h⟩ := h
  have hn := nI_toInt (n := c) (by omega)
  rw [Int32.lt_iff_toInt_lt, h, hn]
  split <;> omega
theorem sg_gt {x : Int32} {v c : Nat} (hc : c < 128) (h : SG x v) : nI c < x ↔ (c < v ∧ v < 128) := by
  obtain ⟨hv, h⟩ := h
  have hn := nI_toInt (n := c) (by omega)
  rw [Int32.lt_iff_toInt_lt, h, hn]
  split <;> omega
/-- the class's text -/
def CB (N : Nat → Nat → Int32) (t : Nat → Nat) (len : Nat) : Prop := len ≤ 500 ∧ N 1 1 = nI len ∧ ∀ i, i < len → SG (N 2 i) (t i)
def QB (N : Nat → Nat → Int32) (t : Nat → Nat) (len : Nat) : Prop := len ≤ 500 ∧ N 336 17 = nI len ∧ ∀ i, i < len → t i < 256 ∧ N 348 i = nI (t i)
theorem CB_x {N N' : Nat → Nat → Int32} {t : Nat → Nat} {len : Nat} (h1 : N' 1 = N 1) (h2 : N' 2 = N 2) (h : CB N t len) : CB N' t len := by
  unfold CB at h ⊢
  rw [h1, h2]
  exact h
theorem QB_x {N N' : Nat → Nat → Int32} {t : Nat → Nat} {len : Nat} (h1 : N' 336 17 = N 336 17) (h2 : N' 348 = N 348) (h : QB N t len) : QB N' t len := by
  unfold QB at h ⊢
  rw [h1, h2]
  exact h
theorem g_cby {N : Nat → Nat → Int32} {r : Int64 × UInt64} {p : Nat} (hp : p < 500) : f_X4_byteAt 1 (nI p) (mw N r) = some (N 2 p, mw N r) := by
  have hn : (Int32.ofNat (hz_ln 2) ≤ nI p) = False := eq_false (fun q => absurd ((nI_leI (a := 500) (by omega) (by omega)).mp q) (by omega))
  have h0 : (nI p < 0) = False := eq_false (nI_pos (by omega))
  simp only [f_X4_byteAt, PX, h0, hn, if_false, e_lda (a := 2) (n := 500) rfl (by decide) N r _ p hp, e_bd]
theorem g_ckd {N : Nat → Nat → Int32} {r : Int64 × UInt64} {t : Nat → Nat} {len p : Nat} (hc : CB N t len) (hp : p ≤ len) : f_X7_kindAt 16 (nI p) (mw N r) = some (nI (kd t len p), mw N r) := by
  obtain ⟨h5, h1, h2⟩ := hc
  simp only [f_X7_kindAt, PX, mw_1, h1]
  by_cases hl : p < len
  · have hx := h2 p hl
    have e0 : (nI p < nI len) = True := eq_true (nI_lt hl (by omega))
    have e1 : (N 2 p = 32) = (t p = 32) := propext (sg_eq (c := 32) (by omega) hx)
    have e2 : (N 2 p = 10) = (t p = 10) := propext (sg_eq (c := 10) (by omega) hx)
    have e3 : (N 2 p = 59) = (t p = 59) := propext (sg_eq (c := 59) (by omega) hx)
    have e4 : (N 2 p < 97) = (t p < 97 ∨ 128 ≤ t p) := propext (sg_lt (c := 97) (by omega) hx)
    have e5 : (N 2 p < 48) = (t p < 48 ∨ 128 ≤ t p) := propext (sg_lt (c := 48) (by omega) hx)
    have e6 : (57 < N 2 p) = (57 < t p ∧ t p < 128) := propext (sg_gt (c := 57) (by omega) hx)
    have e7 : (122 < N 2 p) = (122 < t p ∧ t p < 128) := propext (sg_gt (c := 122) (by omega) hx)
    simp only [e0, if_true, g_cby (N := N) (r := r) (show p < 500 by omega), e_b, e1, e2, e3, e4, e5, e6, e7]
    unfold kd
    rw [if_pos hl]
    repeat' split
    all_goals first | rfl | omega
  · have e0 : (nI p < nI len) = False := eq_false (fun q => hl ((nI_ltI (by omega) (by omega)).mp q))
    simp only [e0, if_false, kd_e hl]
    rfl
theorem l_c8 {N : Nat → Nat → Int32} {r : Int64 × UInt64} {t : Nat → Nat} {len : Nat} : ∀ m p F (N : Nat → Nat → Int32), len - p = m → p ≤ len → m < F → CB N t len → N 16 2 = nI p → ∃ N', lp_X7_readNext_8 16 F (mw N r) = some (mw N' r) ∧ N' 16 2 = nI (rn t len 1 p) ∧ (∀ a, a ≠ 16 → N' a = N a) ∧ ∀ k, k ≠ 2 → N' 16 k = N 16 k := by
  intro m
  induction m with
  | zero =>
    intro p F N hm hp hF hc h2
    obtain ⟨G, rfl⟩ := F_succ hF
    have e0 : (nI len ≤ nI p) = True := eq_true (nI_le (by omega) (by have := hc.1; omega))
    refine ⟨N, ?_, by rw [rn_e (by omega)]; exact h2, fun _ _ => rfl, fun _ _ => rfl⟩
    rw [lp_X7_readNext_8]
    simp only [PX, mw_1, hc.2.1, h2, e0, if_true]
  | succ m ih =>
    intro p F N hm hp hF hc h2
    obtain ⟨G, rfl⟩ := F_succ hF
    have h5 := hc.1
    have e0 : (nI len ≤ nI p) = False := eq_false (fun q => absurd ((nI_leI (by omega) (by omega)).mp q) (by omega))
    have e1 : (nI (kd t len p) = 1) = (kd t len p = 1) := propext (nI_eq (b := 1) (by have := kd_le (t := t) (len := len) (p := p); omega) (by omega))
    rw [lp_X7_readNext_8]
    simp only [PX, mw_1, hc.2.1, h2, e0, if_false, g_ckd hc hp, e_b, e1]
    by_cases hk : kd t len p = 1
    · rw [if_pos hk]
      simp only [e_let, mw_pn, nI_p1]
      obtain ⟨N', g1, g2, g3, g4⟩ := ih (p + 1) G (st N 16 2 (nI (p + 1))) (by omega) (by omega) (by omega) (CB_x (st_cell (by omega)) (st_cell (by omega)) hc) (st_self _ _ _ _)
      refine ⟨N', g1, by rw [rn_s (by omega), if_pos hk]; exact g2, fun a ha => by rw [g3 a ha, st_cell ha], fun k hk => by rw [g4 k hk, st_slot hk]⟩
    · rw [if_neg hk]
      exact ⟨N, rfl, by rw [rn_s (by omega), if_neg hk]; exact h2, fun _ _ => rfl, fun _ _ => rfl⟩
theorem l_c79 {r : Int64 × UInt64} {t : Nat → Nat} {len c : Nat} (h23 : c = 2 ∨ c = 3) : ∀ m p F (N : Nat → Nat → Int32), len - p = m → p ≤ len → m < F → CB N t len → N 16 1 = nI c → N 16 3 = nI p → ∃ N', lp_X7_readNext_79 16 F (mw N r) = some (mw N' r) ∧ N' 16 3 = nI (rn t len c p) ∧ (∀ a, a ≠ 16 → N' a = N a) ∧ ∀ k, k ≠ 3 → N' 16 k = N 16 k := by
  intro m
  induction m with
  | zero =>
    intro p F N hm hp hF hc h1 h2
    obtain ⟨G, rfl⟩ := F_succ hF
    have e0 : (nI len ≤ nI p) = True := eq_true (nI_le (by omega) (by have := hc.1; omega))
    refine ⟨N, ?_, by rw [rn_e (by omega)]; exact h2, fun _ _ => rfl, fun _ _ => rfl⟩
    rw [lp_X7_readNext_79]
    simp only [PX, mw_1, hc.2.1, h2, e0, if_true]
  | succ m ih =>
    intro p F N hm hp hF hc h1 h2
    obtain ⟨G, rfl⟩ := F_succ hF
    have h5 := hc.1
    have e0 : (nI len ≤ nI p) = False := eq_false (fun q => absurd ((nI_leI (by omega) (by omega)).mp q) (by omega))
    have e1 : (nI (kd t len p) = nI c) = (kd t len p = c) := propext (nI_eq (by have := kd_le (t := t) (len := len) (p := p); omega) (by omega))
    have key : ∀ (w : Option MW), (if nI (kd t len p) = nI c then lp_X7_readNext_79 16 G (mw (st N 16 3 (nI (p + 1))) r) else some (mw N r)) = w → ∃ N', w = some (mw N' r) ∧ N' 16 3 = nI (rn t len c p) ∧ (∀ a, a ≠ 16 → N' a = N a) ∧ ∀ k, k ≠ 3 → N' 16 k = N 16 k := by
      intro w hw
      rw [← hw]
      simp only [e1]
      by_cases hk : kd t len p = c
      · rw [if_pos hk]
        obtain ⟨N', g1, g2, g3, g4⟩ := ih (p + 1) G (st N 16 3 (nI (p + 1))) (by omega) (by omega) (by omega) (CB_x (st_cell (by omega)) (st_cell (by omega)) hc) (by rw [st_slot (by omega)]; exact h1) (st_self _ _ _ _)
        refine ⟨N', g1, by rw [rn_s (by omega), if_pos hk]; exact g2, fun a ha => by rw [g3 a ha, st_cell ha], fun k hk => by rw [g4 k hk, st_slot hk]⟩
      · rw [if_neg hk]
        exact ⟨N, rfl, by rw [rn_s (by omega), if_neg hk]; exact h2, fun _ _ => rfl, fun _ _ => rfl⟩
    refine key _ ?_
    rw [lp_X7_readNext_79]
    rcases h23 with rfl | rfl
    · simp only [PX, mw_1, hc.2.1, h1, h2, e0, if_false, g_ckd hc hp, e_b, show (nI 2 = 2) = True from eq_true rfl, if_true, e_let, mw_pn, nI_p1]
    · simp only [PX, mw_1, hc.2.1, h1, h2, e0, if_false, g_ckd hc hp, e_b, show (nI 3 = 2) = False from eq_false (by decide), show (nI 3 = 3) = True from eq_true rfl, if_true, e_let, mw_pn, nI_p1]
