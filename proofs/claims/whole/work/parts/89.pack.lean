def toN (A : AS) (j : Nat) : Nat := mxN (A 30 1) (A 2 j + A 3 j)
def frN (A : AS) (j : Nat) : Nat := mxN (A 30 1) (A 2 j)
def pkN (A : AS) : Nat → (Nat → Bool) → List (Nat × Int32)
  | 0, _ => []
  | m + 1, p => match fb p (fun j => nI (toN A j)) (A 30 0) with
    | none => []
    | some f => (toN A f, rbA (fun j => p j && decide (A 2 j ≤ toN A f)) (A 30 0)) :: pkN A m (fun j => p j && !decide (A 2 j ≤ toN A f))
theorem pkN_none {A : AS} {p : Nat → Bool} (h : fb p (fun j => nI (toN A j)) (A 30 0) = none) : ∀ m, pkN A m p = []
  | 0 => rfl
  | m + 1 => by
    unfold pkN
    rw [h]
theorem pkN_some {A : AS} {p : Nat → Bool} {f m : Nat} (h : fb p (fun j => nI (toN A j)) (A 30 0) = some f) : pkN A (m + 1) p = (toN A f, rbA (fun j => p j && decide (A 2 j ≤ toN A f)) (A 30 0)) :: pkN A m (fun j => p j && !decide (A 2 j ≤ toN A f)) := by
  show (match fb p (fun j => nI (toN A j)) (A 30 0) with
    | none => []
    | some f => (toN A f, rbA (fun j => p j && decide (A 2 j ≤ toN A f)) (A 30 0)) :: pkN A m (fun j => p j && !decide (A 2 j ≤ toN A f))) = _
  rw [h]
theorem fb_min {p : Nat → Bool} {dl : Nat → Int32} : ∀ {n f : Nat}, fb p dl n = some f → ∀ j, j < n → p j = true → dl f ≤ dl j
  | 0, _, _, _, hj, _ => by omega
  | n + 1, f, h, j, hj, hp => by
    rw [fb_succ] at h
    cases h0 : fb p dl n with
    | none =>
      rw [h0] at h
      dsimp only at h
      have hn := fb_none h0
      by_cases hq : j = n
      · subst hq
        rw [if_pos hp] at h
        cases h
        exact Int32.le_refl _
      · rw [hn j (by omega)] at hp
        cases hp
    | some g =>
      rw [h0] at h
      dsimp only at h
      have hm := fb_min h0
      split at h
      · rename_i hq
        cases h
        by_cases hj2 : j = n
        · subst hj2
          exact Int32.le_refl _
        · exact Int32.le_trans (Int32.le_of_lt (Int32.not_le.mp hq.2)) (hm j (by omega) hp)
      · rename_i hq
        cases h
        by_cases hj2 : j = n
        · subst hj2
          by_cases hle : dl f ≤ dl j
          · exact hle
          · exact absurd ⟨hp, hle⟩ hq
        · exact hm j (by omega) hp
theorem cnt_lt {p q : Nat → Bool} {f : Nat} (hsub : ∀ j, q j = true → p j = true) (hp : p f = true) (hq : q f = false) : ∀ n, cnt q n + (if f < n then 1 else 0) ≤ cnt p n
  | 0 => Nat.le_refl _
  | n + 1 => by
    have ih := cnt_lt hsub hp hq n
    rw [cnt, cnt]
    by_cases hn : n = f
    · subst hn
      rw [hp, hq, if_pos (show n < n + 1 by omega), if_neg (by decide), if_pos rfl]
      rw [if_neg (by omega)] at ih
      omega
    · have h1 : (if q n = true then 1 else 0) ≤ (if p n = true then 1 else 0) := by
        by_cases h : q n = true
        · rw [if_pos h, if_pos (hsub n h)]
          exact Nat.le_refl _
        · rw [if_neg h]
          omega
      by_cases h2 : f < n
      · rw [if_pos h2] at ih
        rw [if_pos (show f < n + 1 by omega)]
        omega
      · rw [if_neg h2] at ih
        rw [if_neg (show ¬ f < n + 1 by omega)]
        omega
theorem cnt_0 {p : Nat → Bool} : ∀ {n : Nat}, cnt p n = 0 → ∀ j, j < n → p j = false
  | 0, _, _, hj => by omega
  | n + 1, h, j, hj => by
    rw [cnt] at h
    by_cases hq : j = n
    · subst hq
      cases hp : p j with
      | false => rfl
      | true =>
        rw [hp, if_pos rfl] at h
        omega
    · exact cnt_0 (n := n) (by omega) j (by omega)
theorem cnt_le_n {p : Nat → Bool} : ∀ n, cnt p n ≤ n := cnt_le p
theorem fb_to {A : AS} {p : Nat → Bool} {f D T : Nat} {su : Nat → Nat → Nat} (hT : T < 2 ^ 28) (hi : Inv D su T A) (h : fb p (fun j => nI (toN A j)) (A 30 0) = some f) : f < A 30 0 ∧ p f = true ∧ (∀ j, j < A 30 0 → p j = true → toN A f ≤ toN A j) ∧ A 2 f ≤ toN A f ∧ toN A f < 2 ^ 29 := by
  have h1 := fb_lt h
  have hb : ∀ j, j < A 30 0 → toN A j < 2 ^ 29 := by
    intro j hj
    have := hi.2.1 j hj
    have := hi.1.2.1
    unfold toN mxN
    split <;> omega
  refine ⟨h1.1, h1.2, ?_, ?_, hb f h1.1⟩
  · intro j hj hp
    have h2 := hb j hj
    have h3 := hb f h1.1
    exact (nI_leI (by omega) (by omega)).mp (fb_min h j hj hp)
  · unfold toN mxN
    split <;> omega
/-- class -/
theorem mk_C {r : Int64 × UInt64} {D T : Nat} {su : Nat → Nat → Nat} {A : AS} (hT : T < 2 ^ 28) (hi : Inv D su T A) : ∀ m n F (N : Nat → Nat → Int32) (s : Int32) (p : Nat → Bool), n + m = 24 → m < F → cnt p (A 30 0) ≤ m → (∀ i, i < 32 → hbit s i = (decide (i < A 30 0) && p i)) → N 331 0 = nI n → RC N 29 D A → ∃ N', lp_X8_makeFor_18 331 29 (29 + 1) F (s, mw N r) = some (mw N' r) ∧ N' 331 0 = nI (n + (pkN A m p).length) ∧ n + (pkN A m p).length ≤ 24 ∧ (∀ i, i < (pkN A m p).length → N' 332 (n + i) = nI ((pkN A m p).getD i (0, 0)).1 ∧ N' 333 (n + i) = ((pkN A m p).getD i (0, 0)).2) ∧ (∀ i, i < n → N' 332 i = N 332 i ∧ N' 333 i = N 333 i) ∧ (∀ a, a ≠ 331 → a ≠ 332 → a ≠ 333 → N' a = N a) := by
  have hc := hi.1.1
  intro m
  induction m with
  | zero =>
    intro n F N s p hn hF hcn hs h0 h
    obtain ⟨F, rfl⟩ := F_succ hF
    have hz : s = 0 := hbit_zero (fun i hi2 => by
      rw [hs i hi2]
      by_cases hq : i < A 30 0
      · rw [cnt_0 (p := p) (by omega) i hq]
        simp
      · simp [hq])
    refine ⟨N, ?_, h0, by show n + 0 ≤ 24; omega, fun i hi2 => absurd hi2 (Nat.not_lt_zero i), fun _ _ => ⟨rfl, rfl⟩, fun _ _ _ _ => rfl⟩
    simp only [lp_X8_makeFor_18, hz, reduceIte]
  | succ m ih =>
    intro n F N s p hn hF hcn hs h0 h
    obtain ⟨F, rfl⟩ := F_succ hF
    cases hf : fb p (fun j => nI (toN A j)) (A 30 0) with
    | none =>
      have hz : s = 0 := hbit_zero (fun i hi2 => by
        rw [hs i hi2]
        by_cases hq : i < A 30 0
        · rw [fb_none hf i hq]
          simp
        · simp [hq])
      rw [pkN_none hf]
      refine ⟨N, ?_, h0, by show n + 0 ≤ 24; omega, fun i hi2 => absurd hi2 (Nat.not_lt_zero i), fun _ _ => ⟨rfl, rfl⟩, fun _ _ _ _ => rfl⟩
      simp only [lp_X8_makeFor_18, hz, reduceIte]
    | some f =>
      obtain ⟨f1, f2, f3, f4, f5⟩ := fb_to hT hi hf
      have hsn : ¬ s = 0 := by
        intro q
        have := hs f (by omega)
        rw [q, hbit_0, f2, decide_eq_true f1] at this
        cases this
      have kc : N (29 + 1) 0 = nI (A 30 0) := h.1.1
      have kT : N 29 2 = nI (A 30 1) := h.1.2.1
      have hu : ∀ j, j < A 30 0 → N (29 + 6) j + N (29 + 7) j = nI (A 2 j + A 3 j) := by
        intro j hj
        have e1 : N (29 + 6) j = nI (A 2 j) := h.2.1 j 2 hj (by omega)
        have e2 : N (29 + 7) j = nI (A 3 j) := h.2.1 j 3 hj (by omega)
        rw [e1, e2, nI_add]
      -- the least end
      have hls := g_ls (r := r) (s := s) bL29 kc hc
      generalize hx : mnA (hbit s) (fun j => N (29 + 6) j + N (29 + 7) j) (A 30 0) = x at hls
      have hxl : ∀ t : Int32, (x ≤ t) ↔ ((2147483647 : Int32) ≤ t ∨ ∃ j, j < A 30 0 ∧ hbit s j = true ∧ N (29 + 6) j + N (29 + 7) j ≤ t) := fun t => by
        rw [← hx]
        exact mnA_le _
      have hpb : ∀ j, j < A 30 0 → (hbit s j = true ↔ p j = true) := by
        intro j hj
        rw [hs j (by omega), decide_eq_true hj]
        simp
      have hB : ∀ j, j < A 30 0 → A 2 j + A 3 j < 2 ^ 29 := by
        intro j hj
        have := hi.2.1 j hj
        omega
      have hxf : x ≤ nI (A 2 f + A 3 f) := (hxl _).mpr (.inr ⟨f, f1, (hpb f f1).mpr f2, by rw [hu f f1]; exact Int32.le_refl _⟩)
      have hxx := (hxl x).mp (Int32.le_refl x)
      have hT1 := hi.1.2.1
      have htk : (if x < nI (A 30 1) then nI (A 30 1) else x) = nI (toN A f) := by
        rcases hxx with q | ⟨j, j1, j2, j3⟩
        · exfalso
          have q2 := Int32.le_trans q hxf
          rw [Int32.le_iff_toInt_le, nI_toInt (by have := hB f f1; omega)] at q2
          have : (2147483647 : Int32).toInt = 2147483647 := by decide
          have := hB f f1
          omega
        · rw [hu j j1] at j3
          have jx : x ≤ nI (A 2 j + A 3 j) := (hxl _).mpr (.inr ⟨j, j1, j2, by rw [hu j j1]; exact Int32.le_refl _⟩)
          have ex : x = nI (A 2 j + A 3 j) := Int32.le_antisymm jx j3
          have b1 := hB j j1
          have b2 := hB f f1
          rw [ex] at hxf ⊢
          rw [mxN_nI (by omega) (by omega)]
          have l1 := (nI_leI (by omega) (by omega)).mp hxf
          have l2 := f3 j j1 ((hpb j j1).mp j2)
          congr 1
          unfold toN mxN at *
          split at l2 <;> (try split at l2) <;> (try split) <;> (try split) <;> omega
      have hrb : ∀ M : Nat → Nat → Int32, (∀ a, 29 ≤ a → a < 54 → M a = N a) → f_X1_releasedBy (29 + 1) (nI (toN A f)) s (mw M r) = some (rbA (fun j => p j && decide (A 2 j ≤ toN A f)) (A 30 0), mw M r) := by
        intro M hM
        rw [g_rb (r := r) (s := s) (t := nI (toN A f)) bL29 (show M (29 + 1) 0 = nI (A 30 0) by rw [hM _ (by omega) (by omega)]; exact kc) hc]
        congr 2
        refine rbA_congr (fun j hj => ?_)
        have e1 : M (29 + 6) j = nI (A 2 j) := by
          rw [hM _ (by omega) (by omega)]
          exact h.2.1 j 2 hj (by omega)
        have b1 := hB j hj
        rw [hs j (by omega), decide_eq_true hj, e1, dc_le (by omega) (by omega)]
        simp
      generalize hq : rbA (fun j => p j && decide (A 2 j ≤ toN A f)) (A 30 0) = q at *
      have hs2 : ∀ i, i < 32 → hbit (s &&& (q ^^^ (-1))) i = (decide (i < A 30 0) && (p i && !decide (A 2 i ≤ toN A f))) := by
        intro i hi2
        rw [hbit_andnot hi2, hs i hi2, ← hq, rbA_bit hi2 _ (by omega)]
        cases decide (i < A 30 0) <;> cases p i <;> cases decide (A 2 i ≤ toN A f) <;> rfl
      have hcn2 : cnt (fun j => p j && !decide (A 2 j ≤ toN A f)) (A 30 0) ≤ m := by
        have := cnt_lt (p := p) (q := fun j => p j && !decide (A 2 j ≤ toN A f)) (f := f) (fun j hj => by
          simp only [Bool.and_eq_true] at hj
          exact hj.1) f2 (by simp [f4]) (A 30 0)
        rw [if_pos f1] at this
        omega
      have hM1 : ∀ x1 : Nat → Nat → Int32, True := fun _ => trivial
      obtain ⟨N', p1, p2, p3, p4, p5, p6⟩ := ih (n + 1) F (st (st (st N 332 n (nI (toN A f))) 333 n q) 331 0 (nI (n + 1))) (s &&& (q ^^^ (-1))) (fun j => p j && !decide (A 2 j ≤ toN A f)) (by omega) (by omega) hcn2 hs2 (st_self _ _ _ _) (RC_ext (fun a _ _ => by rw [st_cell (by omega), st_cell (by omega), st_cell (by omega)]) h)
      have hgo : lp_X8_makeFor_18 331 29 (29 + 1) (F + 1) (s, mw N r) = some (mw N' r) := by
        rw [lp_X8_makeFor_18]
        simp (disch := omega) only [hsn, reduceIte, mw_1, h0]
        rw [if_neg (show ¬ (24 : Int32) ≤ nI n from nI_ge (b := 24) (by omega) (by omega))]
        simp (disch := omega) only [hls, e_b, mw_1, kT, htk, e_let, PX, AX, h0, st_cell]
        rw [hrb _ (fun a h1 h2 => st_cell (by omega))]
        simp (disch := omega) only [e_b, PX, AX, st_self, mw_1, st_cell, h0, e_let, mw_pn, nI_p1]
        exact p1
      refine ⟨N', hgo, ?_, ?_, ?_, ?_, ?_⟩
      · rw [pkN_some hf, hq, List.length_cons, p2]
        congr 1
        omega
      · rw [pkN_some hf, List.length_cons]
        omega
      · intro i hi2
        rw [pkN_some hf, hq] at hi2 ⊢
        cases i with
        | zero =>
          have := p5 n (by omega)
          rw [List.getD_cons_zero, Nat.add_zero, this.1, this.2, st_cell (by omega), st_cell (by omega), st_self, st_cell (by omega), st_self]
          exact ⟨rfl, rfl⟩
        | succ i =>
          rw [List.length_cons] at hi2
          have := p4 i (by omega)
          rw [List.getD_cons_succ, show n + (i + 1) = n + 1 + i by omega]
          exact this
      · intro i hi2
        have := p5 i (by omega)
        rw [this.1, this.2, st_cell (by omega), st_cell (by omega), st_slot (by omega), st_cell (by omega), st_slot (by omega), st_cell (by omega)]
        exact ⟨rfl, rfl⟩
      · intro a h1 h2 h3
        rw [p6 a h1 h2 h3, st_cell h1, st_cell h3, st_cell h2]
