def enN (su : Nat → Nat → Nat) (d l wk wi : Nat) : Option Nat := if (wk + su 7 (5 * d + l) - 1) / su 7 (5 * d + l) ≤ wi then some ((wk + su 7 (5 * d + l) - 1) / su 7 (5 * d + l) * su 8 (5 * d + l) + (wi - (wk + su 7 (5 * d + l) - 1) / su 7 (5 * d + l)) * su 4 d) else none
theorem enN_lt {su : Nat → Nat → Nat} {D d l wk wi v : Nat} (hB : SUB D su) (hd : d < D) (hl : l < su 1 d) (hwi : wi ≤ 9999) (h : enN su d l wk wi = some v) : v < 2 ^ 30 := by
  have hB2 := hB.2.2 d hd
  have hB3 := hB2.2.2.2.2.2.2.2.2.2.2 l hl
  unfold enN at h
  generalize (wk + su 7 (5 * d + l) - 1) / su 7 (5 * d + l) = t at h
  split at h
  · cases h
    have h1 : t * su 8 (5 * d + l) ≤ t * 999 := Nat.mul_le_mul_left t hB3.2.2
    have h2 : (wi - t) * su 4 d ≤ (wi - t) * 99 := Nat.mul_le_mul_left _ (by omega)
    omega
  · cases h
theorem up_le {a dv : Nat} (h : 0 < dv) (ha : 1 ≤ a) : (a + dv - 1) / dv ≤ a := by
  rw [up_div h]
  have h1 := Nat.div_add_mod a dv
  have h2 := Nat.mod_lt a h
  generalize a / dv = q at *
  generalize a % dv = m at *
  have h3 : 1 * q ≤ dv * q := Nat.mul_le_mul_right q h
  split
  · omega
  · omega
theorem en_C {N : Nat → Nat → Int32} {r : Int64 × UInt64} {D d l wk wi : Nat} {su : Nat → Nat → Nat} (hs : SUC N D su) (hB : SUB D su) (hd : d < D) (hl : l < su 1 d) (hw1 : 1 ≤ wk) (hw : wk ≤ 9999) (hwi : wi ≤ 9999) : f_X2_energyAt 17 (nI d) (nI l) (nI wk) (nI wi) (mw N r) = some (enc (-2) (enN su d l wk wi), mw N r) := by
  have hD := hB.2.1
  have hB2 := hB.2.2 d hd
  have hB3 := hB2.2.2.2.2.2.2.2.2.2.2 l hl
  obtain ⟨c18, c26, c20, c21, c22, c23, c24, cn⟩ := hs.2 d hd
  have c27 := (cn l hl).1
  have c28 := (cn l hl).2
  have hu := up_le (a := wk) (dv := su 7 (5 * d + l)) (by omega) hw1
  simp (disch := omega) only [f_X2_energyAt, P17, A17, e_let, nI_m5, nI_add, c27, c28, c22, g_divN, e_b]
  unfold enN
  generalize (wk + su 7 (5 * d + l) - 1) / su 7 (5 * d + l) = t at *
  by_cases hq : t ≤ wi
  · rw [if_pos hq, if_pos (nI_le hq (by omega)), pk_sub hq, pk_mul, pk_mul, nI_add]
    rfl
  · rw [if_neg hq, if_neg (nI_ge (by omega) (by omega))]
    rfl
theorem co_R {N : Nat → Nat → Int32} {r : Int64 × UInt64} {D d l wk wi : Nat} {su : Nat → Nat → Nat} (hs : SUR N D su) (hB : SUB D su) (hd : d < D) (hl : l < su 1 d) (hw1 : 1 ≤ wk) (hw : wk ≤ 9999) (hwi : wi ≤ 9999) : f_X10_costOf 336 (nI d) (nI l) (nI wk) (nI wi) (mw N r) = some (enc (-2) (enN su d l wk wi), mw N r) := by
  have hD := hB.2.1
  have hB2 := hB.2.2 d hd
  have hB3 := hB2.2.2.2.2.2.2.2.2.2.2 l hl
  obtain ⟨c18, c26, c20, c21, c22, c23, c24, cn⟩ := hs.2 d hd
  have c27 := (cn l hl).1
  have c28 := (cn l hl).2
  have hu := up_le (a := wk) (dv := su 7 (5 * d + l)) (by omega) hw1
  simp (disch := omega) only [f_X10_costOf, PR, AR, nI_5m, nI_add, c27, c28, c22, g_up, e_b]
  unfold enN
  generalize (wk + su 7 (5 * d + l) - 1) / su 7 (5 * d + l) = t at *
  by_cases hq : t ≤ wi
  · rw [if_pos hq, if_pos (nI_le hq (by omega)), pk_sub hq, pk_mul, pk_mul, nI_add]
    rfl
  · rw [if_neg hq, if_neg (nI_ge (by omega) (by omega))]
    rfl
def upB (f : Nat → Option Nat) : Nat → Option (Nat × Nat)
  | 0 => none
  | k + 1 => match f k with
    | none => upB f k
    | some v => match upB f k with
      | none => some (k, v)
      | some (b, x) => if v ≤ x then some (k, v) else some (b, x)
theorem upB_succ (f : Nat → Option Nat) (k : Nat) : upB f (k + 1) = match f k with
    | none => upB f k
    | some v => match upB f k with
      | none => some (k, v)
      | some (b, x) => if v ≤ x then some (k, v) else some (b, x) := rfl
def dnB (f : Nat → Option Nat) (n : Nat) : Nat → Option (Nat × Nat)
  | 0 => none
  | m + 1 => match f (n - 1 - m) with
    | none => dnB f n m
    | some v => match dnB f n m with
      | none => some (n - 1 - m, v)
      | some (b, x) => if v < x then some (n - 1 - m, v) else some (b, x)
theorem dnB_succ (f : Nat → Option Nat) (n m : Nat) : dnB f n (m + 1) = match f (n - 1 - m) with
    | none => dnB f n m
    | some v => match dnB f n m with
      | none => some (n - 1 - m, v)
      | some (b, x) => if v < x then some (n - 1 - m, v) else some (b, x) := rfl
def spB (f : Nat → Option Nat) (lo n : Nat) : Option (Nat × Nat) → Prop
  | none => ∀ l, lo ≤ l → l < n → f l = none
  | some (b, x) => lo ≤ b ∧ b < n ∧ f b = some x ∧ (∀ l v, lo ≤ l → l < n → f l = some v → x ≤ v) ∧ (∀ l v, b < l → l < n → f l = some v → x < v)
theorem upB_sp (f : Nat → Option Nat) : ∀ k, spB f 0 k (upB f k)
  | 0 => fun l _ h => by omega
  | k + 1 => by
    have ih := upB_sp f k
    rw [upB_succ]
    cases hf : f k with
    | none =>
      dsimp only
      cases hu : upB f k with
      | none =>
        rw [hu] at ih
        intro l h1 h2
        by_cases hq : l = k
        · subst hq
          exact hf
        · exact ih l h1 (by omega)
      | some q =>
        obtain ⟨b, x⟩ := q
        rw [hu] at ih
        obtain ⟨j1, j2, j3, j4, j5⟩ := ih
        refine ⟨j1, by omega, j3, ?_, ?_⟩
        · intro l v h1 h2 h3
          by_cases hq : l = k
          · subst hq
            rw [hf] at h3
            cases h3
          · exact j4 l v h1 (by omega) h3
        · intro l v h1 h2 h3
          by_cases hq : l = k
          · subst hq
            rw [hf] at h3
            cases h3
          · exact j5 l v h1 (by omega) h3
    | some v =>
      dsimp only
      cases hu : upB f k with
      | none =>
        rw [hu] at ih
        refine ⟨by omega, by omega, hf, ?_, ?_⟩
        · intro l v' h1 h2 h3
          by_cases hq : l = k
          · subst hq
            rw [hf] at h3
            cases h3
            exact Nat.le_refl _
          · have := ih l h1 (by omega)
            rw [this] at h3
            cases h3
        · intro l v' h1 h2 h3
          omega
      | some q =>
        obtain ⟨b, x⟩ := q
        rw [hu] at ih
        obtain ⟨j1, j2, j3, j4, j5⟩ := ih
        dsimp only
        split
        · rename_i hle
          refine ⟨by omega, by omega, hf, ?_, ?_⟩
          · intro l v' h1 h2 h3
            by_cases hq : l = k
            · subst hq
              rw [hf] at h3
              cases h3
              exact Nat.le_refl _
            · have := j4 l v' h1 (by omega) h3
              omega
          · intro l v' h1 h2 h3
            omega
        · rename_i hle
          refine ⟨j1, by omega, j3, ?_, ?_⟩
          · intro l v' h1 h2 h3
            by_cases hq : l = k
            · subst hq
              rw [hf] at h3
              cases h3
              omega
            · exact j4 l v' h1 (by omega) h3
          · intro l v' h1 h2 h3
            by_cases hq : l = k
            · subst hq
              rw [hf] at h3
              cases h3
              omega
            · exact j5 l v' h1 (by omega) h3
theorem dnB_sp (f : Nat → Option Nat) (n : Nat) : ∀ m, m ≤ n → spB f (n - m) n (dnB f n m)
  | 0, _ => fun l h1 h => by omega
  | m + 1, hm => by
    have ih := dnB_sp f n m (by omega)
    rw [dnB_succ]
    have e0 : n - (m + 1) = n - 1 - m := by omega
    rw [e0]
    generalize hk : n - 1 - m = k at *
    have e1 : n - m = k + 1 := by omega
    rw [e1] at ih
    cases hf : f k with
    | none =>
      dsimp only
      cases hu : dnB f n m with
      | none =>
        rw [hu] at ih
        intro l h1 h2
        by_cases hq : l = k
        · subst hq
          exact hf
        · exact ih l (by omega) (by omega)
      | some q =>
        obtain ⟨b, x⟩ := q
        rw [hu] at ih
        obtain ⟨j1, j2, j3, j4, j5⟩ := ih
        refine ⟨by omega, by omega, j3, ?_, j5⟩
        intro l v h1 h2 h3
        by_cases hq : l = k
        · subst hq
          rw [hf] at h3
          cases h3
        · exact j4 l v (by omega) (by omega) h3
    | some v =>
      dsimp only
      cases hu : dnB f n m with
      | none =>
        rw [hu] at ih
        refine ⟨by omega, by omega, hf, ?_, ?_⟩
        · intro l v' h1 h2 h3
          by_cases hq : l = k
          · subst hq
            rw [hf] at h3
            cases h3
            exact Nat.le_refl _
          · have := ih l (by omega) (by omega)
            rw [this] at h3
            cases h3
        · intro l v' h1 h2 h3
          have := ih l (by omega) (by omega)
          rw [this] at h3
          cases h3
      | some q =>
        obtain ⟨b, x⟩ := q
        rw [hu] at ih
        obtain ⟨j1, j2, j3, j4, j5⟩ := ih
        dsimp only
        split
        · rename_i hlt
          refine ⟨by omega, by omega, hf, ?_, ?_⟩
          · intro l v' h1 h2 h3
            by_cases hq : l = k
            · subst hq
              rw [hf] at h3
              cases h3
              exact Nat.le_refl _
            · have := j4 l v' (by omega) (by omega) h3
              omega
          · intro l v' h1 h2 h3
            have := j4 l v' (by omega) (by omega) h3
            omega
        · rename_i hlt
          refine ⟨by omega, by omega, j3, ?_, j5⟩
          intro l v' h1 h2 h3
          by_cases hq : l = k
          · subst hq
            rw [hf] at h3
            cases h3
            omega
          · exact j4 l v' (by omega) (by omega) h3
theorem spB_u {f : Nat → Option Nat} {n : Nat} : ∀ {o o' : Option (Nat × Nat)}, spB f 0 n o → spB f 0 n o' → o = o'
  | none, none, _, _ => rfl
  | none, some (b, x), h, h' => by
    have := h b (by omega) h'.2.1
    rw [h'.2.2.1] at this
    cases this
  | some (b, x), none, h, h' => by
    have := h' b (by omega) h.2.1
    rw [h.2.2.1] at this
    cases this
  | some (b, x), some (b', x'), h, h' => by
    have e1 := h.2.2.2.1 b' x' (by omega) h'.2.1 h'.2.2.1
    have e2 := h'.2.2.2.1 b x (by omega) h.2.1 h.2.2.1
    have ex : x = x' := by omega
    subst ex
    have e3 : ¬ b < b' := fun q => by
      have := h.2.2.2.2 b' x q h'.2.1 h'.2.2.1
      omega
    have e4 : ¬ b' < b := fun q => by
      have := h'.2.2.2.2 b x q h.2.1 h.2.2.1
      omega
    rw [show b = b' by omega]
theorem ud_B (f : Nat → Option Nat) (n : Nat) : upB f n = dnB f n n := by
  have h1 := upB_sp f n
  have h2 := dnB_sp f n n (Nat.le_refl n)
  rw [Nat.sub_self] at h2
  exact spB_u h1 h2
def bsI (o : Option (Nat × Nat)) : Int32 := enc (-2) (o.map Prod.fst)
def lsI (z : Int32) (o : Option (Nat × Nat)) : Int32 := enc z (o.map Prod.snd)
theorem bl_C {N : Nat → Nat → Int32} {r : Int64 × UInt64} {D d wk wi : Nat} {su : Nat → Nat → Nat} (hs : SUC N D su) (hB : SUB D su) (hd : d < D) (hw1 : 1 ≤ wk) (hw : wk ≤ 9999) (hwi : wi ≤ 9999) : ∀ m k F, k + m = su 1 d → m < F → lp_X9_bestLevel_33 0 (nI d) (nI wk) (nI wi) F (bsI (upB (fun l => enN su d l wk wi) k), lsI 2147483647 (upB (fun l => enN su d l wk wi) k), nI k, mw N r) = some (bsI (upB (fun l => enN su d l wk wi) (su 1 d)), mw N r) := by
  have hD := hB.2.1
  have hB2 := hB.2.2 d hd
  have c26 := (hs.2 d hd).2.1
  intro m
  induction m with
  | zero =>
    intro k F hk hF
    obtain ⟨F, rfl⟩ := F_succ hF
    have hk : k = su 1 d := by omega
    subst hk
    simp (disch := omega) only [lp_X9_bestLevel_33, P0, P17, A17, c26]
    rw [if_pos (Int32.le_refl _)]
  | succ m ih =>
    intro k F hk hF
    obtain ⟨F, rfl⟩ := F_succ hF
    have h2 := ih (k + 1) F (by omega) (by omega)
    simp (disch := omega) only [lp_X9_bestLevel_33, P0, P17, A17, c26, en_C hs hB hd (show k < su 1 d by omega) hw1 hw hwi, e_b, e_let, nI_1']
    rw [if_neg (nI_ge (by omega) (by omega)), ← h2, upB_succ]
    cases hf : enN su d k wk wi with
    | none => simp only [enc, reduceIte, e_bd]
    | some v =>
      have hv := enN_lt hB hd (show k < su 1 d by omega) hwi hf
      have hn := eq_false (nI_nm2 (j := v) (by omega))
      simp only [enc, hn, reduceIte]
      have hsp := upB_sp (fun l => enN su d l wk wi) k
      cases hu : upB (fun l => enN su d l wk wi) k with
      | none =>
        have h3 : ¬ (2147483647 : Int32) < nI v := by
          rw [Int32.lt_iff_toInt_lt, nI_toInt (by omega)]
          have : (2147483647 : Int32).toInt = 2147483647 := by decide
          omega
        show Option.bind (if (2147483647 : Int32) < nI v then some ((-2 : Int32), (2147483647 : Int32)) else some (nI k, nI v)) _ = _
        rw [if_neg h3, e_bd]
        rfl
      | some q =>
        obtain ⟨b, x⟩ := q
        rw [hu] at hsp
        have hx := enN_lt hB hd (show b < su 1 d by have := hsp.2.1; omega) hwi hsp.2.2.1
        show Option.bind (if nI x < nI v then some (nI b, nI x) else some (nI k, nI v)) _ = _
        dsimp only
        by_cases hle : v ≤ x
        · rw [if_pos hle, if_neg (nI_nlt hle (by omega)), e_bd]
          rfl
        · rw [if_neg hle, if_pos (nI_lt (by omega) (by omega)), e_bd]
          rfl
theorem bl_R {N : Nat → Nat → Int32} {r : Int64 × UInt64} {D d wk wi : Nat} {su : Nat → Nat → Nat} (hs : SUR N D su) (hB : SUB D su) (hd : d < D) (hw1 : 1 ≤ wk) (hw : wk ≤ 9999) (hwi : wi ≤ 9999) : ∀ m k F, k + m = su 1 d → m < F → lp_X10_bestLevel_39 336 (nI d) (nI wk) (nI wi) F (bsI (dnB (fun l => enN su d l wk wi) (su 1 d) k), lsI 0 (dnB (fun l => enN su d l wk wi) (su 1 d) k), nI m - 1, mw N r) = some (bsI (dnB (fun l => enN su d l wk wi) (su 1 d) (su 1 d)), mw N r) := by
  have hD := hB.2.1
  have hB2 := hB.2.2 d hd
  intro m
  induction m with
  | zero =>
    intro k F hk hF
    obtain ⟨F, rfl⟩ := F_succ hF
    have hk : k = su 1 d := by omega
    subst hk
    simp (disch := omega) only [lp_X10_bestLevel_39]
    rw [if_pos (by decide)]
  | succ m ih =>
    intro k F hk hF
    obtain ⟨F, rfl⟩ := F_succ hF
    have h2 := ih (k + 1) F (by omega) (by omega)
    have e0 : nI (m + 1) - 1 = nI m := nI_pred m
    have e1 : nI m + Int32.ofInt (-1) = nI m - 1 := by
      rw [Int32.sub_eq_add_neg]
      rfl
    rw [e0]
    simp (disch := omega) only [lp_X10_bestLevel_39, co_R hs hB hd (show m < su 1 d by omega) hw1 hw hwi, e_b, e_let, e1]
    rw [if_neg (nI_pos (by omega)), ← h2, dnB_succ, show su 1 d - 1 - k = m by omega]
    cases hf : enN su d m wk wi with
    | none => simp only [enc, reduceIte, e_bd]
    | some v =>
      have hv := enN_lt hB hd (show m < su 1 d by omega) hwi hf
      have hn := eq_false (nI_nm2 (j := v) (by omega))
      simp only [enc, hn, reduceIte]
      have hsp := dnB_sp (fun l => enN su d l wk wi) (su 1 d) k (by omega)
      cases hu : dnB (fun l => enN su d l wk wi) (su 1 d) k with
      | none =>
        rw [if_pos (show bsI none = -2 from rfl), e_bd]
        rfl
      | some q =>
        obtain ⟨b, x⟩ := q
        rw [hu] at hsp
        have hx := enN_lt hB hd hsp.2.1 hwi hsp.2.2.1
        have hb := hsp.2.1
        rw [if_neg (show ¬ bsI (some (b, x)) = -2 from nI_nm2 (j := b) (by omega))]
        show Option.bind (if nI x ≤ nI v then some (nI b, nI x) else some (nI m, nI v)) _ = _
        dsimp only
        by_cases hle : v < x
        · rw [if_pos hle, if_neg (nI_ge hle (by omega)), e_bd]
          rfl
        · rw [if_neg hle, if_pos (nI_le (by omega) (by omega)), e_bd]
          rfl
theorem g_tsk {N : Nat → Nat → Int32} {r : Int64 × UInt64} (x1 x2 x3 x4 x5 : Int32) : f_X10_isTask 336 x1 x2 x3 x4 x5 (mw N r) = some (bI (rg 0 (N 336 5 - 1) x1 && rg 1 x3 x2 && rg 1 x5 x4), mw N r) := by
  simp only [f_X10_isTask, PR, g_isD, e_b, IN]
  cases rg 0 (N 336 5 - 1) x1
  · simp only [bI_f, reduceIte, e_bd]
    rfl
  · cases rg 1 x3 x2
    · simp only [bI_t, i10, bI_f, reduceIte, e_bd]
      rfl
    · cases rg 1 x5 x4
      · simp only [bI_t, i10, bI_f, reduceIte, e_bd]
        rfl
      · simp only [bI_t, i10, reduceIte, e_bd]
        rfl
theorem law_33 {xs : Nat → Int32} {Ls i T : Nat} {N : Nat → Nat → Int32} {r : Int64 × UInt64} (hL : Ls ≤ 3584) (h7 : 7 * i + 7 ≤ Ls) (hT : T ≤ 256000) (hg : GI N T) : ∃ N' r', lawc_33 xs Ls (nI (7 * i)) (mw N r) = some (mw N' r') ∧ GI N' (T + 500) := by
  have hg0 := hg
  obtain ⟨g1, g2, g3, g4, g5⟩ := hg
  simp only [lawc_33, e_lds hL h7]
  generalize xs (7 * i + 1) = x1
  generalize xs (7 * i + 2) = x2
  generalize xs (7 * i + 3) = x3
  generalize xs (7 * i + 4) = x4
  rcases g5 with ⟨u1, u2, u3⟩ | ⟨D, su, A, h, w, H, hS⟩
  · simp only [f_L_levelEnergy, f_X9_levelEnergy, P0, G356, g_nD0 r _ u1, e_bxl, e_btl, reduceIte, e_b, f_X10_levelEnergy, PR, g_tsk, u3, rg_0, Bool.false_and, bI_f, e_bd, g_w0 r _ u2, i10, g_thr, st_self]
    exact ⟨_, _, rfl, GI_q (GF_4 (by omega)) hg0⟩
  · obtain ⟨a1, a2, a3, a4, a5, a6, a7, a8, a9, a10, a11⟩ := hS
    have hD := a3.2.1
    cases hr : rg 0 (nI D - 1) x1 with
    | false =>
      simp only [f_L_levelEnergy, f_X9_levelEnergy, P0, G356, g_nDf r (x := x1) a1 (by rw [a4.1]; exact hr), e_bxl, e_btl, SX, reduceIte, e_b, f_X10_levelEnergy, PR, g_tsk, a5.1, hr, Bool.false_and, bI_f, e_bd, g_w1f r a2, i10, g_thr, st_self]
      exact ⟨_, _, rfl, GI_q (GF_4 (by omega)) hg0⟩
    | true =>
      obtain ⟨d, hd, rfl⟩ := rg_n (by omega) hr
      have hc : f_X9_needDomain 0 (nI d) (mw N r) = some (.inr (), mw N r) := g_nDt r a1 (by rw [a4.1]; exact hr)
      have s1 := a4.2 d hd
      have s2 := a5.2 d hd
      have hB2 := a3.2.2 d hd
      cases hr2 : rg 0 (nI (su 1 d) - 1) x2 with
      | false =>
        simp (disch := omega) only [f_L_levelEnergy, f_X9_levelEnergy, P0, G356, hc, P17, A17, s1.2.1, e_bx, g_nRf hr2, e_bxl, e_btl, SX, reduceIte, e_b, f_X10_levelEnergy, PR, AR, g_tsk, a5.1, hr, Bool.true_and, g_isD, bI_t, i10, s2.2.1, IN, hr2, bI_f, e_bd]
        cases rg 1 9999 x3 && rg 1 9999 x4
        · simp only [bI_f, reduceIte, e_bd, g_w1f r a2, e_b, i10, g_thr, st_self]
          exact ⟨_, _, rfl, GI_q (GF_4 (by omega)) hg0⟩
        · simp only [bI_t, i10, reduceIte, e_bd, g_w1f r a2, e_b, g_thr, st_self]
          exact ⟨_, _, rfl, GI_q (GF_4 (by omega)) hg0⟩
      | true =>
        obtain ⟨l, hl, rfl⟩ := rg_n (by omega) hr2
        cases hr3 : rg 1 9999 x3 with
        | false =>
          simp (disch := omega) only [f_L_levelEnergy, f_X9_levelEnergy, P0, G356, hc, P17, A17, s1.2.1, e_bx, g_nRt hr2, g_nRf hr3, e_bxl, e_btl, SX, reduceIte, e_b, f_X10_levelEnergy, PR, AR, g_tsk, a5.1, hr, hr3, Bool.and_false, Bool.false_and, bI_f, e_bd, g_w1f r a2, i10, g_thr, st_self]
          exact ⟨_, _, rfl, GI_q (GF_4 (by omega)) hg0⟩
        | true =>
          cases hr4 : rg 1 9999 x4 with
          | false =>
            simp (disch := omega) only [f_L_levelEnergy, f_X9_levelEnergy, P0, G356, hc, P17, A17, s1.2.1, e_bx, g_nRt hr2, g_nRt hr3, g_nRf hr4, e_bxl, e_btl, SX, reduceIte, e_b, f_X10_levelEnergy, PR, AR, g_tsk, a5.1, hr, hr3, hr4, Bool.and_false, bI_f, e_bd, g_w1f r a2, i10, g_thr, st_self]
            exact ⟨_, _, rfl, GI_q (GF_4 (by omega)) hg0⟩
          | true =>
            obtain ⟨wk, wk1, wk2, rfl⟩ := rg_t (a := 1) (b := 9999) (by omega) (by omega) hr3
            obtain ⟨wi, wi1, wi2, rfl⟩ := rg_t (a := 1) (b := 9999) (by omega) (by omega) hr4
            have k1 := en_C (r := r) a4 a3 hd hl wk1 wk2 wi2
            have k2 := co_R (r := (Int32.toInt64 (enc (-2) (enN su d l wk wi)), r.2)) (SUR_4 (k := 4) (x := 0) (by omega) a5) a3 hd hl wk1 wk2 wi2
            simp (disch := omega) only [f_L_levelEnergy, f_X9_levelEnergy, P0, G356, hc, P17, A17, s1.2.1, e_bx, g_nRt hr2, g_nRt hr3, g_nRt hr4, k1, e_bt, e_let, mw_po, reduceIte, e_b, f_X10_levelEnergy, PR, AR, g_tsk, a5.1, hr, hr3, hr4, Bool.and_self, bI_t, i10, g_isD, s2.2.1, IN, hr2, e_bd, g_w1t _ a2, k2, g_thr, st_self, mw_2, lg_same]
            exact ⟨_, _, rfl, GI_q (GF_4 (by omega)) hg0⟩
theorem law_34 {xs : Nat → Int32} {Ls i T : Nat} {N : Nat → Nat → Int32} {r : Int64 × UInt64} (hL : Ls ≤ 3584) (h7 : 7 * i + 7 ≤ Ls) (hT : T ≤ 256000) (hg : GI N T) : ∃ N' r', lawc_34 xs Ls (nI (7 * i)) (mw N r) = some (mw N' r') ∧ GI N' (T + 500) := by
  have hg0 := hg
  obtain ⟨g1, g2, g3, g4, g5⟩ := hg
  simp only [lawc_34, e_lds hL h7]
  generalize xs (7 * i + 1) = x1
  generalize xs (7 * i + 2) = x2
  generalize xs (7 * i + 3) = x3
  rcases g5 with ⟨u1, u2, u3⟩ | ⟨D, su, A, h, w, H, hS⟩
  · simp only [f_L_bestLevel, f_X9_bestLevel, P0, G356, g_nD0 r _ u1, e_bxl, e_btl, reduceIte, e_b, f_X10_bestLevel, PR, g_tsk, u3, rg_0, Bool.false_and, bI_f, e_bd, g_w0 r _ u2, i10, g_thr, st_self]
    exact ⟨_, _, rfl, GI_q (GF_4 (by omega)) hg0⟩
  · obtain ⟨a1, a2, a3, a4, a5, a6, a7, a8, a9, a10, a11⟩ := hS
    have hD := a3.2.1
    cases hr : rg 0 (nI D - 1) x1 with
    | false =>
      simp only [f_L_bestLevel, f_X9_bestLevel, P0, G356, g_nDf r (x := x1) a1 (by rw [a4.1]; exact hr), e_bxl, e_btl, SX, reduceIte, e_b, f_X10_bestLevel, PR, g_tsk, a5.1, hr, Bool.false_and, bI_f, e_bd, g_w1f r a2, i10, g_thr, st_self]
      exact ⟨_, _, rfl, GI_q (GF_4 (by omega)) hg0⟩
    | true =>
      obtain ⟨d, hd, rfl⟩ := rg_n (by omega) hr
      have hc : f_X9_needDomain 0 (nI d) (mw N r) = some (.inr (), mw N r) := g_nDt r a1 (by rw [a4.1]; exact hr)
      have s2 := a5.2 d hd
      have hB2 := a3.2.2 d hd
      cases hr3 : rg 1 9999 x2 with
      | false =>
        simp (disch := omega) only [f_L_bestLevel, f_X9_bestLevel, P0, G356, hc, e_bx, g_nRf hr3, e_bxl, e_btl, SX, reduceIte, e_b, f_X10_bestLevel, PR, AR, g_tsk, a5.1, hr, hr3, Bool.and_false, Bool.false_and, bI_f, e_bd, g_w1f r a2, i10, g_thr, st_self]
        exact ⟨_, _, rfl, GI_q (GF_4 (by omega)) hg0⟩
      | true =>
        cases hr4 : rg 1 9999 x3 with
        | false =>
          simp (disch := omega) only [f_L_bestLevel, f_X9_bestLevel, P0, G356, hc, e_bx, g_nRt hr3, g_nRf hr4, e_bxl, e_btl, SX, reduceIte, e_b, f_X10_bestLevel, PR, AR, g_tsk, a5.1, hr, hr3, hr4, Bool.and_false, bI_f, e_bd, g_w1f r a2, i10, g_thr, st_self]
          exact ⟨_, _, rfl, GI_q (GF_4 (by omega)) hg0⟩
        | true =>
          obtain ⟨wk, wk1, wk2, rfl⟩ := rg_t (a := 1) (b := 9999) (by omega) (by omega) hr3
          obtain ⟨wi, wi1, wi2, rfl⟩ := rg_t (a := 1) (b := 9999) (by omega) (by omega) hr4
          have k1 := bl_C (r := r) a4 a3 hd wk1 wk2 wi2 (su 1 d) 0 3000 (by omega) (by omega)
          have k1' : lp_X9_bestLevel_33 0 (nI d) (nI wk) (nI wi) 3000 (-2, 2147483647, 0, mw N r) = _ := k1
          have k2 := bl_R (r := (Int32.toInt64 (bsI (upB (fun l => enN su d l wk wi) (su 1 d))), r.2)) (SUR_4 (k := 4) (x := 0) (by omega) a5) a3 hd wk1 wk2 wi2 (su 1 d) 0 3000 (by omega) (by omega)
          have k2' : lp_X10_bestLevel_39 336 (nI d) (nI wk) (nI wi) 3000 (-2, 0, nI (su 1 d) - 1, mw (st N 336 4 0) (Int32.toInt64 (bsI (upB (fun l => enN su d l wk wi) (su 1 d))), r.2)) = some (bsI (upB (fun l => enN su d l wk wi) (su 1 d)), mw (st N 336 4 0) (Int32.toInt64 (bsI (upB (fun l => enN su d l wk wi) (su 1 d))), r.2)) := by
            rw [ud_B (fun l => enN su d l wk wi) (su 1 d)] at k2 ⊢
            exact k2
          simp (disch := omega) only [f_L_bestLevel, f_X9_bestLevel, P0, G356, hc, e_bx, g_nRt hr3, g_nRt hr4, k1', e_bt, e_let, mw_po, reduceIte, e_b, f_X10_bestLevel, PR, AR, g_tsk, a5.1, hr, hr3, hr4, Bool.and_self, bI_t, i10, st_cell, s2.2.1, e_bd, g_w1t _ a2, k2', g_thr, st_self, mw_2, lg_same]
          exact ⟨_, _, rfl, GI_q (GF_4 (by omega)) hg0⟩
