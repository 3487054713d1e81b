theorem nI_and (a b : Nat) : nI a &&& nI b = nI (a &&& b) := by
  refine Int32.toBitVec_inj.mp ?_
  show BitVec.ofNat 32 a &&& BitVec.ofNat 32 b = BitVec.ofNat 32 (a &&& b)
  rw [BitVec.ofNat_and]
theorem nI_tn (x : Int32) : nI x.toBitVec.toNat = x := by
  refine Int32.toBitVec_inj.mp ?_
  show BitVec.ofNat 32 x.toBitVec.toNat = x.toBitVec
  exact BitVec.ofNat_toNat 32 x.toBitVec
theorem and2 {a b c d : Nat} (ha : a < 256) (hc : c < 256) : (a + 256 * b) &&& (c + 256 * d) = (a &&& c) + 256 * (b &&& d) := by
  have h1 : ((a + 256 * b) &&& (c + 256 * d)) / 2 ^ 8 = (a + 256 * b) / 2 ^ 8 &&& (c + 256 * d) / 2 ^ 8 := Nat.and_div_two_pow
  have h2 : ((a + 256 * b) &&& (c + 256 * d)) % 2 ^ 8 = (a + 256 * b) % 2 ^ 8 &&& (c + 256 * d) % 2 ^ 8 := Nat.and_mod_two_pow
  rw [show (a + 256 * b) / 2 ^ 8 = b by omega, show (c + 256 * d) / 2 ^ 8 = d by omega] at h1
  rw [show (a + 256 * b) % 2 ^ 8 = a by omega, show (c + 256 * d) % 2 ^ 8 = c by omega] at h2
  generalize (a + 256 * b) &&& (c + 256 * d) = X at *
  generalize a &&& c = Y at *
  generalize b &&& d = Z at *
  omega
def NB (a b c d : Nat) : Nat := a + 256 * (b + 256 * (c + 256 * d))
theorem and4 {a b c d m : Nat} (ha : a < 256) (hb : b < 256) (hc : c < 256) (hm : m < 256) : NB a b c d &&& NB m m m m = NB (a &&& m) (b &&& m) (c &&& m) (d &&& m) := by
  unfold NB
  rw [and2 ha hm, and2 hb hm, and2 hc hm]
def b1 (a : Nat) : Nat := a - (a / 2 &&& 85)
def b2 (a : Nat) : Nat := (a &&& 51) + (a / 4 &&& 51)
def b3 (a : Nat) : Nat := (a + a / 16) % 16
theorem b1_m : ∀ a, a < 256 → ∀ k, k < 2 → (a / 2 + 128 * k) &&& 85 = a / 2 &&& 85 := by decide +kernel
theorem b1_l : ∀ a, a < 256 → (a / 2 &&& 85) ≤ a := by decide +kernel
theorem b2_m : ∀ a, a < 256 → ∀ k, k < 4 → (a / 4 + 64 * k) &&& 51 = a / 4 &&& 51 := by decide +kernel
theorem b2_l : ∀ a, a < 256 → b2 (b1 a) % 16 ≤ 4 ∧ b2 (b1 a) / 16 ≤ 4 ∧ b1 a < 256 ∧ (b1 a &&& 51) + (b1 a / 4 &&& 51) < 256 := by decide +kernel
theorem b3_c : ∀ a, a < 256 → b3 (b2 (b1 a)) = cnt (fun i => a.testBit i) 8 ∧ b3 (b2 (b1 a)) ≤ 8 := by decide +kernel
theorem cntB {a b : Nat} (ha : a < 256) : ∀ m, cnt (fun i => (a + 256 * b).testBit i) (8 + m) = cnt (fun i => a.testBit i) 8 + cnt (fun i => b.testBit i) m := by
  have hb : ∀ j, (a + 256 * b).testBit j = if j < 8 then a.testBit j else b.testBit (j - 8) := by
    intro j
    have := Nat.testBit_two_pow_mul_add b (b := a) (i := 8) (by omega) j
    rw [show a + 256 * b = 2 ^ 8 * b + a by omega]
    exact this
  intro m
  induction m with
  | zero =>
    show cnt (fun i => (a + 256 * b).testBit i) 8 = _
    rw [cnt_congr (q := fun i => a.testBit i) (fun i hi => by rw [hb, if_pos hi])]
    rfl
  | succ m ih =>
    have h1 : (a + 256 * b).testBit (8 + m) = b.testBit m := by rw [hb, if_neg (by omega), show 8 + m - 8 = m by omega]
    have h2 : cnt (fun i => (a + 256 * b).testBit i) (8 + (m + 1)) = cnt (fun i => (a + 256 * b).testBit i) (8 + m) + (if (a + 256 * b).testBit (8 + m) = true then 1 else 0) := rfl
    have h3 : cnt (fun i => b.testBit i) (m + 1) = cnt (fun i => b.testBit i) m + (if b.testBit m = true then 1 else 0) := rfl
    rw [h2, h3, h1, ih, Nat.add_assoc]
theorem cntT {n : Nat} (h : n < 256) : cnt (fun i => n.testBit i) 8 = b3 (b2 (b1 n)) := (b3_c n h).1.symm
theorem g_bc (x : Int32) (w : MW) : f_J6_bitCount_0f7a4 x w = some (nI (cnt (hbit x) 32), w) := by
  obtain ⟨n, hn, hx⟩ : ∃ n, n < 2 ^ 32 ∧ x = nI n := ⟨x.toBitVec.toNat, x.toBitVec.isLt, (nI_tn x).symm⟩
  obtain ⟨a, b, c, d, ha, hb, hc, hd, hab⟩ : ∃ a b c d, a < 256 ∧ b < 256 ∧ c < 256 ∧ d < 256 ∧ n = NB a b c d := by
    refine ⟨n % 256, n / 256 % 256, n / 65536 % 256, n / 16777216, by omega, by omega, by omega, by omega, ?_⟩
    unfold NB
    omega
  have hcnt : cnt (hbit x) 32 = b3 (b2 (b1 a)) + b3 (b2 (b1 b)) + b3 (b2 (b1 c)) + b3 (b2 (b1 d)) := by
    have e1 : cnt (hbit x) 32 = cnt (fun i => n.testBit i) 32 := by
      refine cnt_congr (fun i _ => ?_)
      show x.toBitVec.toNat.testBit i = _
      rw [hx, pk_tn hn]
    rw [e1, hab]
    unfold NB
    rw [show (32 : Nat) = 8 + 24 from rfl, cntB ha, show (24 : Nat) = 8 + 16 from rfl, cntB hb, show (16 : Nat) = 8 + 8 from rfl, cntB hc, cntT ha, cntT hb, cntT hc, cntT hd]
    omega
  have m85 : (1431655765 : Int32) = nI (NB 85 85 85 85) := by decide
  have m51 : (858993459 : Int32) = nI (NB 51 51 51 51) := by decide
  have m15 : (252645135 : Int32) = nI (NB 15 15 15 15) := by decide
  have u1 := fun {n : Nat} (h : n < 2 ^ 32) => pk_ushrN h 1 1 (by decide)
  have u2 := fun {n : Nat} (h : n < 2 ^ 32) => pk_ushrN h 2 2 (by decide)
  have u4 := fun {n : Nat} (h : n < 2 ^ 32) => pk_ushrN h 4 4 (by decide)
  have u8 := fun {n : Nat} (h : n < 2 ^ 32) => pk_ushrN h 8 8 (by decide)
  have u16 := fun {n : Nat} (h : n < 2 ^ 32) => pk_ushrN h 16 16 (by decide)
  have la := b2_l a ha
  have lb := b2_l b hb
  have lc := b2_l c hc
  have ld := b2_l d hd
  have pa := (b3_c a ha).2
  have pb := (b3_c b hb).2
  have pc := (b3_c c hc).2
  have pd := (b3_c d hd).2
  have ta := b1_l a ha
  have tb := b1_l b hb
  have tc := b1_l c hc
  have td := b1_l d hd
  -- the first step
  have s1 : nI (NB a b c d) - (nI (NB a b c d / 2 ^ 1) &&& 1431655765) = nI (NB (b1 a) (b1 b) (b1 c) (b1 d)) := by
    have e1 : NB a b c d / 2 ^ 1 = NB (a / 2 + 128 * (b % 2)) (b / 2 + 128 * (c % 2)) (c / 2 + 128 * (d % 2)) (d / 2) := by
      unfold NB
      omega
    have e2 : d / 2 &&& 85 = d / 2 &&& 85 := rfl
    rw [m85, nI_and, e1, and4 (by omega) (by omega) (by omega) (by omega), b1_m a ha _ (by omega), b1_m b hb _ (by omega), b1_m c hc _ (by omega)]
    have e3 : NB (a / 2 &&& 85) (b / 2 &&& 85) (c / 2 &&& 85) (d / 2 &&& 85) ≤ NB a b c d := by
      unfold NB
      omega
    rw [pk_sub e3]
    congr 1
    unfold NB b1
    omega
  -- the second
  generalize hva : b1 a = va at *
  generalize hvb : b1 b = vb at *
  generalize hvc : b1 c = vc at *
  generalize hvd : b1 d = vd at *
  have s2 : (nI (NB va vb vc vd) &&& 858993459) + (nI (NB va vb vc vd / 2 ^ 2) &&& 858993459) = nI (NB (b2 va) (b2 vb) (b2 vc) (b2 vd)) := by
    have e1 : NB va vb vc vd / 2 ^ 2 = NB (va / 4 + 64 * (vb % 4)) (vb / 4 + 64 * (vc % 4)) (vc / 4 + 64 * (vd % 4)) (vd / 4) := by
      unfold NB
      omega
    rw [m51, nI_and, nI_and, e1, and4 (by omega) (by omega) (by omega) (by omega), and4 (by omega) (by omega) (by omega) (by omega), b2_m va la.2.2.1 _ (by omega), b2_m vb lb.2.2.1 _ (by omega), b2_m vc lc.2.2.1 _ (by omega), nI_add]
    congr 1
    unfold NB b2
    omega
  have h2a : b2 va < 256 := by unfold b2; exact la.2.2.2
  have h2b : b2 vb < 256 := by unfold b2; exact lb.2.2.2
  have h2c : b2 vc < 256 := by unfold b2; exact lc.2.2.2
  have h2d : b2 vd < 256 := by unfold b2; exact ld.2.2.2
  have hv1 : NB va vb vc vd < 2 ^ 32 := by
    unfold NB
    omega
  generalize hwa : b2 va = wa at *
  generalize hwb : b2 vb = wb at *
  generalize hwc : b2 vc = wc at *
  generalize hwd : b2 vd = wd at *
  have hv2 : NB wa wb wc wd < 2 ^ 32 := by
    unfold NB
    omega
  have n15 : ∀ z, z &&& 15 = z % 16 := fun z => Nat.and_two_pow_sub_one_eq_mod z 4
  have s3 : (nI (NB wa wb wc wd) + nI (NB wa wb wc wd / 2 ^ 4)) &&& 252645135 = nI (NB (b3 wa) (b3 wb) (b3 wc) (b3 wd)) := by
    have e1 : NB wa wb wc wd + NB wa wb wc wd / 2 ^ 4 = NB (wa + wa / 16 + 16 * (wb % 16)) (wb + wb / 16 + 16 * (wc % 16)) (wc + wc / 16 + 16 * (wd % 16)) (wd + wd / 16) := by
      unfold NB
      omega
    rw [m15, nI_add, nI_and, e1, and4 (by omega) (by omega) (by omega) (by omega), n15, n15, n15, n15]
    congr 1
    unfold NB b3
    omega
  have hv3 : NB (b3 wa) (b3 wb) (b3 wc) (b3 wd) < 2 ^ 32 := by
    unfold NB
    omega
  generalize hca : b3 wa = ca at *
  generalize hcb : b3 wb = cb at *
  generalize hcc : b3 wc = cc at *
  generalize hcd : b3 wd = cd at *
  have hv4 : NB ca cb cc cd + NB ca cb cc cd / 2 ^ 8 < 2 ^ 32 := by
    unfold NB
    omega
  have hn0 : NB a b c d < 2 ^ 32 := by rw [← hab]; exact hn
  unfold f_J6_bitCount_0f7a4
  simp only [e_let]
  rw [hx, hab, u1 hn0, s1, u2 hv1, s2, u4 hv2, s3, u8 hv3, nI_add, u16 hv4, nI_add, show (63 : Int32) = nI (2 ^ 6 - 1) from rfl, nI_and, Nat.and_two_pow_sub_one_eq_mod]
  congr 2
  rw [← hab, ← hx, hcnt]
  congr 1
  have z1 : NB ca cb cc cd / 2 ^ 8 = cb + 256 * (cc + 256 * cd) := by
    unfold NB
    omega
  have z2 : (NB ca cb cc cd + (cb + 256 * (cc + 256 * cd))) / 2 ^ 16 = cc + cd + 256 * cd := by
    unfold NB
    omega
  rw [z1, z2]
  unfold NB
  omega
theorem l_many {s : Int32} {w : MW} : ∀ m k F, k + m = 24 → m < F → lp_X10_many_4 s w F (nI (cnt (hbit s) k), nI k) = some (nI (cnt (hbit s) 24)) := by
  intro m
  induction m with
  | zero =>
    intro k F hk hF
    obtain ⟨F, rfl⟩ := F_succ hF
    have hk : k = 24 := by omega
    subst hk
    simp only [lp_X10_many_4]
    rw [if_pos (by decide)]
  | succ m ih =>
    intro k F hk hF
    obtain ⟨F, rfl⟩ := F_succ hF
    have h2 := ih (k + 1) F (by omega) (by omega)
    rw [lp_X10_many_4, if_neg (show ¬ (24 : Int32) ≤ nI k from nI_ge (b := 24) (by omega) (by omega))]
    simp only [e_let, nI_1']
    rw [bt_and1, bt_sshr (by omega), ← h2, cnt]
    cases hbit s k
    · rw [if_neg (by decide), if_neg (by decide), nI_p0]
    · rw [if_pos rfl, if_pos rfl, nI_p1]
theorem g_many (s : Int32) (w : MW) : f_X10_many s w = some (nI (cnt (hbit s) 24), w) := by
  unfold f_X10_many
  rw [show lp_X10_many_4 s w 3000 (0, 0) = _ from l_many (s := s) (w := w) 24 0 3000 (by omega) (by omega), e_bd]
theorem cnt_ext {p : Nat → Bool} {n : Nat} (h : ∀ i, n ≤ i → p i = false) : ∀ m, cnt p (n + m) = cnt p n
  | 0 => rfl
  | m + 1 => by
    rw [← Nat.add_assoc, cnt, cnt_ext h m, h (n + m) (by omega)]
    rfl
theorem cnt_3224 {s : Int32} (h : ∀ i, 24 ≤ i → i < 32 → hbit s i = false) : cnt (hbit s) 32 = cnt (hbit s) 24 := by
  have e : cnt (hbit s) 32 = cnt (fun i => hbit s i && decide (i < 24)) 32 := cnt_congr (fun i hi => by
    by_cases q : i < 24
    · rw [decide_eq_true q]
      simp
    · rw [h i (by omega) hi]
      rfl)
  rw [e, show (32 : Nat) = 24 + 8 from rfl, cnt_ext (fun i hi => by rw [decide_eq_false (by omega)]; simp) 8]
  exact cnt_congr (fun i hi => by rw [decide_eq_true hi]; simp)
/-- the best policy -/
def apA (su : Nat → Nat → Nat) (D d : Nat) (A : AS) (p : Nat) : AS := paA su D 1000 (up A 11 d p)
def ltN (su : Nat → Nat → Nat) (D d : Nat) (A : AS) (p : Nat) : Nat := cnt (hbit (rbA (looA (apA su D d A p)) (apA su D d A p 30 0))) 24
def enE (su : Nat → Nat → Nat) (D d : Nat) (A : AS) (p : Nat) : Nat := smA (apA su D d A p 14) D
def bpA (su : Nat → Nat → Nat) (D d : Nat) (A : AS) : Nat → Nat
  | 0 => 0
  | k + 1 => if ltN su D d A (k + 1) < ltN su D d A (bpA su D d A k) ∨ (ltN su D d A (k + 1) = ltN su D d A (bpA su D d A k) ∧ enE su D d A (k + 1) < enE su D d A (bpA su D d A k)) then k + 1 else bpA su D d A k
theorem bpA_succ (su : Nat → Nat → Nat) (D d : Nat) (A : AS) (k : Nat) : bpA su D d A (k + 1) = if ltN su D d A (k + 1) < ltN su D d A (bpA su D d A k) ∨ (ltN su D d A (k + 1) = ltN su D d A (bpA su D d A k) ∧ enE su D d A (k + 1) < enE su D d A (bpA su D d A k)) then k + 1 else bpA su D d A k := rfl
theorem bpA_le (su : Nat → Nat → Nat) (D d : Nat) (A : AS) : ∀ k, bpA su D d A k ≤ k
  | 0 => Nat.le_refl _
  | k + 1 => by
    have := bpA_le su D d A k
    rw [bpA_succ]
    split <;> omega
theorem paA_c {su : Nat → Nat → Nat} {D : Nat} : ∀ m A, paA su D m A 30 0 = A 30 0
  | 0, _ => rfl
  | m + 1, A => by
    rw [paA_succ]
    split
    · rfl
    · rw [paA_c m, tick_c]
theorem ap_X {su : Nat → Nat → Nat} {D d p T : Nat} {A : AS} (hB : SUB D su) (hp : p ≤ 3) (h : IL D su T A) : InvX D su (T + 1000) (apA su D d A p) ∧ apA su D d A p 30 0 = A 30 0 := by
  refine ⟨InvX_pa hB 1000 T _ (IL_pol (d := d) hp h).1, ?_⟩
  unfold apA
  rw [paA_c, up_k (by omega)]
theorem en_31 {su : Nat → Nat → Nat} {D d p T : Nat} {A : AS} (hB : SUB D su) (hT : T ≤ 256000) (hp : p ≤ 3) (h : IL D su T A) : enE su D d A p < 2 ^ 31 := E31 (by omega) (ap_X (d := d) hB hp h).1
theorem lt_bc {su : Nat → Nat → Nat} {D d p T : Nat} {A : AS} (hB : SUB D su) (hp : p ≤ 3) (h : IL D su T A) : cnt (hbit (rbA (looA (apA su D d A p)) (apA su D d A p 30 0))) 32 = ltN su D d A p := by
  have h2 := (ap_X (d := d) hB hp h).2
  have hc := h.1.1.1.1
  refine cnt_3224 (fun i h1 h3 => ?_)
  rw [rbA_bit h3 _ (by omega), decide_eq_false (by omega)]
  rfl
theorem lt_24 (su : Nat → Nat → Nat) (D d : Nat) (A : AS) (p : Nat) : ltN su D d A p ≤ 24 := cnt_le _ _
theorem bp_C1 {N : Nat → Nat → Int32} {r : Int64 × UInt64} {su : Nat → Nat → Nat} {D d p T : Nat} {A : AS} (hB : SUB D su) (hd : d < D) (hT : T ≤ 256000) (hp : p ≤ 3) (hs : SUC N D su) (h : RC N 29 D A) (hI : IL D su T A) : ∃ C1 C3, f_X3_copyFrom 54 29 (mw N r) = some (mw C1 r) ∧ f_X3_passTicksUntilOver 54 (mw (st C1 (54 + 15) d (nI p)) r) = some (mw C3 r) ∧ f_X1_lateOrOpen (54 + 1) (mw C3 r) = some (rbA (looA (apA su D d A p)) (apA su D d A p 30 0), mw C3 r) ∧ f_X3_energySum 54 (mw C3 r) = some (lN (enE su D d A p), mw C3 r) ∧ FC 54 N C3 := by
  have hD := hB.2.1
  have hc := hI.1.1.1.1
  obtain ⟨C1, q1, q2, q3⟩ := cp_C (r := r) bL29 bL54 (by omega) hD hc h
  have hR1 := rc_d (k := 0) (d := d) (x := p) (by omega) q2
  have hF1 : FC 54 C1 (st C1 (54 + 15) d (nI p)) := FC_s (by omega) (by omega)
  have hs1 := SUC_FC (by omega) (SUC_FC (by omega) hs q3) hF1
  obtain ⟨C3, p1, p2, p3⟩ := past_C (r := r) bL54 hB (show T < 2 ^ 28 by omega) hs1 hR1 (IL_pol (d := d) hp hI).1.1
  have hX := ap_X (d := d) hB hp hI
  have hF : FC 54 N C3 := FC_t (FC_t q3 hF1) p3
  refine ⟨C1, C3, q1, p1, loo_C (r := r) bL54 p2 hX.1.1, ?_, hF⟩
  exact es_C (r := r) bL54 hD (by rw [hF 17 (by omega)]; exact hs.1) p2 (en_31 hB hT hp hI)
theorem bp_C {r : Int64 × UInt64} {su : Nat → Nat → Nat} {D d T : Nat} {A : AS} (hB : SUB D su) (hd : d < D) (hT : T ≤ 256000) (hI : IL D su T A) : ∀ m k F (N : Nat → Nat → Int32), k + m = 3 → m + 1 < F → SUC N D su → RC N 29 D A → ∃ N', lp_X9_bestPolicy_16 0 (nI d) F (nI (bpA su D d A k), nI (ltN su D d A (bpA su D d A k)), lN (enE su D d A (bpA su D d A k)), nI (k + 1), mw N r) = some (nI (bpA su D d A 3), mw N' r) ∧ FC 54 N N' := by
  have hD := hB.2.1
  intro m
  induction m with
  | zero =>
    intro k F N hk hF hs h
    obtain ⟨F, rfl⟩ := F_succ hF
    have hk : k = 3 := by omega
    subst hk
    refine ⟨N, ?_, FC_r⟩
    simp only [lp_X9_bestPolicy_16]
    rw [if_pos (by decide)]
  | succ m ih =>
    intro k F N hk hF hs h
    obtain ⟨F, rfl⟩ := F_succ hF
    obtain ⟨C1, C3, q1, q2, q3, q4, q5⟩ := bp_C1 (r := r) (p := k + 1) hB hd hT (by omega) hs h hI
    have hlt := lt_bc (d := d) (p := k + 1) hB (by omega) hI
    have l1 := lt_24 su D d A (k + 1)
    have l2 := lt_24 su D d A (bpA su D d A k)
    have hbl := bpA_le su D d A k
    have e1 := en_31 (d := d) (p := k + 1) hB hT (by omega) hI
    have e2 := en_31 (d := d) (p := bpA su D d A k) hB hT (by omega) hI
    obtain ⟨N', p1, p2⟩ := ih (k + 1) F C3 (by omega) (by omega) (SUC_FC (by omega) hs q5) (RC_ext (fun a _ _ => q5 a (by omega)) h)
    refine ⟨N', ?_, FC_t q5 p2⟩
    rw [lp_X9_bestPolicy_16, if_neg (show ¬ (4 : Int32) ≤ nI (k + 1) from nI_ge (b := 4) (by omega) (by omega))]
    simp (disch := omega) only [P0, SB bL54, SL bL54, q1, e_bv, q2, q3, e_b, g_bc, hlt, q4, e_let, nI_1']
    rw [← p1, bpA_succ]
    by_cases c1 : ltN su D d A (k + 1) < ltN su D d A (bpA su D d A k)
    · rw [if_pos (nI_lt c1 (by omega)), e_bd, if_pos (.inl c1)]
    · rw [if_neg (nI_nlt (by omega) (by omega))]
      by_cases c2 : ltN su D d A (k + 1) = ltN su D d A (bpA su D d A k)
      · rw [if_pos (by rw [c2])]
        by_cases c3 : enE su D d A (k + 1) < enE su D d A (bpA su D d A k)
        · rw [if_neg (by rw [lg_cmp_ge, lN_le (by omega) (by omega)]; omega), e_bd, if_pos (.inr ⟨c2, c3⟩)]
        · rw [if_pos (by rw [lg_cmp_ge, lN_le (by omega) (by omega)]; omega), e_bd, if_neg (by omega)]
      · rw [if_neg (fun q => c2 ((nI_eq (by omega) (by omega)).mp q)), e_bd, if_neg (by omega)]
theorem bp_R1 {R : Nat → Nat → Int32} {r : Int64 × UInt64} {su : Nat → Nat → Nat} {D d p T : Nat} {A : AS} (hB : SUB D su) (hd : d < D) (hT : T ≤ 256000) (hp : p ≤ 3) (hs : SUR R D su) (h : RR R D A) (hI : IL D su T A) (h51 : ∀ i, i < 287 → R 351 i = R 337 i) : ∃ R3, f_X10_passAll 336 (mw (sD R d 1 (nI p)) r) = some (mw R3 r) ∧ f_X10_lateOrOpen 336 (mw R3 r) = some (rbA (looA (apA su D d A p)) (apA su D d A p 30 0), mw R3 r) ∧ f_X10_allEnergy 336 (mw R3 r) = some (nI (enE su D d A p), mw R3 r) ∧ (∀ a, a ≠ 336 → a ≠ 337 → cyN R3 351 0 337 0 287 a = R a) ∧ (∀ k, k ≠ 29 → k ≠ 30 → k ≠ 31 → cyN R3 351 0 337 0 287 336 k = R 336 k) ∧ (∀ i, i < 287 → cyN R3 351 0 337 0 287 337 i = R 337 i) := by
  have hD := hB.2.1
  have hR1 := rr_D (k := 1) (d := d) (x := p) (by omega) (by omega) h
  obtain ⟨R3, p1, p2, p3, _⟩ := past_R (r := r) hB (show T < 2 ^ 28 by omega) (SUR_FT hs FT_D) hR1 (IL_pol (d := d) hp hI).1.1
  have hX := ap_X (d := d) hB hp hI
  have hF : FT R R3 := FT_t FT_D p3
  refine ⟨R3, p1, loo_R (r := r) p2 hX.1.1, ae_R (r := r) hD (SUR_FT hs hF).1 p2, ?_, ?_, ?_⟩
  · intro a h1 h2
    rw [cyN_c h2, hF.1 a h1 h2]
  · intro k h1 h2 h3
    rw [cyN_c (by omega), hF.2 k h1 h2 h3]
  · intro i hi
    rw [cyN_in (by omega) (by omega), hF.1 351 (by omega) (by omega), show 0 + (i - 0) = i by omega, h51 i hi]
theorem hmN (su : Nat → Nat → Nat) (D d : Nat) (A : AS) (p : Nat) (w : MW) : f_X10_many (rbA (looA (apA su D d A p)) (apA su D d A p 30 0)) w = some (nI (ltN su D d A p), w) := by
  unfold ltN
  exact g_many _ w
theorem bp_R {r : Int64 × UInt64} {su : Nat → Nat → Nat} {D d T : Nat} {A : AS} (hB : SUB D su) (hd : d < D) (hT : T ≤ 256000) (hI : IL D su T A) : ∀ m k F (R : Nat → Nat → Int32), k + m = 3 → m + 1 < F → SUR R D su → RR R D A → (∀ i, i < 287 → R 351 i = R 337 i) → ∃ R', lp_X10_bestPolicy_28 336 (nI d) F (nI (bpA su D d A k), nI (ltN su D d A (bpA su D d A k)), nI (enE su D d A (bpA su D d A k)), nI (k + 1), mw R r) = some (nI (bpA su D d A 3), mw R' r) ∧ (∀ a, a ≠ 336 → a ≠ 337 → R' a = R a) ∧ (∀ k, k ≠ 29 → k ≠ 30 → k ≠ 31 → R' 336 k = R 336 k) ∧ (∀ i, i < 287 → R' 337 i = R 337 i) := by
  have hD := hB.2.1
  have hc := hI.1.1.1.1
  intro m
  induction m with
  | zero =>
    intro k F R hk hF hs h h51
    obtain ⟨F, rfl⟩ := F_succ hF
    have hk : k = 3 := by omega
    subst hk
    refine ⟨R, ?_, fun _ _ _ => rfl, fun _ _ _ _ => rfl, fun _ _ => rfl⟩
    simp only [lp_X10_bestPolicy_28]
    rw [if_pos (by decide)]
  | succ m ih =>
    intro k F R hk hF hs h h51
    obtain ⟨F, rfl⟩ := F_succ hF
    obtain ⟨R3, q1, q2, q3, q4, q5, q6⟩ := bp_R1 (r := r) (p := k + 1) hB hd hT (by omega) hs h hI h51
    have l1 := lt_24 su D d A (k + 1)
    have l2 := lt_24 su D d A (bpA su D d A k)
    have hbl := bpA_le su D d A k
    have e1 := en_31 (d := d) (p := k + 1) hB hT (by omega) hI
    have e2 := en_31 (d := d) (p := bpA su D d A k) hB hT (by omega) hI
    have hs3 : SUR (cyN R3 351 0 337 0 287) D su := by
      unfold SUR at hs ⊢
      simp (disch := omega) only [q4, q5]
      exact hs
    obtain ⟨N', p1, p2, p3, p4⟩ := ih (k + 1) F (cyN R3 351 0 337 0 287) (by omega) (by omega) hs3 (RR_ext hD hc q6 h) (fun i hi => by rw [q4 351 (by omega) (by omega), q6 i hi, h51 i hi])
    refine ⟨N', ?_, fun a h1 h2 => by rw [p2 a h1 h2, q4 a h1 h2], fun k h1 h2 h3 => by rw [p3 k h1 h2 h3, q5 k h1 h2 h3], fun i hi => by rw [p4 i hi, q6 i hi]⟩
    rw [lp_X10_bestPolicy_28, if_neg (show ¬ (3 : Int32) < nI (k + 1) from nI_nlt (a := 3) (by omega) (by omega))]
    have hm : ∀ w, f_X10_many (rbA (looA (apA su D d A (k + 1))) (apA su D d A (k + 1) 30 0)) w = some (nI (ltN su D d A (k + 1)), w) := fun w => hmN su D d A (k + 1) w
    have hn1 := eq_false (nI_nm1 (j := bpA su D d A k) (by omega))
    rw [(RP).2.1 _ _ d _ (by omega), e_bv, q1, e_bv, q2, e_b, hm, e_b, q3, e_b]
    simp only [hn1, reduceIte]
    simp (disch := omega) only [g_tak, e_bv, e_let, nI_1']
    rw [← p1, bpA_succ]
    by_cases c1 : ltN su D d A (k + 1) < ltN su D d A (bpA su D d A k)
    · rw [if_pos (nI_lt c1 (by omega)), e_bd, if_pos (.inl c1)]
    · rw [if_neg (nI_nlt (by omega) (by omega))]
      by_cases c2 : ltN su D d A (k + 1) = ltN su D d A (bpA su D d A k)
      · rw [if_pos (by rw [c2])]
        by_cases c3 : enE su D d A (k + 1) < enE su D d A (bpA su D d A k)
        · rw [if_neg (nI_ge c3 (by omega)), e_bd, if_pos (.inr ⟨c2, c3⟩)]
        · rw [if_pos (nI_le (by omega) (by omega)), e_bd, if_neg (by omega)]
      · rw [if_neg (fun q => c2 ((nI_eq (by omega) (by omega)).mp q)), e_bd, if_neg (by omega)]
theorem law_31 {xs : Nat → Int32} {Ls i T : Nat} {N : Nat → Nat → Int32} {r : Int64 × UInt64} (hL : Ls ≤ 3584) (h7 : 7 * i + 7 ≤ Ls) (hT : T ≤ 256000) (hg : GI N T) : ∃ N' r', lawc_31 xs Ls (nI (7 * i)) (mw N r) = some (mw N' r') ∧ GI N' (T + 500) := by
  have hg0 := hg
  obtain ⟨g1, g2, g3, g4, g5⟩ := hg
  simp only [lawc_31, e_lds hL h7]
  generalize xs (7 * i + 1) = x1
  rcases g5 with ⟨u1, u2, u3⟩ | ⟨D, su, A, h, w, H, hS⟩
  · simp only [f_L_bestPolicy, f_X9_bestPolicy, P0, G356, g_nD0 r _ u1, e_bxl, e_btl, reduceIte, e_b, f_X10_bestPolicy, PR, g_isD, u3, rg_0, bI_f, e_bd, g_w0 r _ u2, i10, g_thr, st_self]
    exact ⟨_, _, rfl, GI_q (GF_4 (by omega)) hg0⟩
  · obtain ⟨a1, a2, a3, a4, a5, a6, a7, a8, a9, a10, a11⟩ := hS
    have hD := a3.2.1
    have hc24 := a8.1.1.1.1
    cases hr : rg 0 (nI D - 1) x1 with
    | false =>
      simp only [f_L_bestPolicy, f_X9_bestPolicy, P0, G356, g_nDf r (x := x1) a1 (by rw [a4.1]; exact hr), e_bxl, e_btl, SX, reduceIte, e_b, f_X10_bestPolicy, PR, g_isD, a5.1, hr, bI_f, e_bd, g_w1f r a2, i10, g_thr, st_self]
      exact ⟨_, _, rfl, GI_q (GF_4 (by omega)) hg0⟩
    | true =>
      obtain ⟨d, hd, rfl⟩ := rg_n (by omega) hr
      have hc : f_X9_needDomain 0 (nI d) (mw N r) = some (.inr (), mw N r) := g_nDt r a1 (by rw [a4.1]; exact hr)
      obtain ⟨C1, C3, c1, c2, c3, c4, c5⟩ := bp_C1 (r := r) (p := 0) a3 hd hT (by omega) a4 a6 a8
      have hlt := lt_bc (d := d) (p := 0) a3 (by omega) a8
      have l1 := lt_24 su D d A 0
      obtain ⟨C2, p1, p3⟩ := bp_C (r := r) a3 hd hT a8 3 0 2999 C3 (by omega) (by omega) (SUC_FC (by omega) a4 c5) (RC_ext (fun a _ _ => c5 a (by omega)) a6)
      have p1' : lp_X9_bestPolicy_16 0 (nI d) 3000 (0, 25, 0, 0, mw N r) = some ((nI (bpA su D d A 3)), mw C2 r) := by
        show lp_X9_bestPolicy_16 0 (nI d) (2999 + 1) (0, 25, 0, 0, mw N r) = _
        rw [lp_X9_bestPolicy_16, if_neg (show ¬ (4 : Int32) ≤ 0 by decide)]
        have z0 : ∀ (K : MW → Option (Int32 × MW)), hz_sta (mw C1 r) (54 + 15) (nI d) 0 K = K (mw (st C1 (54 + 15) d (nI 0)) r) := fun K => by simp (disch := omega) only [SL bL54]; rfl
        simp (disch := omega) only [P0, SB bL54, c1, e_bv, z0, c2, c3, e_b, g_bc, hlt, c4, e_let]
        rw [if_pos (show nI (ltN su D d A 0) < 25 from nI_lt (b := 25) (by omega) (by omega)), e_bd]
        exact p1
      have q3 : FC 54 N C3 := c5
      have hFC : FC 54 N C2 := FC_t q3 p3
      have e6 : ∀ a, 336 ≤ a → C2 a = N a := fun a ha => hFC a (by omega)
      have hRR : RR (st C2 336 4 0) D A := RR_336 (RR_F (e6 337 (by omega)) a7)
      have hSU : SUR (st C2 336 4 0) D su := SUR_4 (by omega) (SUR_F e6 a5)
      have e3 : C2 336 3 = 1 := by rw [e6 336 (by omega)]; exact a2
      have eD : C2 336 5 = nI D := by rw [e6 336 (by omega)]; exact a5.1
      obtain ⟨R3, r1, r2, r3, r4, r5, r6⟩ := bp_R1 (R := cyN (st C2 336 4 0) 337 0 351 0 287) (r := (Int32.toInt64 (nI (bpA su D d A 3)), r.2)) (p := 0) a3 hd hT (by omega) (SUR_asi hSU) (RR_asi hD hc24 hRR) a8 (fun i hi => by rw [cyN_in (by omega) (by omega), cyN_c (by omega), show 0 + (i - 0) = i by omega])
      have hs3 : SUR (cyN R3 351 0 337 0 287) D su := by
        have h5 := SUR_asi hSU
        unfold SUR at h5 ⊢
        simp (disch := omega) only [r4, r5]
        exact h5
      obtain ⟨R2, t1, t2, t3, t4⟩ := bp_R (r := (Int32.toInt64 (nI (bpA su D d A 3)), r.2)) a3 hd hT a8 3 0 2999 (cyN R3 351 0 337 0 287) (by omega) (by omega) hs3 (RR_ext hD hc24 r6 (RR_asi hD hc24 hRR)) (fun i hi => by rw [r4 351 (by omega) (by omega), r6 i hi, cyN_in (by omega) (by omega), cyN_c (by omega), show 0 + (i - 0) = i by omega])
      have t1' : lp_X10_bestPolicy_28 336 (nI d) 3000 (-1, 0, 0, 0, mw (cyN (st C2 336 4 0) 337 0 351 0 287) (Int32.toInt64 (nI (bpA su D d A 3)), r.2)) = some ((nI (bpA su D d A 3)), mw R2 (Int32.toInt64 (nI (bpA su D d A 3)), r.2)) := by
        show lp_X10_bestPolicy_28 336 (nI d) (2999 + 1) (-1, 0, 0, 0, mw (cyN (st C2 336 4 0) 337 0 351 0 287) (Int32.toInt64 (nI (bpA su D d A 3)), r.2)) = _
        rw [lp_X10_bestPolicy_28, if_neg (show ¬ (3 : Int32) < 0 by decide)]
        have hm : ∀ w, f_X10_many (rbA (looA (apA su D d A 0)) (apA su D d A 0 30 0)) w = some (nI (ltN su D d A 0), w) := fun w => hmN su D d A 0 w
        have r1' : f_X10_passAll 336 (mw (sD (cyN (st C2 336 4 0) 337 0 351 0 287) d 1 0) (Int32.toInt64 (nI (bpA su D d A 3)), r.2)) = some (mw R3 (Int32.toInt64 (nI (bpA su D d A 3)), r.2)) := r1
        rw [(RP).2.1 _ _ d _ (by omega), e_bv, r1', e_bv, r2, e_b, hm, e_b, r3, e_b]
        simp only [reduceIte, e_bd]
        simp (disch := omega) only [g_tak, e_bv, e_let]
        exact t1
      have e4 : R2 336 4 = 0 := by
        rw [t3 4 (by omega) (by omega) (by omega), r5 4 (by omega) (by omega) (by omega), cyN_c (by omega), st_self]
      simp (disch := omega) only [f_L_bestPolicy, f_X9_bestPolicy, P0, G356, hc, p1', e_bx, e_bv, e_bt, e_bd, e_let, mw_po, reduceIte, e_b, f_X10_bestPolicy, PR, g_isD, eD, hr, bI_t, i10, g_w1t _ e3, g_asi, t1', g_thr, e4, mw_2, lg_same]
      refine ⟨_, _, rfl, GI_q (GF_t (FC_GF hFC) (GF_t (GF_4 (by omega)) (⟨fun a ha => ?_, fun k hk => ?_, fun k hk => ?_⟩ : GF (st C2 336 4 0) R2))) hg0⟩
      · rw [t2 a (by omega) (by omega), r4 a (by omega) (by omega), cyN_c (by omega)]
      · rw [t3 k (by omega) (by omega) (by omega), r5 k (by omega) (by omega) (by omega), cyN_c (by omega)]
      · rw [t4 k hk, r6 k hk, cyN_c (by omega)]
