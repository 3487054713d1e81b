/-- load: what was read is in its bounds -/
theorem dm_n {t : Nat → Nat} {len : Nat} : ∀ m d, (dmR t len m d).1 = none → ∀ e, d ≤ e → e < (dmR t len m d).2 → dE t len e = none
  | 0, d, h, e, h1, h2 => by
    rw [dmR] at h
    cases h
  | m + 1, d, h, e, h1, h2 => by
    rw [dmR] at h h2
    cases hl : dE t len d with
    | some x => rw [hl] at h; cases h
    | none =>
      rw [hl] at h h2
      have h' : (if KK t len (ds t len (d + 1)) = 0 then ((none : Option (Nat × Nat)), d + 1) else dmR t len m (d + 1)).1 = none := h
      have h2' : e < (if KK t len (ds t len (d + 1)) = 0 then ((none : Option (Nat × Nat)), d + 1) else dmR t len m (d + 1)).2 := h2
      by_cases q : e = d
      · rw [q]; exact hl
      · by_cases c : KK t len (ds t len (d + 1)) = 0
        · rw [if_pos c] at h2'
          exact absurd h2' (show ¬ e < d + 1 by omega)
        · rw [if_neg c] at h' h2'
          exact dm_n m (d + 1) h' e (by omega) h2'
theorem mnS_le (a b : Nat) : mnS a b ≤ a := by
  unfold mnS
  split <;> omega
theorem sub_ok {t : Nat → Nat} {len D : Nat} (h1 : 1 ≤ D) (h4 : D ≤ 4) (h : ∀ d, d < D → dE t len d = none) : SUB D (suF t len) ∧ (∀ d, d < D → 1 ≤ cn t len d) ∧ (∀ d, d < D → VV t len (ds t len d + 6) ≤ 99999) ∧ ∀ d, d < D → VV t len (ds t len d + 2) ≤ 99999 ∧ polV t len (ds t len d + 8) ≤ 3 := by
  have a : ∀ d, d < D → hdX t len (ds t len d) = none ∧ (lvR t len 5 (ds t len d + 10) 0 0).1 = none := fun d hd => sq_nn (h d hd)
  have hc : ∀ d, d < D → 1 ≤ cn t len d := fun d hd => (lv_c 5 (ds t len d + 10) 0 0 (by omega)).2 (a d hd).2
  refine ⟨⟨h1, h4, fun d hd => ?_⟩, hc, fun d hd => ?_, fun d hd => ?_⟩
  · obtain ⟨x1, x2, x3, x4, x5, x6, x7, x8⟩ := hd_b (a d hd).1
    have y1 := hc d hd
    have y5 := cn_b t len d
    have ym := mnS_le (cn t len d - 1) (VV t len (ds t len d + 6))
    refine ⟨x1.1, x1.2, y1, y5, x3, x4.1, x4.2, x5, show mnS (cn t len d - 1) (VV t len (ds t len d + 6)) < cn t len d by omega, x7, fun n hn => ?_⟩
    have hn' : n < cn t len d := hn
    have z := su_7 (t := t) (len := len) (d := d) (n := n) (by omega)
    rw [z.1, z.2]
    exact lv_b 5 (ds t len d + 10) 0 0 (a d hd).2 n (Nat.zero_le n) hn
  · have := (hd_b (a d hd).1).2.2.2.2.2.1
    omega
  · obtain ⟨x1, x2, x3, x4, x5, x6, x7, x8⟩ := hd_b (a d hd).1
    refine ⟨x2, ?_⟩
    unfold polE at x8
    have hp : polV t len (ds t len d + 8) ≤ 4 := by
      unfold polV
      repeat' split
      all_goals omega
    split at x8
    · omega
    · omega
theorem A0_v (t : Nat → Nat) (len d : Nat) : A0 t len 10 d = VV t len (ds t len d + 2) ∧ A0 t len 11 d = polV t len (ds t len d + 8) ∧ A0 t len 12 d = VV t len 1 ∧ A0 t len 15 d = VV t len (ds t len d + 7) ∧ A0 t len 30 2 = VV t len 1 := ⟨rfl, rfl, rfl, rfl, rfl⟩
theorem smA_0 {f : Nat → Nat} (h : ∀ i, f i = 0) : ∀ n, smA f n = 0
  | 0 => rfl
  | n + 1 => by
    unfold smA
    rw [smA_0 h n, h n]
theorem A0_inv {t : Nat → Nat} {len D T : Nat} (h1 : VV t len 1 ≤ 9999) (hb : ∀ d, d < D → VV t len (ds t len d + 2) ≤ 99999 ∧ polV t len (ds t len d + 8) ≤ 3) : IL D (suF t len) T (A0 t len) := by
  have z : A0 t len 30 0 = 0 := A0_0 (by omega) (by omega) (by omega) (by omega) (by omega)
  have z1 : A0 t len 30 1 = 0 := A0_0 (by omega) (by omega) (by omega) (by omega) (by omega)
  have v := A0_v t len
  refine ⟨⟨⟨⟨by rw [z]; omega, by rw [z1]; omega, by rw [(v 0).2.2.2.2]; exact h1⟩, fun j hj => ?_, fun d hd => ⟨.inl ?_, ?_, ?_, ?_⟩, fun d e j hd q => ?_, fun d e e' j hd q _ => ?_, fun k hk => ⟨?_, ?_⟩⟩, ?_, fun d hd => ⟨?_, ?_⟩⟩, fun d hd => ?_⟩
  · rw [z] at hj
    omega
  · rw [(v d).1]; exact (hb d hd).1
  · rw [(v d).2.1]; exact (hb d hd).2
  · rw [(v d).2.2.1]; omega
  · rw [(v d).2.2.2.1]; exact Nat.le_refl _
  · rw [A0_0 (by omega) (by omega) (by omega) (by omega) (by omega)] at q
    omega
  · rw [A0_0 (by omega) (by omega) (by omega) (by omega) (by omega)] at q
    omega
  · rw [A0_0 (by omega) (by omega) (by omega) (by omega) (by omega)]; omega
  · rw [A0_0 (by omega) (by omega) (by omega) (by omega) (by omega), z]; rfl
  · unfold IE
    rw [z, smA_0 (f := A0 t len 14) (fun i => A0_0 (by omega) (by omega) (by omega) (by omega) (by omega)), smA_0 (f := A0 t len 6) (fun i => A0_0 (by omega) (by omega) (by omega) (by omega) (by omega))]
    omega
  · rw [A0_0 (by omega) (by omega) (by omega) (by omega) (by omega)]; omega
  · rw [A0_0 (by omega) (by omega) (by omega) (by omega) (by omega)]; omega
  · rw [(v d).1]; exact (hb d hd).1
/-- the class's setup and state out of what it read -/
theorem suc_ok {N N' : Nat → Nat → Int32} {t : Nat → Nat} {len D : Nat} (hD : D ≤ 4) (h1 : N' 17 1 = nI D) (h : ∀ a k, 18 ≤ a → a ≤ 28 → k < lnT a → N' a k = N (a - 13) k) (hd : ∀ d, d < D → DCd N t len d) : SUC N' D (suF t len) := by
  refine ⟨h1, fun d hdd => ?_⟩
  obtain ⟨x1, x2, x3, x4, x5, x6, x7, x8, x9, x10, x11⟩ := hd d hdd
  have e : ∀ a, 18 ≤ a → a ≤ 26 → N' a d = N (a - 13) d := fun a q1 q2 => h a d q1 (by omega) (by unfold lnT; rw [if_pos (by omega)]; omega)
  refine ⟨(e 18 (by omega) (by omega)).trans x1, (e 26 (by omega) (by omega)).trans x9, (e 20 (by omega) (by omega)).trans x3, (e 21 (by omega) (by omega)).trans x4, (e 22 (by omega) (by omega)).trans x5, (e 23 (by omega) (by omega)).trans x6, (e 24 (by omega) (by omega)).trans x7, fun n hn => ?_⟩
  have hn' : n < cn t len d := hn
  have z := su_7 (t := t) (len := len) (d := d) (n := n) (by omega)
  have y := x11 n hn'
  rw [z.1, z.2]
  exact ⟨(h 27 (d * 5 + n) (by omega) (by omega) (by show d * 5 + n < 20; omega)).trans y.1, (h 28 (d * 5 + n) (by omega) (by omega) (by show d * 5 + n < 20; omega)).trans y.2⟩
theorem rc_ok {N N' : Nat → Nat → Int32} {t : Nat → Nat} {len D b : Nat} (hD : D ≤ 4) (hb : ∀ d, d < D → VV t len (ds t len d + 2) ≤ 99999) (s0 : N 17 0 = nI (VV t len 1)) (s1 : ∀ d, d < D → N 19 d = nI (VV t len (ds t len d + 2)) ∧ N 25 d = nI (polV t len (ds t len d + 8)) ∧ N 24 d = nI (VV t len (ds t len d + 7))) (g1 : N' (b + 1) 0 = 0 ∧ N' (b + 1) 1 = 0 ∧ N' (b + 1) 2 = 0 ∧ N' b 2 = 0 ∧ N' b 3 = N 17 0) (g2 : ∀ k, k < 4 → N' (b + 2) k = 0 ∧ N' (b + 3) k = 0) (g3 : ∀ k, k < 8 → N' (b + 12) k = 0 ∧ N' (b + 13) k = 0) (g4 : ∀ k, k < 4 → N' (b + 14) k = N 19 k ∧ N' (b + 15) k = N 25 k ∧ N' (b + 19) k = N 24 k) (g5 : ∀ k, k < 4 → N' (b + 16) k = N 17 0 ∧ N' (b + 17) k = 0 ∧ N' (b + 18) k = 0 ∧ N' (b + 20) k = 0 ∧ N' (b + 21) k = 0 ∧ N' (b + 22) k = 0 ∧ N' (b + 23) k = 0) (g6 : ∀ k, k < 16 → N' (b + 24) k = -2) : RC N' b D (A0 t len) := by
  have z : A0 t len 30 0 = 0 := A0_0 (by omega) (by omega) (by omega) (by omega) (by omega)
  have z1 : A0 t len 30 1 = 0 := A0_0 (by omega) (by omega) (by omega) (by omega) (by omega)
  have v := A0_v t len
  have nf : ∀ {i : Nat} {P : Prop}, ¬ (i < A0 t len 30 0 ∧ P) := fun q => by
    have h := q.1
    rw [z] at h
    exact Nat.not_lt_zero _ h
  refine ⟨⟨by rw [g1.1, z]; rfl, by rw [g1.2.2.2.1, z1]; rfl, by rw [g1.2.2.2.2, s0, (v 0).2.2.2.2]⟩, fun j k hj => ?_, fun j hj => ?_, fun i _ => ?_, fun i _ => ?_, fun d i hd _ => ?_, fun d i hd _ => ?_, fun k hk => ?_, fun k hk => ?_, fun d hd => ?_, fun d k hd hk => ?_, fun d e hd he => ?_⟩
  · rw [z] at hj
    omega
  · rw [z] at hj
    omega
  · rw [g1.2.1, hbit_0]; exact (decide_eq_false nf).symm
  · rw [g1.2.2.1, hbit_0]; exact (decide_eq_false nf).symm
  · rw [(g2 d (by omega)).1, hbit_0]; exact (decide_eq_false nf).symm
  · rw [(g2 d (by omega)).2, hbit_0]; exact (decide_eq_false nf).symm
  · rw [(g3 k hk).1, A0_0 (by omega) (by omega) (by omega) (by omega) (by omega)]; rfl
  · rw [(g3 k hk).2, A0_0 (by omega) (by omega) (by omega) (by omega) (by omega)]; rfl
  · have := hb d hd
    rw [(g4 d (by omega)).1, (s1 d hd).1, (v d).1]
    unfold limC
    rw [if_neg (by omega)]
  · have y4 := g4 d (by omega)
    have y5 := g5 d (by omega)
    have ys := s1 d hd
    have ho : k = 0 ∨ k = 1 ∨ k = 2 ∨ k = 3 ∨ k = 4 ∨ k = 5 ∨ k = 6 ∨ k = 7 ∨ k = 8 := by omega
    rcases ho with rfl | rfl | rfl | rfl | rfl | rfl | rfl | rfl | rfl
    · exact y4.2.1.trans ys.2.1
    · exact y5.1.trans s0
    · exact y5.2.1.trans (by rw [A0_0 (by omega) (by omega) (by omega) (by omega) (by omega)]; rfl)
    · exact y5.2.2.1.trans (by rw [A0_0 (by omega) (by omega) (by omega) (by omega) (by omega)]; rfl)
    · exact y4.2.2.trans ys.2.2
    · exact y5.2.2.2.1.trans (by rw [A0_0 (by omega) (by omega) (by omega) (by omega) (by omega)]; rfl)
    · exact y5.2.2.2.2.1.trans (by rw [A0_0 (by omega) (by omega) (by omega) (by omega) (by omega)]; rfl)
    · exact y5.2.2.2.2.2.1.trans (by rw [A0_0 (by omega) (by omega) (by omega) (by omega) (by omega)]; rfl)
    · exact y5.2.2.2.2.2.2.trans (by rw [A0_0 (by omega) (by omega) (by omega) (by omega) (by omega)]; rfl)
  · rw [g6 _ (by omega), A0_0 (by omega) (by omega) (by omega) (by omega) (by omega)]
    rfl
theorem GS_L {N N' : Nat → Nat → Int32} {T D h w : Nat} {su : Nat → Nat → Nat} {A : AS} {H : Nat → AS} (h8 : N' 0 8 = N 0 8) (hc : ∀ a, ((17 ≤ a ∧ a < 54) ∨ (79 ≤ a ∧ a < 331) ∨ (337 ≤ a ∧ a < 348)) → N' a = N a) (hk : ∀ k, (k = 2 ∨ k = 3 ∨ k = 5) → N' 336 k = N 336 k) (hg : GS N T D su A h w H) : GS N' T D su A h w H := by
  obtain ⟨a1, a2, a3, a4, a5, a6, a7, a8, a9, a10, a11⟩ := hg
  refine ⟨by rw [h8]; exact a1, by rw [hk 3 (by omega)]; exact a2, a3, ?_, ?_, RC_ext (fun a _ _ => hc a (by omega)) a6, RR_ext a3.2.1 a8.1.1.1.1 (fun k _ => by rw [hc 337 (by omega)]) a7, a8, HSC_ext (fun a _ _ => hc a (by omega)) a9, HSR_ext (hk 2 (by omega)) (hc 338 (by omega)) a10, a11⟩
  · unfold SUC at a4 ⊢
    simp only [hc 17 (by omega), hc 18 (by omega), hc 20 (by omega), hc 21 (by omega), hc 22 (by omega), hc 23 (by omega), hc 24 (by omega), hc 26 (by omega), hc 27 (by omega), hc 28 (by omega)]
    exact a4
  · unfold SUR at a5 ⊢
    simp only [hk 5 (by omega), hc 339 (by omega), hc 340 (by omega), hc 341 (by omega), hc 342 (by omega), hc 343 (by omega), hc 344 (by omega), hc 345 (by omega), hc 346 (by omega), hc 347 (by omega)]
    exact a5
