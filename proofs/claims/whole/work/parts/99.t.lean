/-- every call -/
def LOK (T : Nat) (o : Option MW) : Prop := ∃ N' r', o = some (mw N' r') ∧ GI N' (T + 500)
theorem LOK_if {T : Nat} {a b : Option MW} {v c : Int32} (h1 : LOK T a) (h2 : LOK T b) : LOK T (if v = c then a else b) := by
  by_cases h : v = c
  · rw [if_pos h]; exact h1
  · rw [if_neg h]; exact h2
theorem lawsw_ok {xs : Nat → Int32} {Ls i T : Nat} {N : Nat → Nat → Int32} {r : Int64 × UInt64} (hL : Ls ≤ 3584) (h7 : 7 * i + 7 ≤ Ls) (hT : T ≤ 256000) (hg : GI N T) (v : Int32) : LOK T (lawsw xs Ls (nI (7 * i)) v (mw N r)) := by
  unfold lawsw
  refine LOK_if (law_0 hL h7 (by omega) hg) ?_
  refine LOK_if (law_1 hL h7 (by omega) hg) ?_
  refine LOK_if (law_2 hg) ?_
  refine LOK_if (law_3 hg) ?_
  refine LOK_if (law_4 hL h7 (by omega) hg) ?_
  refine LOK_if (law_5 hL h7 (by omega) hg) ?_
  refine LOK_if (law_6 hL h7 (by omega) hg) ?_
  refine LOK_if (law_7 hL h7 (by omega) hg) ?_
  refine LOK_if (law_8 hL h7 (by omega) hg) ?_
  refine LOK_if (law_9 hL h7 (by omega) hg) ?_
  refine LOK_if (law_10 hL h7 (by omega) hg) ?_
  refine LOK_if (law_11 hL h7 (by omega) hg) ?_
  refine LOK_if (law_12 hL h7 (by omega) hg) ?_
  refine LOK_if (law_13 hL h7 (by omega) hg) ?_
  refine LOK_if (law_14 hL h7 (by omega) hg) ?_
  refine LOK_if (law_15 hL h7 (by omega) hg) ?_
  refine LOK_if (law_16 hL h7 (by omega) hg) ?_
  refine LOK_if (law_17 hL h7 (by omega) hg) ?_
  refine LOK_if (law_18 hL h7 (by omega) hg) ?_
  refine LOK_if (law_19 hL h7 (by omega) hg) ?_
  refine LOK_if (law_20 hL h7 (by omega) hg) ?_
  refine LOK_if (law_21 hL h7 (by omega) hg) ?_
  refine LOK_if (law_22 hL h7 (by omega) hg) ?_
  refine LOK_if (law_23 hL h7 (by omega) hg) ?_
  refine LOK_if (law_24 hL h7 (by omega) hg) ?_
  refine LOK_if (law_25 hL h7 (by omega) hg) ?_
  refine LOK_if (law_26 hL h7 (by omega) hg) ?_
  refine LOK_if (law_27 hL h7 (by omega) hg) ?_
  refine LOK_if (law_28 hL h7 (by omega) hg) ?_
  refine LOK_if (law_29 hL h7 (by omega) hg) ?_
  refine LOK_if (law_30 hL h7 (by omega) hg) ?_
  refine LOK_if (law_31 hL h7 (by omega) hg) ?_
  refine LOK_if (law_32 hL h7 (by omega) hg) ?_
  refine LOK_if (law_33 hL h7 (by omega) hg) ?_
  refine LOK_if (law_34 hL h7 (by omega) hg) ?_
  refine LOK_if (law_35 hL h7 (by omega) hg) ?_
  refine LOK_if (law_36 hL h7 (by omega) hg) ?_
  refine LOK_if (law_37 hL h7 (by omega) hg) ?_
  refine LOK_if (law_38 hL h7 (by omega) hg) ?_
  refine LOK_if (law_39 hL h7 (by omega) hg) ?_
  exact ⟨N, r, rfl, GI_mono (by omega) hg⟩
theorem lawgo_ok {xs : Nat → Int32} {Ls : Nat} (hL : Ls ≤ 3584) : ∀ F i (N : Nat → Nat → Int32) (r : Int64 × UInt64), 513 ≤ F + i → i ≤ 512 → GI N (500 * i) → lawgo xs Ls F i (mw N r) = some ()
  | 0, i, N, r, h1, h2, hg => by omega
  | F + 1, i, N, r, h1, h2, hg => by
    rw [lawgo]
    by_cases hc : Int32.ofNat Ls - 7 < nI (7 * i)
    · rw [if_pos hc]
    · rw [if_neg hc]
      have h7 : 7 * i + 7 ≤ Ls := by
        refine Decidable.byContradiction fun z => hc ?_
        by_cases q : 7 ≤ Ls
        · have e : Int32.ofNat Ls - 7 = nI (Ls - 7) := pk_sub (b := 7) q
          rw [e]
          refine Int32.not_le.mp (fun y => ?_)
          have := (nI_leI (by omega) (by omega)).mp y
          omega
        · have e : ∀ L, L < 7 → (Int32.ofNat L - 7 : Int32) < 0 := by decide
          exact Int32.lt_of_lt_of_le (e Ls (by omega)) (nI_pos' (by omega))
      have hix : hz_ix (nI (7 * i)) Ls = true := by
        unfold hz_ix
        rw [nI_clamp (by omega), decide_eq_true (nI_pos' (by omega)), decide_eq_true (by omega)]
        rfl
      obtain ⟨N', r', e1, e2⟩ := lawsw_ok (xs := xs) (r := r) hL h7 (show 500 * i ≤ 256000 by omega) hg (xs (nI (7 * i)).toNatClampNeg &&& 63)
      rw [hix, e_gd, e1, e_bd]
      exact lawgo_ok hL F (i + 1) N' r' (by omega) (by omega) (by rw [show 500 * (i + 1) = 500 * i + 500 by omega]; exact e2)
/-- the beginning -/
def hz_ch {σ : Type} (w : MW) (K : MW → Option σ) : Option σ :=
  hz_gd (hz_sh 0 == 10) (hz_let (hz_fr w 0) (fun w1 => hz_bv (f_X9_init 0 (0 + 1) w1) (fun w3 => hz_gd (hz_sh (0 + 336) == 11) (hz_let (hz_fr w3 (0 + 336)) (fun w5 => hz_bv (f_X10_init (0 + 336) (0 + 337) w5) (fun w8 => hz_gd (hz_ga (0 + 356) 23 1) (hz_let (hz_po (hz_fr w8 (0 + 356)) 0) (fun w11 => hz_gd (hz_ga (0 + 357) 24 1) (hz_let (hz_pd (hz_fr w11 (0 + 357)) 0) (fun w15 => K w15))))))))))
theorem gd_bind {σ τ : Type} (b : Bool) (x : Option σ) (K : σ → Option τ) : Option.bind (hz_gd b x) K = hz_gd b (Option.bind x K) := by cases b <;> rfl
theorem bv_bind {σ τ : Type} (y : Option MW) (F : MW → Option σ) (K : σ → Option τ) : Option.bind (hz_bv y F) K = hz_bv y (fun w => Option.bind (F w) K) := by cases y <;> rfl
theorem let_bind {α σ τ : Type} (x : α) (F : α → Option σ) (K : σ → Option τ) : Option.bind (hz_let x F) K = hz_let x (fun w => Option.bind (F w) K) := rfl
theorem hz_ch_b {σ : Type} (w : MW) (K : MW → Option σ) : hz_ch w K = Option.bind (hz_ch w some) K := by
  unfold hz_ch
  simp only [gd_bind, let_bind, bv_bind, e_bd]
theorem GI_0 : GI hz_w2.1 0 := by
  have h : ∀ q ∈ hz_ntab, hz_w2.1 q.1 q.2.1 = q.2.2 := fun q hq => by
    have h0 := List.all_eq_true.mp hz_nt_ok _ hq
    exact beq_iff_eq.mp h0
  have n1 := h (0, 8, 0) (by decide)
  have n2 := h (0, 9, -1) (by decide)
  have n3 := h (1, 1, 0) (by decide)
  have n4 := h (79, 1, 0) (by decide)
  have n5 := h (336, 3, 0) (by decide)
  have n6 := h (336, 5, 0) (by decide)
  have n7 := h (336, 16, 0) (by decide)
  have n8 := h (336, 23, -1) (by decide)
  have n9 := h (336, 32, -1) (by decide)
  exact ⟨⟨0, n3, by omega, n7, fun i hi => absurd hi (Nat.not_lt_zero i)⟩, n9, n2.trans n8.symm, ⟨0, by omega, n4⟩, .inl ⟨n1, n5, n6⟩⟩
theorem lawall_ok {xs : Nat → Int32} {Ls : Nat} (hL : Ls ≤ 3584) : ∃ w, lawall xs Ls w = some () := by
  refine ⟨hz_w0, ?_⟩
  have e1 : lawall xs Ls hz_w0 = hz_ch hz_w0 (fun w15 => lawgo xs Ls 600 0 w15) := rfl
  have e2 : hz_ch hz_w0 some = some hz_w2 := (show hz_ch hz_w0 some = hz_w1 from rfl).trans hz_w2_ok.1
  have e3 : hz_w2 = mw hz_w2.1 hz_w2.2.2 := rfl
  rw [e1, hz_ch_b, e2, e_bd, e3]
  exact lawgo_ok hL 600 0 _ _ (by omega) (by omega) GI_0
theorem whole_start {p : Program} {e : Env} {s : State} {m : MethodId} {below : List Frame} {meth : Method} {c : Code} (l : Launch) (hflags : l.flags = flags0) {b L : Nat} {xs : Nat → Int32} (hL : L ≤ 3584) (C0 : lw_At p s m meth c b L xs) : W p l e room_1 s m #[Value.ref b] below meth c s.heap [] 0 0 (lw_Z below #[Value.ref b] s) (entryFrame m ([Value.ref b] : List Value).toArray 9) := whole_start_open l hflags hL C0 (lawall_ok hL)
