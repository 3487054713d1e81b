def lp_X3_countBusyCores_4 (c0 : Nat) (c1 : Int32) (cw : MW) : Nat → (Int32 × Int32) → Option (Int32)
  | 0, _ => none
  | N + 1, v0 => hz_ldp cw c0 0 358 3 (fun b1 => hz_ldp cw b1 2 358 20 (fun b2 => hz_lda cw b2 c1 (fun v3 => (if v3 ≤ v0.2 then some v0.1 else hz_ldp cw c0 14 358 20 (fun b4 => hz_lda cw b4 ((c1 * 4) + v0.2) (fun v5 => Option.bind ((if v5 = (-2) then some v0.1 else hz_let (v0.1 + Int32.ofInt 1) (fun v8 => some v8))) (fun q6 => hz_let (v0.2 + Int32.ofInt 1) (fun v7 => lp_X3_countBusyCores_4 c0 c1 cw N (q6, v7)))))))))
def f_X3_countBusyCores (a0 : Nat) (x1 : Int32) (w : MW) : Option (Int32 × MW) :=
  hz_gd (hz_g 358 a0 4) (Option.bind (lp_X3_countBusyCores_4 a0 x1 w 3000 (0, 0)) (fun q2 => some (q2, w)))
set_option maxHeartbeats 4000000 in
set_option maxRecDepth 100000 in
theorem ct_X3_countBusyCores {l : Launch} (hl : l.stackTraces = false) {B : Bt} {a0 : Nat} {x1 : Int32} {w : MW} {r : Int32 × MW} (h : f_X3_countBusyCores a0 x1 w = some r) : hz_Met l B false 358 358 yX3_countBusyCores cX3_countBusyCores 4 (Option.some FieldType.int) 2 0 0 [.ref (B.1 + a0), .int x1] w (some (.int r.1)) r.2 := by
  refine hz_ofJ (rv := (fun r : Int32 × MW => some (.int r.1))) (wo := (fun r : Int32 × MW => r.2)) (own := RX3) (ini := false) hl (by decide) rfl (Or.inr rfl) (Nat.le_of_ble_eq_true rfl) rfl ?_ h
  intro p e s m args below meth c
  unfold f_X3_countBusyCores
  refine hz_gdr (fun ga0 => ?_)
  refine hz_iconst (pc' := 1) (v := 0) dX3_countBusyCores_0 rfl (by decide) ?_
  refine hz_istore_n (pc' := 2) (L' := [(2, .int 0), (0, .ref (B.1 + a0)), (1, .int x1)]) dX3_countBusyCores_1 rfl rfl (by decide) rfl ?_
  refine hz_iconst (pc' := 3) (v := 0) dX3_countBusyCores_2 rfl (by decide) ?_
  refine hz_istore_n (pc' := 4) (L' := [(3, .int 0), (2, .int 0), (0, .ref (B.1 + a0)), (1, .int x1)]) dX3_countBusyCores_3 rfl rfl (by decide) rfl ?_
  refine hz_bindJ (pcJ := 41) (LJ := fun q2 : Int32 => [(2, .int q2)]) (stJ := fun _ => []) (kJ := 0) (slJ := 0) (nJ := 358) (wJ := fun q2 : Int32 => w) (fun q2 => ?_) (fun hq2 => ?_)
  · refine hz_iload_n (pc' := 42) (j := 0) dX3_countBusyCores_41 rfl rfl rfl ?_
    exact hz_reti dX3_countBusyCores_42 rfl (by decide)
  · refine hz_loc [2, 3, 1, 0] rfl (hz_loopJ (lp := lp_X3_countBusyCores_4 a0 x1 w) (Lh := fun v1 : Int32 × Int32 => [(0, .ref (B.1 + a0)), (1, .int x1), (2, .int v1.1), (3, .int v1.2)]) (wh := fun v1 : Int32 × Int32 => w) (fun _ => rfl) (fun Nv1 ihv1 v1 => ?_) 3000 (0, 0))
    rw [lp_X3_countBusyCores_4]
    refine hz_iload_n (pc' := 5) (j := 3) dX3_countBusyCores_4 rfl rfl rfl ?_
    refine hz_aload_n (pc' := 6) (j := 0) dX3_countBusyCores_5 rfl rfl rfl ?_
    refine hz_gP (pc' := 9) (c' := 3) fl_X3_52.r ga0 rfl dX3_countBusyCores_6 rfl (fun b3 gb3 => ?_)
    refine hz_gP (pc' := 12) (c' := 20) fl_X3_114 gb3 rfl dX3_countBusyCores_9 rfl (fun b4 gb4 => ?_)
    refine hz_iload_n (pc' := 13) (j := 1) dX3_countBusyCores_12 rfl rfl rfl ?_
    refine hz_iald (pc' := 14) gb4 dX3_countBusyCores_13 rfl (fun v5 => ?_)
    refine hz_icmpge (pc' := 17) (tgt := 41) dX3_countBusyCores_14 (by decide) rfl ?_ ?_
    · exact hz_loc [2] rfl (hq2 v1.1)
    · refine hz_aload_n (pc' := 18) (j := 0) dX3_countBusyCores_17 rfl rfl rfl ?_
      refine hz_gP (pc' := 21) (c' := 20) fl_X3_49.r ga0 rfl dX3_countBusyCores_18 rfl (fun b6 gb6 => ?_)
      refine hz_iload_n (pc' := 22) (j := 1) dX3_countBusyCores_21 rfl rfl rfl ?_
      refine hz_iconst (pc' := 23) (v := 4) dX3_countBusyCores_22 rfl (by decide) ?_
      refine hz_imul (pc' := 24) dX3_countBusyCores_23 rfl ?_
      refine hz_iload_n (pc' := 25) (j := 3) dX3_countBusyCores_24 rfl rfl rfl ?_
      refine hz_iadd (pc' := 26) dX3_countBusyCores_25 rfl ?_
      refine hz_iald (pc' := 27) gb6 dX3_countBusyCores_26 rfl (fun v7 => ?_)
      refine hz_bipush (pc' := 29) (v := (-2)) dX3_countBusyCores_27 rfl (by decide) ?_
      refine hz_bindJ (pcJ := 35) (LJ := fun q8 : Int32 => [(0, .ref (B.1 + a0)), (1, .int x1), (2, .int q8), (3, .int v1.2)]) (stJ := fun q8 : Int32 => []) (kJ := 0) (slJ := 0) (nJ := 358) (wJ := fun q8 : Int32 => w) (fun q8 => ?_) (fun hq8 => ?_)
      · refine hz_iincN (pc' := 38) (j := 3) (fun v9 => [(3, .int v9), (0, .ref (B.1 + a0)), (1, .int x1), (2, .int q8)]) dX3_countBusyCores_35 rfl rfl (by decide) (fun _ => rfl) (fun v9 => ?_)
        refine hz_goto (tgt := 4) dX3_countBusyCores_38 (by decide) ?_
        exact hz_loc [1, 2, 3, 0] rfl (ihv1 (q8, v9))
      · refine hz_icmpeq (pc' := 32) (tgt := 35) dX3_countBusyCores_29 (by decide) rfl ?_ ?_
        · exact hz_loc [0, 1, 2, 3] rfl (hq8 v1.1)
        · refine hz_iincN (pc' := 35) (j := 2) (fun v10 => [(2, .int v10), (0, .ref (B.1 + a0)), (1, .int x1), (3, .int v1.2)]) dX3_countBusyCores_32 rfl rfl (by decide) (fun _ => rfl) (fun v10 => ?_)
          exact hz_loc [1, 2, 0, 3] rfl (hq8 v10)
