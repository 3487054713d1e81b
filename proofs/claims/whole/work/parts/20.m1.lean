def f_X1_init (a0 : Nat) (n0 : Nat) (w : MW) : Option (MW) :=
  hz_gd (hz_g n0 a0 2) (hz_gd (hz_ga n0 20 4) (hz_let (hz_fr w n0) (fun w1 => hz_let (hz_pp w1 a0 3 (some n0)) (fun w4 => hz_gd (hz_ga (n0 + 1) 20 4) (hz_let (hz_fr w4 (n0 + 1)) (fun w5 => hz_let (hz_pp w5 a0 4 (some (n0 + 1))) (fun w8 => hz_gd (hz_ga (n0 + 2) 20 24) (hz_let (hz_fr w8 (n0 + 2)) (fun w9 => hz_let (hz_pp w9 a0 5 (some (n0 + 2))) (fun w12 => hz_gd (hz_ga (n0 + 3) 20 24) (hz_let (hz_fr w12 (n0 + 3)) (fun w13 => hz_let (hz_pp w13 a0 6 (some (n0 + 3))) (fun w16 => hz_gd (hz_ga (n0 + 4) 20 24) (hz_let (hz_fr w16 (n0 + 4)) (fun w17 => hz_let (hz_pp w17 a0 7 (some (n0 + 4))) (fun w20 => hz_gd (hz_ga (n0 + 5) 20 24) (hz_let (hz_fr w20 (n0 + 5)) (fun w21 => hz_let (hz_pp w21 a0 8 (some (n0 + 5))) (fun w24 => hz_gd (hz_ga (n0 + 6) 20 24) (hz_let (hz_fr w24 (n0 + 6)) (fun w25 => hz_let (hz_pp w25 a0 9 (some (n0 + 6))) (fun w28 => hz_gd (hz_ga (n0 + 7) 20 24) (hz_let (hz_fr w28 (n0 + 7)) (fun w29 => hz_let (hz_pp w29 a0 10 (some (n0 + 7))) (fun w32 => hz_gd (hz_ga (n0 + 8) 20 24) (hz_let (hz_fr w32 (n0 + 8)) (fun w33 => hz_let (hz_pp w33 a0 11 (some (n0 + 8))) (fun w36 => hz_gd (hz_ga (n0 + 9) 20 24) (hz_let (hz_fr w36 (n0 + 9)) (fun w37 => hz_let (hz_pp w37 a0 12 (some (n0 + 9))) (fun w40 => hz_gd (hz_ga (n0 + 10) 20 8) (hz_let (hz_fr w40 (n0 + 10)) (fun w41 => hz_let (hz_pp w41 a0 13 (some (n0 + 10))) (fun w44 => hz_gd (hz_ga (n0 + 11) 20 8) (hz_let (hz_fr w44 (n0 + 11)) (fun w45 => hz_let (hz_pp w45 a0 14 (some (n0 + 11))) (fun w48 => some w48)))))))))))))))))))))))))))))))))))))
set_option maxHeartbeats 4000000 in
set_option maxRecDepth 100000 in
theorem ct_X1_init {l : Launch} (hl : l.stackTraces = false) {B : Bt} {a0 : Nat} {n0 : Nat} {w : MW} {r : MW} (h : f_X1_init a0 n0 w = some r) : hz_Met l B true n0 (n0 + 12) yX1_init cX1_init 1 (Option.none : Option FieldType) 2 12 216 [.ref (B.1 + a0)] w none r := by
  refine hz_ofJ (rv := (fun _ : MW => none)) (wo := (fun r : MW => r)) (own := RX1) (ini := true) hl (by decide) rfl (Or.inl rfl) (Nat.le_of_ble_eq_true rfl) rfl ?_ h
  intro p e s m args below meth c
  unfold f_X1_init
  refine hz_gdr (fun ga0 => ?_)
  refine hz_aload_n (pc' := 1) (j := 0) dX1_init_0 rfl rfl rfl ?_
  refine hz_objinit (pc' := 4) hq_190 hq_32 hq_33 ⟨Nat.le_of_ble_eq_true rfl, Nat.le_of_ble_eq_true rfl⟩ dX1_init_1 rfl ?_
  refine hz_aload_n (pc' := 5) (j := 0) dX1_init_4 rfl rfl rfl ?_
  refine hz_iconst (pc' := 6) (v := 4) dX1_init_5 rfl (by decide) ?_
  refine hz_newai (pc' := 8) (N := 4) hq_136 rfl (by decide) (by decide) (by decide) ⟨by omega, by omega⟩ dX1_init_6 rfl (fun w1 g2 => ?_)
  have g3 := hz_g_up (n' := n0 + 1) ga0 (by omega)
  refine hz_putP (pc' := 11) fl_X1_9 rfl g3 rfl rfl rfl dX1_init_8 rfl (fun w4 => ?_)
  refine hz_aload_n (pc' := 12) (j := 0) dX1_init_11 rfl rfl rfl ?_
  refine hz_iconst (pc' := 13) (v := 4) dX1_init_12 rfl (by decide) ?_
  refine hz_newai (pc' := 15) (N := 4) hq_136 rfl (by decide) (by decide) (by decide) ⟨by omega, by omega⟩ dX1_init_13 rfl (fun w5 g6 => ?_)
  have g7 := hz_g_up (n' := n0 + 2) g3 (by omega)
  refine hz_putP (pc' := 18) fl_X1_15 rfl g7 rfl rfl rfl dX1_init_15 rfl (fun w8 => ?_)
  refine hz_aload_n (pc' := 19) (j := 0) dX1_init_18 rfl rfl rfl ?_
  refine hz_bipush (pc' := 21) (v := 24) dX1_init_19 rfl (by decide) ?_
  refine hz_newai (pc' := 23) (N := 24) hq_136 rfl (by decide) (by decide) (by decide) ⟨by omega, by omega⟩ dX1_init_21 rfl (fun w9 g10 => ?_)
  have g11 := hz_g_up (n' := n0 + 3) g7 (by omega)
  refine hz_putP (pc' := 26) fl_X1_18 rfl g11 rfl rfl rfl dX1_init_23 rfl (fun w12 => ?_)
  refine hz_aload_n (pc' := 27) (j := 0) dX1_init_26 rfl rfl rfl ?_
  refine hz_bipush (pc' := 29) (v := 24) dX1_init_27 rfl (by decide) ?_
  refine hz_newai (pc' := 31) (N := 24) hq_136 rfl (by decide) (by decide) (by decide) ⟨by omega, by omega⟩ dX1_init_29 rfl (fun w13 g14 => ?_)
  have g15 := hz_g_up (n' := n0 + 4) g11 (by omega)
  refine hz_putP (pc' := 34) fl_X1_21 rfl g15 rfl rfl rfl dX1_init_31 rfl (fun w16 => ?_)
  refine hz_aload_n (pc' := 35) (j := 0) dX1_init_34 rfl rfl rfl ?_
  refine hz_bipush (pc' := 37) (v := 24) dX1_init_35 rfl (by decide) ?_
  refine hz_newai (pc' := 39) (N := 24) hq_136 rfl (by decide) (by decide) (by decide) ⟨by omega, by omega⟩ dX1_init_37 rfl (fun w17 g18 => ?_)
  have g19 := hz_g_up (n' := n0 + 5) g15 (by omega)
  refine hz_putP (pc' := 42) fl_X1_24 rfl g19 rfl rfl rfl dX1_init_39 rfl (fun w20 => ?_)
  refine hz_aload_n (pc' := 43) (j := 0) dX1_init_42 rfl rfl rfl ?_
  refine hz_bipush (pc' := 45) (v := 24) dX1_init_43 rfl (by decide) ?_
  refine hz_newai (pc' := 47) (N := 24) hq_136 rfl (by decide) (by decide) (by decide) ⟨by omega, by omega⟩ dX1_init_45 rfl (fun w21 g22 => ?_)
  have g23 := hz_g_up (n' := n0 + 6) g19 (by omega)
  refine hz_putP (pc' := 50) fl_X1_27 rfl g23 rfl rfl rfl dX1_init_47 rfl (fun w24 => ?_)
  refine hz_aload_n (pc' := 51) (j := 0) dX1_init_50 rfl rfl rfl ?_
  refine hz_bipush (pc' := 53) (v := 24) dX1_init_51 rfl (by decide) ?_
  refine hz_newai (pc' := 55) (N := 24) hq_136 rfl (by decide) (by decide) (by decide) ⟨by omega, by omega⟩ dX1_init_53 rfl (fun w25 g26 => ?_)
  have g27 := hz_g_up (n' := n0 + 7) g23 (by omega)
  refine hz_putP (pc' := 58) fl_X1_30 rfl g27 rfl rfl rfl dX1_init_55 rfl (fun w28 => ?_)
  refine hz_aload_n (pc' := 59) (j := 0) dX1_init_58 rfl rfl rfl ?_
  refine hz_bipush (pc' := 61) (v := 24) dX1_init_59 rfl (by decide) ?_
  refine hz_newai (pc' := 63) (N := 24) hq_136 rfl (by decide) (by decide) (by decide) ⟨by omega, by omega⟩ dX1_init_61 rfl (fun w29 g30 => ?_)
  have g31 := hz_g_up (n' := n0 + 8) g27 (by omega)
  refine hz_putP (pc' := 66) fl_X1_33 rfl g31 rfl rfl rfl dX1_init_63 rfl (fun w32 => ?_)
  refine hz_aload_n (pc' := 67) (j := 0) dX1_init_66 rfl rfl rfl ?_
  refine hz_bipush (pc' := 69) (v := 24) dX1_init_67 rfl (by decide) ?_
  refine hz_newai (pc' := 71) (N := 24) hq_136 rfl (by decide) (by decide) (by decide) ⟨by omega, by omega⟩ dX1_init_69 rfl (fun w33 g34 => ?_)
  have g35 := hz_g_up (n' := n0 + 9) g31 (by omega)
  refine hz_putP (pc' := 74) fl_X1_36 rfl g35 rfl rfl rfl dX1_init_71 rfl (fun w36 => ?_)
  refine hz_aload_n (pc' := 75) (j := 0) dX1_init_74 rfl rfl rfl ?_
  refine hz_bipush (pc' := 77) (v := 24) dX1_init_75 rfl (by decide) ?_
  refine hz_newai (pc' := 79) (N := 24) hq_136 rfl (by decide) (by decide) (by decide) ⟨by omega, by omega⟩ dX1_init_77 rfl (fun w37 g38 => ?_)
  have g39 := hz_g_up (n' := n0 + 10) g35 (by omega)
  refine hz_putP (pc' := 82) fl_X1_39 rfl g39 rfl rfl rfl dX1_init_79 rfl (fun w40 => ?_)
  refine hz_aload_n (pc' := 83) (j := 0) dX1_init_82 rfl rfl rfl ?_
  refine hz_bipush (pc' := 85) (v := 8) dX1_init_83 rfl (by decide) ?_
  refine hz_newai (pc' := 87) (N := 8) hq_136 rfl (by decide) (by decide) (by decide) ⟨by omega, by omega⟩ dX1_init_85 rfl (fun w41 g42 => ?_)
  have g43 := hz_g_up (n' := n0 + 11) g39 (by omega)
  refine hz_putP (pc' := 90) fl_X1_42 rfl g43 rfl rfl rfl dX1_init_87 rfl (fun w44 => ?_)
  refine hz_aload_n (pc' := 91) (j := 0) dX1_init_90 rfl rfl rfl ?_
  refine hz_bipush (pc' := 93) (v := 8) dX1_init_91 rfl (by decide) ?_
  refine hz_newai (pc' := 95) (N := 8) hq_136 rfl (by decide) (by decide) (by decide) ⟨by omega, by omega⟩ dX1_init_93 rfl (fun w45 g46 => ?_)
  have g47 := hz_g_up (n' := n0 + 12) g43 (by omega)
  refine hz_putP (pc' := 98) fl_X1_45 rfl g47 rfl rfl rfl dX1_init_95 rfl (fun w48 => ?_)
  exact hz_retv dX1_init_98 rfl ⟨by omega, by omega⟩
def f_X9_copyRow (a0 : Nat) (a1 : Nat) (w : MW) : Option (MW) :=
  hz_gd (hz_g 358 a0 20) (hz_gd (hz_g 358 a1 20) (hz_cp w a0 0 a1 0 (if (Int32.ofNat (hz_ln a1)) < (Int32.ofNat (hz_ln a0)) then (Int32.ofNat (hz_ln a1)) else (Int32.ofNat (hz_ln a0))) (fun w1 => some w1)))
set_option maxHeartbeats 4000000 in
set_option maxRecDepth 100000 in
theorem ct_X9_copyRow {l : Launch} (hl : l.stackTraces = false) {B : Bt} {a0 : Nat} {a1 : Nat} {w : MW} {r : MW} (h : f_X9_copyRow a0 a1 w = some r) : hz_Met l B false 358 358 yX9_copyRow cX9_copyRow 2 (Option.none : Option FieldType) 2 0 0 [.ref (B.1 + a0), .ref (B.1 + a1)] w none r := by
  refine hz_ofJ (rv := (fun _ : MW => none)) (wo := (fun r : MW => r)) (own := RX9) (ini := false) hl (by decide) rfl (Or.inr rfl) (Nat.le_of_ble_eq_true rfl) rfl ?_ h
  intro p e s m args below meth c
  unfold f_X9_copyRow
  refine hz_gdr (fun ga0 => ?_)
  refine hz_gdr (fun ga1 => ?_)
  refine hz_aload_n (pc' := 1) (j := 0) dX9_copyRow_0 rfl rfl rfl ?_
  refine hz_iconst (pc' := 2) (v := 0) dX9_copyRow_1 rfl (by decide) ?_
  refine hz_aload_n (pc' := 3) (j := 1) dX9_copyRow_2 rfl rfl rfl ?_
  refine hz_iconst (pc' := 4) (v := 0) dX9_copyRow_3 rfl (by decide) ?_
  refine hz_aload_n (pc' := 5) (j := 0) dX9_copyRow_4 rfl rfl rfl ?_
  refine hz_aleni (pc' := 6) ga0 dX9_copyRow_5 rfl ?_
  refine hz_aload_n (pc' := 7) (j := 1) dX9_copyRow_6 rfl rfl rfl ?_
  refine hz_aleni (pc' := 8) ga1 dX9_copyRow_7 rfl ?_
  refine hz_mmin (pc' := 11) hq_541 hq_422 hq_17 hq_423 ⟨Nat.le_of_ble_eq_true rfl, Nat.le_of_ble_eq_true rfl⟩ (by decide) dX9_copyRow_8 rfl ?_
  refine hz_copy (pc' := 14) hq_542 hq_544 hq_543 hq_22 ga0 ga1 ⟨Nat.le_of_ble_eq_true rfl, Nat.le_of_ble_eq_true rfl⟩ dX9_copyRow_11 rfl (fun w1 => ?_)
  exact hz_retv dX9_copyRow_14 rfl (by decide)
def f_X1_copyFrom (a0 : Nat) (a1 : Nat) (w : MW) : Option (MW) :=
  hz_gd (hz_g 358 a0 2) (hz_gd (hz_g 358 a1 2) (hz_let (hz_pn w a0 0 (w.1 a1 0)) (fun w1 => hz_let (hz_pn w1 a0 1 (w1.1 a1 1)) (fun w2 => hz_let (hz_pn w2 a0 2 (w2.1 a1 2)) (fun w3 => hz_ldp w3 a1 3 358 20 (fun b4 => hz_ldp w3 a0 3 358 20 (fun b5 => hz_bv (f_X9_copyRow b4 b5 w3) (fun w6 => hz_ldp w6 a1 4 358 20 (fun b7 => hz_ldp w6 a0 4 358 20 (fun b8 => hz_bv (f_X9_copyRow b7 b8 w6) (fun w9 => hz_ldp w9 a1 5 358 20 (fun b10 => hz_ldp w9 a0 5 358 20 (fun b11 => hz_bv (f_X9_copyRow b10 b11 w9) (fun w12 => hz_ldp w12 a1 6 358 20 (fun b13 => hz_ldp w12 a0 6 358 20 (fun b14 => hz_bv (f_X9_copyRow b13 b14 w12) (fun w15 => hz_ldp w15 a1 7 358 20 (fun b16 => hz_ldp w15 a0 7 358 20 (fun b17 => hz_bv (f_X9_copyRow b16 b17 w15) (fun w18 => hz_ldp w18 a1 8 358 20 (fun b19 => hz_ldp w18 a0 8 358 20 (fun b20 => hz_bv (f_X9_copyRow b19 b20 w18) (fun w21 => hz_ldp w21 a1 9 358 20 (fun b22 => hz_ldp w21 a0 9 358 20 (fun b23 => hz_bv (f_X9_copyRow b22 b23 w21) (fun w24 => hz_ldp w24 a1 10 358 20 (fun b25 => hz_ldp w24 a0 10 358 20 (fun b26 => hz_bv (f_X9_copyRow b25 b26 w24) (fun w27 => hz_ldp w27 a1 11 358 20 (fun b28 => hz_ldp w27 a0 11 358 20 (fun b29 => hz_bv (f_X9_copyRow b28 b29 w27) (fun w30 => hz_ldp w30 a1 12 358 20 (fun b31 => hz_ldp w30 a0 12 358 20 (fun b32 => hz_bv (f_X9_copyRow b31 b32 w30) (fun w33 => hz_ldp w33 a1 13 358 20 (fun b34 => hz_ldp w33 a0 13 358 20 (fun b35 => hz_bv (f_X9_copyRow b34 b35 w33) (fun w36 => hz_ldp w36 a1 14 358 20 (fun b37 => hz_ldp w36 a0 14 358 20 (fun b38 => hz_bv (f_X9_copyRow b37 b38 w36) (fun w39 => some w39)))))))))))))))))))))))))))))))))))))))))
set_option maxHeartbeats 4000000 in
set_option maxRecDepth 100000 in
theorem ct_X1_copyFrom {l : Launch} (hl : l.stackTraces = false) {B : Bt} {a0 : Nat} {a1 : Nat} {w : MW} {r : MW} (h : f_X1_copyFrom a0 a1 w = some r) : hz_Met l B false 358 358 yX1_copyFrom cX1_copyFrom 2 (Option.none : Option FieldType) 3 0 0 [.ref (B.1 + a0), .ref (B.1 + a1)] w none r := by
  refine hz_ofJ (rv := (fun _ : MW => none)) (wo := (fun r : MW => r)) (own := RX1) (ini := false) hl (by decide) rfl (Or.inr rfl) (Nat.le_of_ble_eq_true rfl) rfl ?_ h
  intro p e s m args below meth c
  unfold f_X1_copyFrom
  refine hz_gdr (fun ga0 => ?_)
  refine hz_gdr (fun ga1 => ?_)
  refine hz_aload_n (pc' := 1) (j := 0) dX1_copyFrom_0 rfl rfl rfl ?_
  refine hz_aload_n (pc' := 2) (j := 1) dX1_copyFrom_1 rfl rfl rfl ?_
  refine hz_gI (pc' := 5) fl_X1_48.r ga1 rfl dX1_copyFrom_2 rfl ?_
  refine hz_putI (pc' := 8) fl_X1_48 ga0 rfl dX1_copyFrom_5 rfl (fun w1 => ?_)
  refine hz_aload_n (pc' := 9) (j := 0) dX1_copyFrom_8 rfl rfl rfl ?_
  refine hz_aload_n (pc' := 10) (j := 1) dX1_copyFrom_9 rfl rfl rfl ?_
  refine hz_gI (pc' := 13) fl_X1_52.r ga1 rfl dX1_copyFrom_10 rfl ?_
  refine hz_putI (pc' := 16) fl_X1_52 ga0 rfl dX1_copyFrom_13 rfl (fun w2 => ?_)
  refine hz_aload_n (pc' := 17) (j := 0) dX1_copyFrom_16 rfl rfl rfl ?_
  refine hz_aload_n (pc' := 18) (j := 1) dX1_copyFrom_17 rfl rfl rfl ?_
  refine hz_gI (pc' := 21) fl_X1_55.r ga1 rfl dX1_copyFrom_18 rfl ?_
  refine hz_putI (pc' := 24) fl_X1_55 ga0 rfl dX1_copyFrom_21 rfl (fun w3 => ?_)
  refine hz_aload_n (pc' := 25) (j := 1) dX1_copyFrom_24 rfl rfl rfl ?_
  refine hz_gP (pc' := 28) (c' := 20) fl_X1_9.r ga1 rfl dX1_copyFrom_25 rfl (fun b4 gb4 => ?_)
  refine hz_aload_n (pc' := 29) (j := 0) dX1_copyFrom_28 rfl rfl rfl ?_
  refine hz_gP (pc' := 32) (c' := 20) fl_X1_9.r ga0 rfl dX1_copyFrom_29 rfl (fun b5 gb5 => ?_)
  refine hz_cSNv (pc' := 35) (av := [.ref (B.1 + b4), .ref (B.1 + b5)]) (rest := []) snl_X1_58 (fun w' h => ct_X9_copyRow hl h) rfl rfl (Nat.le_of_ble_eq_true rfl) (by decide) (by decide) rfl dX1_copyFrom_32 rfl (fun w6 => ?_)
  refine hz_aload_n (pc' := 36) (j := 1) dX1_copyFrom_35 rfl rfl rfl ?_
  refine hz_gP (pc' := 39) (c' := 20) fl_X1_15.r ga1 rfl dX1_copyFrom_36 rfl (fun b7 gb7 => ?_)
  refine hz_aload_n (pc' := 40) (j := 0) dX1_copyFrom_39 rfl rfl rfl ?_
  refine hz_gP (pc' := 43) (c' := 20) fl_X1_15.r ga0 rfl dX1_copyFrom_40 rfl (fun b8 gb8 => ?_)
  refine hz_cSNv (pc' := 46) (av := [.ref (B.1 + b7), .ref (B.1 + b8)]) (rest := []) snl_X1_58 (fun w' h => ct_X9_copyRow hl h) rfl rfl (Nat.le_of_ble_eq_true rfl) (by decide) (by decide) rfl dX1_copyFrom_43 rfl (fun w9 => ?_)
  refine hz_aload_n (pc' := 47) (j := 1) dX1_copyFrom_46 rfl rfl rfl ?_
  refine hz_gP (pc' := 50) (c' := 20) fl_X1_18.r ga1 rfl dX1_copyFrom_47 rfl (fun b10 gb10 => ?_)
  refine hz_aload_n (pc' := 51) (j := 0) dX1_copyFrom_50 rfl rfl rfl ?_
  refine hz_gP (pc' := 54) (c' := 20) fl_X1_18.r ga0 rfl dX1_copyFrom_51 rfl (fun b11 gb11 => ?_)
  refine hz_cSNv (pc' := 57) (av := [.ref (B.1 + b10), .ref (B.1 + b11)]) (rest := []) snl_X1_58 (fun w' h => ct_X9_copyRow hl h) rfl rfl (Nat.le_of_ble_eq_true rfl) (by decide) (by decide) rfl dX1_copyFrom_54 rfl (fun w12 => ?_)
  refine hz_aload_n (pc' := 58) (j := 1) dX1_copyFrom_57 rfl rfl rfl ?_
  refine hz_gP (pc' := 61) (c' := 20) fl_X1_21.r ga1 rfl dX1_copyFrom_58 rfl (fun b13 gb13 => ?_)
  refine hz_aload_n (pc' := 62) (j := 0) dX1_copyFrom_61 rfl rfl rfl ?_
  refine hz_gP (pc' := 65) (c' := 20) fl_X1_21.r ga0 rfl dX1_copyFrom_62 rfl (fun b14 gb14 => ?_)
  refine hz_cSNv (pc' := 68) (av := [.ref (B.1 + b13), .ref (B.1 + b14)]) (rest := []) snl_X1_58 (fun w' h => ct_X9_copyRow hl h) rfl rfl (Nat.le_of_ble_eq_true rfl) (by decide) (by decide) rfl dX1_copyFrom_65 rfl (fun w15 => ?_)
  refine hz_aload_n (pc' := 69) (j := 1) dX1_copyFrom_68 rfl rfl rfl ?_
  refine hz_gP (pc' := 72) (c' := 20) fl_X1_24.r ga1 rfl dX1_copyFrom_69 rfl (fun b16 gb16 => ?_)
  refine hz_aload_n (pc' := 73) (j := 0) dX1_copyFrom_72 rfl rfl rfl ?_
  refine hz_gP (pc' := 76) (c' := 20) fl_X1_24.r ga0 rfl dX1_copyFrom_73 rfl (fun b17 gb17 => ?_)
  refine hz_cSNv (pc' := 79) (av := [.ref (B.1 + b16), .ref (B.1 + b17)]) (rest := []) snl_X1_58 (fun w' h => ct_X9_copyRow hl h) rfl rfl (Nat.le_of_ble_eq_true rfl) (by decide) (by decide) rfl dX1_copyFrom_76 rfl (fun w18 => ?_)
  refine hz_aload_n (pc' := 80) (j := 1) dX1_copyFrom_79 rfl rfl rfl ?_
  refine hz_gP (pc' := 83) (c' := 20) fl_X1_27.r ga1 rfl dX1_copyFrom_80 rfl (fun b19 gb19 => ?_)
  refine hz_aload_n (pc' := 84) (j := 0) dX1_copyFrom_83 rfl rfl rfl ?_
  refine hz_gP (pc' := 87) (c' := 20) fl_X1_27.r ga0 rfl dX1_copyFrom_84 rfl (fun b20 gb20 => ?_)
  refine hz_cSNv (pc' := 90) (av := [.ref (B.1 + b19), .ref (B.1 + b20)]) (rest := []) snl_X1_58 (fun w' h => ct_X9_copyRow hl h) rfl rfl (Nat.le_of_ble_eq_true rfl) (by decide) (by decide) rfl dX1_copyFrom_87 rfl (fun w21 => ?_)
  refine hz_aload_n (pc' := 91) (j := 1) dX1_copyFrom_90 rfl rfl rfl ?_
  refine hz_gP (pc' := 94) (c' := 20) fl_X1_30.r ga1 rfl dX1_copyFrom_91 rfl (fun b22 gb22 => ?_)
  refine hz_aload_n (pc' := 95) (j := 0) dX1_copyFrom_94 rfl rfl rfl ?_
  refine hz_gP (pc' := 98) (c' := 20) fl_X1_30.r ga0 rfl dX1_copyFrom_95 rfl (fun b23 gb23 => ?_)
  refine hz_cSNv (pc' := 101) (av := [.ref (B.1 + b22), .ref (B.1 + b23)]) (rest := []) snl_X1_58 (fun w' h => ct_X9_copyRow hl h) rfl rfl (Nat.le_of_ble_eq_true rfl) (by decide) (by decide) rfl dX1_copyFrom_98 rfl (fun w24 => ?_)
  refine hz_aload_n (pc' := 102) (j := 1) dX1_copyFrom_101 rfl rfl rfl ?_
  refine hz_gP (pc' := 105) (c' := 20) fl_X1_33.r ga1 rfl dX1_copyFrom_102 rfl (fun b25 gb25 => ?_)
  refine hz_aload_n (pc' := 106) (j := 0) dX1_copyFrom_105 rfl rfl rfl ?_
  refine hz_gP (pc' := 109) (c' := 20) fl_X1_33.r ga0 rfl dX1_copyFrom_106 rfl (fun b26 gb26 => ?_)
  refine hz_cSNv (pc' := 112) (av := [.ref (B.1 + b25), .ref (B.1 + b26)]) (rest := []) snl_X1_58 (fun w' h => ct_X9_copyRow hl h) rfl rfl (Nat.le_of_ble_eq_true rfl) (by decide) (by decide) rfl dX1_copyFrom_109 rfl (fun w27 => ?_)
  refine hz_aload_n (pc' := 113) (j := 1) dX1_copyFrom_112 rfl rfl rfl ?_
  refine hz_gP (pc' := 116) (c' := 20) fl_X1_36.r ga1 rfl dX1_copyFrom_113 rfl (fun b28 gb28 => ?_)
  refine hz_aload_n (pc' := 117) (j := 0) dX1_copyFrom_116 rfl rfl rfl ?_
  refine hz_gP (pc' := 120) (c' := 20) fl_X1_36.r ga0 rfl dX1_copyFrom_117 rfl (fun b29 gb29 => ?_)
  refine hz_cSNv (pc' := 123) (av := [.ref (B.1 + b28), .ref (B.1 + b29)]) (rest := []) snl_X1_58 (fun w' h => ct_X9_copyRow hl h) rfl rfl (Nat.le_of_ble_eq_true rfl) (by decide) (by decide) rfl dX1_copyFrom_120 rfl (fun w30 => ?_)
  refine hz_aload_n (pc' := 124) (j := 1) dX1_copyFrom_123 rfl rfl rfl ?_
  refine hz_gP (pc' := 127) (c' := 20) fl_X1_39.r ga1 rfl dX1_copyFrom_124 rfl (fun b31 gb31 => ?_)
  refine hz_aload_n (pc' := 128) (j := 0) dX1_copyFrom_127 rfl rfl rfl ?_
  refine hz_gP (pc' := 131) (c' := 20) fl_X1_39.r ga0 rfl dX1_copyFrom_128 rfl (fun b32 gb32 => ?_)
  refine hz_cSNv (pc' := 134) (av := [.ref (B.1 + b31), .ref (B.1 + b32)]) (rest := []) snl_X1_58 (fun w' h => ct_X9_copyRow hl h) rfl rfl (Nat.le_of_ble_eq_true rfl) (by decide) (by decide) rfl dX1_copyFrom_131 rfl (fun w33 => ?_)
  refine hz_aload_n (pc' := 135) (j := 1) dX1_copyFrom_134 rfl rfl rfl ?_
  refine hz_gP (pc' := 138) (c' := 20) fl_X1_42.r ga1 rfl dX1_copyFrom_135 rfl (fun b34 gb34 => ?_)
  refine hz_aload_n (pc' := 139) (j := 0) dX1_copyFrom_138 rfl rfl rfl ?_
  refine hz_gP (pc' := 142) (c' := 20) fl_X1_42.r ga0 rfl dX1_copyFrom_139 rfl (fun b35 gb35 => ?_)
  refine hz_cSNv (pc' := 145) (av := [.ref (B.1 + b34), .ref (B.1 + b35)]) (rest := []) snl_X1_58 (fun w' h => ct_X9_copyRow hl h) rfl rfl (Nat.le_of_ble_eq_true rfl) (by decide) (by decide) rfl dX1_copyFrom_142 rfl (fun w36 => ?_)
  refine hz_aload_n (pc' := 146) (j := 1) dX1_copyFrom_145 rfl rfl rfl ?_
  refine hz_gP (pc' := 149) (c' := 20) fl_X1_45.r ga1 rfl dX1_copyFrom_146 rfl (fun b37 gb37 => ?_)
  refine hz_aload_n (pc' := 150) (j := 0) dX1_copyFrom_149 rfl rfl rfl ?_
  refine hz_gP (pc' := 153) (c' := 20) fl_X1_45.r ga0 rfl dX1_copyFrom_150 rfl (fun b38 gb38 => ?_)
  refine hz_cSNv (pc' := 156) (av := [.ref (B.1 + b37), .ref (B.1 + b38)]) (rest := []) snl_X1_58 (fun w' h => ct_X9_copyRow hl h) rfl rfl (Nat.le_of_ble_eq_true rfl) (by decide) (by decide) rfl dX1_copyFrom_153 rfl (fun w39 => ?_)
  exact hz_retv dX1_copyFrom_156 rfl (by decide)
def lp_X1_reset_17 (c0 : Nat) : Nat → (Int32 × MW) → Option (MW)
  | 0, _ => none
  | N + 1, v0 => (if 4 ≤ v0.1 then some v0.2 else hz_ldp v0.2 c0 3 358 20 (fun b4 => hz_sta v0.2 b4 v0.1 0 (fun w5 => hz_ldp w5 c0 4 358 20 (fun b6 => hz_sta w5 b6 v0.1 0 (fun w7 => hz_let (v0.1 + Int32.ofInt 1) (fun v8 => lp_X1_reset_17 c0 N (v8, w7)))))))
def lp_X1_reset_44 (c0 : Nat) : Nat → (Int32 × MW) → Option (MW)
  | 0, _ => none
  | N + 1, v0 => (if 8 ≤ v0.1 then some v0.2 else hz_ldp v0.2 c0 13 358 20 (fun b6 => hz_sta v0.2 b6 v0.1 0 (fun w7 => hz_ldp w7 c0 14 358 20 (fun b8 => hz_sta w7 b8 v0.1 0 (fun w9 => hz_let (v0.1 + Int32.ofInt 1) (fun v10 => lp_X1_reset_44 c0 N (v10, w9)))))))
def f_X1_reset (a0 : Nat) (w : MW) : Option (MW) :=
  hz_gd (hz_g 358 a0 2) (hz_let (hz_pn w a0 0 0) (fun w1 => hz_let (hz_pn w1 a0 1 0) (fun w2 => hz_let (hz_pn w2 a0 2 0) (fun w3 => Option.bind (lp_X1_reset_17 a0 3000 (0, w3)) (fun q5 : MW => Option.bind (lp_X1_reset_44 a0 3000 (0, q5)) (fun q7 : MW => some q7))))))
set_option maxHeartbeats 4000000 in
set_option maxRecDepth 100000 in
theorem ct_X1_reset {l : Launch} (hl : l.stackTraces = false) {B : Bt} {a0 : Nat} {w : MW} {r : MW} (h : f_X1_reset a0 w = some r) : hz_Met l B false 358 358 yX1_reset cX1_reset 2 (Option.none : Option FieldType) 2 0 0 [.ref (B.1 + a0)] w none r := by
  refine hz_ofJ (rv := (fun _ : MW => none)) (wo := (fun r : MW => r)) (own := RX1) (ini := false) hl (by decide) rfl (Or.inr rfl) (Nat.le_of_ble_eq_true rfl) rfl ?_ h
  intro p e s m args below meth c
  unfold f_X1_reset
  refine hz_gdr (fun ga0 => ?_)
  refine hz_aload_n (pc' := 1) (j := 0) dX1_reset_0 rfl rfl rfl ?_
  refine hz_iconst (pc' := 2) (v := 0) dX1_reset_1 rfl (by decide) ?_
  refine hz_putI (pc' := 5) fl_X1_48 ga0 rfl dX1_reset_2 rfl (fun w1 => ?_)
  refine hz_aload_n (pc' := 6) (j := 0) dX1_reset_5 rfl rfl rfl ?_
  refine hz_iconst (pc' := 7) (v := 0) dX1_reset_6 rfl (by decide) ?_
  refine hz_putI (pc' := 10) fl_X1_52 ga0 rfl dX1_reset_7 rfl (fun w2 => ?_)
  refine hz_aload_n (pc' := 11) (j := 0) dX1_reset_10 rfl rfl rfl ?_
  refine hz_iconst (pc' := 12) (v := 0) dX1_reset_11 rfl (by decide) ?_
  refine hz_putI (pc' := 15) fl_X1_55 ga0 rfl dX1_reset_12 rfl (fun w3 => ?_)
  refine hz_iconst (pc' := 16) (v := 0) dX1_reset_15 rfl (by decide) ?_
  refine hz_istore_n (pc' := 17) (L' := [(1, .int 0), (0, .ref (B.1 + a0))]) dX1_reset_16 rfl rfl (by decide) rfl ?_
  refine hz_bindJ (pcJ := 42) (LJ := fun q5 : MW => [(0, .ref (B.1 + a0))]) (stJ := fun _ => []) (kJ := 0) (slJ := 0) (nJ := 358) (wJ := fun q5 : MW => q5) (fun q5 => ?_) (fun hq5 => ?_)
  · refine hz_iconst (pc' := 43) (v := 0) dX1_reset_42 rfl (by decide) ?_
    refine hz_istore_n (pc' := 44) (L' := [(1, .int 0), (0, .ref (B.1 + a0))]) dX1_reset_43 rfl rfl (by decide) rfl ?_
    refine hz_bindJ (pcJ := 70) (LJ := fun q7 : MW => []) (stJ := fun _ => []) (kJ := 0) (slJ := 0) (nJ := 358) (wJ := fun q7 : MW => q7) (fun q7 => ?_) (fun hq7 => ?_)
    · exact hz_retv dX1_reset_70 rfl (by decide)
    · refine hz_loc [1, 0] rfl (hz_loopJ (lp := lp_X1_reset_44 a0) (Lh := fun v6 : Int32 × MW => [(0, .ref (B.1 + a0)), (1, .int v6.1)]) (wh := fun v6 : Int32 × MW => v6.2) (fun _ => rfl) (fun Nv6 ihv6 v6 => ?_) 3000 (0, q5))
      rw [lp_X1_reset_44]
      refine hz_iload_n (pc' := 45) (j := 1) dX1_reset_44 rfl rfl rfl ?_
      refine hz_bipush (pc' := 47) (v := 8) dX1_reset_45 rfl (by decide) ?_
      refine hz_icmpge (pc' := 50) (tgt := 70) dX1_reset_47 (by decide) rfl ?_ ?_
      · exact hz_loc [] rfl (hq7 v6.2)
      · refine hz_aload_n (pc' := 51) (j := 0) dX1_reset_50 rfl rfl rfl ?_
        refine hz_gP (pc' := 54) (c' := 20) fl_X1_42.r ga0 rfl dX1_reset_51 rfl (fun b8 gb8 => ?_)
        refine hz_iload_n (pc' := 55) (j := 1) dX1_reset_54 rfl rfl rfl ?_
        refine hz_iconst (pc' := 56) (v := 0) dX1_reset_55 rfl (by decide) ?_
        refine hz_iast (pc' := 57) gb8 dX1_reset_56 rfl (fun w9 => ?_)
        refine hz_aload_n (pc' := 58) (j := 0) dX1_reset_57 rfl rfl rfl ?_
        refine hz_gP (pc' := 61) (c' := 20) fl_X1_45.r ga0 rfl dX1_reset_58 rfl (fun b10 gb10 => ?_)
        refine hz_iload_n (pc' := 62) (j := 1) dX1_reset_61 rfl rfl rfl ?_
        refine hz_iconst (pc' := 63) (v := 0) dX1_reset_62 rfl (by decide) ?_
        refine hz_iast (pc' := 64) gb10 dX1_reset_63 rfl (fun w11 => ?_)
        refine hz_iincN (pc' := 67) (j := 1) (fun v12 => [(1, .int v12), (0, .ref (B.1 + a0))]) dX1_reset_64 rfl rfl (by decide) (fun _ => rfl) (fun v12 => ?_)
        refine hz_goto (tgt := 44) dX1_reset_67 (by decide) ?_
        exact hz_loc [1, 0] rfl (ihv6 (v12, w11))
  · refine hz_loc [1, 0] rfl (hz_loopJ (lp := lp_X1_reset_17 a0) (Lh := fun v4 : Int32 × MW => [(0, .ref (B.1 + a0)), (1, .int v4.1)]) (wh := fun v4 : Int32 × MW => v4.2) (fun _ => rfl) (fun Nv4 ihv4 v4 => ?_) 3000 (0, w3))
    rw [lp_X1_reset_17]
    refine hz_iload_n (pc' := 18) (j := 1) dX1_reset_17 rfl rfl rfl ?_
    refine hz_iconst (pc' := 19) (v := 4) dX1_reset_18 rfl (by decide) ?_
    refine hz_icmpge (pc' := 22) (tgt := 42) dX1_reset_19 (by decide) rfl ?_ ?_
    · exact hz_loc [0] rfl (hq5 v4.2)
    · refine hz_aload_n (pc' := 23) (j := 0) dX1_reset_22 rfl rfl rfl ?_
      refine hz_gP (pc' := 26) (c' := 20) fl_X1_9.r ga0 rfl dX1_reset_23 rfl (fun b13 gb13 => ?_)
      refine hz_iload_n (pc' := 27) (j := 1) dX1_reset_26 rfl rfl rfl ?_
      refine hz_iconst (pc' := 28) (v := 0) dX1_reset_27 rfl (by decide) ?_
      refine hz_iast (pc' := 29) gb13 dX1_reset_28 rfl (fun w14 => ?_)
      refine hz_aload_n (pc' := 30) (j := 0) dX1_reset_29 rfl rfl rfl ?_
      refine hz_gP (pc' := 33) (c' := 20) fl_X1_15.r ga0 rfl dX1_reset_30 rfl (fun b15 gb15 => ?_)
      refine hz_iload_n (pc' := 34) (j := 1) dX1_reset_33 rfl rfl rfl ?_
      refine hz_iconst (pc' := 35) (v := 0) dX1_reset_34 rfl (by decide) ?_
      refine hz_iast (pc' := 36) gb15 dX1_reset_35 rfl (fun w16 => ?_)
      refine hz_iincN (pc' := 39) (j := 1) (fun v17 => [(1, .int v17), (0, .ref (B.1 + a0))]) dX1_reset_36 rfl rfl (by decide) (fun _ => rfl) (fun v17 => ?_)
      refine hz_goto (tgt := 17) dX1_reset_39 (by decide) ?_
      exact hz_loc [1, 0] rfl (ihv4 (v17, w16))
def f_X9_with (x0 : Int32) (x1 : Int32) (w : MW) : Option (Int32 × MW) :=
  some ((x0 ||| ((1 : Int32) <<< (x1 &&& 31))), w)
set_option maxHeartbeats 4000000 in
set_option maxRecDepth 100000 in
theorem ct_X9_with {l : Launch} (hl : l.stackTraces = false) {B : Bt} {x0 : Int32} {x1 : Int32} {w : MW} {r : Int32 × MW} (h : f_X9_with x0 x1 w = some r) : hz_Met l B false 358 358 yX9_with cX9_with 2 (Option.some FieldType.int) 2 0 0 [.int x0, .int x1] w (some (.int r.1)) r.2 := by
  refine hz_ofJ (rv := (fun r : Int32 × MW => some (.int r.1))) (wo := (fun r : Int32 × MW => r.2)) (own := RX9) (ini := false) hl (by decide) rfl (Or.inr rfl) (Nat.le_of_ble_eq_true rfl) rfl ?_ h
  intro p e s m args below meth c
  unfold f_X9_with
  refine hz_iload_n (pc' := 1) (j := 0) dX9_with_0 rfl rfl rfl ?_
  refine hz_iconst (pc' := 2) (v := 1) dX9_with_1 rfl (by decide) ?_
  refine hz_iload_n (pc' := 3) (j := 1) dX9_with_2 rfl rfl rfl ?_
  refine hz_ishl (pc' := 4) dX9_with_3 rfl ?_
  refine hz_ior (pc' := 5) dX9_with_4 rfl ?_
  exact hz_reti dX9_with_5 rfl (by decide)
def f_X1_addTo (a0 : Nat) (x1 : Int32) (x2 : Int32) (x3 : Int32) (w : MW) : Option (Int32 × MW) :=
  hz_gd (hz_g 358 a0 2) (hz_let (w.1 a0 0) (fun v1 => (if v1 < 24 then hz_ldp w a0 5 358 20 (fun b2 => hz_sta w b2 v1 x1 (fun w3 => hz_ldp w3 a0 6 358 20 (fun b4 => hz_sta w3 b4 v1 x2 (fun w5 => hz_ldp w5 a0 9 358 20 (fun b6 => hz_sta w5 b6 v1 x3 (fun w7 => hz_ldp w7 a0 11 358 20 (fun b8 => hz_sta w7 b8 v1 x3 (fun w9 => hz_ldp w9 a0 3 358 20 (fun b10 => hz_ldp w9 a0 3 358 20 (fun b11 => hz_lda w9 b11 x1 (fun v12 => hz_b (f_X9_with v12 v1 w9) (fun v14 w13 => hz_sta w13 b10 x1 v14 (fun w15 => hz_let (hz_pn w15 a0 0 ((w15.1 a0 0) + 1)) (fun w16 => some (v1, w16))))))))))))))) else some ((-2), w))))
set_option maxHeartbeats 4000000 in
set_option maxRecDepth 100000 in
theorem ct_X1_addTo {l : Launch} (hl : l.stackTraces = false) {B : Bt} {a0 : Nat} {x1 : Int32} {x2 : Int32} {x3 : Int32} {w : MW} {r : Int32 × MW} (h : f_X1_addTo a0 x1 x2 x3 w = some r) : hz_Met l B false 358 358 yX1_addTo cX1_addTo 5 (Option.some FieldType.int) 3 0 0 [.ref (B.1 + a0), .int x1, .int x2, .int x3] w (some (.int r.1)) r.2 := by
  refine hz_ofJ (rv := (fun r : Int32 × MW => some (.int r.1))) (wo := (fun r : Int32 × MW => r.2)) (own := RX1) (ini := false) hl (by decide) rfl (Or.inr rfl) (Nat.le_of_ble_eq_true rfl) rfl ?_ h
  intro p e s m args below meth c
  unfold f_X1_addTo
  refine hz_gdr (fun ga0 => ?_)
  refine hz_aload_n (pc' := 1) (j := 0) dX1_addTo_0 rfl rfl rfl ?_
  refine hz_gI (pc' := 4) fl_X1_48.r ga0 rfl dX1_addTo_1 rfl ?_
  refine hz_nameI (fun v1 => ?_)
  refine hz_istore (pc' := 6) (L' := [(4, .int v1), (0, .ref (B.1 + a0)), (1, .int x1), (2, .int x2), (3, .int x3)]) dX1_addTo_4 rfl (by decide) rfl ?_
  refine hz_iload (pc' := 8) (j := 0) dX1_addTo_6 rfl rfl ?_
  refine hz_bipush (pc' := 10) (v := 24) dX1_addTo_8 rfl (by decide) ?_
  refine hz_icmplt (pc' := 13) (tgt := 16) dX1_addTo_10 (by decide) rfl ?_ ?_
  · refine hz_aload_n (pc' := 17) (j := 1) dX1_addTo_16 rfl rfl rfl ?_
    refine hz_gP (pc' := 20) (c' := 20) fl_X1_18.r ga0 rfl dX1_addTo_17 rfl (fun b2 gb2 => ?_)
    refine hz_iload (pc' := 22) (j := 0) dX1_addTo_20 rfl rfl ?_
    refine hz_iload_n (pc' := 23) (j := 2) dX1_addTo_22 rfl rfl rfl ?_
    refine hz_iast (pc' := 24) gb2 dX1_addTo_23 rfl (fun w3 => ?_)
    refine hz_aload_n (pc' := 25) (j := 1) dX1_addTo_24 rfl rfl rfl ?_
    refine hz_gP (pc' := 28) (c' := 20) fl_X1_21.r ga0 rfl dX1_addTo_25 rfl (fun b4 gb4 => ?_)
    refine hz_iload (pc' := 30) (j := 0) dX1_addTo_28 rfl rfl ?_
    refine hz_iload_n (pc' := 31) (j := 3) dX1_addTo_30 rfl rfl rfl ?_
    refine hz_iast (pc' := 32) gb4 dX1_addTo_31 rfl (fun w5 => ?_)
    refine hz_aload_n (pc' := 33) (j := 1) dX1_addTo_32 rfl rfl rfl ?_
    refine hz_gP (pc' := 36) (c' := 20) fl_X1_30.r ga0 rfl dX1_addTo_33 rfl (fun b6 gb6 => ?_)
    refine hz_iload (pc' := 38) (j := 0) dX1_addTo_36 rfl rfl ?_
    refine hz_iload_n (pc' := 39) (j := 4) dX1_addTo_38 rfl rfl rfl ?_
    refine hz_iast (pc' := 40) gb6 dX1_addTo_39 rfl (fun w7 => ?_)
    refine hz_aload_n (pc' := 41) (j := 1) dX1_addTo_40 rfl rfl rfl ?_
    refine hz_gP (pc' := 44) (c' := 20) fl_X1_36.r ga0 rfl dX1_addTo_41 rfl (fun b8 gb8 => ?_)
    refine hz_iload (pc' := 46) (j := 0) dX1_addTo_44 rfl rfl ?_
    refine hz_iload_n (pc' := 47) (j := 4) dX1_addTo_46 rfl rfl rfl ?_
    refine hz_iast (pc' := 48) gb8 dX1_addTo_47 rfl (fun w9 => ?_)
    refine hz_aload_n (pc' := 49) (j := 1) dX1_addTo_48 rfl rfl rfl ?_
    refine hz_gP (pc' := 52) (c' := 20) fl_X1_9.r ga0 rfl dX1_addTo_49 rfl (fun b10 gb10 => ?_)
    refine hz_iload_n (pc' := 53) (j := 2) dX1_addTo_52 rfl rfl rfl ?_
    refine hz_aload_n (pc' := 54) (j := 1) dX1_addTo_53 rfl rfl rfl ?_
    refine hz_gP (pc' := 57) (c' := 20) fl_X1_9.r ga0 rfl dX1_addTo_54 rfl (fun b11 gb11 => ?_)
    refine hz_iload_n (pc' := 58) (j := 2) dX1_addTo_57 rfl rfl rfl ?_
    refine hz_iald (pc' := 59) gb11 dX1_addTo_58 rfl (fun v12 => ?_)
    refine hz_iload (pc' := 61) (j := 0) dX1_addTo_59 rfl rfl ?_
    refine hz_cSNi (pc' := 64) (av := [.int v12, .int v1]) (rest := [.int x1, .ref (B.1 + b10)]) snl_X1_62 (fun x w' h => ct_X9_with hl h) rfl rfl (Nat.le_of_ble_eq_true rfl) (by decide) (by decide) rfl dX1_addTo_61 rfl (fun v14 w13 => ?_)
    refine hz_iast (pc' := 65) gb10 dX1_addTo_64 rfl (fun w15 => ?_)
    refine hz_aload_n (pc' := 66) (j := 1) dX1_addTo_65 rfl rfl rfl ?_
    refine hz_dup (pc' := 67) dX1_addTo_66 rfl rfl ?_
    refine hz_gI (pc' := 70) fl_X1_48.r ga0 rfl dX1_addTo_67 rfl ?_
    refine hz_iconst (pc' := 71) (v := 1) dX1_addTo_70 rfl (by decide) ?_
    refine hz_iadd (pc' := 72) dX1_addTo_71 rfl ?_
    refine hz_putI (pc' := 75) fl_X1_48 ga0 rfl dX1_addTo_72 rfl (fun w16 => ?_)
    refine hz_iload (pc' := 77) (j := 0) dX1_addTo_75 rfl rfl ?_
    exact hz_reti dX1_addTo_77 rfl (by decide)
  · refine hz_bipush (pc' := 15) (v := (-2)) dX1_addTo_13 rfl (by decide) ?_
    exact hz_reti dX1_addTo_15 rfl (by decide)
def f_X1_has (a0 : Nat) (x1 : Int32) (w : MW) : Option (Int32 × MW) :=
  hz_gd (hz_g 358 a0 2) (Option.bind ((if x1 < 0 then some 0 else (if (w.1 a0 0) ≤ x1 then some 0 else some 1))) (fun q1 : Int32 => hz_gd (hz_isb q1) (some (q1, w))))
set_option maxHeartbeats 4000000 in
set_option maxRecDepth 100000 in
theorem ct_X1_has {l : Launch} (hl : l.stackTraces = false) {B : Bt} {a0 : Nat} {x1 : Int32} {w : MW} {r : Int32 × MW} (h : f_X1_has a0 x1 w = some r) : hz_Met l B false 358 358 yX1_has cX1_has 2 (Option.some FieldType.boolean) 2 0 0 [.ref (B.1 + a0), .int x1] w (some (.int r.1)) r.2 := by
  refine hz_ofJ (rv := (fun r : Int32 × MW => some (.int r.1))) (wo := (fun r : Int32 × MW => r.2)) (own := RX1) (ini := false) hl (by decide) rfl (Or.inr rfl) (Nat.le_of_ble_eq_true rfl) rfl ?_ h
  intro p e s m args below meth c
  unfold f_X1_has
  refine hz_gdr (fun ga0 => ?_)
  refine hz_iload_n (pc' := 1) (j := 1) dX1_has_0 rfl rfl rfl ?_
  refine hz_bindJ (pcJ := 17) (LJ := fun q1 : Int32 => []) (stJ := fun q1 : Int32 => [.int q1]) (kJ := 0) (slJ := 0) (nJ := 358) (wJ := fun q1 : Int32 => w) (fun q1 => ?_) (fun hq1 => ?_)
  · exact hz_retz dX1_has_17 rfl (by decide)
  · refine hz_iflt (pc' := 4) (tgt := 16) dX1_has_1 (by decide) rfl ?_ ?_
    · refine hz_iconst (pc' := 17) (v := 0) dX1_has_16 rfl (by decide) ?_
      exact hz_loc [] rfl (hq1 0)
    · refine hz_iload_n (pc' := 5) (j := 1) dX1_has_4 rfl rfl rfl ?_
      refine hz_aload_n (pc' := 6) (j := 0) dX1_has_5 rfl rfl rfl ?_
      refine hz_gI (pc' := 9) fl_X1_48.r ga0 rfl dX1_has_6 rfl ?_
      refine hz_icmpge (pc' := 12) (tgt := 16) dX1_has_9 (by decide) rfl ?_ ?_
      · refine hz_iconst (pc' := 17) (v := 0) dX1_has_16 rfl (by decide) ?_
        exact hz_loc [] rfl (hq1 0)
      · refine hz_iconst (pc' := 13) (v := 1) dX1_has_12 rfl (by decide) ?_
        refine hz_goto (tgt := 17) dX1_has_13 (by decide) ?_
        exact hz_loc [] rfl (hq1 1)
def f_X1_setTimes (a0 : Nat) (x1 : Int32) (x2 : Int32) (x3 : Int32) (x4 : Int32) (w : MW) : Option (MW) :=
  hz_gd (hz_g 358 a0 2) (hz_b (f_X1_has a0 x1 w) (fun v2 w1 => Option.bind ((if v2 = 0 then some w1 else hz_ldp w1 a0 7 358 20 (fun b4 => hz_sta w1 b4 x1 x2 (fun w5 => hz_ldp w5 a0 8 358 20 (fun b6 => hz_sta w5 b6 x1 x3 (fun w7 => hz_ldp w7 a0 10 358 20 (fun b8 => hz_sta w7 b8 x1 (x2 + x4) (fun w9 => some w9)))))))) (fun q3 : MW => some q3)))
set_option maxHeartbeats 4000000 in
set_option maxRecDepth 100000 in
theorem ct_X1_setTimes {l : Launch} (hl : l.stackTraces = false) {B : Bt} {a0 : Nat} {x1 : Int32} {x2 : Int32} {x3 : Int32} {x4 : Int32} {w : MW} {r : MW} (h : f_X1_setTimes a0 x1 x2 x3 x4 w = some r) : hz_Met l B false 358 358 yX1_setTimes cX1_setTimes 5 (Option.none : Option FieldType) 3 0 0 [.ref (B.1 + a0), .int x1, .int x2, .int x3, .int x4] w none r := by
  refine hz_ofJ (rv := (fun _ : MW => none)) (wo := (fun r : MW => r)) (own := RX1) (ini := false) hl (by decide) rfl (Or.inr rfl) (Nat.le_of_ble_eq_true rfl) rfl ?_ h
  intro p e s m args below meth c
  unfold f_X1_setTimes
  refine hz_gdr (fun ga0 => ?_)
  refine hz_aload_n (pc' := 1) (j := 0) dX1_setTimes_0 rfl rfl rfl ?_
  refine hz_iload_n (pc' := 2) (j := 1) dX1_setTimes_1 rfl rfl rfl ?_
  refine hz_cVi (pc' := 5) (av := [.int x1]) (rest := []) vl_X1_66 (fun x w' h => ct_X1_has hl h) ga0 rfl rfl (Nat.le_of_ble_eq_true rfl) (by decide) (by decide) rfl dX1_setTimes_2 rfl (fun v2 w1 => ?_)
  refine hz_bindJ (pcJ := 32) (LJ := fun q3 : MW => []) (stJ := fun q3 : MW => []) (kJ := 0) (slJ := 0) (nJ := 358) (wJ := fun q3 : MW => q3) (fun q3 => ?_) (fun hq3 => ?_)
  · exact hz_retv dX1_setTimes_32 rfl (by decide)
  · refine hz_ifeq (pc' := 8) (tgt := 32) dX1_setTimes_5 (by decide) rfl ?_ ?_
    · exact hz_loc [] rfl (hq3 w1)
    · refine hz_aload_n (pc' := 9) (j := 0) dX1_setTimes_8 rfl rfl rfl ?_
      refine hz_gP (pc' := 12) (c' := 20) fl_X1_24.r ga0 rfl dX1_setTimes_9 rfl (fun b4 gb4 => ?_)
      refine hz_iload_n (pc' := 13) (j := 1) dX1_setTimes_12 rfl rfl rfl ?_
      refine hz_iload_n (pc' := 14) (j := 2) dX1_setTimes_13 rfl rfl rfl ?_
      refine hz_iast (pc' := 15) gb4 dX1_setTimes_14 rfl (fun w5 => ?_)
      refine hz_aload_n (pc' := 16) (j := 0) dX1_setTimes_15 rfl rfl rfl ?_
      refine hz_gP (pc' := 19) (c' := 20) fl_X1_27.r ga0 rfl dX1_setTimes_16 rfl (fun b6 gb6 => ?_)
      refine hz_iload_n (pc' := 20) (j := 1) dX1_setTimes_19 rfl rfl rfl ?_
      refine hz_iload_n (pc' := 21) (j := 3) dX1_setTimes_20 rfl rfl rfl ?_
      refine hz_iast (pc' := 22) gb6 dX1_setTimes_21 rfl (fun w7 => ?_)
      refine hz_aload_n (pc' := 23) (j := 0) dX1_setTimes_22 rfl rfl rfl ?_
      refine hz_gP (pc' := 26) (c' := 20) fl_X1_33.r ga0 rfl dX1_setTimes_23 rfl (fun b8 gb8 => ?_)
      refine hz_iload_n (pc' := 27) (j := 1) dX1_setTimes_26 rfl rfl rfl ?_
      refine hz_iload_n (pc' := 28) (j := 2) dX1_setTimes_27 rfl rfl rfl ?_
      refine hz_iload (pc' := 30) (j := 4) dX1_setTimes_28 rfl rfl ?_
      refine hz_iadd (pc' := 31) dX1_setTimes_30 rfl ?_
      refine hz_iast (pc' := 32) gb8 dX1_setTimes_31 rfl (fun w9 => ?_)
      exact hz_loc [] rfl (hq3 w9)
def f_X9_holds (x0 : Int32) (x1 : Int32) (w : MW) : Option (Int32 × MW) :=
  Option.bind ((if ((((x0 : Int32).toUInt32 >>> ((x1 : Int32).toUInt32 &&& Int32.toUInt32 31)).toInt32) &&& 1) = 1 then some 1 else some 0)) (fun q1 : Int32 => hz_gd (hz_isb q1) (some (q1, w)))
set_option maxHeartbeats 4000000 in
set_option maxRecDepth 100000 in
theorem ct_X9_holds {l : Launch} (hl : l.stackTraces = false) {B : Bt} {x0 : Int32} {x1 : Int32} {w : MW} {r : Int32 × MW} (h : f_X9_holds x0 x1 w = some r) : hz_Met l B false 358 358 yX9_holds cX9_holds 2 (Option.some FieldType.boolean) 2 0 0 [.int x0, .int x1] w (some (.int r.1)) r.2 := by
  refine hz_ofJ (rv := (fun r : Int32 × MW => some (.int r.1))) (wo := (fun r : Int32 × MW => r.2)) (own := RX9) (ini := false) hl (by decide) rfl (Or.inr rfl) (Nat.le_of_ble_eq_true rfl) rfl ?_ h
  intro p e s m args below meth c
  unfold f_X9_holds
  refine hz_iload_n (pc' := 1) (j := 0) dX9_holds_0 rfl rfl rfl ?_
  refine hz_iload_n (pc' := 2) (j := 1) dX9_holds_1 rfl rfl rfl ?_
  refine hz_iushr (pc' := 3) dX9_holds_2 rfl ?_
  refine hz_iconst (pc' := 4) (v := 1) dX9_holds_3 rfl (by decide) ?_
  refine hz_iand (pc' := 5) dX9_holds_4 rfl ?_
  refine hz_iconst (pc' := 6) (v := 1) dX9_holds_5 rfl (by decide) ?_
  refine hz_bindJ (pcJ := 14) (LJ := fun q1 : Int32 => []) (stJ := fun q1 : Int32 => [.int q1]) (kJ := 0) (slJ := 0) (nJ := 358) (wJ := fun q1 : Int32 => w) (fun q1 => ?_) (fun hq1 => ?_)
  · exact hz_retz dX9_holds_14 rfl (by decide)
  · refine hz_icmpne (pc' := 9) (tgt := 13) dX9_holds_6 (by decide) rfl ?_ ?_
    · refine hz_iconst (pc' := 14) (v := 0) dX9_holds_13 rfl (by decide) ?_
      exact hz_loc [] rfl (hq1 0)
    · refine hz_iconst (pc' := 10) (v := 1) dX9_holds_9 rfl (by decide) ?_
      refine hz_goto (tgt := 14) dX9_holds_10 (by decide) ?_
      exact hz_loc [] rfl (hq1 1)
def f_X1_isOver (a0 : Nat) (x1 : Int32) (w : MW) : Option (Int32 × MW) :=
  hz_gd (hz_g 358 a0 2) (hz_b (f_X9_holds ((w.1 a0 1) ||| (w.1 a0 2)) x1 w) (fun v2 w1 => hz_gd (hz_isb v2) (some (v2, w1))))
set_option maxHeartbeats 4000000 in
set_option maxRecDepth 100000 in
theorem ct_X1_isOver {l : Launch} (hl : l.stackTraces = false) {B : Bt} {a0 : Nat} {x1 : Int32} {w : MW} {r : Int32 × MW} (h : f_X1_isOver a0 x1 w = some r) : hz_Met l B false 358 358 yX1_isOver cX1_isOver 2 (Option.some FieldType.boolean) 3 0 0 [.ref (B.1 + a0), .int x1] w (some (.int r.1)) r.2 := by
  refine hz_ofJ (rv := (fun r : Int32 × MW => some (.int r.1))) (wo := (fun r : Int32 × MW => r.2)) (own := RX1) (ini := false) hl (by decide) rfl (Or.inr rfl) (Nat.le_of_ble_eq_true rfl) rfl ?_ h
  intro p e s m args below meth c
  unfold f_X1_isOver
  refine hz_gdr (fun ga0 => ?_)
  refine hz_aload_n (pc' := 1) (j := 0) dX1_isOver_0 rfl rfl rfl ?_
  refine hz_gI (pc' := 4) fl_X1_52.r ga0 rfl dX1_isOver_1 rfl ?_
  refine hz_aload_n (pc' := 5) (j := 0) dX1_isOver_4 rfl rfl rfl ?_
  refine hz_gI (pc' := 8) fl_X1_55.r ga0 rfl dX1_isOver_5 rfl ?_
  refine hz_ior (pc' := 9) dX1_isOver_8 rfl ?_
  refine hz_iload_n (pc' := 10) (j := 1) dX1_isOver_9 rfl rfl rfl ?_
  refine hz_cSNi (pc' := 13) (av := [.int ((w.1 a0 1) ||| (w.1 a0 2)), .int x1]) (rest := []) snl_X1_70 (fun x w' h => ct_X9_holds hl h) rfl rfl (Nat.le_of_ble_eq_true rfl) (by decide) (by decide) rfl dX1_isOver_10 rfl (fun v2 w1 => ?_)
  exact hz_retz dX1_isOver_13 rfl (by decide)
def f_X1_areOver (a0 : Nat) (w : MW) : Option (Int32 × MW) :=
  hz_gd (hz_g 358 a0 2) (Option.bind ((if ((w.1 a0 1) ||| (w.1 a0 2)) = (((1 : Int32) <<< ((w.1 a0 0) &&& 31)) - 1) then some 1 else some 0)) (fun q1 : Int32 => hz_gd (hz_isb q1) (some (q1, w))))
set_option maxHeartbeats 4000000 in
set_option maxRecDepth 100000 in
theorem ct_X1_areOver {l : Launch} (hl : l.stackTraces = false) {B : Bt} {a0 : Nat} {w : MW} {r : Int32 × MW} (h : f_X1_areOver a0 w = some r) : hz_Met l B false 358 358 yX1_areOver cX1_areOver 1 (Option.some FieldType.boolean) 2 0 0 [.ref (B.1 + a0)] w (some (.int r.1)) r.2 := by
  refine hz_ofJ (rv := (fun r : Int32 × MW => some (.int r.1))) (wo := (fun r : Int32 × MW => r.2)) (own := RX1) (ini := false) hl (by decide) rfl (Or.inr rfl) (Nat.le_of_ble_eq_true rfl) rfl ?_ h
  intro p e s m args below meth c
  unfold f_X1_areOver
  refine hz_gdr (fun ga0 => ?_)
  refine hz_aload_n (pc' := 1) (j := 0) dX1_areOver_0 rfl rfl rfl ?_
  refine hz_gI (pc' := 4) fl_X1_52.r ga0 rfl dX1_areOver_1 rfl ?_
  refine hz_aload_n (pc' := 5) (j := 0) dX1_areOver_4 rfl rfl rfl ?_
  refine hz_gI (pc' := 8) fl_X1_55.r ga0 rfl dX1_areOver_5 rfl ?_
  refine hz_ior (pc' := 9) dX1_areOver_8 rfl ?_
  refine hz_iconst (pc' := 10) (v := 1) dX1_areOver_9 rfl (by decide) ?_
  refine hz_aload_n (pc' := 11) (j := 0) dX1_areOver_10 rfl rfl rfl ?_
  refine hz_gI (pc' := 14) fl_X1_48.r ga0 rfl dX1_areOver_11 rfl ?_
  refine hz_ishl (pc' := 15) dX1_areOver_14 rfl ?_
  refine hz_iconst (pc' := 16) (v := 1) dX1_areOver_15 rfl (by decide) ?_
  refine hz_isub (pc' := 17) dX1_areOver_16 rfl ?_
  refine hz_bindJ (pcJ := 25) (LJ := fun q1 : Int32 => []) (stJ := fun q1 : Int32 => [.int q1]) (kJ := 0) (slJ := 0) (nJ := 358) (wJ := fun q1 : Int32 => w) (fun q1 => ?_) (fun hq1 => ?_)
  · exact hz_retz dX1_areOver_25 rfl (by decide)
  · refine hz_icmpne (pc' := 20) (tgt := 24) dX1_areOver_17 (by decide) rfl ?_ ?_
    · refine hz_iconst (pc' := 25) (v := 0) dX1_areOver_24 rfl (by decide) ?_
      exact hz_loc [] rfl (hq1 0)
    · refine hz_iconst (pc' := 21) (v := 1) dX1_areOver_20 rfl (by decide) ?_
      refine hz_goto (tgt := 25) dX1_areOver_21 (by decide) ?_
      exact hz_loc [] rfl (hq1 1)
def f_X1_statusOf (a0 : Nat) (x1 : Int32) (w : MW) : Option (Int32 × MW) :=
  hz_gd (hz_g 358 a0 2) (hz_b (f_X9_holds (w.1 a0 1) x1 w) (fun v2 w1 => (if v2 = 0 then hz_b (f_X9_holds (w1.1 a0 2) x1 w1) (fun v4 w3 => (if v4 = 0 then hz_ldp w3 a0 3 358 20 (fun b5 => hz_ldp w3 a0 5 358 20 (fun b6 => hz_lda w3 b6 x1 (fun v7 => hz_lda w3 b5 v7 (fun v8 => hz_b (f_X9_holds v8 x1 w3) (fun v10 w9 => (if v10 = 0 then hz_ldp w9 a0 4 358 20 (fun b11 => hz_ldp w9 a0 5 358 20 (fun b12 => hz_lda w9 b12 x1 (fun v13 => hz_lda w9 b11 v13 (fun v14 => hz_b (f_X9_holds v14 x1 w9) (fun v16 w15 => Option.bind ((if v16 = 0 then some 2 else some 1)) (fun q17 : Int32 => some (q17, w15))))))) else some (0, w9))))))) else some (4, w3))) else some (3, w1))))
set_option maxHeartbeats 4000000 in
set_option maxRecDepth 100000 in
theorem ct_X1_statusOf {l : Launch} (hl : l.stackTraces = false) {B : Bt} {a0 : Nat} {x1 : Int32} {w : MW} {r : Int32 × MW} (h : f_X1_statusOf a0 x1 w = some r) : hz_Met l B false 358 358 yX1_statusOf cX1_statusOf 2 (Option.some FieldType.int) 3 0 0 [.ref (B.1 + a0), .int x1] w (some (.int r.1)) r.2 := by
  refine hz_ofJ (rv := (fun r : Int32 × MW => some (.int r.1))) (wo := (fun r : Int32 × MW => r.2)) (own := RX1) (ini := false) hl (by decide) rfl (Or.inr rfl) (Nat.le_of_ble_eq_true rfl) rfl ?_ h
  intro p e s m args below meth c
  unfold f_X1_statusOf
  refine hz_gdr (fun ga0 => ?_)
  refine hz_aload_n (pc' := 1) (j := 0) dX1_statusOf_0 rfl rfl rfl ?_
  refine hz_gI (pc' := 4) fl_X1_52.r ga0 rfl dX1_statusOf_1 rfl ?_
  refine hz_iload_n (pc' := 5) (j := 1) dX1_statusOf_4 rfl rfl rfl ?_
  refine hz_cSNi (pc' := 8) (av := [.int (w.1 a0 1), .int x1]) (rest := []) snl_X1_70 (fun x w' h => ct_X9_holds hl h) rfl rfl (Nat.le_of_ble_eq_true rfl) (by decide) (by decide) rfl dX1_statusOf_5 rfl (fun v2 w1 => ?_)
  refine hz_ifeq (pc' := 11) (tgt := 13) dX1_statusOf_8 (by decide) rfl ?_ ?_
  · refine hz_aload_n (pc' := 14) (j := 0) dX1_statusOf_13 rfl rfl rfl ?_
    refine hz_gI (pc' := 17) fl_X1_55.r ga0 rfl dX1_statusOf_14 rfl ?_
    refine hz_iload_n (pc' := 18) (j := 1) dX1_statusOf_17 rfl rfl rfl ?_
    refine hz_cSNi (pc' := 21) (av := [.int (w1.1 a0 2), .int x1]) (rest := []) snl_X1_70 (fun x w' h => ct_X9_holds hl h) rfl rfl (Nat.le_of_ble_eq_true rfl) (by decide) (by decide) rfl dX1_statusOf_18 rfl (fun v4 w3 => ?_)
    refine hz_ifeq (pc' := 24) (tgt := 26) dX1_statusOf_21 (by decide) rfl ?_ ?_
    · refine hz_aload_n (pc' := 27) (j := 0) dX1_statusOf_26 rfl rfl rfl ?_
      refine hz_gP (pc' := 30) (c' := 20) fl_X1_9.r ga0 rfl dX1_statusOf_27 rfl (fun b5 gb5 => ?_)
      refine hz_aload_n (pc' := 31) (j := 0) dX1_statusOf_30 rfl rfl rfl ?_
      refine hz_gP (pc' := 34) (c' := 20) fl_X1_18.r ga0 rfl dX1_statusOf_31 rfl (fun b6 gb6 => ?_)
      refine hz_iload_n (pc' := 35) (j := 1) dX1_statusOf_34 rfl rfl rfl ?_
      refine hz_iald (pc' := 36) gb6 dX1_statusOf_35 rfl (fun v7 => ?_)
      refine hz_iald (pc' := 37) gb5 dX1_statusOf_36 rfl (fun v8 => ?_)
      refine hz_iload_n (pc' := 38) (j := 1) dX1_statusOf_37 rfl rfl rfl ?_
      refine hz_cSNi (pc' := 41) (av := [.int v8, .int x1]) (rest := []) snl_X1_70 (fun x w' h => ct_X9_holds hl h) rfl rfl (Nat.le_of_ble_eq_true rfl) (by decide) (by decide) rfl dX1_statusOf_38 rfl (fun v10 w9 => ?_)
      refine hz_ifeq (pc' := 44) (tgt := 46) dX1_statusOf_41 (by decide) rfl ?_ ?_
      · refine hz_aload_n (pc' := 47) (j := 0) dX1_statusOf_46 rfl rfl rfl ?_
        refine hz_gP (pc' := 50) (c' := 20) fl_X1_15.r ga0 rfl dX1_statusOf_47 rfl (fun b11 gb11 => ?_)
        refine hz_aload_n (pc' := 51) (j := 0) dX1_statusOf_50 rfl rfl rfl ?_
        refine hz_gP (pc' := 54) (c' := 20) fl_X1_18.r ga0 rfl dX1_statusOf_51 rfl (fun b12 gb12 => ?_)
        refine hz_iload_n (pc' := 55) (j := 1) dX1_statusOf_54 rfl rfl rfl ?_
        refine hz_iald (pc' := 56) gb12 dX1_statusOf_55 rfl (fun v13 => ?_)
        refine hz_iald (pc' := 57) gb11 dX1_statusOf_56 rfl (fun v14 => ?_)
        refine hz_iload_n (pc' := 58) (j := 1) dX1_statusOf_57 rfl rfl rfl ?_
        refine hz_cSNi (pc' := 61) (av := [.int v14, .int x1]) (rest := []) snl_X1_70 (fun x w' h => ct_X9_holds hl h) rfl rfl (Nat.le_of_ble_eq_true rfl) (by decide) (by decide) rfl dX1_statusOf_58 rfl (fun v16 w15 => ?_)
        refine hz_bindJ (pcJ := 69) (LJ := fun q17 : Int32 => []) (stJ := fun q17 : Int32 => [.int q17]) (kJ := 0) (slJ := 0) (nJ := 358) (wJ := fun q17 : Int32 => w15) (fun q17 => ?_) (fun hq17 => ?_)
        · exact hz_reti dX1_statusOf_69 rfl (by decide)
        · refine hz_ifeq (pc' := 64) (tgt := 68) dX1_statusOf_61 (by decide) rfl ?_ ?_
          · refine hz_iconst (pc' := 69) (v := 2) dX1_statusOf_68 rfl (by decide) ?_
            exact hz_loc [] rfl (hq17 2)
          · refine hz_iconst (pc' := 65) (v := 1) dX1_statusOf_64 rfl (by decide) ?_
            refine hz_goto (tgt := 69) dX1_statusOf_65 (by decide) ?_
            exact hz_loc [] rfl (hq17 1)
      · refine hz_iconst (pc' := 45) (v := 0) dX1_statusOf_44 rfl (by decide) ?_
        exact hz_reti dX1_statusOf_45 rfl (by decide)
    · refine hz_iconst (pc' := 25) (v := 4) dX1_statusOf_24 rfl (by decide) ?_
      exact hz_reti dX1_statusOf_25 rfl (by decide)
  · refine hz_iconst (pc' := 12) (v := 3) dX1_statusOf_11 rfl (by decide) ?_
    exact hz_reti dX1_statusOf_12 rfl (by decide)
def f_X1_endOf (a0 : Nat) (x1 : Int32) (w : MW) : Option (Int32 × MW) :=
  hz_gd (hz_g 358 a0 2) (hz_b (f_X9_holds (w.1 a0 1) x1 w) (fun v2 w1 => Option.bind ((if v2 = 0 then some (-2) else hz_ldp w1 a0 12 358 20 (fun b4 => hz_lda w1 b4 x1 (fun v5 => some v5)))) (fun q3 : Int32 => some (q3, w1))))
set_option maxHeartbeats 4000000 in
set_option maxRecDepth 100000 in
theorem ct_X1_endOf {l : Launch} (hl : l.stackTraces = false) {B : Bt} {a0 : Nat} {x1 : Int32} {w : MW} {r : Int32 × MW} (h : f_X1_endOf a0 x1 w = some r) : hz_Met l B false 358 358 yX1_endOf cX1_endOf 2 (Option.some FieldType.int) 3 0 0 [.ref (B.1 + a0), .int x1] w (some (.int r.1)) r.2 := by
  refine hz_ofJ (rv := (fun r : Int32 × MW => some (.int r.1))) (wo := (fun r : Int32 × MW => r.2)) (own := RX1) (ini := false) hl (by decide) rfl (Or.inr rfl) (Nat.le_of_ble_eq_true rfl) rfl ?_ h
  intro p e s m args below meth c
  unfold f_X1_endOf
  refine hz_gdr (fun ga0 => ?_)
  refine hz_aload_n (pc' := 1) (j := 0) dX1_endOf_0 rfl rfl rfl ?_
  refine hz_gI (pc' := 4) fl_X1_52.r ga0 rfl dX1_endOf_1 rfl ?_
  refine hz_iload_n (pc' := 5) (j := 1) dX1_endOf_4 rfl rfl rfl ?_
  refine hz_cSNi (pc' := 8) (av := [.int (w.1 a0 1), .int x1]) (rest := []) snl_X1_70 (fun x w' h => ct_X9_holds hl h) rfl rfl (Nat.le_of_ble_eq_true rfl) (by decide) (by decide) rfl dX1_endOf_5 rfl (fun v2 w1 => ?_)
  refine hz_bindJ (pcJ := 22) (LJ := fun q3 : Int32 => []) (stJ := fun q3 : Int32 => [.int q3]) (kJ := 0) (slJ := 0) (nJ := 358) (wJ := fun q3 : Int32 => w1) (fun q3 => ?_) (fun hq3 => ?_)
  · exact hz_reti dX1_endOf_22 rfl (by decide)
  · refine hz_ifeq (pc' := 11) (tgt := 20) dX1_endOf_8 (by decide) rfl ?_ ?_
    · refine hz_bipush (pc' := 22) (v := (-2)) dX1_endOf_20 rfl (by decide) ?_
      exact hz_loc [] rfl (hq3 (-2))
    · refine hz_aload_n (pc' := 12) (j := 0) dX1_endOf_11 rfl rfl rfl ?_
      refine hz_gP (pc' := 15) (c' := 20) fl_X1_39.r ga0 rfl dX1_endOf_12 rfl (fun b4 gb4 => ?_)
      refine hz_iload_n (pc' := 16) (j := 1) dX1_endOf_15 rfl rfl rfl ?_
      refine hz_iald (pc' := 17) gb4 dX1_endOf_16 rfl (fun v5 => ?_)
      refine hz_goto (tgt := 22) dX1_endOf_17 (by decide) ?_
      exact hz_loc [] rfl (hq3 v5)
def lp_X1_lateOf_4 (c0 : Nat) (c1 : Int32) : Nat → (Int32 × Int32 × MW) → Option (Int32 × MW)
  | 0, _ => none
  | N + 1, v0 => (if (v0.2.2.1 c0 0) ≤ v0.2.1 then some (v0.1, v0.2.2) else hz_b (f_X9_holds c1 v0.2.1 v0.2.2) (fun v2 w1 => Option.bind ((if v2 = 0 then some (v0.1, w1) else hz_ldp w1 c0 12 358 20 (fun b5 => hz_lda w1 b5 v0.2.1 (fun v6 => hz_ldp w1 c0 10 358 20 (fun b7 => hz_lda w1 b7 v0.2.1 (fun v8 => (if v6 ≤ v8 then some (v0.1, w1) else hz_b (f_X9_with v0.1 v0.2.1 w1) (fun v10 w9 => some (v10, w9))))))))) (fun q3 : Int32 × MW => hz_let (v0.2.1 + Int32.ofInt 1) (fun v4 => lp_X1_lateOf_4 c0 c1 N (q3.1, v4, q3.2)))))
def f_X1_lateOf (a0 : Nat) (x1 : Int32) (w : MW) : Option (Int32 × MW) :=
  hz_gd (hz_g 358 a0 2) (Option.bind (lp_X1_lateOf_4 a0 x1 3000 (0, 0, w)) (fun q2 : Int32 × MW => some (q2.1, q2.2)))
set_option maxHeartbeats 4000000 in
set_option maxRecDepth 100000 in
theorem ct_X1_lateOf {l : Launch} (hl : l.stackTraces = false) {B : Bt} {a0 : Nat} {x1 : Int32} {w : MW} {r : Int32 × MW} (h : f_X1_lateOf a0 x1 w = some r) : hz_Met l B false 358 358 yX1_lateOf cX1_lateOf 4 (Option.some FieldType.int) 3 0 0 [.ref (B.1 + a0), .int x1] w (some (.int r.1)) r.2 := by
  refine hz_ofJ (rv := (fun r : Int32 × MW => some (.int r.1))) (wo := (fun r : Int32 × MW => r.2)) (own := RX1) (ini := false) hl (by decide) rfl (Or.inr rfl) (Nat.le_of_ble_eq_true rfl) rfl ?_ h
  intro p e s m args below meth c
  unfold f_X1_lateOf
  refine hz_gdr (fun ga0 => ?_)
  refine hz_iconst (pc' := 1) (v := 0) dX1_lateOf_0 rfl (by decide) ?_
  refine hz_istore_n (pc' := 2) (L' := [(2, .int 0), (0, .ref (B.1 + a0)), (1, .int x1)]) dX1_lateOf_1 rfl rfl (by decide) rfl ?_
  refine hz_iconst (pc' := 3) (v := 0) dX1_lateOf_2 rfl (by decide) ?_
  refine hz_istore_n (pc' := 4) (L' := [(3, .int 0), (2, .int 0), (0, .ref (B.1 + a0)), (1, .int x1)]) dX1_lateOf_3 rfl rfl (by decide) rfl ?_
  refine hz_bindJ (pcJ := 47) (LJ := fun q2 : Int32 × MW => [(2, .int q2.1)]) (stJ := fun _ => []) (kJ := 0) (slJ := 0) (nJ := 358) (wJ := fun q2 : Int32 × MW => q2.2) (fun q2 => ?_) (fun hq2 => ?_)
  · refine hz_iload_n (pc' := 48) (j := 0) dX1_lateOf_47 rfl rfl rfl ?_
    exact hz_reti dX1_lateOf_48 rfl (by decide)
  · refine hz_loc [2, 3, 1, 0] rfl (hz_loopJ (lp := lp_X1_lateOf_4 a0 x1) (Lh := fun v1 : Int32 × Int32 × MW => [(0, .ref (B.1 + a0)), (1, .int x1), (2, .int v1.1), (3, .int v1.2.1)]) (wh := fun v1 : Int32 × Int32 × MW => v1.2.2) (fun _ => rfl) (fun Nv1 ihv1 v1 => ?_) 3000 (0, 0, w))
    rw [lp_X1_lateOf_4]
    refine hz_iload_n (pc' := 5) (j := 3) dX1_lateOf_4 rfl rfl rfl ?_
    refine hz_aload_n (pc' := 6) (j := 0) dX1_lateOf_5 rfl rfl rfl ?_
    refine hz_gI (pc' := 9) fl_X1_48.r ga0 rfl dX1_lateOf_6 rfl ?_
    refine hz_icmpge (pc' := 12) (tgt := 47) dX1_lateOf_9 (by decide) rfl ?_ ?_
    · exact hz_loc [2] rfl (hq2 (v1.1, v1.2.2))
    · refine hz_iload_n (pc' := 13) (j := 1) dX1_lateOf_12 rfl rfl rfl ?_
      refine hz_iload_n (pc' := 14) (j := 3) dX1_lateOf_13 rfl rfl rfl ?_
      refine hz_cSNi (pc' := 17) (av := [.int x1, .int v1.2.1]) (rest := []) snl_X1_70 (fun x w' h => ct_X9_holds hl h) rfl rfl (Nat.le_of_ble_eq_true rfl) (by decide) (by decide) rfl dX1_lateOf_14 rfl (fun v4 w3 => ?_)
      refine hz_bindJ (pcJ := 41) (LJ := fun q5 : Int32 × MW => [(0, .ref (B.1 + a0)), (1, .int x1), (2, .int q5.1), (3, .int v1.2.1)]) (stJ := fun q5 : Int32 × MW => []) (kJ := 0) (slJ := 0) (nJ := 358) (wJ := fun q5 : Int32 × MW => q5.2) (fun q5 => ?_) (fun hq5 => ?_)
      · refine hz_iincN (pc' := 44) (j := 3) (fun v6 => [(3, .int v6), (0, .ref (B.1 + a0)), (1, .int x1), (2, .int q5.1)]) dX1_lateOf_41 rfl rfl (by decide) (fun _ => rfl) (fun v6 => ?_)
        refine hz_goto (tgt := 4) dX1_lateOf_44 (by decide) ?_
        exact hz_loc [1, 2, 3, 0] rfl (ihv1 (q5.1, v6, q5.2))
      · refine hz_ifeq (pc' := 20) (tgt := 41) dX1_lateOf_17 (by decide) rfl ?_ ?_
        · exact hz_loc [0, 1, 2, 3] rfl (hq5 (v1.1, w3))
        · refine hz_aload_n (pc' := 21) (j := 0) dX1_lateOf_20 rfl rfl rfl ?_
          refine hz_gP (pc' := 24) (c' := 20) fl_X1_39.r ga0 rfl dX1_lateOf_21 rfl (fun b7 gb7 => ?_)
          refine hz_iload_n (pc' := 25) (j := 3) dX1_lateOf_24 rfl rfl rfl ?_
          refine hz_iald (pc' := 26) gb7 dX1_lateOf_25 rfl (fun v8 => ?_)
          refine hz_aload_n (pc' := 27) (j := 0) dX1_lateOf_26 rfl rfl rfl ?_
          refine hz_gP (pc' := 30) (c' := 20) fl_X1_33.r ga0 rfl dX1_lateOf_27 rfl (fun b9 gb9 => ?_)
          refine hz_iload_n (pc' := 31) (j := 3) dX1_lateOf_30 rfl rfl rfl ?_
          refine hz_iald (pc' := 32) gb9 dX1_lateOf_31 rfl (fun v10 => ?_)
          refine hz_icmple (pc' := 35) (tgt := 41) dX1_lateOf_32 (by decide) rfl ?_ ?_
          · exact hz_loc [0, 1, 2, 3] rfl (hq5 (v1.1, w3))
          · refine hz_iload_n (pc' := 36) (j := 2) dX1_lateOf_35 rfl rfl rfl ?_
            refine hz_iload_n (pc' := 37) (j := 3) dX1_lateOf_36 rfl rfl rfl ?_
            refine hz_cSNi (pc' := 40) (av := [.int v1.1, .int v1.2.1]) (rest := []) snl_X1_62 (fun x w' h => ct_X9_with hl h) rfl rfl (Nat.le_of_ble_eq_true rfl) (by decide) (by decide) rfl dX1_lateOf_37 rfl (fun v12 w11 => ?_)
            refine hz_istore_n (pc' := 41) (L' := [(2, .int v12), (0, .ref (B.1 + a0)), (1, .int x1), (3, .int v1.2.1)]) dX1_lateOf_40 rfl rfl (by decide) rfl ?_
            exact hz_loc [1, 2, 0, 3] rfl (hq5 (v12, w11))
def f_X1_lateOrOpen (a0 : Nat) (w : MW) : Option (Int32 × MW) :=
  hz_gd (hz_g 358 a0 2) (hz_let (((1 : Int32) <<< ((w.1 a0 0) &&& 31)) - 1) (fun v1 => hz_b (f_X1_lateOf a0 (w.1 a0 1) w) (fun v3 w2 => some (((v1 &&& (((w.1 a0 1) ||| (w.1 a0 2)) ^^^ (-1))) ||| v3), w2))))
set_option maxHeartbeats 4000000 in
set_option maxRecDepth 100000 in
theorem ct_X1_lateOrOpen {l : Launch} (hl : l.stackTraces = false) {B : Bt} {a0 : Nat} {w : MW} {r : Int32 × MW} (h : f_X1_lateOrOpen a0 w = some r) : hz_Met l B false 358 358 yX1_lateOrOpen cX1_lateOrOpen 2 (Option.some FieldType.int) 4 0 0 [.ref (B.1 + a0)] w (some (.int r.1)) r.2 := by
  refine hz_ofJ (rv := (fun r : Int32 × MW => some (.int r.1))) (wo := (fun r : Int32 × MW => r.2)) (own := RX1) (ini := false) hl (by decide) rfl (Or.inr rfl) (Nat.le_of_ble_eq_true rfl) rfl ?_ h
  intro p e s m args below meth c
  unfold f_X1_lateOrOpen
  refine hz_gdr (fun ga0 => ?_)
  refine hz_iconst (pc' := 1) (v := 1) dX1_lateOrOpen_0 rfl (by decide) ?_
  refine hz_aload_n (pc' := 2) (j := 0) dX1_lateOrOpen_1 rfl rfl rfl ?_
  refine hz_gI (pc' := 5) fl_X1_48.r ga0 rfl dX1_lateOrOpen_2 rfl ?_
  refine hz_ishl (pc' := 6) dX1_lateOrOpen_5 rfl ?_
  refine hz_iconst (pc' := 7) (v := 1) dX1_lateOrOpen_6 rfl (by decide) ?_
  refine hz_isub (pc' := 8) dX1_lateOrOpen_7 rfl ?_
  refine hz_nameI (fun v1 => ?_)
  refine hz_istore_n (pc' := 9) (L' := [(1, .int v1), (0, .ref (B.1 + a0))]) dX1_lateOrOpen_8 rfl rfl (by decide) rfl ?_
  refine hz_iload_n (pc' := 10) (j := 0) dX1_lateOrOpen_9 rfl rfl rfl ?_
  refine hz_aload_n (pc' := 11) (j := 1) dX1_lateOrOpen_10 rfl rfl rfl ?_
  refine hz_gI (pc' := 14) fl_X1_52.r ga0 rfl dX1_lateOrOpen_11 rfl ?_
  refine hz_aload_n (pc' := 15) (j := 1) dX1_lateOrOpen_14 rfl rfl rfl ?_
  refine hz_gI (pc' := 18) fl_X1_55.r ga0 rfl dX1_lateOrOpen_15 rfl ?_
  refine hz_ior (pc' := 19) dX1_lateOrOpen_18 rfl ?_
  refine hz_iconst (pc' := 20) (v := (-1)) dX1_lateOrOpen_19 rfl (by decide) ?_
  refine hz_ixor (pc' := 21) dX1_lateOrOpen_20 rfl ?_
  refine hz_iand (pc' := 22) dX1_lateOrOpen_21 rfl ?_
  refine hz_aload_n (pc' := 23) (j := 1) dX1_lateOrOpen_22 rfl rfl rfl ?_
  refine hz_aload_n (pc' := 24) (j := 1) dX1_lateOrOpen_23 rfl rfl rfl ?_
  refine hz_gI (pc' := 27) fl_X1_52.r ga0 rfl dX1_lateOrOpen_24 rfl ?_
  refine hz_cVi (pc' := 30) (av := [.int (w.1 a0 1)]) (rest := [.int (v1 &&& (((w.1 a0 1) ||| (w.1 a0 2)) ^^^ (-1)))]) vl_X1_74 (fun x w' h => ct_X1_lateOf hl h) ga0 rfl rfl (Nat.le_of_ble_eq_true rfl) (by decide) (by decide) rfl dX1_lateOrOpen_27 rfl (fun v3 w2 => ?_)
  refine hz_ior (pc' := 31) dX1_lateOrOpen_30 rfl ?_
  exact hz_reti dX1_lateOrOpen_31 rfl (by decide)
def lp_X1_deviationSum_4 (c0 : Nat) (c1 : Int32) : Nat → (Int32 × Int32 × MW) → Option (Int32 × MW)
  | 0, _ => none
  | N + 1, v0 => (if (v0.2.2.1 c0 0) ≤ v0.2.1 then some (v0.1, v0.2.2) else hz_b (f_X9_holds (v0.2.2.1 c0 1) v0.2.1 v0.2.2) (fun v2 w1 => Option.bind ((if v2 = 0 then some v0.1 else hz_ldp w1 c0 6 358 20 (fun b5 => hz_lda w1 b5 v0.2.1 (fun v6 => (if v6 = c1 then hz_ldp w1 c0 9 358 20 (fun b7 => hz_lda w1 b7 v0.2.1 (fun v8 => hz_ldp w1 c0 13 358 20 (fun b9 => hz_lda w1 b9 c1 (fun v10 => hz_let (v0.1 + (if 0 ≤ (v8 - v10) then (v8 - v10) else 0 - (v8 - v10))) (fun v11 => some v11))))) else some v0.1))))) (fun q3 : Int32 => hz_let (v0.2.1 + Int32.ofInt 1) (fun v4 => lp_X1_deviationSum_4 c0 c1 N (q3, v4, w1)))))
def f_X1_deviationSum (a0 : Nat) (x1 : Int32) (w : MW) : Option (Int32 × MW) :=
  hz_gd (hz_g 358 a0 2) (Option.bind (lp_X1_deviationSum_4 a0 x1 3000 (0, 0, w)) (fun q2 : Int32 × MW => some (q2.1, q2.2)))
set_option maxHeartbeats 4000000 in
set_option maxRecDepth 100000 in
theorem ct_X1_deviationSum {l : Launch} (hl : l.stackTraces = false) {B : Bt} {a0 : Nat} {x1 : Int32} {w : MW} {r : Int32 × MW} (h : f_X1_deviationSum a0 x1 w = some r) : hz_Met l B false 358 358 yX1_deviationSum cX1_deviationSum 4 (Option.some FieldType.int) 3 0 0 [.ref (B.1 + a0), .int x1] w (some (.int r.1)) r.2 := by
  refine hz_ofJ (rv := (fun r : Int32 × MW => some (.int r.1))) (wo := (fun r : Int32 × MW => r.2)) (own := RX1) (ini := false) hl (by decide) rfl (Or.inr rfl) (Nat.le_of_ble_eq_true rfl) rfl ?_ h
  intro p e s m args below meth c
  unfold f_X1_deviationSum
  refine hz_gdr (fun ga0 => ?_)
  refine hz_iconst (pc' := 1) (v := 0) dX1_deviationSum_0 rfl (by decide) ?_
  refine hz_istore_n (pc' := 2) (L' := [(2, .int 0), (0, .ref (B.1 + a0)), (1, .int x1)]) dX1_deviationSum_1 rfl rfl (by decide) rfl ?_
  refine hz_iconst (pc' := 3) (v := 0) dX1_deviationSum_2 rfl (by decide) ?_
  refine hz_istore_n (pc' := 4) (L' := [(3, .int 0), (2, .int 0), (0, .ref (B.1 + a0)), (1, .int x1)]) dX1_deviationSum_3 rfl rfl (by decide) rfl ?_
  refine hz_bindJ (pcJ := 58) (LJ := fun q2 : Int32 × MW => [(2, .int q2.1)]) (stJ := fun _ => []) (kJ := 0) (slJ := 0) (nJ := 358) (wJ := fun q2 : Int32 × MW => q2.2) (fun q2 => ?_) (fun hq2 => ?_)
  · refine hz_iload_n (pc' := 59) (j := 0) dX1_deviationSum_58 rfl rfl rfl ?_
    exact hz_reti dX1_deviationSum_59 rfl (by decide)
  · refine hz_loc [2, 3, 1, 0] rfl (hz_loopJ (lp := lp_X1_deviationSum_4 a0 x1) (Lh := fun v1 : Int32 × Int32 × MW => [(0, .ref (B.1 + a0)), (1, .int x1), (2, .int v1.1), (3, .int v1.2.1)]) (wh := fun v1 : Int32 × Int32 × MW => v1.2.2) (fun _ => rfl) (fun Nv1 ihv1 v1 => ?_) 3000 (0, 0, w))
    rw [lp_X1_deviationSum_4]
    refine hz_iload_n (pc' := 5) (j := 3) dX1_deviationSum_4 rfl rfl rfl ?_
    refine hz_aload_n (pc' := 6) (j := 0) dX1_deviationSum_5 rfl rfl rfl ?_
    refine hz_gI (pc' := 9) fl_X1_48.r ga0 rfl dX1_deviationSum_6 rfl ?_
    refine hz_icmpge (pc' := 12) (tgt := 58) dX1_deviationSum_9 (by decide) rfl ?_ ?_
    · exact hz_loc [2] rfl (hq2 (v1.1, v1.2.2))
    · refine hz_aload_n (pc' := 13) (j := 0) dX1_deviationSum_12 rfl rfl rfl ?_
      refine hz_gI (pc' := 16) fl_X1_52.r ga0 rfl dX1_deviationSum_13 rfl ?_
      refine hz_iload_n (pc' := 17) (j := 3) dX1_deviationSum_16 rfl rfl rfl ?_
      refine hz_cSNi (pc' := 20) (av := [.int (v1.2.2.1 a0 1), .int v1.2.1]) (rest := []) snl_X1_70 (fun x w' h => ct_X9_holds hl h) rfl rfl (Nat.le_of_ble_eq_true rfl) (by decide) (by decide) rfl dX1_deviationSum_17 rfl (fun v4 w3 => ?_)
      refine hz_bindJ (pcJ := 52) (LJ := fun q5 : Int32 => [(0, .ref (B.1 + a0)), (1, .int x1), (2, .int q5), (3, .int v1.2.1)]) (stJ := fun q5 : Int32 => []) (kJ := 0) (slJ := 0) (nJ := 358) (wJ := fun q5 : Int32 => w3) (fun q5 => ?_) (fun hq5 => ?_)
      · refine hz_iincN (pc' := 55) (j := 3) (fun v6 => [(3, .int v6), (0, .ref (B.1 + a0)), (1, .int x1), (2, .int q5)]) dX1_deviationSum_52 rfl rfl (by decide) (fun _ => rfl) (fun v6 => ?_)
        refine hz_goto (tgt := 4) dX1_deviationSum_55 (by decide) ?_
        exact hz_loc [1, 2, 3, 0] rfl (ihv1 (q5, v6, w3))
      · refine hz_ifeq (pc' := 23) (tgt := 52) dX1_deviationSum_20 (by decide) rfl ?_ ?_
        · exact hz_loc [0, 1, 2, 3] rfl (hq5 v1.1)
        · refine hz_aload_n (pc' := 24) (j := 0) dX1_deviationSum_23 rfl rfl rfl ?_
          refine hz_gP (pc' := 27) (c' := 20) fl_X1_21.r ga0 rfl dX1_deviationSum_24 rfl (fun b7 gb7 => ?_)
          refine hz_iload_n (pc' := 28) (j := 3) dX1_deviationSum_27 rfl rfl rfl ?_
          refine hz_iald (pc' := 29) gb7 dX1_deviationSum_28 rfl (fun v8 => ?_)
          refine hz_iload_n (pc' := 30) (j := 1) dX1_deviationSum_29 rfl rfl rfl ?_
          refine hz_icmpne (pc' := 33) (tgt := 52) dX1_deviationSum_30 (by decide) rfl ?_ ?_
          · exact hz_loc [0, 1, 2, 3] rfl (hq5 v1.1)
          · refine hz_iload_n (pc' := 34) (j := 2) dX1_deviationSum_33 rfl rfl rfl ?_
            refine hz_aload_n (pc' := 35) (j := 0) dX1_deviationSum_34 rfl rfl rfl ?_
            refine hz_gP (pc' := 38) (c' := 20) fl_X1_30.r ga0 rfl dX1_deviationSum_35 rfl (fun b9 gb9 => ?_)
            refine hz_iload_n (pc' := 39) (j := 3) dX1_deviationSum_38 rfl rfl rfl ?_
            refine hz_iald (pc' := 40) gb9 dX1_deviationSum_39 rfl (fun v10 => ?_)
            refine hz_aload_n (pc' := 41) (j := 0) dX1_deviationSum_40 rfl rfl rfl ?_
            refine hz_gP (pc' := 44) (c' := 20) fl_X1_42.r ga0 rfl dX1_deviationSum_41 rfl (fun b11 gb11 => ?_)
            refine hz_iload_n (pc' := 45) (j := 1) dX1_deviationSum_44 rfl rfl rfl ?_
            refine hz_iald (pc' := 46) gb11 dX1_deviationSum_45 rfl (fun v12 => ?_)
            refine hz_isub (pc' := 47) dX1_deviationSum_46 rfl ?_
            refine hz_mabs (pc' := 50) hq_1044 hq_1045 hq_17 hq_1046 ⟨Nat.le_of_ble_eq_true rfl, Nat.le_of_ble_eq_true rfl⟩ (by decide) dX1_deviationSum_47 rfl ?_
            refine hz_iadd (pc' := 51) dX1_deviationSum_50 rfl ?_
            refine hz_nameI (fun v13 => ?_)
            refine hz_istore_n (pc' := 52) (L' := [(2, .int v13), (0, .ref (B.1 + a0)), (1, .int x1), (3, .int v1.2.1)]) dX1_deviationSum_51 rfl rfl (by decide) rfl ?_
            exact hz_loc [1, 2, 0, 3] rfl (hq5 v13)
def lp_X1_firstByDeadline_5 (c0 : Nat) (c1 : Int32) : Nat → (Int32 × Int32 × MW) → Option (Int32 × MW)
  | 0, _ => none
  | N + 1, v0 => (if (v0.2.2.1 c0 0) ≤ v0.2.1 then some (v0.1, v0.2.2) else hz_b (f_X9_holds c1 v0.2.1 v0.2.2) (fun v2 w1 => Option.bind ((if v2 = 0 then some v0.1 else (if v0.1 = (-2) then some v0.2.1 else hz_ldp w1 c0 10 358 20 (fun b5 => hz_lda w1 b5 v0.2.1 (fun v6 => hz_ldp w1 c0 10 358 20 (fun b7 => hz_lda w1 b7 v0.1 (fun v8 => (if v8 ≤ v6 then some v0.1 else some v0.2.1)))))))) (fun q3 : Int32 => hz_let (v0.2.1 + Int32.ofInt 1) (fun v4 => lp_X1_firstByDeadline_5 c0 c1 N (q3, v4, w1)))))
def f_X1_firstByDeadline (a0 : Nat) (x1 : Int32) (w : MW) : Option (Int32 × MW) :=
  hz_gd (hz_g 358 a0 2) (Option.bind (lp_X1_firstByDeadline_5 a0 x1 3000 ((-2), 0, w)) (fun q2 : Int32 × MW => some (q2.1, q2.2)))
set_option maxHeartbeats 4000000 in
set_option maxRecDepth 100000 in
theorem ct_X1_firstByDeadline {l : Launch} (hl : l.stackTraces = false) {B : Bt} {a0 : Nat} {x1 : Int32} {w : MW} {r : Int32 × MW} (h : f_X1_firstByDeadline a0 x1 w = some r) : hz_Met l B false 358 358 yX1_firstByDeadline cX1_firstByDeadline 4 (Option.some FieldType.int) 3 0 0 [.ref (B.1 + a0), .int x1] w (some (.int r.1)) r.2 := by
  refine hz_ofJ (rv := (fun r : Int32 × MW => some (.int r.1))) (wo := (fun r : Int32 × MW => r.2)) (own := RX1) (ini := false) hl (by decide) rfl (Or.inr rfl) (Nat.le_of_ble_eq_true rfl) rfl ?_ h
  intro p e s m args below meth c
  unfold f_X1_firstByDeadline
  refine hz_gdr (fun ga0 => ?_)
  refine hz_bipush (pc' := 2) (v := (-2)) dX1_firstByDeadline_0 rfl (by decide) ?_
  refine hz_istore_n (pc' := 3) (L' := [(2, .int (-2)), (0, .ref (B.1 + a0)), (1, .int x1)]) dX1_firstByDeadline_2 rfl rfl (by decide) rfl ?_
  refine hz_iconst (pc' := 4) (v := 0) dX1_firstByDeadline_3 rfl (by decide) ?_
  refine hz_istore_n (pc' := 5) (L' := [(3, .int 0), (2, .int (-2)), (0, .ref (B.1 + a0)), (1, .int x1)]) dX1_firstByDeadline_4 rfl rfl (by decide) rfl ?_
  refine hz_bindJ (pcJ := 50) (LJ := fun q2 : Int32 × MW => [(2, .int q2.1)]) (stJ := fun _ => []) (kJ := 0) (slJ := 0) (nJ := 358) (wJ := fun q2 : Int32 × MW => q2.2) (fun q2 => ?_) (fun hq2 => ?_)
  · refine hz_iload_n (pc' := 51) (j := 0) dX1_firstByDeadline_50 rfl rfl rfl ?_
    exact hz_reti dX1_firstByDeadline_51 rfl (by decide)
  · refine hz_loc [2, 3, 1, 0] rfl (hz_loopJ (lp := lp_X1_firstByDeadline_5 a0 x1) (Lh := fun v1 : Int32 × Int32 × MW => [(0, .ref (B.1 + a0)), (1, .int x1), (2, .int v1.1), (3, .int v1.2.1)]) (wh := fun v1 : Int32 × Int32 × MW => v1.2.2) (fun _ => rfl) (fun Nv1 ihv1 v1 => ?_) 3000 ((-2), 0, w))
    rw [lp_X1_firstByDeadline_5]
    refine hz_iload_n (pc' := 6) (j := 3) dX1_firstByDeadline_5 rfl rfl rfl ?_
    refine hz_aload_n (pc' := 7) (j := 0) dX1_firstByDeadline_6 rfl rfl rfl ?_
    refine hz_gI (pc' := 10) fl_X1_48.r ga0 rfl dX1_firstByDeadline_7 rfl ?_
    refine hz_icmpge (pc' := 13) (tgt := 50) dX1_firstByDeadline_10 (by decide) rfl ?_ ?_
    · exact hz_loc [2] rfl (hq2 (v1.1, v1.2.2))
    · refine hz_iload_n (pc' := 14) (j := 1) dX1_firstByDeadline_13 rfl rfl rfl ?_
      refine hz_iload_n (pc' := 15) (j := 3) dX1_firstByDeadline_14 rfl rfl rfl ?_
      refine hz_cSNi (pc' := 18) (av := [.int x1, .int v1.2.1]) (rest := []) snl_X1_70 (fun x w' h => ct_X9_holds hl h) rfl rfl (Nat.le_of_ble_eq_true rfl) (by decide) (by decide) rfl dX1_firstByDeadline_15 rfl (fun v4 w3 => ?_)
      refine hz_bindJ (pcJ := 44) (LJ := fun q5 : Int32 => [(0, .ref (B.1 + a0)), (1, .int x1), (2, .int q5), (3, .int v1.2.1)]) (stJ := fun q5 : Int32 => []) (kJ := 0) (slJ := 0) (nJ := 358) (wJ := fun q5 : Int32 => w3) (fun q5 => ?_) (fun hq5 => ?_)
      · refine hz_iincN (pc' := 47) (j := 3) (fun v6 => [(3, .int v6), (0, .ref (B.1 + a0)), (1, .int x1), (2, .int q5)]) dX1_firstByDeadline_44 rfl rfl (by decide) (fun _ => rfl) (fun v6 => ?_)
        refine hz_goto (tgt := 5) dX1_firstByDeadline_47 (by decide) ?_
        exact hz_loc [1, 2, 3, 0] rfl (ihv1 (q5, v6, w3))
      · refine hz_ifeq (pc' := 21) (tgt := 44) dX1_firstByDeadline_18 (by decide) rfl ?_ ?_
        · exact hz_loc [0, 1, 2, 3] rfl (hq5 v1.1)
        · refine hz_iload_n (pc' := 22) (j := 2) dX1_firstByDeadline_21 rfl rfl rfl ?_
          refine hz_bipush (pc' := 24) (v := (-2)) dX1_firstByDeadline_22 rfl (by decide) ?_
          refine hz_icmpeq (pc' := 27) (tgt := 42) dX1_firstByDeadline_24 (by decide) rfl ?_ ?_
          · refine hz_iload_n (pc' := 43) (j := 3) dX1_firstByDeadline_42 rfl rfl rfl ?_
            refine hz_istore_n (pc' := 44) (L' := [(2, .int v1.2.1), (0, .ref (B.1 + a0)), (1, .int x1), (3, .int v1.2.1)]) dX1_firstByDeadline_43 rfl rfl (by decide) rfl ?_
            exact hz_loc [1, 2, 0, 3] rfl (hq5 v1.2.1)
          · refine hz_aload_n (pc' := 28) (j := 0) dX1_firstByDeadline_27 rfl rfl rfl ?_
            refine hz_gP (pc' := 31) (c' := 20) fl_X1_33.r ga0 rfl dX1_firstByDeadline_28 rfl (fun b7 gb7 => ?_)
            refine hz_iload_n (pc' := 32) (j := 3) dX1_firstByDeadline_31 rfl rfl rfl ?_
            refine hz_iald (pc' := 33) gb7 dX1_firstByDeadline_32 rfl (fun v8 => ?_)
            refine hz_aload_n (pc' := 34) (j := 0) dX1_firstByDeadline_33 rfl rfl rfl ?_
            refine hz_gP (pc' := 37) (c' := 20) fl_X1_33.r ga0 rfl dX1_firstByDeadline_34 rfl (fun b9 gb9 => ?_)
            refine hz_iload_n (pc' := 38) (j := 2) dX1_firstByDeadline_37 rfl rfl rfl ?_
            refine hz_iald (pc' := 39) gb9 dX1_firstByDeadline_38 rfl (fun v10 => ?_)
            refine hz_icmpge (pc' := 42) (tgt := 44) dX1_firstByDeadline_39 (by decide) rfl ?_ ?_
            · exact hz_loc [0, 1, 2, 3] rfl (hq5 v1.1)
            · refine hz_iload_n (pc' := 43) (j := 3) dX1_firstByDeadline_42 rfl rfl rfl ?_
              refine hz_istore_n (pc' := 44) (L' := [(2, .int v1.2.1), (0, .ref (B.1 + a0)), (1, .int x1), (3, .int v1.2.1)]) dX1_firstByDeadline_43 rfl rfl (by decide) rfl ?_
              exact hz_loc [1, 2, 0, 3] rfl (hq5 v1.2.1)
def lp_X1_releasedBy_5 (c0 : Nat) (c1 : Int32) (c2 : Int32) : Nat → (Int32 × Int32 × MW) → Option (Int32 × MW)
  | 0, _ => none
  | N + 1, v0 => (if (v0.2.2.1 c0 0) ≤ v0.2.1 then some (v0.1, v0.2.2) else hz_b (f_X9_holds c2 v0.2.1 v0.2.2) (fun v2 w1 => Option.bind ((if v2 = 0 then some (v0.1, w1) else hz_ldp w1 c0 7 358 20 (fun b5 => hz_lda w1 b5 v0.2.1 (fun v6 => (if c1 < v6 then some (v0.1, w1) else hz_b (f_X9_with v0.1 v0.2.1 w1) (fun v8 w7 => some (v8, w7))))))) (fun q3 : Int32 × MW => hz_let (v0.2.1 + Int32.ofInt 1) (fun v4 => lp_X1_releasedBy_5 c0 c1 c2 N (q3.1, v4, q3.2)))))
def f_X1_releasedBy (a0 : Nat) (x1 : Int32) (x2 : Int32) (w : MW) : Option (Int32 × MW) :=
  hz_gd (hz_g 358 a0 2) (Option.bind (lp_X1_releasedBy_5 a0 x1 x2 3000 (0, 0, w)) (fun q2 : Int32 × MW => some (q2.1, q2.2)))
set_option maxHeartbeats 4000000 in
set_option maxRecDepth 100000 in
theorem ct_X1_releasedBy {l : Launch} (hl : l.stackTraces = false) {B : Bt} {a0 : Nat} {x1 : Int32} {x2 : Int32} {w : MW} {r : Int32 × MW} (h : f_X1_releasedBy a0 x1 x2 w = some r) : hz_Met l B false 358 358 yX1_releasedBy cX1_releasedBy 5 (Option.some FieldType.int) 3 0 0 [.ref (B.1 + a0), .int x1, .int x2] w (some (.int r.1)) r.2 := by
  refine hz_ofJ (rv := (fun r : Int32 × MW => some (.int r.1))) (wo := (fun r : Int32 × MW => r.2)) (own := RX1) (ini := false) hl (by decide) rfl (Or.inr rfl) (Nat.le_of_ble_eq_true rfl) rfl ?_ h
  intro p e s m args below meth c
  unfold f_X1_releasedBy
  refine hz_gdr (fun ga0 => ?_)
  refine hz_iconst (pc' := 1) (v := 0) dX1_releasedBy_0 rfl (by decide) ?_
  refine hz_istore_n (pc' := 2) (L' := [(3, .int 0), (0, .ref (B.1 + a0)), (1, .int x1), (2, .int x2)]) dX1_releasedBy_1 rfl rfl (by decide) rfl ?_
  refine hz_iconst (pc' := 3) (v := 0) dX1_releasedBy_2 rfl (by decide) ?_
  refine hz_istore (pc' := 5) (L' := [(4, .int 0), (3, .int 0), (0, .ref (B.1 + a0)), (1, .int x1), (2, .int x2)]) dX1_releasedBy_3 rfl (by decide) rfl ?_
  refine hz_bindJ (pcJ := 47) (LJ := fun q2 : Int32 × MW => [(3, .int q2.1)]) (stJ := fun _ => []) (kJ := 0) (slJ := 0) (nJ := 358) (wJ := fun q2 : Int32 × MW => q2.2) (fun q2 => ?_) (fun hq2 => ?_)
  · refine hz_iload_n (pc' := 48) (j := 0) dX1_releasedBy_47 rfl rfl rfl ?_
    exact hz_reti dX1_releasedBy_48 rfl (by decide)
  · refine hz_loc [2, 3, 4, 1, 0] rfl (hz_loopJ (lp := lp_X1_releasedBy_5 a0 x1 x2) (Lh := fun v1 : Int32 × Int32 × MW => [(0, .ref (B.1 + a0)), (1, .int x1), (2, .int x2), (3, .int v1.1), (4, .int v1.2.1)]) (wh := fun v1 : Int32 × Int32 × MW => v1.2.2) (fun _ => rfl) (fun Nv1 ihv1 v1 => ?_) 3000 (0, 0, w))
    rw [lp_X1_releasedBy_5]
    refine hz_iload (pc' := 7) (j := 4) dX1_releasedBy_5 rfl rfl ?_
    refine hz_aload_n (pc' := 8) (j := 0) dX1_releasedBy_7 rfl rfl rfl ?_
    refine hz_gI (pc' := 11) fl_X1_48.r ga0 rfl dX1_releasedBy_8 rfl ?_
    refine hz_icmpge (pc' := 14) (tgt := 47) dX1_releasedBy_11 (by decide) rfl ?_ ?_
    · exact hz_loc [3] rfl (hq2 (v1.1, v1.2.2))
    · refine hz_iload_n (pc' := 15) (j := 2) dX1_releasedBy_14 rfl rfl rfl ?_
      refine hz_iload (pc' := 17) (j := 4) dX1_releasedBy_15 rfl rfl ?_
      refine hz_cSNi (pc' := 20) (av := [.int x2, .int v1.2.1]) (rest := []) snl_X1_70 (fun x w' h => ct_X9_holds hl h) rfl rfl (Nat.le_of_ble_eq_true rfl) (by decide) (by decide) rfl dX1_releasedBy_17 rfl (fun v4 w3 => ?_)
      refine hz_bindJ (pcJ := 41) (LJ := fun q5 : Int32 × MW => [(0, .ref (B.1 + a0)), (1, .int x1), (2, .int x2), (3, .int q5.1), (4, .int v1.2.1)]) (stJ := fun q5 : Int32 × MW => []) (kJ := 0) (slJ := 0) (nJ := 358) (wJ := fun q5 : Int32 × MW => q5.2) (fun q5 => ?_) (fun hq5 => ?_)
      · refine hz_iincN (pc' := 44) (j := 4) (fun v6 => [(4, .int v6), (0, .ref (B.1 + a0)), (1, .int x1), (2, .int x2), (3, .int q5.1)]) dX1_releasedBy_41 rfl rfl (by decide) (fun _ => rfl) (fun v6 => ?_)
        refine hz_goto (tgt := 5) dX1_releasedBy_44 (by decide) ?_
        exact hz_loc [1, 2, 3, 4, 0] rfl (ihv1 (q5.1, v6, q5.2))
      · refine hz_ifeq (pc' := 23) (tgt := 41) dX1_releasedBy_20 (by decide) rfl ?_ ?_
        · exact hz_loc [0, 1, 2, 3, 4] rfl (hq5 (v1.1, w3))
        · refine hz_aload_n (pc' := 24) (j := 0) dX1_releasedBy_23 rfl rfl rfl ?_
          refine hz_gP (pc' := 27) (c' := 20) fl_X1_24.r ga0 rfl dX1_releasedBy_24 rfl (fun b7 gb7 => ?_)
          refine hz_iload (pc' := 29) (j := 4) dX1_releasedBy_27 rfl rfl ?_
          refine hz_iald (pc' := 30) gb7 dX1_releasedBy_29 rfl (fun v8 => ?_)
          refine hz_iload_n (pc' := 31) (j := 1) dX1_releasedBy_30 rfl rfl rfl ?_
          refine hz_icmpgt (pc' := 34) (tgt := 41) dX1_releasedBy_31 (by decide) rfl ?_ ?_
          · exact hz_loc [0, 1, 2, 3, 4] rfl (hq5 (v1.1, w3))
          · refine hz_iload_n (pc' := 35) (j := 3) dX1_releasedBy_34 rfl rfl rfl ?_
            refine hz_iload (pc' := 37) (j := 4) dX1_releasedBy_35 rfl rfl ?_
            refine hz_cSNi (pc' := 40) (av := [.int v1.1, .int v1.2.1]) (rest := []) snl_X1_62 (fun x w' h => ct_X9_with hl h) rfl rfl (Nat.le_of_ble_eq_true rfl) (by decide) (by decide) rfl dX1_releasedBy_37 rfl (fun v10 w9 => ?_)
            refine hz_istore_n (pc' := 41) (L' := [(3, .int v10), (0, .ref (B.1 + a0)), (1, .int x1), (2, .int x2), (4, .int v1.2.1)]) dX1_releasedBy_40 rfl rfl (by decide) rfl ?_
            exact hz_loc [1, 2, 3, 0, 4] rfl (hq5 (v10, w9))
def lp_X1_leastSlackEnd_5 (c0 : Nat) (c1 : Int32) : Nat → (Int32 × Int32 × MW) → Option (Int32 × MW)
  | 0, _ => none
  | N + 1, v0 => (if (v0.2.2.1 c0 0) ≤ v0.2.1 then some (v0.1, v0.2.2) else hz_b (f_X9_holds c1 v0.2.1 v0.2.2) (fun v2 w1 => Option.bind ((if v2 = 0 then some v0.1 else hz_ldp w1 c0 7 358 20 (fun b5 => hz_lda w1 b5 v0.2.1 (fun v6 => hz_ldp w1 c0 8 358 20 (fun b7 => hz_lda w1 b7 v0.2.1 (fun v8 => hz_let (if (v6 + v8) < v0.1 then (v6 + v8) else v0.1) (fun v9 => some v9))))))) (fun q3 : Int32 => hz_let (v0.2.1 + Int32.ofInt 1) (fun v4 => lp_X1_leastSlackEnd_5 c0 c1 N (q3, v4, w1)))))
def f_X1_leastSlackEnd (a0 : Nat) (x1 : Int32) (w : MW) : Option (Int32 × MW) :=
  hz_gd (hz_g 358 a0 2) (Option.bind (lp_X1_leastSlackEnd_5 a0 x1 3000 (2147483647, 0, w)) (fun q2 : Int32 × MW => some (q2.1, q2.2)))
set_option maxHeartbeats 4000000 in
set_option maxRecDepth 100000 in
theorem ct_X1_leastSlackEnd {l : Launch} (hl : l.stackTraces = false) {B : Bt} {a0 : Nat} {x1 : Int32} {w : MW} {r : Int32 × MW} (h : f_X1_leastSlackEnd a0 x1 w = some r) : hz_Met l B false 358 358 yX1_leastSlackEnd cX1_leastSlackEnd 4 (Option.some FieldType.int) 3 0 0 [.ref (B.1 + a0), .int x1] w (some (.int r.1)) r.2 := by
  refine hz_ofJ (rv := (fun r : Int32 × MW => some (.int r.1))) (wo := (fun r : Int32 × MW => r.2)) (own := RX1) (ini := false) hl (by decide) rfl (Or.inr rfl) (Nat.le_of_ble_eq_true rfl) rfl ?_ h
  intro p e s m args below meth c
  unfold f_X1_leastSlackEnd
  refine hz_gdr (fun ga0 => ?_)
  refine hz_ldc (pc' := 2) (v := 2147483647) dX1_leastSlackEnd_0 rfl hq_792 ?_
  refine hz_istore_n (pc' := 3) (L' := [(2, .int 2147483647), (0, .ref (B.1 + a0)), (1, .int x1)]) dX1_leastSlackEnd_2 rfl rfl (by decide) rfl ?_
  refine hz_iconst (pc' := 4) (v := 0) dX1_leastSlackEnd_3 rfl (by decide) ?_
  refine hz_istore_n (pc' := 5) (L' := [(3, .int 0), (2, .int 2147483647), (0, .ref (B.1 + a0)), (1, .int x1)]) dX1_leastSlackEnd_4 rfl rfl (by decide) rfl ?_
  refine hz_bindJ (pcJ := 45) (LJ := fun q2 : Int32 × MW => [(2, .int q2.1)]) (stJ := fun _ => []) (kJ := 0) (slJ := 0) (nJ := 358) (wJ := fun q2 : Int32 × MW => q2.2) (fun q2 => ?_) (fun hq2 => ?_)
  · refine hz_iload_n (pc' := 46) (j := 0) dX1_leastSlackEnd_45 rfl rfl rfl ?_
    exact hz_reti dX1_leastSlackEnd_46 rfl (by decide)
  · refine hz_loc [2, 3, 1, 0] rfl (hz_loopJ (lp := lp_X1_leastSlackEnd_5 a0 x1) (Lh := fun v1 : Int32 × Int32 × MW => [(0, .ref (B.1 + a0)), (1, .int x1), (2, .int v1.1), (3, .int v1.2.1)]) (wh := fun v1 : Int32 × Int32 × MW => v1.2.2) (fun _ => rfl) (fun Nv1 ihv1 v1 => ?_) 3000 (2147483647, 0, w))
    rw [lp_X1_leastSlackEnd_5]
    refine hz_iload_n (pc' := 6) (j := 3) dX1_leastSlackEnd_5 rfl rfl rfl ?_
    refine hz_aload_n (pc' := 7) (j := 0) dX1_leastSlackEnd_6 rfl rfl rfl ?_
    refine hz_gI (pc' := 10) fl_X1_48.r ga0 rfl dX1_leastSlackEnd_7 rfl ?_
    refine hz_icmpge (pc' := 13) (tgt := 45) dX1_leastSlackEnd_10 (by decide) rfl ?_ ?_
    · exact hz_loc [2] rfl (hq2 (v1.1, v1.2.2))
    · refine hz_iload_n (pc' := 14) (j := 1) dX1_leastSlackEnd_13 rfl rfl rfl ?_
      refine hz_iload_n (pc' := 15) (j := 3) dX1_leastSlackEnd_14 rfl rfl rfl ?_
      refine hz_cSNi (pc' := 18) (av := [.int x1, .int v1.2.1]) (rest := []) snl_X1_70 (fun x w' h => ct_X9_holds hl h) rfl rfl (Nat.le_of_ble_eq_true rfl) (by decide) (by decide) rfl dX1_leastSlackEnd_15 rfl (fun v4 w3 => ?_)
      refine hz_bindJ (pcJ := 39) (LJ := fun q5 : Int32 => [(0, .ref (B.1 + a0)), (1, .int x1), (2, .int q5), (3, .int v1.2.1)]) (stJ := fun q5 : Int32 => []) (kJ := 0) (slJ := 0) (nJ := 358) (wJ := fun q5 : Int32 => w3) (fun q5 => ?_) (fun hq5 => ?_)
      · refine hz_iincN (pc' := 42) (j := 3) (fun v6 => [(3, .int v6), (0, .ref (B.1 + a0)), (1, .int x1), (2, .int q5)]) dX1_leastSlackEnd_39 rfl rfl (by decide) (fun _ => rfl) (fun v6 => ?_)
        refine hz_goto (tgt := 5) dX1_leastSlackEnd_42 (by decide) ?_
        exact hz_loc [1, 2, 3, 0] rfl (ihv1 (q5, v6, w3))
      · refine hz_ifeq (pc' := 21) (tgt := 39) dX1_leastSlackEnd_18 (by decide) rfl ?_ ?_
        · exact hz_loc [0, 1, 2, 3] rfl (hq5 v1.1)
        · refine hz_iload_n (pc' := 22) (j := 2) dX1_leastSlackEnd_21 rfl rfl rfl ?_
          refine hz_aload_n (pc' := 23) (j := 0) dX1_leastSlackEnd_22 rfl rfl rfl ?_
          refine hz_gP (pc' := 26) (c' := 20) fl_X1_24.r ga0 rfl dX1_leastSlackEnd_23 rfl (fun b7 gb7 => ?_)
          refine hz_iload_n (pc' := 27) (j := 3) dX1_leastSlackEnd_26 rfl rfl rfl ?_
          refine hz_iald (pc' := 28) gb7 dX1_leastSlackEnd_27 rfl (fun v8 => ?_)
          refine hz_aload_n (pc' := 29) (j := 0) dX1_leastSlackEnd_28 rfl rfl rfl ?_
          refine hz_gP (pc' := 32) (c' := 20) fl_X1_27.r ga0 rfl dX1_leastSlackEnd_29 rfl (fun b9 gb9 => ?_)
          refine hz_iload_n (pc' := 33) (j := 3) dX1_leastSlackEnd_32 rfl rfl rfl ?_
          refine hz_iald (pc' := 34) gb9 dX1_leastSlackEnd_33 rfl (fun v10 => ?_)
          refine hz_iadd (pc' := 35) dX1_leastSlackEnd_34 rfl ?_
          refine hz_mmin (pc' := 38) hq_793 hq_422 hq_17 hq_423 ⟨Nat.le_of_ble_eq_true rfl, Nat.le_of_ble_eq_true rfl⟩ (by decide) dX1_leastSlackEnd_35 rfl ?_
          refine hz_nameI (fun v11 => ?_)
          refine hz_istore_n (pc' := 39) (L' := [(2, .int v11), (0, .ref (B.1 + a0)), (1, .int x1), (3, .int v1.2.1)]) dX1_leastSlackEnd_38 rfl rfl (by decide) rfl ?_
          exact hz_loc [1, 2, 0, 3] rfl (hq5 v11)
def f_X9_without (x0 : Int32) (x1 : Int32) (w : MW) : Option (Int32 × MW) :=
  some ((x0 &&& (((1 : Int32) <<< (x1 &&& 31)) ^^^ (-1))), w)
set_option maxHeartbeats 4000000 in
set_option maxRecDepth 100000 in
theorem ct_X9_without {l : Launch} (hl : l.stackTraces = false) {B : Bt} {x0 : Int32} {x1 : Int32} {w : MW} {r : Int32 × MW} (h : f_X9_without x0 x1 w = some r) : hz_Met l B false 358 358 yX9_without cX9_without 2 (Option.some FieldType.int) 2 0 0 [.int x0, .int x1] w (some (.int r.1)) r.2 := by
  refine hz_ofJ (rv := (fun r : Int32 × MW => some (.int r.1))) (wo := (fun r : Int32 × MW => r.2)) (own := RX9) (ini := false) hl (by decide) rfl (Or.inr rfl) (Nat.le_of_ble_eq_true rfl) rfl ?_ h
  intro p e s m args below meth c
  unfold f_X9_without
  refine hz_iload_n (pc' := 1) (j := 0) dX9_without_0 rfl rfl rfl ?_
  refine hz_iconst (pc' := 2) (v := 1) dX9_without_1 rfl (by decide) ?_
  refine hz_iload_n (pc' := 3) (j := 1) dX9_without_2 rfl rfl rfl ?_
  refine hz_ishl (pc' := 4) dX9_without_3 rfl ?_
  refine hz_iconst (pc' := 5) (v := (-1)) dX9_without_4 rfl (by decide) ?_
  refine hz_ixor (pc' := 6) dX9_without_5 rfl ?_
  refine hz_iand (pc' := 7) dX9_without_6 rfl ?_
  exact hz_reti dX9_without_7 rfl (by decide)
def f_X1_cancel (a0 : Nat) (x1 : Int32) (w : MW) : Option (MW) :=
  hz_gd (hz_g 358 a0 2) (hz_ldp w a0 5 358 20 (fun b1 => hz_lda w b1 x1 (fun v2 => hz_ldp w a0 3 358 20 (fun b3 => hz_ldp w a0 3 358 20 (fun b4 => hz_lda w b4 v2 (fun v5 => hz_b (f_X9_without v5 x1 w) (fun v7 w6 => hz_sta w6 b3 v2 v7 (fun w8 => hz_ldp w8 a0 4 358 20 (fun b9 => hz_ldp w8 a0 4 358 20 (fun b10 => hz_lda w8 b10 v2 (fun v11 => hz_b (f_X9_without v11 x1 w8) (fun v13 w12 => hz_sta w12 b9 v2 v13 (fun w14 => hz_b (f_X9_with (w14.1 a0 2) x1 w14) (fun v16 w15 => hz_let (hz_pn w15 a0 2 v16) (fun w17 => some w17)))))))))))))))
set_option maxHeartbeats 4000000 in
set_option maxRecDepth 100000 in
theorem ct_X1_cancel {l : Launch} (hl : l.stackTraces = false) {B : Bt} {a0 : Nat} {x1 : Int32} {w : MW} {r : MW} (h : f_X1_cancel a0 x1 w = some r) : hz_Met l B false 358 358 yX1_cancel cX1_cancel 3 (Option.none : Option FieldType) 3 0 0 [.ref (B.1 + a0), .int x1] w none r := by
  refine hz_ofJ (rv := (fun _ : MW => none)) (wo := (fun r : MW => r)) (own := RX1) (ini := false) hl (by decide) rfl (Or.inr rfl) (Nat.le_of_ble_eq_true rfl) rfl ?_ h
  intro p e s m args below meth c
  unfold f_X1_cancel
  refine hz_gdr (fun ga0 => ?_)
  refine hz_aload_n (pc' := 1) (j := 0) dX1_cancel_0 rfl rfl rfl ?_
  refine hz_gP (pc' := 4) (c' := 20) fl_X1_18.r ga0 rfl dX1_cancel_1 rfl (fun b1 gb1 => ?_)
  refine hz_iload_n (pc' := 5) (j := 1) dX1_cancel_4 rfl rfl rfl ?_
  refine hz_iald (pc' := 6) gb1 dX1_cancel_5 rfl (fun v2 => ?_)
  refine hz_istore_n (pc' := 7) (L' := [(2, .int v2), (0, .ref (B.1 + a0)), (1, .int x1)]) dX1_cancel_6 rfl rfl (by decide) rfl ?_
  refine hz_aload_n (pc' := 8) (j := 1) dX1_cancel_7 rfl rfl rfl ?_
  refine hz_gP (pc' := 11) (c' := 20) fl_X1_9.r ga0 rfl dX1_cancel_8 rfl (fun b3 gb3 => ?_)
  refine hz_iload_n (pc' := 12) (j := 0) dX1_cancel_11 rfl rfl rfl ?_
  refine hz_aload_n (pc' := 13) (j := 1) dX1_cancel_12 rfl rfl rfl ?_
  refine hz_gP (pc' := 16) (c' := 20) fl_X1_9.r ga0 rfl dX1_cancel_13 rfl (fun b4 gb4 => ?_)
  refine hz_iload_n (pc' := 17) (j := 0) dX1_cancel_16 rfl rfl rfl ?_
  refine hz_iald (pc' := 18) gb4 dX1_cancel_17 rfl (fun v5 => ?_)
  refine hz_iload_n (pc' := 19) (j := 2) dX1_cancel_18 rfl rfl rfl ?_
  refine hz_cSNi (pc' := 22) (av := [.int v5, .int x1]) (rest := [.int v2, .ref (B.1 + b3)]) snl_X1_87 (fun x w' h => ct_X9_without hl h) rfl rfl (Nat.le_of_ble_eq_true rfl) (by decide) (by decide) rfl dX1_cancel_19 rfl (fun v7 w6 => ?_)
  refine hz_iast (pc' := 23) gb3 dX1_cancel_22 rfl (fun w8 => ?_)
  refine hz_aload_n (pc' := 24) (j := 1) dX1_cancel_23 rfl rfl rfl ?_
  refine hz_gP (pc' := 27) (c' := 20) fl_X1_15.r ga0 rfl dX1_cancel_24 rfl (fun b9 gb9 => ?_)
  refine hz_iload_n (pc' := 28) (j := 0) dX1_cancel_27 rfl rfl rfl ?_
  refine hz_aload_n (pc' := 29) (j := 1) dX1_cancel_28 rfl rfl rfl ?_
  refine hz_gP (pc' := 32) (c' := 20) fl_X1_15.r ga0 rfl dX1_cancel_29 rfl (fun b10 gb10 => ?_)
  refine hz_iload_n (pc' := 33) (j := 0) dX1_cancel_32 rfl rfl rfl ?_
  refine hz_iald (pc' := 34) gb10 dX1_cancel_33 rfl (fun v11 => ?_)
  refine hz_iload_n (pc' := 35) (j := 2) dX1_cancel_34 rfl rfl rfl ?_
  refine hz_cSNi (pc' := 38) (av := [.int v11, .int x1]) (rest := [.int v2, .ref (B.1 + b9)]) snl_X1_87 (fun x w' h => ct_X9_without hl h) rfl rfl (Nat.le_of_ble_eq_true rfl) (by decide) (by decide) rfl dX1_cancel_35 rfl (fun v13 w12 => ?_)
  refine hz_iast (pc' := 39) gb9 dX1_cancel_38 rfl (fun w14 => ?_)
  refine hz_aload_n (pc' := 40) (j := 1) dX1_cancel_39 rfl rfl rfl ?_
  refine hz_aload_n (pc' := 41) (j := 1) dX1_cancel_40 rfl rfl rfl ?_
  refine hz_gI (pc' := 44) fl_X1_55.r ga0 rfl dX1_cancel_41 rfl ?_
  refine hz_iload_n (pc' := 45) (j := 2) dX1_cancel_44 rfl rfl rfl ?_
  refine hz_cSNi (pc' := 48) (av := [.int (w14.1 a0 2), .int x1]) (rest := [.ref (B.1 + a0)]) snl_X1_62 (fun x w' h => ct_X9_with hl h) rfl rfl (Nat.le_of_ble_eq_true rfl) (by decide) (by decide) rfl dX1_cancel_45 rfl (fun v16 w15 => ?_)
  refine hz_putI (pc' := 51) fl_X1_55 ga0 rfl dX1_cancel_48 rfl (fun w17 => ?_)
  exact hz_retv dX1_cancel_51 rfl (by decide)
def f_X1_finish (a0 : Nat) (x1 : Int32) (x2 : Int32) (w : MW) : Option (MW) :=
  hz_gd (hz_g 358 a0 2) (hz_ldp w a0 6 358 20 (fun b1 => hz_lda w b1 x1 (fun v2 => hz_ldp w a0 11 358 20 (fun b3 => hz_sta w b3 x1 0 (fun w4 => hz_ldp w4 a0 12 358 20 (fun b5 => hz_sta w4 b5 x1 x2 (fun w6 => hz_b (f_X9_with (w6.1 a0 1) x1 w6) (fun v8 w7 => hz_let (hz_pn w7 a0 1 v8) (fun w9 => hz_ldp w9 a0 14 358 20 (fun b10 => hz_lda w9 b10 v2 (fun v11 => Option.bind ((if v11 = 0 then hz_ldp w9 a0 13 358 20 (fun b24 => hz_ldp w9 a0 9 358 20 (fun b25 => hz_lda w9 b25 x1 (fun v26 => hz_sta w9 b24 v2 v26 (fun w27 => some w27)))) else hz_ldp w9 a0 13 358 20 (fun b16 => hz_lda w9 b16 v2 (fun v17 => hz_ldp w9 a0 9 358 20 (fun b18 => hz_lda w9 b18 x1 (fun v19 => hz_ldp w9 a0 13 358 20 (fun b20 => hz_lda w9 b20 v2 (fun v21 => hz_cdiv (v19 - v21) 4 (fun v22 => hz_sta w9 b16 v2 (v17 + v22) (fun w23 => some w23)))))))))) (fun q12 : MW => hz_ldp q12 a0 14 358 20 (fun b13 => hz_lda q12 b13 v2 (fun v14 => hz_sta q12 b13 v2 (v14 + 1) (fun w15 => some w15)))))))))))))))
set_option maxHeartbeats 4000000 in
set_option maxRecDepth 100000 in
theorem ct_X1_finish {l : Launch} (hl : l.stackTraces = false) {B : Bt} {a0 : Nat} {x1 : Int32} {x2 : Int32} {w : MW} {r : MW} (h : f_X1_finish a0 x1 x2 w = some r) : hz_Met l B false 358 358 yX1_finish cX1_finish 4 (Option.none : Option FieldType) 3 0 0 [.ref (B.1 + a0), .int x1, .int x2] w none r := by
  refine hz_ofJ (rv := (fun _ : MW => none)) (wo := (fun r : MW => r)) (own := RX1) (ini := false) hl (by decide) rfl (Or.inr rfl) (Nat.le_of_ble_eq_true rfl) rfl ?_ h
  intro p e s m args below meth c
  unfold f_X1_finish
  refine hz_gdr (fun ga0 => ?_)
  refine hz_aload_n (pc' := 1) (j := 0) dX1_finish_0 rfl rfl rfl ?_
  refine hz_gP (pc' := 4) (c' := 20) fl_X1_21.r ga0 rfl dX1_finish_1 rfl (fun b1 gb1 => ?_)
  refine hz_iload_n (pc' := 5) (j := 1) dX1_finish_4 rfl rfl rfl ?_
  refine hz_iald (pc' := 6) gb1 dX1_finish_5 rfl (fun v2 => ?_)
  refine hz_istore_n (pc' := 7) (L' := [(3, .int v2), (0, .ref (B.1 + a0)), (1, .int x1), (2, .int x2)]) dX1_finish_6 rfl rfl (by decide) rfl ?_
  refine hz_aload_n (pc' := 8) (j := 1) dX1_finish_7 rfl rfl rfl ?_
  refine hz_gP (pc' := 11) (c' := 20) fl_X1_36.r ga0 rfl dX1_finish_8 rfl (fun b3 gb3 => ?_)
  refine hz_iload_n (pc' := 12) (j := 2) dX1_finish_11 rfl rfl rfl ?_
  refine hz_iconst (pc' := 13) (v := 0) dX1_finish_12 rfl (by decide) ?_
  refine hz_iast (pc' := 14) gb3 dX1_finish_13 rfl (fun w4 => ?_)
  refine hz_aload_n (pc' := 15) (j := 1) dX1_finish_14 rfl rfl rfl ?_
  refine hz_gP (pc' := 18) (c' := 20) fl_X1_39.r ga0 rfl dX1_finish_15 rfl (fun b5 gb5 => ?_)
  refine hz_iload_n (pc' := 19) (j := 2) dX1_finish_18 rfl rfl rfl ?_
  refine hz_iload_n (pc' := 20) (j := 3) dX1_finish_19 rfl rfl rfl ?_
  refine hz_iast (pc' := 21) gb5 dX1_finish_20 rfl (fun w6 => ?_)
  refine hz_aload_n (pc' := 22) (j := 1) dX1_finish_21 rfl rfl rfl ?_
  refine hz_aload_n (pc' := 23) (j := 1) dX1_finish_22 rfl rfl rfl ?_
  refine hz_gI (pc' := 26) fl_X1_52.r ga0 rfl dX1_finish_23 rfl ?_
  refine hz_iload_n (pc' := 27) (j := 2) dX1_finish_26 rfl rfl rfl ?_
  refine hz_cSNi (pc' := 30) (av := [.int (w6.1 a0 1), .int x1]) (rest := [.ref (B.1 + a0)]) snl_X1_62 (fun x w' h => ct_X9_with hl h) rfl rfl (Nat.le_of_ble_eq_true rfl) (by decide) (by decide) rfl dX1_finish_27 rfl (fun v8 w7 => ?_)
  refine hz_putI (pc' := 33) fl_X1_52 ga0 rfl dX1_finish_30 rfl (fun w9 => ?_)
  refine hz_aload_n (pc' := 34) (j := 1) dX1_finish_33 rfl rfl rfl ?_
  refine hz_gP (pc' := 37) (c' := 20) fl_X1_45.r ga0 rfl dX1_finish_34 rfl (fun b10 gb10 => ?_)
  refine hz_iload_n (pc' := 38) (j := 0) dX1_finish_37 rfl rfl rfl ?_
  refine hz_iald (pc' := 39) gb10 dX1_finish_38 rfl (fun v11 => ?_)
  refine hz_bindJ (pcJ := 81) (LJ := fun q12 : MW => [(0, .ref (B.1 + a0)), (3, .int v2)]) (stJ := fun q12 : MW => []) (kJ := 0) (slJ := 0) (nJ := 358) (wJ := fun q12 : MW => q12) (fun q12 => ?_) (fun hq12 => ?_)
  · refine hz_aload_n (pc' := 82) (j := 0) dX1_finish_81 rfl rfl rfl ?_
    refine hz_gP (pc' := 85) (c' := 20) fl_X1_45.r ga0 rfl dX1_finish_82 rfl (fun b13 gb13 => ?_)
    refine hz_iload_n (pc' := 86) (j := 1) dX1_finish_85 rfl rfl rfl ?_
    refine hz_dup2 (pc' := 87) dX1_finish_86 rfl rfl rfl ?_
    refine hz_iald (pc' := 88) gb13 dX1_finish_87 rfl (fun v14 => ?_)
    refine hz_iconst (pc' := 89) (v := 1) dX1_finish_88 rfl (by decide) ?_
    refine hz_iadd (pc' := 90) dX1_finish_89 rfl ?_
    refine hz_iast (pc' := 91) gb13 dX1_finish_90 rfl (fun w15 => ?_)
    exact hz_retv dX1_finish_91 rfl (by decide)
  · refine hz_ifne (pc' := 42) (tgt := 57) dX1_finish_39 (by decide) rfl ?_ ?_
    · refine hz_aload_n (pc' := 58) (j := 1) dX1_finish_57 rfl rfl rfl ?_
      refine hz_gP (pc' := 61) (c' := 20) fl_X1_42.r ga0 rfl dX1_finish_58 rfl (fun b16 gb16 => ?_)
      refine hz_iload_n (pc' := 62) (j := 0) dX1_finish_61 rfl rfl rfl ?_
      refine hz_dup2 (pc' := 63) dX1_finish_62 rfl rfl rfl ?_
      refine hz_iald (pc' := 64) gb16 dX1_finish_63 rfl (fun v17 => ?_)
      refine hz_aload_n (pc' := 65) (j := 1) dX1_finish_64 rfl rfl rfl ?_
      refine hz_gP (pc' := 68) (c' := 20) fl_X1_30.r ga0 rfl dX1_finish_65 rfl (fun b18 gb18 => ?_)
      refine hz_iload_n (pc' := 69) (j := 2) dX1_finish_68 rfl rfl rfl ?_
      refine hz_iald (pc' := 70) gb18 dX1_finish_69 rfl (fun v19 => ?_)
      refine hz_aload_n (pc' := 71) (j := 1) dX1_finish_70 rfl rfl rfl ?_
      refine hz_gP (pc' := 74) (c' := 20) fl_X1_42.r ga0 rfl dX1_finish_71 rfl (fun b20 gb20 => ?_)
      refine hz_iload_n (pc' := 75) (j := 0) dX1_finish_74 rfl rfl rfl ?_
      refine hz_iald (pc' := 76) gb20 dX1_finish_75 rfl (fun v21 => ?_)
      refine hz_isub (pc' := 77) dX1_finish_76 rfl ?_
      refine hz_iconst (pc' := 78) (v := 4) dX1_finish_77 rfl (by decide) ?_
      refine hz_idiv (pc' := 79) dX1_finish_78 rfl (fun v22 => ?_)
      refine hz_iadd (pc' := 80) dX1_finish_79 rfl ?_
      refine hz_iast (pc' := 81) gb16 dX1_finish_80 rfl (fun w23 => ?_)
      exact hz_loc [1, 0] rfl (hq12 w23)
    · refine hz_aload_n (pc' := 43) (j := 1) dX1_finish_42 rfl rfl rfl ?_
      refine hz_gP (pc' := 46) (c' := 20) fl_X1_42.r ga0 rfl dX1_finish_43 rfl (fun b24 gb24 => ?_)
      refine hz_iload_n (pc' := 47) (j := 0) dX1_finish_46 rfl rfl rfl ?_
      refine hz_aload_n (pc' := 48) (j := 1) dX1_finish_47 rfl rfl rfl ?_
      refine hz_gP (pc' := 51) (c' := 20) fl_X1_30.r ga0 rfl dX1_finish_48 rfl (fun b25 gb25 => ?_)
      refine hz_iload_n (pc' := 52) (j := 2) dX1_finish_51 rfl rfl rfl ?_
      refine hz_iald (pc' := 53) gb25 dX1_finish_52 rfl (fun v26 => ?_)
      refine hz_iast (pc' := 54) gb24 dX1_finish_53 rfl (fun w27 => ?_)
      refine hz_goto (tgt := 81) dX1_finish_54 (by decide) ?_
      exact hz_loc [1, 0] rfl (hq12 w27)
def f_X2_init (a0 : Nat) (n0 : Nat) (w : MW) : Option (MW) :=
  hz_gd (hz_g n0 a0 3) (hz_gd (hz_ga n0 20 4) (hz_let (hz_fr w n0) (fun w1 => hz_let (hz_pp w1 a0 2 (some n0)) (fun w4 => hz_gd (hz_ga (n0 + 1) 20 4) (hz_let (hz_fr w4 (n0 + 1)) (fun w5 => hz_let (hz_pp w5 a0 3 (some (n0 + 1))) (fun w8 => hz_gd (hz_ga (n0 + 2) 20 4) (hz_let (hz_fr w8 (n0 + 2)) (fun w9 => hz_let (hz_pp w9 a0 4 (some (n0 + 2))) (fun w12 => hz_gd (hz_ga (n0 + 3) 20 4) (hz_let (hz_fr w12 (n0 + 3)) (fun w13 => hz_let (hz_pp w13 a0 5 (some (n0 + 3))) (fun w16 => hz_gd (hz_ga (n0 + 4) 20 4) (hz_let (hz_fr w16 (n0 + 4)) (fun w17 => hz_let (hz_pp w17 a0 6 (some (n0 + 4))) (fun w20 => hz_gd (hz_ga (n0 + 5) 20 4) (hz_let (hz_fr w20 (n0 + 5)) (fun w21 => hz_let (hz_pp w21 a0 7 (some (n0 + 5))) (fun w24 => hz_gd (hz_ga (n0 + 6) 20 4) (hz_let (hz_fr w24 (n0 + 6)) (fun w25 => hz_let (hz_pp w25 a0 8 (some (n0 + 6))) (fun w28 => hz_gd (hz_ga (n0 + 7) 20 4) (hz_let (hz_fr w28 (n0 + 7)) (fun w29 => hz_let (hz_pp w29 a0 9 (some (n0 + 7))) (fun w32 => hz_gd (hz_ga (n0 + 8) 20 4) (hz_let (hz_fr w32 (n0 + 8)) (fun w33 => hz_let (hz_pp w33 a0 10 (some (n0 + 8))) (fun w36 => hz_gd (hz_ga (n0 + 9) 20 20) (hz_let (hz_fr w36 (n0 + 9)) (fun w37 => hz_let (hz_pp w37 a0 11 (some (n0 + 9))) (fun w40 => hz_gd (hz_ga (n0 + 10) 20 20) (hz_let (hz_fr w40 (n0 + 10)) (fun w41 => hz_let (hz_pp w41 a0 12 (some (n0 + 10))) (fun w44 => some w44))))))))))))))))))))))))))))))))))
set_option maxHeartbeats 4000000 in
set_option maxRecDepth 100000 in
theorem ct_X2_init {l : Launch} (hl : l.stackTraces = false) {B : Bt} {a0 : Nat} {n0 : Nat} {w : MW} {r : MW} (h : f_X2_init a0 n0 w = some r) : hz_Met l B true n0 (n0 + 11) yX2_init cX2_init 1 (Option.none : Option FieldType) 2 11 76 [.ref (B.1 + a0)] w none r := by
  refine hz_ofJ (rv := (fun _ : MW => none)) (wo := (fun r : MW => r)) (own := RX2) (ini := true) hl (by decide) rfl (Or.inl rfl) (Nat.le_of_ble_eq_true rfl) rfl ?_ h
  intro p e s m args below meth c
  unfold f_X2_init
  refine hz_gdr (fun ga0 => ?_)
  refine hz_aload_n (pc' := 1) (j := 0) dX2_init_0 rfl rfl rfl ?_
  refine hz_objinit (pc' := 4) hq_61 hq_32 hq_33 ⟨Nat.le_of_ble_eq_true rfl, Nat.le_of_ble_eq_true rfl⟩ dX2_init_1 rfl ?_
  refine hz_aload_n (pc' := 5) (j := 0) dX2_init_4 rfl rfl rfl ?_
  refine hz_iconst (pc' := 6) (v := 4) dX2_init_5 rfl (by decide) ?_
  refine hz_newai (pc' := 8) (N := 4) hq_136 rfl (by decide) (by decide) (by decide) ⟨by omega, by omega⟩ dX2_init_6 rfl (fun w1 g2 => ?_)
  have g3 := hz_g_up (n' := n0 + 1) ga0 (by omega)
  refine hz_putP (pc' := 11) fl_X2_9 rfl g3 rfl rfl rfl dX2_init_8 rfl (fun w4 => ?_)
  refine hz_aload_n (pc' := 12) (j := 0) dX2_init_11 rfl rfl rfl ?_
  refine hz_iconst (pc' := 13) (v := 4) dX2_init_12 rfl (by decide) ?_
  refine hz_newai (pc' := 15) (N := 4) hq_136 rfl (by decide) (by decide) (by decide) ⟨by omega, by omega⟩ dX2_init_13 rfl (fun w5 g6 => ?_)
  have g7 := hz_g_up (n' := n0 + 2) g3 (by omega)
  refine hz_putP (pc' := 18) fl_X2_15 rfl g7 rfl rfl rfl dX2_init_15 rfl (fun w8 => ?_)
  refine hz_aload_n (pc' := 19) (j := 0) dX2_init_18 rfl rfl rfl ?_
  refine hz_iconst (pc' := 20) (v := 4) dX2_init_19 rfl (by decide) ?_
  refine hz_newai (pc' := 22) (N := 4) hq_136 rfl (by decide) (by decide) (by decide) ⟨by omega, by omega⟩ dX2_init_20 rfl (fun w9 g10 => ?_)
  have g11 := hz_g_up (n' := n0 + 3) g7 (by omega)
  refine hz_putP (pc' := 25) fl_X2_18 rfl g11 rfl rfl rfl dX2_init_22 rfl (fun w12 => ?_)
  refine hz_aload_n (pc' := 26) (j := 0) dX2_init_25 rfl rfl rfl ?_
  refine hz_iconst (pc' := 27) (v := 4) dX2_init_26 rfl (by decide) ?_
  refine hz_newai (pc' := 29) (N := 4) hq_136 rfl (by decide) (by decide) (by decide) ⟨by omega, by omega⟩ dX2_init_27 rfl (fun w13 g14 => ?_)
  have g15 := hz_g_up (n' := n0 + 4) g11 (by omega)
  refine hz_putP (pc' := 32) fl_X2_21 rfl g15 rfl rfl rfl dX2_init_29 rfl (fun w16 => ?_)
  refine hz_aload_n (pc' := 33) (j := 0) dX2_init_32 rfl rfl rfl ?_
  refine hz_iconst (pc' := 34) (v := 4) dX2_init_33 rfl (by decide) ?_
  refine hz_newai (pc' := 36) (N := 4) hq_136 rfl (by decide) (by decide) (by decide) ⟨by omega, by omega⟩ dX2_init_34 rfl (fun w17 g18 => ?_)
  have g19 := hz_g_up (n' := n0 + 5) g15 (by omega)
  refine hz_putP (pc' := 39) fl_X2_24 rfl g19 rfl rfl rfl dX2_init_36 rfl (fun w20 => ?_)
  refine hz_aload_n (pc' := 40) (j := 0) dX2_init_39 rfl rfl rfl ?_
  refine hz_iconst (pc' := 41) (v := 4) dX2_init_40 rfl (by decide) ?_
  refine hz_newai (pc' := 43) (N := 4) hq_136 rfl (by decide) (by decide) (by decide) ⟨by omega, by omega⟩ dX2_init_41 rfl (fun w21 g22 => ?_)
  have g23 := hz_g_up (n' := n0 + 6) g19 (by omega)
  refine hz_putP (pc' := 46) fl_X2_27 rfl g23 rfl rfl rfl dX2_init_43 rfl (fun w24 => ?_)
  refine hz_aload_n (pc' := 47) (j := 0) dX2_init_46 rfl rfl rfl ?_
  refine hz_iconst (pc' := 48) (v := 4) dX2_init_47 rfl (by decide) ?_
  refine hz_newai (pc' := 50) (N := 4) hq_136 rfl (by decide) (by decide) (by decide) ⟨by omega, by omega⟩ dX2_init_48 rfl (fun w25 g26 => ?_)
  have g27 := hz_g_up (n' := n0 + 7) g23 (by omega)
  refine hz_putP (pc' := 53) fl_X2_30 rfl g27 rfl rfl rfl dX2_init_50 rfl (fun w28 => ?_)
  refine hz_aload_n (pc' := 54) (j := 0) dX2_init_53 rfl rfl rfl ?_
  refine hz_iconst (pc' := 55) (v := 4) dX2_init_54 rfl (by decide) ?_
  refine hz_newai (pc' := 57) (N := 4) hq_136 rfl (by decide) (by decide) (by decide) ⟨by omega, by omega⟩ dX2_init_55 rfl (fun w29 g30 => ?_)
  have g31 := hz_g_up (n' := n0 + 8) g27 (by omega)
  refine hz_putP (pc' := 60) fl_X2_33 rfl g31 rfl rfl rfl dX2_init_57 rfl (fun w32 => ?_)
  refine hz_aload_n (pc' := 61) (j := 0) dX2_init_60 rfl rfl rfl ?_
  refine hz_iconst (pc' := 62) (v := 4) dX2_init_61 rfl (by decide) ?_
  refine hz_newai (pc' := 64) (N := 4) hq_136 rfl (by decide) (by decide) (by decide) ⟨by omega, by omega⟩ dX2_init_62 rfl (fun w33 g34 => ?_)
  have g35 := hz_g_up (n' := n0 + 9) g31 (by omega)
  refine hz_putP (pc' := 67) fl_X2_36 rfl g35 rfl rfl rfl dX2_init_64 rfl (fun w36 => ?_)
  refine hz_aload_n (pc' := 68) (j := 0) dX2_init_67 rfl rfl rfl ?_
  refine hz_bipush (pc' := 70) (v := 20) dX2_init_68 rfl (by decide) ?_
  refine hz_newai (pc' := 72) (N := 20) hq_136 rfl (by decide) (by decide) (by decide) ⟨by omega, by omega⟩ dX2_init_70 rfl (fun w37 g38 => ?_)
  have g39 := hz_g_up (n' := n0 + 10) g35 (by omega)
  refine hz_putP (pc' := 75) fl_X2_39 rfl g39 rfl rfl rfl dX2_init_72 rfl (fun w40 => ?_)
  refine hz_aload_n (pc' := 76) (j := 0) dX2_init_75 rfl rfl rfl ?_
  refine hz_bipush (pc' := 78) (v := 20) dX2_init_76 rfl (by decide) ?_
  refine hz_newai (pc' := 80) (N := 20) hq_136 rfl (by decide) (by decide) (by decide) ⟨by omega, by omega⟩ dX2_init_78 rfl (fun w41 g42 => ?_)
  have g43 := hz_g_up (n' := n0 + 11) g39 (by omega)
  refine hz_putP (pc' := 83) fl_X2_42 rfl g43 rfl rfl rfl dX2_init_80 rfl (fun w44 => ?_)
  exact hz_retv dX2_init_83 rfl ⟨by omega, by omega⟩
def f_X2_copyFrom (a0 : Nat) (a1 : Nat) (w : MW) : Option (MW) :=
  hz_gd (hz_g 358 a0 3) (hz_gd (hz_g 358 a1 3) (hz_let (hz_pn w a0 0 (w.1 a1 0)) (fun w1 => hz_let (hz_pn w1 a0 1 (w1.1 a1 1)) (fun w2 => hz_ldp w2 a1 2 358 20 (fun b3 => hz_ldp w2 a0 2 358 20 (fun b4 => hz_bv (f_X9_copyRow b3 b4 w2) (fun w5 => hz_ldp w5 a1 3 358 20 (fun b6 => hz_ldp w5 a0 3 358 20 (fun b7 => hz_bv (f_X9_copyRow b6 b7 w5) (fun w8 => hz_ldp w8 a1 4 358 20 (fun b9 => hz_ldp w8 a0 4 358 20 (fun b10 => hz_bv (f_X9_copyRow b9 b10 w8) (fun w11 => hz_ldp w11 a1 5 358 20 (fun b12 => hz_ldp w11 a0 5 358 20 (fun b13 => hz_bv (f_X9_copyRow b12 b13 w11) (fun w14 => hz_ldp w14 a1 6 358 20 (fun b15 => hz_ldp w14 a0 6 358 20 (fun b16 => hz_bv (f_X9_copyRow b15 b16 w14) (fun w17 => hz_ldp w17 a1 7 358 20 (fun b18 => hz_ldp w17 a0 7 358 20 (fun b19 => hz_bv (f_X9_copyRow b18 b19 w17) (fun w20 => hz_ldp w20 a1 8 358 20 (fun b21 => hz_ldp w20 a0 8 358 20 (fun b22 => hz_bv (f_X9_copyRow b21 b22 w20) (fun w23 => hz_ldp w23 a1 9 358 20 (fun b24 => hz_ldp w23 a0 9 358 20 (fun b25 => hz_bv (f_X9_copyRow b24 b25 w23) (fun w26 => hz_ldp w26 a1 10 358 20 (fun b27 => hz_ldp w26 a0 10 358 20 (fun b28 => hz_bv (f_X9_copyRow b27 b28 w26) (fun w29 => hz_ldp w29 a1 11 358 20 (fun b30 => hz_ldp w29 a0 11 358 20 (fun b31 => hz_bv (f_X9_copyRow b30 b31 w29) (fun w32 => hz_ldp w32 a1 12 358 20 (fun b33 => hz_ldp w32 a0 12 358 20 (fun b34 => hz_bv (f_X9_copyRow b33 b34 w32) (fun w35 => some w35)))))))))))))))))))))))))))))))))))))
set_option maxHeartbeats 4000000 in
set_option maxRecDepth 100000 in
theorem ct_X2_copyFrom {l : Launch} (hl : l.stackTraces = false) {B : Bt} {a0 : Nat} {a1 : Nat} {w : MW} {r : MW} (h : f_X2_copyFrom a0 a1 w = some r) : hz_Met l B false 358 358 yX2_copyFrom cX2_copyFrom 2 (Option.none : Option FieldType) 3 0 0 [.ref (B.1 + a0), .ref (B.1 + a1)] w none r := by
  refine hz_ofJ (rv := (fun _ : MW => none)) (wo := (fun r : MW => r)) (own := RX2) (ini := false) hl (by decide) rfl (Or.inr rfl) (Nat.le_of_ble_eq_true rfl) rfl ?_ h
  intro p e s m args below meth c
  unfold f_X2_copyFrom
  refine hz_gdr (fun ga0 => ?_)
  refine hz_gdr (fun ga1 => ?_)
  refine hz_aload_n (pc' := 1) (j := 0) dX2_copyFrom_0 rfl rfl rfl ?_
  refine hz_aload_n (pc' := 2) (j := 1) dX2_copyFrom_1 rfl rfl rfl ?_
  refine hz_gI (pc' := 5) fl_X2_45.r ga1 rfl dX2_copyFrom_2 rfl ?_
  refine hz_putI (pc' := 8) fl_X2_45 ga0 rfl dX2_copyFrom_5 rfl (fun w1 => ?_)
  refine hz_aload_n (pc' := 9) (j := 0) dX2_copyFrom_8 rfl rfl rfl ?_
  refine hz_aload_n (pc' := 10) (j := 1) dX2_copyFrom_9 rfl rfl rfl ?_
  refine hz_gI (pc' := 13) fl_X2_49.r ga1 rfl dX2_copyFrom_10 rfl ?_
  refine hz_putI (pc' := 16) fl_X2_49 ga0 rfl dX2_copyFrom_13 rfl (fun w2 => ?_)
  refine hz_aload_n (pc' := 17) (j := 1) dX2_copyFrom_16 rfl rfl rfl ?_
  refine hz_gP (pc' := 20) (c' := 20) fl_X2_9.r ga1 rfl dX2_copyFrom_17 rfl (fun b3 gb3 => ?_)
  refine hz_aload_n (pc' := 21) (j := 0) dX2_copyFrom_20 rfl rfl rfl ?_
  refine hz_gP (pc' := 24) (c' := 20) fl_X2_9.r ga0 rfl dX2_copyFrom_21 rfl (fun b4 gb4 => ?_)
  refine hz_cSNv (pc' := 27) (av := [.ref (B.1 + b3), .ref (B.1 + b4)]) (rest := []) snl_X2_52 (fun w' h => ct_X9_copyRow hl h) rfl rfl (Nat.le_of_ble_eq_true rfl) (by decide) (by decide) rfl dX2_copyFrom_24 rfl (fun w5 => ?_)
  refine hz_aload_n (pc' := 28) (j := 1) dX2_copyFrom_27 rfl rfl rfl ?_
  refine hz_gP (pc' := 31) (c' := 20) fl_X2_15.r ga1 rfl dX2_copyFrom_28 rfl (fun b6 gb6 => ?_)
  refine hz_aload_n (pc' := 32) (j := 0) dX2_copyFrom_31 rfl rfl rfl ?_
  refine hz_gP (pc' := 35) (c' := 20) fl_X2_15.r ga0 rfl dX2_copyFrom_32 rfl (fun b7 gb7 => ?_)
  refine hz_cSNv (pc' := 38) (av := [.ref (B.1 + b6), .ref (B.1 + b7)]) (rest := []) snl_X2_52 (fun w' h => ct_X9_copyRow hl h) rfl rfl (Nat.le_of_ble_eq_true rfl) (by decide) (by decide) rfl dX2_copyFrom_35 rfl (fun w8 => ?_)
  refine hz_aload_n (pc' := 39) (j := 1) dX2_copyFrom_38 rfl rfl rfl ?_
  refine hz_gP (pc' := 42) (c' := 20) fl_X2_18.r ga1 rfl dX2_copyFrom_39 rfl (fun b9 gb9 => ?_)
  refine hz_aload_n (pc' := 43) (j := 0) dX2_copyFrom_42 rfl rfl rfl ?_
  refine hz_gP (pc' := 46) (c' := 20) fl_X2_18.r ga0 rfl dX2_copyFrom_43 rfl (fun b10 gb10 => ?_)
  refine hz_cSNv (pc' := 49) (av := [.ref (B.1 + b9), .ref (B.1 + b10)]) (rest := []) snl_X2_52 (fun w' h => ct_X9_copyRow hl h) rfl rfl (Nat.le_of_ble_eq_true rfl) (by decide) (by decide) rfl dX2_copyFrom_46 rfl (fun w11 => ?_)
  refine hz_aload_n (pc' := 50) (j := 1) dX2_copyFrom_49 rfl rfl rfl ?_
  refine hz_gP (pc' := 53) (c' := 20) fl_X2_21.r ga1 rfl dX2_copyFrom_50 rfl (fun b12 gb12 => ?_)
  refine hz_aload_n (pc' := 54) (j := 0) dX2_copyFrom_53 rfl rfl rfl ?_
  refine hz_gP (pc' := 57) (c' := 20) fl_X2_21.r ga0 rfl dX2_copyFrom_54 rfl (fun b13 gb13 => ?_)
  refine hz_cSNv (pc' := 60) (av := [.ref (B.1 + b12), .ref (B.1 + b13)]) (rest := []) snl_X2_52 (fun w' h => ct_X9_copyRow hl h) rfl rfl (Nat.le_of_ble_eq_true rfl) (by decide) (by decide) rfl dX2_copyFrom_57 rfl (fun w14 => ?_)
  refine hz_aload_n (pc' := 61) (j := 1) dX2_copyFrom_60 rfl rfl rfl ?_
  refine hz_gP (pc' := 64) (c' := 20) fl_X2_24.r ga1 rfl dX2_copyFrom_61 rfl (fun b15 gb15 => ?_)
  refine hz_aload_n (pc' := 65) (j := 0) dX2_copyFrom_64 rfl rfl rfl ?_
  refine hz_gP (pc' := 68) (c' := 20) fl_X2_24.r ga0 rfl dX2_copyFrom_65 rfl (fun b16 gb16 => ?_)
  refine hz_cSNv (pc' := 71) (av := [.ref (B.1 + b15), .ref (B.1 + b16)]) (rest := []) snl_X2_52 (fun w' h => ct_X9_copyRow hl h) rfl rfl (Nat.le_of_ble_eq_true rfl) (by decide) (by decide) rfl dX2_copyFrom_68 rfl (fun w17 => ?_)
  refine hz_aload_n (pc' := 72) (j := 1) dX2_copyFrom_71 rfl rfl rfl ?_
  refine hz_gP (pc' := 75) (c' := 20) fl_X2_27.r ga1 rfl dX2_copyFrom_72 rfl (fun b18 gb18 => ?_)
  refine hz_aload_n (pc' := 76) (j := 0) dX2_copyFrom_75 rfl rfl rfl ?_
  refine hz_gP (pc' := 79) (c' := 20) fl_X2_27.r ga0 rfl dX2_copyFrom_76 rfl (fun b19 gb19 => ?_)
  refine hz_cSNv (pc' := 82) (av := [.ref (B.1 + b18), .ref (B.1 + b19)]) (rest := []) snl_X2_52 (fun w' h => ct_X9_copyRow hl h) rfl rfl (Nat.le_of_ble_eq_true rfl) (by decide) (by decide) rfl dX2_copyFrom_79 rfl (fun w20 => ?_)
  refine hz_aload_n (pc' := 83) (j := 1) dX2_copyFrom_82 rfl rfl rfl ?_
  refine hz_gP (pc' := 86) (c' := 20) fl_X2_30.r ga1 rfl dX2_copyFrom_83 rfl (fun b21 gb21 => ?_)
  refine hz_aload_n (pc' := 87) (j := 0) dX2_copyFrom_86 rfl rfl rfl ?_
  refine hz_gP (pc' := 90) (c' := 20) fl_X2_30.r ga0 rfl dX2_copyFrom_87 rfl (fun b22 gb22 => ?_)
  refine hz_cSNv (pc' := 93) (av := [.ref (B.1 + b21), .ref (B.1 + b22)]) (rest := []) snl_X2_52 (fun w' h => ct_X9_copyRow hl h) rfl rfl (Nat.le_of_ble_eq_true rfl) (by decide) (by decide) rfl dX2_copyFrom_90 rfl (fun w23 => ?_)
  refine hz_aload_n (pc' := 94) (j := 1) dX2_copyFrom_93 rfl rfl rfl ?_
  refine hz_gP (pc' := 97) (c' := 20) fl_X2_33.r ga1 rfl dX2_copyFrom_94 rfl (fun b24 gb24 => ?_)
  refine hz_aload_n (pc' := 98) (j := 0) dX2_copyFrom_97 rfl rfl rfl ?_
  refine hz_gP (pc' := 101) (c' := 20) fl_X2_33.r ga0 rfl dX2_copyFrom_98 rfl (fun b25 gb25 => ?_)
  refine hz_cSNv (pc' := 104) (av := [.ref (B.1 + b24), .ref (B.1 + b25)]) (rest := []) snl_X2_52 (fun w' h => ct_X9_copyRow hl h) rfl rfl (Nat.le_of_ble_eq_true rfl) (by decide) (by decide) rfl dX2_copyFrom_101 rfl (fun w26 => ?_)
  refine hz_aload_n (pc' := 105) (j := 1) dX2_copyFrom_104 rfl rfl rfl ?_
  refine hz_gP (pc' := 108) (c' := 20) fl_X2_36.r ga1 rfl dX2_copyFrom_105 rfl (fun b27 gb27 => ?_)
  refine hz_aload_n (pc' := 109) (j := 0) dX2_copyFrom_108 rfl rfl rfl ?_
  refine hz_gP (pc' := 112) (c' := 20) fl_X2_36.r ga0 rfl dX2_copyFrom_109 rfl (fun b28 gb28 => ?_)
  refine hz_cSNv (pc' := 115) (av := [.ref (B.1 + b27), .ref (B.1 + b28)]) (rest := []) snl_X2_52 (fun w' h => ct_X9_copyRow hl h) rfl rfl (Nat.le_of_ble_eq_true rfl) (by decide) (by decide) rfl dX2_copyFrom_112 rfl (fun w29 => ?_)
  refine hz_aload_n (pc' := 116) (j := 1) dX2_copyFrom_115 rfl rfl rfl ?_
  refine hz_gP (pc' := 119) (c' := 20) fl_X2_39.r ga1 rfl dX2_copyFrom_116 rfl (fun b30 gb30 => ?_)
  refine hz_aload_n (pc' := 120) (j := 0) dX2_copyFrom_119 rfl rfl rfl ?_
  refine hz_gP (pc' := 123) (c' := 20) fl_X2_39.r ga0 rfl dX2_copyFrom_120 rfl (fun b31 gb31 => ?_)
  refine hz_cSNv (pc' := 126) (av := [.ref (B.1 + b30), .ref (B.1 + b31)]) (rest := []) snl_X2_52 (fun w' h => ct_X9_copyRow hl h) rfl rfl (Nat.le_of_ble_eq_true rfl) (by decide) (by decide) rfl dX2_copyFrom_123 rfl (fun w32 => ?_)
  refine hz_aload_n (pc' := 127) (j := 1) dX2_copyFrom_126 rfl rfl rfl ?_
  refine hz_gP (pc' := 130) (c' := 20) fl_X2_42.r ga1 rfl dX2_copyFrom_127 rfl (fun b33 gb33 => ?_)
  refine hz_aload_n (pc' := 131) (j := 0) dX2_copyFrom_130 rfl rfl rfl ?_
  refine hz_gP (pc' := 134) (c' := 20) fl_X2_42.r ga0 rfl dX2_copyFrom_131 rfl (fun b34 gb34 => ?_)
  refine hz_cSNv (pc' := 137) (av := [.ref (B.1 + b33), .ref (B.1 + b34)]) (rest := []) snl_X2_52 (fun w' h => ct_X9_copyRow hl h) rfl rfl (Nat.le_of_ble_eq_true rfl) (by decide) (by decide) rfl dX2_copyFrom_134 rfl (fun w35 => ?_)
  exact hz_retv dX2_copyFrom_137 rfl (by decide)
def f_X9_dividedUp (x0 : Int32) (x1 : Int32) (w : MW) : Option (Int32 × MW) :=
  Option.bind ((if x1 ≤ 0 then some 1 else some x1)) (fun q1 : Int32 => hz_cdiv x0 q1 (fun v2 => hz_crem x0 q1 (fun v3 => Option.bind ((if v3 ≤ 0 then some 0 else some 1)) (fun q4 : Int32 => some ((v2 + q4), w)))))
set_option maxHeartbeats 4000000 in
set_option maxRecDepth 100000 in
theorem ct_X9_dividedUp {l : Launch} (hl : l.stackTraces = false) {B : Bt} {x0 : Int32} {x1 : Int32} {w : MW} {r : Int32 × MW} (h : f_X9_dividedUp x0 x1 w = some r) : hz_Met l B false 358 358 yX9_dividedUp cX9_dividedUp 3 (Option.some FieldType.int) 2 0 0 [.int x0, .int x1] w (some (.int r.1)) r.2 := by
  refine hz_ofJ (rv := (fun r : Int32 × MW => some (.int r.1))) (wo := (fun r : Int32 × MW => r.2)) (own := RX9) (ini := false) hl (by decide) rfl (Or.inr rfl) (Nat.le_of_ble_eq_true rfl) rfl ?_ h
  intro p e s m args below meth c
  unfold f_X9_dividedUp
  refine hz_iload_n (pc' := 1) (j := 1) dX9_dividedUp_0 rfl rfl rfl ?_
  refine hz_bindJ (pcJ := 9) (LJ := fun q1 : Int32 => [(0, .int x0)]) (stJ := fun q1 : Int32 => [.int q1]) (kJ := 0) (slJ := 0) (nJ := 358) (wJ := fun q1 : Int32 => w) (fun q1 => ?_) (fun hq1 => ?_)
  · refine hz_istore_n (pc' := 10) (L' := [(2, .int q1), (0, .int x0)]) dX9_dividedUp_9 rfl rfl (by decide) rfl ?_
    refine hz_iload_n (pc' := 11) (j := 1) dX9_dividedUp_10 rfl rfl rfl ?_
    refine hz_iload_n (pc' := 12) (j := 0) dX9_dividedUp_11 rfl rfl rfl ?_
    refine hz_idiv (pc' := 13) dX9_dividedUp_12 rfl (fun v2 => ?_)
    refine hz_iload_n (pc' := 14) (j := 1) dX9_dividedUp_13 rfl rfl rfl ?_
    refine hz_iload_n (pc' := 15) (j := 0) dX9_dividedUp_14 rfl rfl rfl ?_
    refine hz_irem (pc' := 16) dX9_dividedUp_15 rfl (fun v3 => ?_)
    refine hz_bindJ (pcJ := 24) (LJ := fun q4 : Int32 => []) (stJ := fun q4 : Int32 => [.int q4, .int v2]) (kJ := 0) (slJ := 0) (nJ := 358) (wJ := fun q4 : Int32 => w) (fun q4 => ?_) (fun hq4 => ?_)
    · refine hz_iadd (pc' := 25) dX9_dividedUp_24 rfl ?_
      exact hz_reti dX9_dividedUp_25 rfl (by decide)
    · refine hz_ifle (pc' := 19) (tgt := 23) dX9_dividedUp_16 (by decide) rfl ?_ ?_
      · refine hz_iconst (pc' := 24) (v := 0) dX9_dividedUp_23 rfl (by decide) ?_
        exact hz_loc [] rfl (hq4 0)
      · refine hz_iconst (pc' := 20) (v := 1) dX9_dividedUp_19 rfl (by decide) ?_
        refine hz_goto (tgt := 24) dX9_dividedUp_20 (by decide) ?_
        exact hz_loc [] rfl (hq4 1)
  · refine hz_ifle (pc' := 4) (tgt := 8) dX9_dividedUp_1 (by decide) rfl ?_ ?_
    · refine hz_iconst (pc' := 9) (v := 1) dX9_dividedUp_8 rfl (by decide) ?_
      exact hz_loc [0] rfl (hq1 1)
    · refine hz_iload_n (pc' := 5) (j := 1) dX9_dividedUp_4 rfl rfl rfl ?_
      refine hz_goto (tgt := 9) dX9_dividedUp_5 (by decide) ?_
      exact hz_loc [0] rfl (hq1 x1)
def f_X2_energyAt (a0 : Nat) (x1 : Int32) (x2 : Int32) (x3 : Int32) (x4 : Int32) (w : MW) : Option (Int32 × MW) :=
  hz_gd (hz_g 358 a0 3) (hz_let ((x1 * 5) + x2) (fun v1 => hz_ldp w a0 11 358 20 (fun b2 => hz_lda w b2 v1 (fun v3 => hz_b (f_X9_dividedUp x3 v3 w) (fun v5 w4 => (if v5 ≤ x4 then hz_ldp w4 a0 12 358 20 (fun b6 => hz_lda w4 b6 v1 (fun v7 => hz_ldp w4 a0 6 358 20 (fun b8 => hz_lda w4 b8 x1 (fun v9 => some (((v5 * v7) + ((x4 - v5) * v9)), w4))))) else some ((-2), w4)))))))
set_option maxHeartbeats 4000000 in
set_option maxRecDepth 100000 in
theorem ct_X2_energyAt {l : Launch} (hl : l.stackTraces = false) {B : Bt} {a0 : Nat} {x1 : Int32} {x2 : Int32} {x3 : Int32} {x4 : Int32} {w : MW} {r : Int32 × MW} (h : f_X2_energyAt a0 x1 x2 x3 x4 w = some r) : hz_Met l B false 358 358 yX2_energyAt cX2_energyAt 7 (Option.some FieldType.int) 3 0 0 [.ref (B.1 + a0), .int x1, .int x2, .int x3, .int x4] w (some (.int r.1)) r.2 := by
  refine hz_ofJ (rv := (fun r : Int32 × MW => some (.int r.1))) (wo := (fun r : Int32 × MW => r.2)) (own := RX2) (ini := false) hl (by decide) rfl (Or.inr rfl) (Nat.le_of_ble_eq_true rfl) rfl ?_ h
  intro p e s m args below meth c
  unfold f_X2_energyAt
  refine hz_gdr (fun ga0 => ?_)
  refine hz_iload_n (pc' := 1) (j := 1) dX2_energyAt_0 rfl rfl rfl ?_
  refine hz_iconst (pc' := 2) (v := 5) dX2_energyAt_1 rfl (by decide) ?_
  refine hz_imul (pc' := 3) dX2_energyAt_2 rfl ?_
  refine hz_iload_n (pc' := 4) (j := 2) dX2_energyAt_3 rfl rfl rfl ?_
  refine hz_iadd (pc' := 5) dX2_energyAt_4 rfl ?_
  refine hz_nameI (fun v1 => ?_)
  refine hz_istore (pc' := 7) (L' := [(5, .int v1), (0, .ref (B.1 + a0)), (1, .int x1), (2, .int x2), (3, .int x3), (4, .int x4)]) dX2_energyAt_5 rfl (by decide) rfl ?_
  refine hz_iload_n (pc' := 8) (j := 4) dX2_energyAt_7 rfl rfl rfl ?_
  refine hz_aload_n (pc' := 9) (j := 1) dX2_energyAt_8 rfl rfl rfl ?_
  refine hz_gP (pc' := 12) (c' := 20) fl_X2_39.r ga0 rfl dX2_energyAt_9 rfl (fun b2 gb2 => ?_)
  refine hz_iload (pc' := 14) (j := 0) dX2_energyAt_12 rfl rfl ?_
  refine hz_iald (pc' := 15) gb2 dX2_energyAt_14 rfl (fun v3 => ?_)
  refine hz_cSNi (pc' := 18) (av := [.int x3, .int v3]) (rest := []) snl_X2_56 (fun x w' h => ct_X9_dividedUp hl h) rfl rfl (Nat.le_of_ble_eq_true rfl) (by decide) (by decide) rfl dX2_energyAt_15 rfl (fun v5 w4 => ?_)
  refine hz_istore (pc' := 20) (L' := [(6, .int v5), (5, .int v1), (0, .ref (B.1 + a0)), (1, .int x1), (2, .int x2), (3, .int x3), (4, .int x4)]) dX2_energyAt_18 rfl (by decide) rfl ?_
  refine hz_iload (pc' := 22) (j := 0) dX2_energyAt_20 rfl rfl ?_
  refine hz_iload (pc' := 24) (j := 6) dX2_energyAt_22 rfl rfl ?_
  refine hz_icmple (pc' := 27) (tgt := 30) dX2_energyAt_24 (by decide) rfl ?_ ?_
  · refine hz_iload (pc' := 32) (j := 0) dX2_energyAt_30 rfl rfl ?_
    refine hz_aload_n (pc' := 33) (j := 2) dX2_energyAt_32 rfl rfl rfl ?_
    refine hz_gP (pc' := 36) (c' := 20) fl_X2_42.r ga0 rfl dX2_energyAt_33 rfl (fun b6 gb6 => ?_)
    refine hz_iload (pc' := 38) (j := 1) dX2_energyAt_36 rfl rfl ?_
    refine hz_iald (pc' := 39) gb6 dX2_energyAt_38 rfl (fun v7 => ?_)
    refine hz_imul (pc' := 40) dX2_energyAt_39 rfl ?_
    refine hz_iload (pc' := 42) (j := 6) dX2_energyAt_40 rfl rfl ?_
    refine hz_iload (pc' := 44) (j := 0) dX2_energyAt_42 rfl rfl ?_
    refine hz_isub (pc' := 45) dX2_energyAt_44 rfl ?_
    refine hz_aload_n (pc' := 46) (j := 2) dX2_energyAt_45 rfl rfl rfl ?_
    refine hz_gP (pc' := 49) (c' := 20) fl_X2_24.r ga0 rfl dX2_energyAt_46 rfl (fun b8 gb8 => ?_)
    refine hz_iload_n (pc' := 50) (j := 3) dX2_energyAt_49 rfl rfl rfl ?_
    refine hz_iald (pc' := 51) gb8 dX2_energyAt_50 rfl (fun v9 => ?_)
    refine hz_imul (pc' := 52) dX2_energyAt_51 rfl ?_
    refine hz_iadd (pc' := 53) dX2_energyAt_52 rfl ?_
    exact hz_reti dX2_energyAt_53 rfl (by decide)
  · refine hz_bipush (pc' := 29) (v := (-2)) dX2_energyAt_27 rfl (by decide) ?_
    exact hz_reti dX2_energyAt_29 rfl (by decide)
def f_X4_init (a0 : Nat) (n0 : Nat) (w : MW) : Option (MW) :=
  hz_gd (hz_g n0 a0 5) (hz_gd (hz_ga n0 21 500) (hz_let (hz_fr w n0) (fun w1 => hz_let (hz_pp w1 a0 0 (some n0)) (fun w4 => some w4))))
set_option maxHeartbeats 4000000 in
set_option maxRecDepth 100000 in
theorem ct_X4_init {l : Launch} (hl : l.stackTraces = false) {B : Bt} {a0 : Nat} {n0 : Nat} {w : MW} {r : MW} (h : f_X4_init a0 n0 w = some r) : hz_Met l B true n0 (n0 + 1) yX4_init cX4_init 1 (Option.none : Option FieldType) 2 1 500 [.ref (B.1 + a0)] w none r := by
  refine hz_ofJ (rv := (fun _ : MW => none)) (wo := (fun r : MW => r)) (own := RX4) (ini := true) hl (by decide) rfl (Or.inl rfl) (Nat.le_of_ble_eq_true rfl) rfl ?_ h
  intro p e s m args below meth c
  unfold f_X4_init
  refine hz_gdr (fun ga0 => ?_)
  refine hz_aload_n (pc' := 1) (j := 0) dX4_init_0 rfl rfl rfl ?_
  refine hz_objinit (pc' := 4) hq_39 hq_32 hq_33 ⟨Nat.le_of_ble_eq_true rfl, Nat.le_of_ble_eq_true rfl⟩ dX4_init_1 rfl ?_
  refine hz_aload_n (pc' := 5) (j := 0) dX4_init_4 rfl rfl rfl ?_
  refine hz_sipush (pc' := 8) (v := 500) dX4_init_5 rfl (by decide) ?_
  refine hz_newab (pc' := 10) (N := 500) hq_49 rfl (by decide) (by decide) (by decide) ⟨by omega, by omega⟩ dX4_init_8 rfl (fun w1 g2 => ?_)
  have g3 := hz_g_up (n' := n0 + 1) ga0 (by omega)
  refine hz_putP (pc' := 13) fl_X4_9 rfl g3 rfl rfl rfl dX4_init_10 rfl (fun w4 => ?_)
  exact hz_retv dX4_init_13 rfl ⟨by omega, by omega⟩
def lp_X4_addBytesOf_3 (c0 : Nat) (c1 : Int32) : Nat → (Int32 × MW) → Option (MW)
  | 0, _ => none
  | N + 1, v0 => (if v0.1 < 0 then some v0.2 else hz_ldp v0.2 c0 0 358 21 (fun b1 => (if (Int32.ofNat (hz_ln b1)) ≤ (v0.2.1 c0 1) then some v0.2 else hz_ldp v0.2 c0 0 358 21 (fun b2 => hz_stb v0.2 b2 (v0.2.1 c0 1) (Int8.toInt32 (Int32.toInt8 (((c1 : Int32).toUInt32 >>> ((v0.1 : Int32).toUInt32 &&& Int32.toUInt32 31)).toInt32))) (fun w3 => hz_let (hz_pn w3 c0 1 ((w3.1 c0 1) + 1)) (fun w4 => hz_let (v0.1 + Int32.ofInt (-8)) (fun v5 => lp_X4_addBytesOf_3 c0 c1 N (v5, w4))))))))
def f_X4_addBytesOf (a0 : Nat) (x1 : Int32) (w : MW) : Option (MW) :=
  hz_gd (hz_g 358 a0 5) (Option.bind (lp_X4_addBytesOf_3 a0 x1 3000 (24, w)) (fun q2 : MW => some q2))
set_option maxHeartbeats 4000000 in
set_option maxRecDepth 100000 in
theorem ct_X4_addBytesOf {l : Launch} (hl : l.stackTraces = false) {B : Bt} {a0 : Nat} {x1 : Int32} {w : MW} {r : MW} (h : f_X4_addBytesOf a0 x1 w = some r) : hz_Met l B false 358 358 yX4_addBytesOf cX4_addBytesOf 3 (Option.none : Option FieldType) 2 0 0 [.ref (B.1 + a0), .int x1] w none r := by
  refine hz_ofJ (rv := (fun _ : MW => none)) (wo := (fun r : MW => r)) (own := RX4) (ini := false) hl (by decide) rfl (Or.inr rfl) (Nat.le_of_ble_eq_true rfl) rfl ?_ h
  intro p e s m args below meth c
  unfold f_X4_addBytesOf
  refine hz_gdr (fun ga0 => ?_)
  refine hz_bipush (pc' := 2) (v := 24) dX4_addBytesOf_0 rfl (by decide) ?_
  refine hz_istore_n (pc' := 3) (L' := [(2, .int 24), (0, .ref (B.1 + a0)), (1, .int x1)]) dX4_addBytesOf_2 rfl rfl (by decide) rfl ?_
  refine hz_bindJ (pcJ := 48) (LJ := fun q2 : MW => []) (stJ := fun _ => []) (kJ := 0) (slJ := 0) (nJ := 358) (wJ := fun q2 : MW => q2) (fun q2 => ?_) (fun hq2 => ?_)
  · exact hz_retv dX4_addBytesOf_48 rfl (by decide)
  · refine hz_loc [1, 2, 0] rfl (hz_loopJ (lp := lp_X4_addBytesOf_3 a0 x1) (Lh := fun v1 : Int32 × MW => [(0, .ref (B.1 + a0)), (1, .int x1), (2, .int v1.1)]) (wh := fun v1 : Int32 × MW => v1.2) (fun _ => rfl) (fun Nv1 ihv1 v1 => ?_) 3000 (24, w))
    rw [lp_X4_addBytesOf_3]
    refine hz_iload_n (pc' := 4) (j := 2) dX4_addBytesOf_3 rfl rfl rfl ?_
    refine hz_iflt (pc' := 7) (tgt := 48) dX4_addBytesOf_4 (by decide) rfl ?_ ?_
    · exact hz_loc [] rfl (hq2 v1.2)
    · refine hz_aload_n (pc' := 8) (j := 0) dX4_addBytesOf_7 rfl rfl rfl ?_
      refine hz_gI (pc' := 11) fl_X4_15.r ga0 rfl dX4_addBytesOf_8 rfl ?_
      refine hz_aload_n (pc' := 12) (j := 0) dX4_addBytesOf_11 rfl rfl rfl ?_
      refine hz_gP (pc' := 15) (c' := 21) fl_X4_9.r ga0 rfl dX4_addBytesOf_12 rfl (fun b3 gb3 => ?_)
      refine hz_alenb (pc' := 16) gb3 dX4_addBytesOf_15 rfl ?_
      refine hz_icmpge (pc' := 19) (tgt := 48) dX4_addBytesOf_16 (by decide) rfl ?_ ?_
      · exact hz_loc [] rfl (hq2 v1.2)
      · refine hz_aload_n (pc' := 20) (j := 0) dX4_addBytesOf_19 rfl rfl rfl ?_
        refine hz_gP (pc' := 23) (c' := 21) fl_X4_9.r ga0 rfl dX4_addBytesOf_20 rfl (fun b4 gb4 => ?_)
        refine hz_aload_n (pc' := 24) (j := 0) dX4_addBytesOf_23 rfl rfl rfl ?_
        refine hz_gI (pc' := 27) fl_X4_15.r ga0 rfl dX4_addBytesOf_24 rfl ?_
        refine hz_iload_n (pc' := 28) (j := 1) dX4_addBytesOf_27 rfl rfl rfl ?_
        refine hz_iload_n (pc' := 29) (j := 2) dX4_addBytesOf_28 rfl rfl rfl ?_
        refine hz_iushr (pc' := 30) dX4_addBytesOf_29 rfl ?_
        refine hz_i2b (pc' := 31) dX4_addBytesOf_30 rfl ?_
        refine hz_bast (pc' := 32) gb4 dX4_addBytesOf_31 rfl (fun w5 => ?_)
        refine hz_aload_n (pc' := 33) (j := 0) dX4_addBytesOf_32 rfl rfl rfl ?_
        refine hz_dup (pc' := 34) dX4_addBytesOf_33 rfl rfl ?_
        refine hz_gI (pc' := 37) fl_X4_15.r ga0 rfl dX4_addBytesOf_34 rfl ?_
        refine hz_iconst (pc' := 38) (v := 1) dX4_addBytesOf_37 rfl (by decide) ?_
        refine hz_iadd (pc' := 39) dX4_addBytesOf_38 rfl ?_
        refine hz_putI (pc' := 42) fl_X4_15 ga0 rfl dX4_addBytesOf_39 rfl (fun w6 => ?_)
        refine hz_iincN (pc' := 45) (j := 2) (fun v7 => [(2, .int v7), (0, .ref (B.1 + a0)), (1, .int x1)]) dX4_addBytesOf_42 rfl rfl (by decide) (fun _ => rfl) (fun v7 => ?_)
        refine hz_goto (tgt := 3) dX4_addBytesOf_45 (by decide) ?_
        exact hz_loc [1, 2, 0] rfl (ihv1 (v7, w6))
def f_X4_byteAt (a0 : Nat) (x1 : Int32) (w : MW) : Option (Int32 × MW) :=
  hz_gd (hz_g 358 a0 5) (Option.bind ((if x1 < 0 then some 0 else hz_ldp w a0 0 358 21 (fun b2 => (if (Int32.ofNat (hz_ln b2)) ≤ x1 then some 0 else hz_ldp w a0 0 358 21 (fun b3 => hz_lda w b3 x1 (fun v4 => some v4)))))) (fun q1 : Int32 => some (q1, w)))
set_option maxHeartbeats 4000000 in
set_option maxRecDepth 100000 in
theorem ct_X4_byteAt {l : Launch} (hl : l.stackTraces = false) {B : Bt} {a0 : Nat} {x1 : Int32} {w : MW} {r : Int32 × MW} (h : f_X4_byteAt a0 x1 w = some r) : hz_Met l B false 358 358 yX4_byteAt cX4_byteAt 2 (Option.some FieldType.int) 2 0 0 [.ref (B.1 + a0), .int x1] w (some (.int r.1)) r.2 := by
  refine hz_ofJ (rv := (fun r : Int32 × MW => some (.int r.1))) (wo := (fun r : Int32 × MW => r.2)) (own := RX4) (ini := false) hl (by decide) rfl (Or.inr rfl) (Nat.le_of_ble_eq_true rfl) rfl ?_ h
  intro p e s m args below meth c
  unfold f_X4_byteAt
  refine hz_gdr (fun ga0 => ?_)
  refine hz_iload_n (pc' := 1) (j := 1) dX4_byteAt_0 rfl rfl rfl ?_
  refine hz_bindJ (pcJ := 23) (LJ := fun q1 : Int32 => []) (stJ := fun q1 : Int32 => [.int q1]) (kJ := 0) (slJ := 0) (nJ := 358) (wJ := fun q1 : Int32 => w) (fun q1 => ?_) (fun hq1 => ?_)
  · exact hz_reti dX4_byteAt_23 rfl (by decide)
  · refine hz_iflt (pc' := 4) (tgt := 22) dX4_byteAt_1 (by decide) rfl ?_ ?_
    · refine hz_iconst (pc' := 23) (v := 0) dX4_byteAt_22 rfl (by decide) ?_
      exact hz_loc [] rfl (hq1 0)
    · refine hz_iload_n (pc' := 5) (j := 1) dX4_byteAt_4 rfl rfl rfl ?_
      refine hz_aload_n (pc' := 6) (j := 0) dX4_byteAt_5 rfl rfl rfl ?_
      refine hz_gP (pc' := 9) (c' := 21) fl_X4_9.r ga0 rfl dX4_byteAt_6 rfl (fun b2 gb2 => ?_)
      refine hz_alenb (pc' := 10) gb2 dX4_byteAt_9 rfl ?_
      refine hz_icmpge (pc' := 13) (tgt := 22) dX4_byteAt_10 (by decide) rfl ?_ ?_
      · refine hz_iconst (pc' := 23) (v := 0) dX4_byteAt_22 rfl (by decide) ?_
        exact hz_loc [] rfl (hq1 0)
      · refine hz_aload_n (pc' := 14) (j := 0) dX4_byteAt_13 rfl rfl rfl ?_
        refine hz_gP (pc' := 17) (c' := 21) fl_X4_9.r ga0 rfl dX4_byteAt_14 rfl (fun b3 gb3 => ?_)
        refine hz_iload_n (pc' := 18) (j := 1) dX4_byteAt_17 rfl rfl rfl ?_
        refine hz_bald (pc' := 19) gb3 dX4_byteAt_18 rfl (fun v4 => ?_)
        refine hz_goto (tgt := 23) dX4_byteAt_19 (by decide) ?_
        exact hz_loc [] rfl (hq1 v4)
def f_X7_init (a0 : Nat) (a1 : Nat) (n0 : Nat) (w : MW) : Option (MW) :=
  hz_gd (hz_g n0 a0 8) (hz_gd (hz_g n0 a1 5) (hz_let (hz_pp w a0 0 (some a1)) (fun w1 => some w1)))
set_option maxHeartbeats 4000000 in
set_option maxRecDepth 100000 in
theorem ct_X7_init {l : Launch} (hl : l.stackTraces = false) {B : Bt} {a0 : Nat} {a1 : Nat} {n0 : Nat} {w : MW} {r : MW} (h : f_X7_init a0 a1 n0 w = some r) : hz_Met l B true n0 n0 yX7_init cX7_init 2 (Option.none : Option FieldType) 2 0 0 [.ref (B.1 + a0), .ref (B.1 + a1)] w none r := by
  refine hz_ofJ (rv := (fun _ : MW => none)) (wo := (fun r : MW => r)) (own := RX7) (ini := true) hl (by decide) rfl (Or.inl rfl) (Nat.le_of_ble_eq_true rfl) rfl ?_ h
  intro p e s m args below meth c
  unfold f_X7_init
  refine hz_gdr (fun ga0 => ?_)
  refine hz_gdr (fun ga1 => ?_)
  refine hz_aload_n (pc' := 1) (j := 0) dX7_init_0 rfl rfl rfl ?_
  refine hz_objinit (pc' := 4) hq_142 hq_32 hq_33 ⟨Nat.le_of_ble_eq_true rfl, Nat.le_of_ble_eq_true rfl⟩ dX7_init_1 rfl ?_
  refine hz_aload_n (pc' := 5) (j := 0) dX7_init_4 rfl rfl rfl ?_
  refine hz_aload_n (pc' := 6) (j := 1) dX7_init_5 rfl rfl rfl ?_
  refine hz_putP (pc' := 9) fl_X7_7 rfl ga0 rfl rfl rfl dX7_init_6 rfl (fun w1 => ?_)
  exact hz_retv dX7_init_9 rfl ⟨by omega, by omega⟩
def f_X7_kindAt (a0 : Nat) (x1 : Int32) (w : MW) : Option (Int32 × MW) :=
  hz_gd (hz_g 358 a0 8) (hz_ldp w a0 0 358 5 (fun b1 => (if x1 < (w.1 b1 1) then hz_ldp w a0 0 358 5 (fun b2 => hz_b (f_X4_byteAt b2 x1 w) (fun v4 w3 => (if v4 = 32 then some (1, w3) else (if v4 = 10 then some (1, w3) else (if v4 < 97 then (if v4 < 48 then Option.bind ((if v4 = 59 then some 4 else some 5)) (fun q5 : Int32 => some (q5, w3)) else (if 57 < v4 then Option.bind ((if v4 = 59 then some 4 else some 5)) (fun q6 : Int32 => some (q6, w3)) else some (3, w3))) else (if 122 < v4 then (if v4 < 48 then Option.bind ((if v4 = 59 then some 4 else some 5)) (fun q7 : Int32 => some (q7, w3)) else (if 57 < v4 then Option.bind ((if v4 = 59 then some 4 else some 5)) (fun q8 : Int32 => some (q8, w3)) else some (3, w3))) else some (2, w3))))))) else some (0, w))))
set_option maxHeartbeats 4000000 in
set_option maxRecDepth 100000 in
theorem ct_X7_kindAt {l : Launch} (hl : l.stackTraces = false) {B : Bt} {a0 : Nat} {x1 : Int32} {w : MW} {r : Int32 × MW} (h : f_X7_kindAt a0 x1 w = some r) : hz_Met l B false 358 358 yX7_kindAt cX7_kindAt 3 (Option.some FieldType.int) 3 0 0 [.ref (B.1 + a0), .int x1] w (some (.int r.1)) r.2 := by
  refine hz_ofJ (rv := (fun r : Int32 × MW => some (.int r.1))) (wo := (fun r : Int32 × MW => r.2)) (own := RX7) (ini := false) hl (by decide) rfl (Or.inr rfl) (Nat.le_of_ble_eq_true rfl) rfl ?_ h
  intro p e s m args below meth c
  unfold f_X7_kindAt
  refine hz_gdr (fun ga0 => ?_)
  refine hz_iload_n (pc' := 1) (j := 1) dX7_kindAt_0 rfl rfl rfl ?_
  refine hz_aload_n (pc' := 2) (j := 0) dX7_kindAt_1 rfl rfl rfl ?_
  refine hz_gP (pc' := 5) (c' := 5) fl_X7_7.r ga0 rfl dX7_kindAt_2 rfl (fun b1 gb1 => ?_)
  refine hz_gI (pc' := 8) fl_X7_23.r gb1 rfl dX7_kindAt_5 rfl ?_
  refine hz_icmplt (pc' := 11) (tgt := 13) dX7_kindAt_8 (by decide) rfl ?_ ?_
  · refine hz_aload_n (pc' := 14) (j := 0) dX7_kindAt_13 rfl rfl rfl ?_
    refine hz_gP (pc' := 17) (c' := 5) fl_X7_7.r ga0 rfl dX7_kindAt_14 rfl (fun b2 gb2 => ?_)
    refine hz_iload_n (pc' := 18) (j := 1) dX7_kindAt_17 rfl rfl rfl ?_
    refine hz_cVi (pc' := 21) (av := [.int x1]) (rest := []) vl_X7_41 (fun x w' h => ct_X4_byteAt hl h) gb2 rfl rfl (Nat.le_of_ble_eq_true rfl) (by decide) (by decide) rfl dX7_kindAt_18 rfl (fun v4 w3 => ?_)
    refine hz_istore_n (pc' := 22) (L' := [(2, .int v4), (0, .ref (B.1 + a0)), (1, .int x1)]) dX7_kindAt_21 rfl rfl (by decide) rfl ?_
    refine hz_iload_n (pc' := 23) (j := 0) dX7_kindAt_22 rfl rfl rfl ?_
    refine hz_bipush (pc' := 25) (v := 32) dX7_kindAt_23 rfl (by decide) ?_
    refine hz_icmpeq (pc' := 28) (tgt := 34) dX7_kindAt_25 (by decide) rfl ?_ ?_
    · refine hz_iconst (pc' := 35) (v := 1) dX7_kindAt_34 rfl (by decide) ?_
      exact hz_reti dX7_kindAt_35 rfl (by decide)
    · refine hz_iload_n (pc' := 29) (j := 0) dX7_kindAt_28 rfl rfl rfl ?_
      refine hz_bipush (pc' := 31) (v := 10) dX7_kindAt_29 rfl (by decide) ?_
      refine hz_icmpne (pc' := 34) (tgt := 36) dX7_kindAt_31 (by decide) rfl ?_ ?_
      · refine hz_iload_n (pc' := 37) (j := 0) dX7_kindAt_36 rfl rfl rfl ?_
        refine hz_bipush (pc' := 39) (v := 97) dX7_kindAt_37 rfl (by decide) ?_
        refine hz_icmplt (pc' := 42) (tgt := 50) dX7_kindAt_39 (by decide) rfl ?_ ?_
        · refine hz_iload_n (pc' := 51) (j := 0) dX7_kindAt_50 rfl rfl rfl ?_
          refine hz_bipush (pc' := 53) (v := 48) dX7_kindAt_51 rfl (by decide) ?_
          refine hz_icmplt (pc' := 56) (tgt := 64) dX7_kindAt_53 (by decide) rfl ?_ ?_
          · refine hz_iload_n (pc' := 65) (j := 0) dX7_kindAt_64 rfl rfl rfl ?_
            refine hz_bipush (pc' := 67) (v := 59) dX7_kindAt_65 rfl (by decide) ?_
            refine hz_bindJ (pcJ := 75) (LJ := fun q5 : Int32 => []) (stJ := fun q5 : Int32 => [.int q5]) (kJ := 0) (slJ := 0) (nJ := 358) (wJ := fun q5 : Int32 => w3) (fun q5 => ?_) (fun hq5 => ?_)
            · exact hz_reti dX7_kindAt_75 rfl (by decide)
            · refine hz_icmpne (pc' := 70) (tgt := 74) dX7_kindAt_67 (by decide) rfl ?_ ?_
              · refine hz_iconst (pc' := 75) (v := 5) dX7_kindAt_74 rfl (by decide) ?_
                exact hz_loc [] rfl (hq5 5)
              · refine hz_iconst (pc' := 71) (v := 4) dX7_kindAt_70 rfl (by decide) ?_
                refine hz_goto (tgt := 75) dX7_kindAt_71 (by decide) ?_
                exact hz_loc [] rfl (hq5 4)
          · refine hz_iload_n (pc' := 57) (j := 0) dX7_kindAt_56 rfl rfl rfl ?_
            refine hz_bipush (pc' := 59) (v := 57) dX7_kindAt_57 rfl (by decide) ?_
            refine hz_icmpgt (pc' := 62) (tgt := 64) dX7_kindAt_59 (by decide) rfl ?_ ?_
            · refine hz_iload_n (pc' := 65) (j := 0) dX7_kindAt_64 rfl rfl rfl ?_
              refine hz_bipush (pc' := 67) (v := 59) dX7_kindAt_65 rfl (by decide) ?_
              refine hz_bindJ (pcJ := 75) (LJ := fun q6 : Int32 => []) (stJ := fun q6 : Int32 => [.int q6]) (kJ := 0) (slJ := 0) (nJ := 358) (wJ := fun q6 : Int32 => w3) (fun q6 => ?_) (fun hq6 => ?_)
              · exact hz_reti dX7_kindAt_75 rfl (by decide)
              · refine hz_icmpne (pc' := 70) (tgt := 74) dX7_kindAt_67 (by decide) rfl ?_ ?_
                · refine hz_iconst (pc' := 75) (v := 5) dX7_kindAt_74 rfl (by decide) ?_
                  exact hz_loc [] rfl (hq6 5)
                · refine hz_iconst (pc' := 71) (v := 4) dX7_kindAt_70 rfl (by decide) ?_
                  refine hz_goto (tgt := 75) dX7_kindAt_71 (by decide) ?_
                  exact hz_loc [] rfl (hq6 4)
            · refine hz_iconst (pc' := 63) (v := 3) dX7_kindAt_62 rfl (by decide) ?_
              exact hz_reti dX7_kindAt_63 rfl (by decide)
        · refine hz_iload_n (pc' := 43) (j := 0) dX7_kindAt_42 rfl rfl rfl ?_
          refine hz_bipush (pc' := 45) (v := 122) dX7_kindAt_43 rfl (by decide) ?_
          refine hz_icmpgt (pc' := 48) (tgt := 50) dX7_kindAt_45 (by decide) rfl ?_ ?_
          · refine hz_iload_n (pc' := 51) (j := 0) dX7_kindAt_50 rfl rfl rfl ?_
            refine hz_bipush (pc' := 53) (v := 48) dX7_kindAt_51 rfl (by decide) ?_
            refine hz_icmplt (pc' := 56) (tgt := 64) dX7_kindAt_53 (by decide) rfl ?_ ?_
            · refine hz_iload_n (pc' := 65) (j := 0) dX7_kindAt_64 rfl rfl rfl ?_
              refine hz_bipush (pc' := 67) (v := 59) dX7_kindAt_65 rfl (by decide) ?_
              refine hz_bindJ (pcJ := 75) (LJ := fun q7 : Int32 => []) (stJ := fun q7 : Int32 => [.int q7]) (kJ := 0) (slJ := 0) (nJ := 358) (wJ := fun q7 : Int32 => w3) (fun q7 => ?_) (fun hq7 => ?_)
              · exact hz_reti dX7_kindAt_75 rfl (by decide)
              · refine hz_icmpne (pc' := 70) (tgt := 74) dX7_kindAt_67 (by decide) rfl ?_ ?_
                · refine hz_iconst (pc' := 75) (v := 5) dX7_kindAt_74 rfl (by decide) ?_
                  exact hz_loc [] rfl (hq7 5)
                · refine hz_iconst (pc' := 71) (v := 4) dX7_kindAt_70 rfl (by decide) ?_
                  refine hz_goto (tgt := 75) dX7_kindAt_71 (by decide) ?_
                  exact hz_loc [] rfl (hq7 4)
            · refine hz_iload_n (pc' := 57) (j := 0) dX7_kindAt_56 rfl rfl rfl ?_
              refine hz_bipush (pc' := 59) (v := 57) dX7_kindAt_57 rfl (by decide) ?_
              refine hz_icmpgt (pc' := 62) (tgt := 64) dX7_kindAt_59 (by decide) rfl ?_ ?_
              · refine hz_iload_n (pc' := 65) (j := 0) dX7_kindAt_64 rfl rfl rfl ?_
                refine hz_bipush (pc' := 67) (v := 59) dX7_kindAt_65 rfl (by decide) ?_
                refine hz_bindJ (pcJ := 75) (LJ := fun q8 : Int32 => []) (stJ := fun q8 : Int32 => [.int q8]) (kJ := 0) (slJ := 0) (nJ := 358) (wJ := fun q8 : Int32 => w3) (fun q8 => ?_) (fun hq8 => ?_)
                · exact hz_reti dX7_kindAt_75 rfl (by decide)
                · refine hz_icmpne (pc' := 70) (tgt := 74) dX7_kindAt_67 (by decide) rfl ?_ ?_
                  · refine hz_iconst (pc' := 75) (v := 5) dX7_kindAt_74 rfl (by decide) ?_
                    exact hz_loc [] rfl (hq8 5)
                  · refine hz_iconst (pc' := 71) (v := 4) dX7_kindAt_70 rfl (by decide) ?_
                    refine hz_goto (tgt := 75) dX7_kindAt_71 (by decide) ?_
                    exact hz_loc [] rfl (hq8 4)
              · refine hz_iconst (pc' := 63) (v := 3) dX7_kindAt_62 rfl (by decide) ?_
                exact hz_reti dX7_kindAt_63 rfl (by decide)
          · refine hz_iconst (pc' := 49) (v := 2) dX7_kindAt_48 rfl (by decide) ?_
            exact hz_reti dX7_kindAt_49 rfl (by decide)
      · refine hz_iconst (pc' := 35) (v := 1) dX7_kindAt_34 rfl (by decide) ?_
        exact hz_reti dX7_kindAt_35 rfl (by decide)
  · refine hz_iconst (pc' := 12) (v := 0) dX7_kindAt_11 rfl (by decide) ?_
    exact hz_reti dX7_kindAt_12 rfl (by decide)
def lp_X7_readNext_8 (c0 : Nat) : Nat → MW → Option (MW)
  | 0, _ => none
  | N + 1, v0 => hz_ldp v0 c0 0 358 5 (fun b2 => (if (v0.1 b2 1) ≤ (v0.1 c0 2) then some v0 else hz_b (f_X7_kindAt c0 (v0.1 c0 2) v0) (fun v4 w3 => (if v4 = 1 then hz_let (hz_pn w3 c0 2 ((w3.1 c0 2) + 1)) (fun w5 => lp_X7_readNext_8 c0 N w5) else some w3))))
def lp_X7_readNext_79 (c0 : Nat) : Nat → MW → Option (MW)
  | 0, _ => none
  | N + 1, v0 => hz_ldp v0 c0 0 358 5 (fun b9 => (if (v0.1 b9 1) ≤ (v0.1 c0 3) then some v0 else (if (v0.1 c0 1) = 2 then hz_b (f_X7_kindAt c0 (v0.1 c0 3) v0) (fun v11 w10 => (if v11 = (w10.1 c0 1) then hz_let (hz_pn w10 c0 3 ((w10.1 c0 3) + 1)) (fun w12 => lp_X7_readNext_79 c0 N w12) else some w10)) else (if (v0.1 c0 1) = 3 then hz_b (f_X7_kindAt c0 (v0.1 c0 3) v0) (fun v14 w13 => (if v14 = (w13.1 c0 1) then hz_let (hz_pn w13 c0 3 ((w13.1 c0 3) + 1)) (fun w15 => lp_X7_readNext_79 c0 N w15) else some w13)) else some v0))))
def f_X7_readNext (a0 : Nat) (w : MW) : Option (MW) :=
  hz_gd (hz_g 358 a0 8) (hz_let (hz_pn w a0 2 (w.1 a0 3)) (fun w1 => Option.bind (lp_X7_readNext_8 a0 3000 w1) (fun q3 : MW => hz_b (f_X7_kindAt a0 (q3.1 a0 2) q3) (fun v5 w4 => hz_let (hz_pn w4 a0 1 v5) (fun w6 => hz_ldp w6 a0 0 358 5 (fun b7 => hz_let (hz_pn w6 a0 3 (if (w6.1 b7 1) < ((w6.1 a0 2) + 1) then (w6.1 b7 1) else ((w6.1 a0 2) + 1))) (fun w8 => Option.bind (lp_X7_readNext_79 a0 3000 w8) (fun q10 : MW => Option.bind ((if (q10.1 a0 1) = 3 then (if ((q10.1 a0 3) - (q10.1 a0 2)) ≤ 5 then some q10 else hz_let (hz_pn q10 a0 1 5) (fun w12 => some w12)) else some q10)) (fun q11 : MW => some q11)))))))))
set_option maxHeartbeats 4000000 in
set_option maxRecDepth 100000 in
theorem ct_X7_readNext {l : Launch} (hl : l.stackTraces = false) {B : Bt} {a0 : Nat} {w : MW} {r : MW} (h : f_X7_readNext a0 w = some r) : hz_Met l B false 358 358 yX7_readNext cX7_readNext 1 (Option.none : Option FieldType) 4 0 0 [.ref (B.1 + a0)] w none r := by
  refine hz_ofJ (rv := (fun _ : MW => none)) (wo := (fun r : MW => r)) (own := RX7) (ini := false) hl (by decide) rfl (Or.inr rfl) (Nat.le_of_ble_eq_true rfl) rfl ?_ h
  intro p e s m args below meth c
  unfold f_X7_readNext
  refine hz_gdr (fun ga0 => ?_)
  refine hz_aload_n (pc' := 1) (j := 0) dX7_readNext_0 rfl rfl rfl ?_
  refine hz_aload_n (pc' := 2) (j := 0) dX7_readNext_1 rfl rfl rfl ?_
  refine hz_gI (pc' := 5) fl_X7_13.r ga0 rfl dX7_readNext_2 rfl ?_
  refine hz_putI (pc' := 8) fl_X7_20 ga0 rfl dX7_readNext_5 rfl (fun w1 => ?_)
  refine hz_bindJ (pcJ := 47) (LJ := fun q3 : MW => [(0, .ref (B.1 + a0))]) (stJ := fun _ => []) (kJ := 0) (slJ := 0) (nJ := 358) (wJ := fun q3 : MW => q3) (fun q3 => ?_) (fun hq3 => ?_)
  · refine hz_aload_n (pc' := 48) (j := 0) dX7_readNext_47 rfl rfl rfl ?_
    refine hz_aload_n (pc' := 49) (j := 0) dX7_readNext_48 rfl rfl rfl ?_
    refine hz_aload_n (pc' := 50) (j := 0) dX7_readNext_49 rfl rfl rfl ?_
    refine hz_gI (pc' := 53) fl_X7_20.r ga0 rfl dX7_readNext_50 rfl ?_
    refine hz_cVi (pc' := 56) (av := [.int (q3.1 a0 2)]) (rest := [.ref (B.1 + a0)]) vl_X7_28 (fun x w' h => ct_X7_kindAt hl h) ga0 rfl rfl (Nat.le_of_ble_eq_true rfl) (by decide) (by decide) rfl dX7_readNext_53 rfl (fun v5 w4 => ?_)
    refine hz_putI (pc' := 59) fl_X7_32 ga0 rfl dX7_readNext_56 rfl (fun w6 => ?_)
    refine hz_aload_n (pc' := 60) (j := 0) dX7_readNext_59 rfl rfl rfl ?_
    refine hz_aload_n (pc' := 61) (j := 0) dX7_readNext_60 rfl rfl rfl ?_
    refine hz_gI (pc' := 64) fl_X7_20.r ga0 rfl dX7_readNext_61 rfl ?_
    refine hz_iconst (pc' := 65) (v := 1) dX7_readNext_64 rfl (by decide) ?_
    refine hz_iadd (pc' := 66) dX7_readNext_65 rfl ?_
    refine hz_aload_n (pc' := 67) (j := 0) dX7_readNext_66 rfl rfl rfl ?_
    refine hz_gP (pc' := 70) (c' := 5) fl_X7_7.r ga0 rfl dX7_readNext_67 rfl (fun b7 gb7 => ?_)
    refine hz_gI (pc' := 73) fl_X7_23.r gb7 rfl dX7_readNext_70 rfl ?_
    refine hz_mmin (pc' := 76) hq_421 hq_422 hq_17 hq_423 ⟨Nat.le_of_ble_eq_true rfl, Nat.le_of_ble_eq_true rfl⟩ (by decide) dX7_readNext_73 rfl ?_
    refine hz_putI (pc' := 79) fl_X7_13 ga0 rfl dX7_readNext_76 rfl (fun w8 => ?_)
    refine hz_bindJ (pcJ := 137) (LJ := fun q10 : MW => [(0, .ref (B.1 + a0))]) (stJ := fun _ => []) (kJ := 0) (slJ := 0) (nJ := 358) (wJ := fun q10 : MW => q10) (fun q10 => ?_) (fun hq10 => ?_)
    · refine hz_aload_n (pc' := 138) (j := 0) dX7_readNext_137 rfl rfl rfl ?_
      refine hz_gI (pc' := 141) fl_X7_32.r ga0 rfl dX7_readNext_138 rfl ?_
      refine hz_iconst (pc' := 142) (v := 3) dX7_readNext_141 rfl (by decide) ?_
      refine hz_bindJ (pcJ := 163) (LJ := fun q11 : MW => []) (stJ := fun q11 : MW => []) (kJ := 0) (slJ := 0) (nJ := 358) (wJ := fun q11 : MW => q11) (fun q11 => ?_) (fun hq11 => ?_)
      · exact hz_retv dX7_readNext_163 rfl (by decide)
      · refine hz_icmpne (pc' := 145) (tgt := 163) dX7_readNext_142 (by decide) rfl ?_ ?_
        · exact hz_loc [] rfl (hq11 q10)
        · refine hz_aload_n (pc' := 146) (j := 0) dX7_readNext_145 rfl rfl rfl ?_
          refine hz_gI (pc' := 149) fl_X7_13.r ga0 rfl dX7_readNext_146 rfl ?_
          refine hz_aload_n (pc' := 150) (j := 0) dX7_readNext_149 rfl rfl rfl ?_
          refine hz_gI (pc' := 153) fl_X7_20.r ga0 rfl dX7_readNext_150 rfl ?_
          refine hz_isub (pc' := 154) dX7_readNext_153 rfl ?_
          refine hz_iconst (pc' := 155) (v := 5) dX7_readNext_154 rfl (by decide) ?_
          refine hz_icmple (pc' := 158) (tgt := 163) dX7_readNext_155 (by decide) rfl ?_ ?_
          · exact hz_loc [] rfl (hq11 q10)
          · refine hz_aload_n (pc' := 159) (j := 0) dX7_readNext_158 rfl rfl rfl ?_
            refine hz_iconst (pc' := 160) (v := 5) dX7_readNext_159 rfl (by decide) ?_
            refine hz_putI (pc' := 163) fl_X7_32 ga0 rfl dX7_readNext_160 rfl (fun w12 => ?_)
            exact hz_loc [] rfl (hq11 w12)
    · refine hz_loc [0] rfl (hz_loopJ (lp := lp_X7_readNext_79 a0) (Lh := fun v9 : MW => [(0, .ref (B.1 + a0))]) (wh := fun v9 : MW => v9) (fun _ => rfl) (fun Nv9 ihv9 v9 => ?_) 3000 w8)
      rw [lp_X7_readNext_79]
      refine hz_aload_n (pc' := 80) (j := 0) dX7_readNext_79 rfl rfl rfl ?_
      refine hz_gI (pc' := 83) fl_X7_13.r ga0 rfl dX7_readNext_80 rfl ?_
      refine hz_aload_n (pc' := 84) (j := 0) dX7_readNext_83 rfl rfl rfl ?_
      refine hz_gP (pc' := 87) (c' := 5) fl_X7_7.r ga0 rfl dX7_readNext_84 rfl (fun b13 gb13 => ?_)
      refine hz_gI (pc' := 90) fl_X7_23.r gb13 rfl dX7_readNext_87 rfl ?_
      refine hz_icmpge (pc' := 93) (tgt := 137) dX7_readNext_90 (by decide) rfl ?_ ?_
      · exact hz_loc [0] rfl (hq10 v9)
      · refine hz_aload_n (pc' := 94) (j := 0) dX7_readNext_93 rfl rfl rfl ?_
        refine hz_gI (pc' := 97) fl_X7_32.r ga0 rfl dX7_readNext_94 rfl ?_
        refine hz_iconst (pc' := 98) (v := 2) dX7_readNext_97 rfl (by decide) ?_
        refine hz_icmpeq (pc' := 101) (tgt := 109) dX7_readNext_98 (by decide) rfl ?_ ?_
        · refine hz_aload_n (pc' := 110) (j := 0) dX7_readNext_109 rfl rfl rfl ?_
          refine hz_aload_n (pc' := 111) (j := 0) dX7_readNext_110 rfl rfl rfl ?_
          refine hz_gI (pc' := 114) fl_X7_13.r ga0 rfl dX7_readNext_111 rfl ?_
          refine hz_cVi (pc' := 117) (av := [.int (v9.1 a0 3)]) (rest := []) vl_X7_28 (fun x w' h => ct_X7_kindAt hl h) ga0 rfl rfl (Nat.le_of_ble_eq_true rfl) (by decide) (by decide) rfl dX7_readNext_114 rfl (fun v15 w14 => ?_)
          refine hz_aload_n (pc' := 118) (j := 0) dX7_readNext_117 rfl rfl rfl ?_
          refine hz_gI (pc' := 121) fl_X7_32.r ga0 rfl dX7_readNext_118 rfl ?_
          refine hz_icmpne (pc' := 124) (tgt := 137) dX7_readNext_121 (by decide) rfl ?_ ?_
          · exact hz_loc [0] rfl (hq10 w14)
          · refine hz_aload_n (pc' := 125) (j := 0) dX7_readNext_124 rfl rfl rfl ?_
            refine hz_dup (pc' := 126) dX7_readNext_125 rfl rfl ?_
            refine hz_gI (pc' := 129) fl_X7_13.r ga0 rfl dX7_readNext_126 rfl ?_
            refine hz_iconst (pc' := 130) (v := 1) dX7_readNext_129 rfl (by decide) ?_
            refine hz_iadd (pc' := 131) dX7_readNext_130 rfl ?_
            refine hz_putI (pc' := 134) fl_X7_13 ga0 rfl dX7_readNext_131 rfl (fun w16 => ?_)
            refine hz_goto (tgt := 79) dX7_readNext_134 (by decide) ?_
            exact hz_loc [0] rfl (ihv9 w16)
        · refine hz_aload_n (pc' := 102) (j := 0) dX7_readNext_101 rfl rfl rfl ?_
          refine hz_gI (pc' := 105) fl_X7_32.r ga0 rfl dX7_readNext_102 rfl ?_
          refine hz_iconst (pc' := 106) (v := 3) dX7_readNext_105 rfl (by decide) ?_
          refine hz_icmpne (pc' := 109) (tgt := 137) dX7_readNext_106 (by decide) rfl ?_ ?_
          · exact hz_loc [0] rfl (hq10 v9)
          · refine hz_aload_n (pc' := 110) (j := 0) dX7_readNext_109 rfl rfl rfl ?_
            refine hz_aload_n (pc' := 111) (j := 0) dX7_readNext_110 rfl rfl rfl ?_
            refine hz_gI (pc' := 114) fl_X7_13.r ga0 rfl dX7_readNext_111 rfl ?_
            refine hz_cVi (pc' := 117) (av := [.int (v9.1 a0 3)]) (rest := []) vl_X7_28 (fun x w' h => ct_X7_kindAt hl h) ga0 rfl rfl (Nat.le_of_ble_eq_true rfl) (by decide) (by decide) rfl dX7_readNext_114 rfl (fun v18 w17 => ?_)
            refine hz_aload_n (pc' := 118) (j := 0) dX7_readNext_117 rfl rfl rfl ?_
            refine hz_gI (pc' := 121) fl_X7_32.r ga0 rfl dX7_readNext_118 rfl ?_
            refine hz_icmpne (pc' := 124) (tgt := 137) dX7_readNext_121 (by decide) rfl ?_ ?_
            · exact hz_loc [0] rfl (hq10 w17)
            · refine hz_aload_n (pc' := 125) (j := 0) dX7_readNext_124 rfl rfl rfl ?_
              refine hz_dup (pc' := 126) dX7_readNext_125 rfl rfl ?_
              refine hz_gI (pc' := 129) fl_X7_13.r ga0 rfl dX7_readNext_126 rfl ?_
              refine hz_iconst (pc' := 130) (v := 1) dX7_readNext_129 rfl (by decide) ?_
              refine hz_iadd (pc' := 131) dX7_readNext_130 rfl ?_
              refine hz_putI (pc' := 134) fl_X7_13 ga0 rfl dX7_readNext_131 rfl (fun w19 => ?_)
              refine hz_goto (tgt := 79) dX7_readNext_134 (by decide) ?_
              exact hz_loc [0] rfl (ihv9 w19)
  · refine hz_loc [0] rfl (hz_loopJ (lp := lp_X7_readNext_8 a0) (Lh := fun v2 : MW => [(0, .ref (B.1 + a0))]) (wh := fun v2 : MW => v2) (fun _ => rfl) (fun Nv2 ihv2 v2 => ?_) 3000 w1)
    rw [lp_X7_readNext_8]
    refine hz_aload_n (pc' := 9) (j := 0) dX7_readNext_8 rfl rfl rfl ?_
    refine hz_gI (pc' := 12) fl_X7_20.r ga0 rfl dX7_readNext_9 rfl ?_
    refine hz_aload_n (pc' := 13) (j := 0) dX7_readNext_12 rfl rfl rfl ?_
    refine hz_gP (pc' := 16) (c' := 5) fl_X7_7.r ga0 rfl dX7_readNext_13 rfl (fun b20 gb20 => ?_)
    refine hz_gI (pc' := 19) fl_X7_23.r gb20 rfl dX7_readNext_16 rfl ?_
    refine hz_icmpge (pc' := 22) (tgt := 47) dX7_readNext_19 (by decide) rfl ?_ ?_
    · exact hz_loc [0] rfl (hq3 v2)
    · refine hz_aload_n (pc' := 23) (j := 0) dX7_readNext_22 rfl rfl rfl ?_
      refine hz_aload_n (pc' := 24) (j := 0) dX7_readNext_23 rfl rfl rfl ?_
      refine hz_gI (pc' := 27) fl_X7_20.r ga0 rfl dX7_readNext_24 rfl ?_
      refine hz_cVi (pc' := 30) (av := [.int (v2.1 a0 2)]) (rest := []) vl_X7_28 (fun x w' h => ct_X7_kindAt hl h) ga0 rfl rfl (Nat.le_of_ble_eq_true rfl) (by decide) (by decide) rfl dX7_readNext_27 rfl (fun v22 w21 => ?_)
      refine hz_iconst (pc' := 31) (v := 1) dX7_readNext_30 rfl (by decide) ?_
      refine hz_icmpne (pc' := 34) (tgt := 47) dX7_readNext_31 (by decide) rfl ?_ ?_
      · exact hz_loc [0] rfl (hq3 w21)
      · refine hz_aload_n (pc' := 35) (j := 0) dX7_readNext_34 rfl rfl rfl ?_
        refine hz_dup (pc' := 36) dX7_readNext_35 rfl rfl ?_
        refine hz_gI (pc' := 39) fl_X7_20.r ga0 rfl dX7_readNext_36 rfl ?_
        refine hz_iconst (pc' := 40) (v := 1) dX7_readNext_39 rfl (by decide) ?_
        refine hz_iadd (pc' := 41) dX7_readNext_40 rfl ?_
        refine hz_putI (pc' := 44) fl_X7_20 ga0 rfl dX7_readNext_41 rfl (fun w23 => ?_)
        refine hz_goto (tgt := 8) dX7_readNext_44 (by decide) ?_
        exact hz_loc [0] rfl (ihv2 w23)
def lp_X7_isAtWord_28 (c0 : Nat) (c1 : Nat) : Nat → (Int32 × MW) → Option (Int32 × MW)
  | 0, _ => none
  | N + 1, v0 => hz_gd (decide (c1 < 14)) ((if (Int32.ofNat (hz_wlen.getD c1 0)) ≤ v0.1 then hz_gd (hz_isb 1) (some (1, v0.2)) else hz_ldp v0.2 c0 0 358 5 (fun b1 => hz_b (f_X4_byteAt b1 ((v0.2.1 c0 2) + v0.1) v0.2) (fun v3 w2 => hz_gd (decide (c1 < 14) && hz_ix v0.1 (hz_wlen.getD c1 0)) ((if v3 = ((hz_wbyt.getD c1 []).getD (v0.1).toNatClampNeg 0) then hz_let (v0.1 + Int32.ofInt 1) (fun v4 => lp_X7_isAtWord_28 c0 c1 N (v4, w2)) else hz_gd (hz_isb 0) (some (0, w2))))))))
def f_X7_isAtWord (a0 : Nat) (x1 : Nat) (w : MW) : Option (Int32 × MW) :=
  hz_gd (hz_g 358 a0 8) ((if (w.1 a0 1) = 2 then hz_gd (decide (x1 < 14)) ((if ((w.1 a0 3) - (w.1 a0 2)) = (Int32.ofNat (hz_wlen.getD x1 0)) then lp_X7_isAtWord_28 a0 x1 3000 (0, w) else hz_gd (hz_isb 0) (some (0, w)))) else hz_gd (hz_isb 0) (some (0, w))))
set_option maxHeartbeats 4000000 in
set_option maxRecDepth 100000 in
theorem ct_X7_isAtWord {l : Launch} (hl : l.stackTraces = false) {B : Bt} {a0 : Nat} {x1 : Nat} {w : MW} {r : Int32 × MW} (h : f_X7_isAtWord a0 x1 w = some r) : hz_Met l B false 358 358 yX7_isAtWord cX7_isAtWord 3 (Option.some FieldType.boolean) 9 0 0 [.ref (B.1 + a0), .ref (B.2.2.2.1 x1)] w (some (.int r.1)) r.2 := by
  refine hz_ofJ (rv := (fun r : Int32 × MW => some (.int r.1))) (wo := (fun r : Int32 × MW => r.2)) (own := RX7) (ini := false) hl (by decide) rfl (Or.inr rfl) (Nat.le_of_ble_eq_true rfl) rfl ?_ h
  intro p e s m args below meth c
  unfold f_X7_isAtWord
  refine hz_gdr (fun ga0 => ?_)
  refine hz_aload_n (pc' := 1) (j := 0) dX7_isAtWord_0 rfl rfl rfl ?_
  refine hz_gI (pc' := 4) fl_X7_32.r ga0 rfl dX7_isAtWord_1 rfl ?_
  refine hz_iconst (pc' := 5) (v := 2) dX7_isAtWord_4 rfl (by decide) ?_
  refine hz_icmpne (pc' := 8) (tgt := 24) dX7_isAtWord_5 (by decide) rfl ?_ ?_
  · refine hz_iconst (pc' := 25) (v := 0) dX7_isAtWord_24 rfl (by decide) ?_
    exact hz_retz dX7_isAtWord_25 rfl (by decide)
  · refine hz_aload_n (pc' := 9) (j := 0) dX7_isAtWord_8 rfl rfl rfl ?_
    refine hz_gI (pc' := 12) fl_X7_13.r ga0 rfl dX7_isAtWord_9 rfl ?_
    refine hz_aload_n (pc' := 13) (j := 0) dX7_isAtWord_12 rfl rfl rfl ?_
    refine hz_gI (pc' := 16) fl_X7_20.r ga0 rfl dX7_isAtWord_13 rfl ?_
    refine hz_isub (pc' := 17) dX7_isAtWord_16 rfl ?_
    refine hz_aload_n (pc' := 18) (j := 1) dX7_isAtWord_17 rfl rfl rfl ?_
    refine hz_strlen (pc' := 21) hq_437 ⟨Nat.le_of_ble_eq_true rfl, Nat.le_of_ble_eq_true rfl⟩ (by decide) dX7_isAtWord_18 rfl ?_
    refine hz_icmpeq (pc' := 24) (tgt := 26) dX7_isAtWord_21 (by decide) rfl ?_ ?_
    · refine hz_iconst (pc' := 27) (v := 0) dX7_isAtWord_26 rfl (by decide) ?_
      refine hz_istore_n (pc' := 28) (L' := [(2, .int 0), (0, .ref (B.1 + a0)), (1, .ref (B.2.2.2.1 x1))]) dX7_isAtWord_27 rfl rfl (by decide) rfl ?_
      refine hz_loc [1, 2, 0] rfl (hz_loopJ (lp := lp_X7_isAtWord_28 a0 x1) (Lh := fun v1 : Int32 × MW => [(0, .ref (B.1 + a0)), (1, .ref (B.2.2.2.1 x1)), (2, .int v1.1)]) (wh := fun v1 : Int32 × MW => v1.2) (fun _ => rfl) (fun Nv1 ihv1 v1 => ?_) 3000 (0, w))
      rw [lp_X7_isAtWord_28]
      refine hz_iload_n (pc' := 29) (j := 2) dX7_isAtWord_28 rfl rfl rfl ?_
      refine hz_aload_n (pc' := 30) (j := 1) dX7_isAtWord_29 rfl rfl rfl ?_
      refine hz_strlen (pc' := 33) hq_437 ⟨Nat.le_of_ble_eq_true rfl, Nat.le_of_ble_eq_true rfl⟩ (by decide) dX7_isAtWord_30 rfl ?_
      refine hz_icmpge (pc' := 36) (tgt := 65) dX7_isAtWord_33 (by decide) rfl ?_ ?_
      · refine hz_iconst (pc' := 66) (v := 1) dX7_isAtWord_65 rfl (by decide) ?_
        exact hz_retz dX7_isAtWord_66 rfl (by decide)
      · refine hz_aload_n (pc' := 37) (j := 0) dX7_isAtWord_36 rfl rfl rfl ?_
        refine hz_gP (pc' := 40) (c' := 5) fl_X7_7.r ga0 rfl dX7_isAtWord_37 rfl (fun b2 gb2 => ?_)
        refine hz_aload_n (pc' := 41) (j := 0) dX7_isAtWord_40 rfl rfl rfl ?_
        refine hz_gI (pc' := 44) fl_X7_20.r ga0 rfl dX7_isAtWord_41 rfl ?_
        refine hz_iload_n (pc' := 45) (j := 2) dX7_isAtWord_44 rfl rfl rfl ?_
        refine hz_iadd (pc' := 46) dX7_isAtWord_45 rfl ?_
        refine hz_cVi (pc' := 49) (av := [.int ((v1.2.1 a0 2) + v1.1)]) (rest := []) vl_X7_41 (fun x w' h => ct_X4_byteAt hl h) gb2 rfl rfl (Nat.le_of_ble_eq_true rfl) (by decide) (by decide) rfl dX7_isAtWord_46 rfl (fun v4 w3 => ?_)
        refine hz_aload_n (pc' := 50) (j := 1) dX7_isAtWord_49 rfl rfl rfl ?_
        refine hz_iload_n (pc' := 51) (j := 2) dX7_isAtWord_50 rfl rfl rfl ?_
        refine hz_charAt (pc' := 54) hq_447 ⟨Nat.le_of_ble_eq_true rfl, Nat.le_of_ble_eq_true rfl⟩ (by decide) dX7_isAtWord_51 rfl ?_
        refine hz_icmpeq (pc' := 57) (tgt := 59) dX7_isAtWord_54 (by decide) rfl ?_ ?_
        · refine hz_iincN (pc' := 62) (j := 2) (fun v5 => [(2, .int v5), (0, .ref (B.1 + a0)), (1, .ref (B.2.2.2.1 x1))]) dX7_isAtWord_59 rfl rfl (by decide) (fun _ => rfl) (fun v5 => ?_)
          refine hz_goto (tgt := 28) dX7_isAtWord_62 (by decide) ?_
          exact hz_loc [1, 2, 0] rfl (ihv1 (v5, w3))
        · refine hz_iconst (pc' := 58) (v := 0) dX7_isAtWord_57 rfl (by decide) ?_
          exact hz_retz dX7_isAtWord_58 rfl (by decide)
    · refine hz_iconst (pc' := 25) (v := 0) dX7_isAtWord_24 rfl (by decide) ?_
      exact hz_retz dX7_isAtWord_25 rfl (by decide)
def lp_X7_numberHere_7 (c0 : Nat) : Nat → (Int32 × Int32 × MW) → Option (Int32 × MW)
  | 0, _ => none
  | N + 1, v0 => (if (v0.2.2.1 c0 3) ≤ v0.2.1 then some (v0.1, v0.2.2) else hz_ldp v0.2.2 c0 0 358 5 (fun b2 => hz_b (f_X4_byteAt b2 v0.2.1 v0.2.2) (fun v4 w3 => hz_let ((v0.1 * 10) + (v4 - 48)) (fun v5 => hz_let (v0.2.1 + Int32.ofInt 1) (fun v6 => lp_X7_numberHere_7 c0 N (v5, v6, w3))))))
def f_X7_numberHere (a0 : Nat) (w : MW) : Option (Int32 × MW) :=
  hz_gd (hz_g 358 a0 8) (hz_let (w.1 a0 2) (fun v1 => Option.bind (lp_X7_numberHere_7 a0 3000 (0, v1, w)) (fun q3 : Int32 × MW => some (q3.1, q3.2))))
set_option maxHeartbeats 4000000 in
set_option maxRecDepth 100000 in
theorem ct_X7_numberHere {l : Launch} (hl : l.stackTraces = false) {B : Bt} {a0 : Nat} {w : MW} {r : Int32 × MW} (h : f_X7_numberHere a0 w = some r) : hz_Met l B false 358 358 yX7_numberHere cX7_numberHere 3 (Option.some FieldType.int) 3 0 0 [.ref (B.1 + a0)] w (some (.int r.1)) r.2 := by
  refine hz_ofJ (rv := (fun r : Int32 × MW => some (.int r.1))) (wo := (fun r : Int32 × MW => r.2)) (own := RX7) (ini := false) hl (by decide) rfl (Or.inr rfl) (Nat.le_of_ble_eq_true rfl) rfl ?_ h
  intro p e s m args below meth c
  unfold f_X7_numberHere
  refine hz_gdr (fun ga0 => ?_)
  refine hz_iconst (pc' := 1) (v := 0) dX7_numberHere_0 rfl (by decide) ?_
  refine hz_istore_n (pc' := 2) (L' := [(1, .int 0), (0, .ref (B.1 + a0))]) dX7_numberHere_1 rfl rfl (by decide) rfl ?_
  refine hz_aload_n (pc' := 3) (j := 1) dX7_numberHere_2 rfl rfl rfl ?_
  refine hz_gI (pc' := 6) fl_X7_20.r ga0 rfl dX7_numberHere_3 rfl ?_
  refine hz_nameI (fun v1 => ?_)
  refine hz_istore_n (pc' := 7) (L' := [(2, .int v1), (1, .int 0), (0, .ref (B.1 + a0))]) dX7_numberHere_6 rfl rfl (by decide) rfl ?_
  refine hz_bindJ (pcJ := 38) (LJ := fun q3 : Int32 × MW => [(1, .int q3.1)]) (stJ := fun _ => []) (kJ := 0) (slJ := 0) (nJ := 358) (wJ := fun q3 : Int32 × MW => q3.2) (fun q3 => ?_) (fun hq3 => ?_)
  · refine hz_iload_n (pc' := 39) (j := 0) dX7_numberHere_38 rfl rfl rfl ?_
    exact hz_reti dX7_numberHere_39 rfl (by decide)
  · refine hz_loc [2, 1, 0] rfl (hz_loopJ (lp := lp_X7_numberHere_7 a0) (Lh := fun v2 : Int32 × Int32 × MW => [(0, .ref (B.1 + a0)), (1, .int v2.1), (2, .int v2.2.1)]) (wh := fun v2 : Int32 × Int32 × MW => v2.2.2) (fun _ => rfl) (fun Nv2 ihv2 v2 => ?_) 3000 (0, v1, w))
    rw [lp_X7_numberHere_7]
    refine hz_iload_n (pc' := 8) (j := 2) dX7_numberHere_7 rfl rfl rfl ?_
    refine hz_aload_n (pc' := 9) (j := 0) dX7_numberHere_8 rfl rfl rfl ?_
    refine hz_gI (pc' := 12) fl_X7_13.r ga0 rfl dX7_numberHere_9 rfl ?_
    refine hz_icmpge (pc' := 15) (tgt := 38) dX7_numberHere_12 (by decide) rfl ?_ ?_
    · exact hz_loc [1] rfl (hq3 (v2.1, v2.2.2))
    · refine hz_iload_n (pc' := 16) (j := 1) dX7_numberHere_15 rfl rfl rfl ?_
      refine hz_bipush (pc' := 18) (v := 10) dX7_numberHere_16 rfl (by decide) ?_
      refine hz_imul (pc' := 19) dX7_numberHere_18 rfl ?_
      refine hz_aload_n (pc' := 20) (j := 0) dX7_numberHere_19 rfl rfl rfl ?_
      refine hz_gP (pc' := 23) (c' := 5) fl_X7_7.r ga0 rfl dX7_numberHere_20 rfl (fun b4 gb4 => ?_)
      refine hz_iload_n (pc' := 24) (j := 2) dX7_numberHere_23 rfl rfl rfl ?_
      refine hz_cVi (pc' := 27) (av := [.int v2.2.1]) (rest := [.int (v2.1 * 10)]) vl_X7_41 (fun x w' h => ct_X4_byteAt hl h) gb4 rfl rfl (Nat.le_of_ble_eq_true rfl) (by decide) (by decide) rfl dX7_numberHere_24 rfl (fun v6 w5 => ?_)
      refine hz_bipush (pc' := 29) (v := 48) dX7_numberHere_27 rfl (by decide) ?_
      refine hz_isub (pc' := 30) dX7_numberHere_29 rfl ?_
      refine hz_iadd (pc' := 31) dX7_numberHere_30 rfl ?_
      refine hz_nameI (fun v7 => ?_)
      refine hz_istore_n (pc' := 32) (L' := [(1, .int v7), (0, .ref (B.1 + a0)), (2, .int v2.2.1)]) dX7_numberHere_31 rfl rfl (by decide) rfl ?_
      refine hz_iincN (pc' := 35) (j := 2) (fun v8 => [(2, .int v8), (1, .int v7), (0, .ref (B.1 + a0))]) dX7_numberHere_32 rfl rfl (by decide) (fun _ => rfl) (fun v8 => ?_)
      refine hz_goto (tgt := 7) dX7_numberHere_35 (by decide) ?_
      exact hz_loc [2, 1, 0] rfl (ihv2 (v7, v8, w5))
def f_X7_readFirst (a0 : Nat) (w : MW) : Option (MW) :=
  hz_gd (hz_g 358 a0 8) (hz_let (hz_pn w a0 3 0) (fun w1 => hz_bv (f_X7_readNext a0 w1) (fun w2 => some w2)))
set_option maxHeartbeats 4000000 in
set_option maxRecDepth 100000 in
theorem ct_X7_readFirst {l : Launch} (hl : l.stackTraces = false) {B : Bt} {a0 : Nat} {w : MW} {r : MW} (h : f_X7_readFirst a0 w = some r) : hz_Met l B false 358 358 yX7_readFirst cX7_readFirst 1 (Option.none : Option FieldType) 5 0 0 [.ref (B.1 + a0)] w none r := by
  refine hz_ofJ (rv := (fun _ : MW => none)) (wo := (fun r : MW => r)) (own := RX7) (ini := false) hl (by decide) rfl (Or.inr rfl) (Nat.le_of_ble_eq_true rfl) rfl ?_ h
  intro p e s m args below meth c
  unfold f_X7_readFirst
  refine hz_gdr (fun ga0 => ?_)
  refine hz_aload_n (pc' := 1) (j := 0) dX7_readFirst_0 rfl rfl rfl ?_
  refine hz_iconst (pc' := 2) (v := 0) dX7_readFirst_1 rfl (by decide) ?_
  refine hz_putI (pc' := 5) fl_X7_13 ga0 rfl dX7_readFirst_2 rfl (fun w1 => ?_)
  refine hz_aload_n (pc' := 6) (j := 0) dX7_readFirst_5 rfl rfl rfl ?_
  refine hz_cVv (pc' := 9) (av := []) (rest := []) vl_X7_17 (fun w' h => ct_X7_readNext hl h) ga0 rfl rfl (Nat.le_of_ble_eq_true rfl) (by decide) (by decide) rfl dX7_readFirst_6 rfl (fun w2 => ?_)
  exact hz_retv dX7_readFirst_9 rfl (by decide)
def f_J6_bitCount_0f7a4 (x0 : Int32) (w : MW) : Option (Int32 × MW) :=
  hz_let (x0 - ((((x0 : Int32).toUInt32 >>> ((1 : Int32).toUInt32 &&& Int32.toUInt32 31)).toInt32) &&& 1431655765)) (fun v1 => hz_let ((v1 &&& 858993459) + ((((v1 : Int32).toUInt32 >>> ((2 : Int32).toUInt32 &&& Int32.toUInt32 31)).toInt32) &&& 858993459)) (fun v2 => hz_let ((v2 + (((v2 : Int32).toUInt32 >>> ((4 : Int32).toUInt32 &&& Int32.toUInt32 31)).toInt32)) &&& 252645135) (fun v3 => hz_let (v3 + (((v3 : Int32).toUInt32 >>> ((8 : Int32).toUInt32 &&& Int32.toUInt32 31)).toInt32)) (fun v4 => hz_let (v4 + (((v4 : Int32).toUInt32 >>> ((16 : Int32).toUInt32 &&& Int32.toUInt32 31)).toInt32)) (fun v5 => some ((v5 &&& 63), w))))))
set_option maxHeartbeats 4000000 in
set_option maxRecDepth 100000 in
theorem ct_J6_bitCount_0f7a4 {l : Launch} (hl : l.stackTraces = false) {B : Bt} {x0 : Int32} {w : MW} {r : Int32 × MW} (h : f_J6_bitCount_0f7a4 x0 w = some r) : hz_Met l B false 358 358 yJ6_bitCount_0f7a4 cJ6_bitCount_0f7a4 1 (Option.some FieldType.int) 2 0 0 [.int x0] w (some (.int r.1)) r.2 := by
  refine hz_ofJ (rv := (fun r : Int32 × MW => some (.int r.1))) (wo := (fun r : Int32 × MW => r.2)) (own := RJ6) (ini := false) hl (by decide) rfl (Or.inr rfl) (Nat.le_of_ble_eq_true rfl) rfl ?_ h
  intro p e s m args below meth c
  unfold f_J6_bitCount_0f7a4
  refine hz_iload_n (pc' := 1) (j := 0) dJ6_bitCount_0f7a4_0 rfl rfl rfl ?_
  refine hz_iload_n (pc' := 2) (j := 0) dJ6_bitCount_0f7a4_1 rfl rfl rfl ?_
  refine hz_iconst (pc' := 3) (v := 1) dJ6_bitCount_0f7a4_2 rfl (by decide) ?_
  refine hz_iushr (pc' := 4) dJ6_bitCount_0f7a4_3 rfl ?_
  refine hz_ldcw (pc' := 7) (v := 1431655765) dJ6_bitCount_0f7a4_4 rfl hq_1019 ?_
  refine hz_iand (pc' := 8) dJ6_bitCount_0f7a4_7 rfl ?_
  refine hz_isub (pc' := 9) dJ6_bitCount_0f7a4_8 rfl ?_
  refine hz_nameI (fun v1 => ?_)
  refine hz_istore_n (pc' := 10) (L' := [(0, .int v1)]) dJ6_bitCount_0f7a4_9 rfl rfl (by decide) rfl ?_
  refine hz_iload_n (pc' := 11) (j := 0) dJ6_bitCount_0f7a4_10 rfl rfl rfl ?_
  refine hz_ldcw (pc' := 14) (v := 858993459) dJ6_bitCount_0f7a4_11 rfl hq_1020 ?_
  refine hz_iand (pc' := 15) dJ6_bitCount_0f7a4_14 rfl ?_
  refine hz_iload_n (pc' := 16) (j := 0) dJ6_bitCount_0f7a4_15 rfl rfl rfl ?_
  refine hz_iconst (pc' := 17) (v := 2) dJ6_bitCount_0f7a4_16 rfl (by decide) ?_
  refine hz_iushr (pc' := 18) dJ6_bitCount_0f7a4_17 rfl ?_
  refine hz_ldcw (pc' := 21) (v := 858993459) dJ6_bitCount_0f7a4_18 rfl hq_1020 ?_
  refine hz_iand (pc' := 22) dJ6_bitCount_0f7a4_21 rfl ?_
  refine hz_iadd (pc' := 23) dJ6_bitCount_0f7a4_22 rfl ?_
  refine hz_nameI (fun v2 => ?_)
  refine hz_istore_n (pc' := 24) (L' := [(0, .int v2)]) dJ6_bitCount_0f7a4_23 rfl rfl (by decide) rfl ?_
  refine hz_iload_n (pc' := 25) (j := 0) dJ6_bitCount_0f7a4_24 rfl rfl rfl ?_
  refine hz_iload_n (pc' := 26) (j := 0) dJ6_bitCount_0f7a4_25 rfl rfl rfl ?_
  refine hz_iconst (pc' := 27) (v := 4) dJ6_bitCount_0f7a4_26 rfl (by decide) ?_
  refine hz_iushr (pc' := 28) dJ6_bitCount_0f7a4_27 rfl ?_
  refine hz_iadd (pc' := 29) dJ6_bitCount_0f7a4_28 rfl ?_
  refine hz_ldcw (pc' := 32) (v := 252645135) dJ6_bitCount_0f7a4_29 rfl hq_1021 ?_
  refine hz_iand (pc' := 33) dJ6_bitCount_0f7a4_32 rfl ?_
  refine hz_nameI (fun v3 => ?_)
  refine hz_istore_n (pc' := 34) (L' := [(0, .int v3)]) dJ6_bitCount_0f7a4_33 rfl rfl (by decide) rfl ?_
  refine hz_iload_n (pc' := 35) (j := 0) dJ6_bitCount_0f7a4_34 rfl rfl rfl ?_
  refine hz_iload_n (pc' := 36) (j := 0) dJ6_bitCount_0f7a4_35 rfl rfl rfl ?_
  refine hz_bipush (pc' := 38) (v := 8) dJ6_bitCount_0f7a4_36 rfl (by decide) ?_
  refine hz_iushr (pc' := 39) dJ6_bitCount_0f7a4_38 rfl ?_
  refine hz_iadd (pc' := 40) dJ6_bitCount_0f7a4_39 rfl ?_
  refine hz_nameI (fun v4 => ?_)
  refine hz_istore_n (pc' := 41) (L' := [(0, .int v4)]) dJ6_bitCount_0f7a4_40 rfl rfl (by decide) rfl ?_
  refine hz_iload_n (pc' := 42) (j := 0) dJ6_bitCount_0f7a4_41 rfl rfl rfl ?_
  refine hz_iload_n (pc' := 43) (j := 0) dJ6_bitCount_0f7a4_42 rfl rfl rfl ?_
  refine hz_bipush (pc' := 45) (v := 16) dJ6_bitCount_0f7a4_43 rfl (by decide) ?_
  refine hz_iushr (pc' := 46) dJ6_bitCount_0f7a4_45 rfl ?_
  refine hz_iadd (pc' := 47) dJ6_bitCount_0f7a4_46 rfl ?_
  refine hz_nameI (fun v5 => ?_)
  refine hz_istore_n (pc' := 48) (L' := [(0, .int v5)]) dJ6_bitCount_0f7a4_47 rfl rfl (by decide) rfl ?_
  refine hz_iload_n (pc' := 49) (j := 0) dJ6_bitCount_0f7a4_48 rfl rfl rfl ?_
  refine hz_bipush (pc' := 51) (v := 63) dJ6_bitCount_0f7a4_49 rfl (by decide) ?_
  refine hz_iand (pc' := 52) dJ6_bitCount_0f7a4_51 rfl ?_
  exact hz_reti dJ6_bitCount_0f7a4_52 rfl (by decide)
