def f_X9_append (a0 : Nat) (x1 : Int32) (x2 : Int32) (x3 : Int32) (x4 : Int32) (x5 : Int32) (w : MW) : Option ((String ⊕ Int32) × MW) :=
  hz_gd (hz_g 358 a0 10) (hz_ldp w a0 0 358 5 (fun b1 => (if (w.1 b1 1) ≤ 480 then hz_ldp w a0 0 358 5 (fun b2 => hz_bv (f_X4_addBytesOf b2 x1 w) (fun w3 => hz_ldp w3 a0 0 358 5 (fun b4 => hz_bv (f_X4_addBytesOf b4 x2 w3) (fun w5 => hz_ldp w5 a0 0 358 5 (fun b6 => hz_bv (f_X4_addBytesOf b6 x3 w5) (fun w7 => hz_ldp w7 a0 0 358 5 (fun b8 => hz_bv (f_X4_addBytesOf b8 x4 w7) (fun w9 => hz_ldp w9 a0 0 358 5 (fun b10 => hz_bv (f_X4_addBytesOf b10 x5 w9) (fun w11 => hz_ldp w11 a0 0 358 5 (fun b12 => some (.inr (w11.1 b12 1), w11)))))))))))) else some (.inl "java/lang/IllegalStateException", w))))
set_option maxHeartbeats 4000000 in
set_option maxRecDepth 100000 in
theorem ct_X9_append {l : Launch} (hl : l.stackTraces = false) {B : Bt} {a0 : Nat} {x1 : Int32} {x2 : Int32} {x3 : Int32} {x4 : Int32} {x5 : Int32} {w : MW} {r : (String ⊕ Int32) × MW} (h : f_X9_append a0 x1 x2 x3 x4 x5 w = some r) : hz_MetX l B 358 yX9_append cX9_append 6 (Option.some FieldType.int) 7 1 6 [.ref (B.1 + a0), .int x1, .int x2, .int x3, .int x4, .int x5] w (Sum.map id (fun r => some (.int r)) r.1) r.2 := by
  refine hz_ofJX (rv := (fun r : Int32 => some (.int r))) (own := RX9) hl (by decide) rfl (Nat.le_of_ble_eq_true rfl) rfl ?_ h
  intro p e s m args below meth c
  unfold f_X9_append
  refine hz_gdr (fun ga0 => ?_)
  refine hz_aload_n (pc' := 1) (j := 0) dX9_append_0 rfl rfl rfl ?_
  refine hz_gP (pc' := 4) (c' := 5) fl_X9_10.r ga0 rfl dX9_append_1 rfl (fun b1 gb1 => ?_)
  refine hz_gI (pc' := 7) fl_X9_73.r gb1 rfl dX9_append_4 rfl ?_
  refine hz_sipush (pc' := 10) (v := 480) dX9_append_7 rfl (by decide) ?_
  refine hz_icmple (pc' := 13) (tgt := 23) dX9_append_10 (by decide) rfl ?_ ?_
  · refine hz_aload_n (pc' := 24) (j := 0) dX9_append_23 rfl rfl rfl ?_
    refine hz_gP (pc' := 27) (c' := 5) fl_X9_10.r ga0 rfl dX9_append_24 rfl (fun b2 gb2 => ?_)
    refine hz_iload_n (pc' := 28) (j := 1) dX9_append_27 rfl rfl rfl ?_
    refine hz_cVv (pc' := 31) (av := [.int x1]) (rest := []) vl_X9_83 (fun w' h => ct_X4_addBytesOf hl h) gb2 rfl rfl (Nat.le_of_ble_eq_true rfl) (by decide) (by decide) rfl dX9_append_28 rfl (fun w3 => ?_)
    refine hz_aload_n (pc' := 32) (j := 0) dX9_append_31 rfl rfl rfl ?_
    refine hz_gP (pc' := 35) (c' := 5) fl_X9_10.r ga0 rfl dX9_append_32 rfl (fun b4 gb4 => ?_)
    refine hz_iload_n (pc' := 36) (j := 2) dX9_append_35 rfl rfl rfl ?_
    refine hz_cVv (pc' := 39) (av := [.int x2]) (rest := []) vl_X9_83 (fun w' h => ct_X4_addBytesOf hl h) gb4 rfl rfl (Nat.le_of_ble_eq_true rfl) (by decide) (by decide) rfl dX9_append_36 rfl (fun w5 => ?_)
    refine hz_aload_n (pc' := 40) (j := 0) dX9_append_39 rfl rfl rfl ?_
    refine hz_gP (pc' := 43) (c' := 5) fl_X9_10.r ga0 rfl dX9_append_40 rfl (fun b6 gb6 => ?_)
    refine hz_iload_n (pc' := 44) (j := 3) dX9_append_43 rfl rfl rfl ?_
    refine hz_cVv (pc' := 47) (av := [.int x3]) (rest := []) vl_X9_83 (fun w' h => ct_X4_addBytesOf hl h) gb6 rfl rfl (Nat.le_of_ble_eq_true rfl) (by decide) (by decide) rfl dX9_append_44 rfl (fun w7 => ?_)
    refine hz_aload_n (pc' := 48) (j := 0) dX9_append_47 rfl rfl rfl ?_
    refine hz_gP (pc' := 51) (c' := 5) fl_X9_10.r ga0 rfl dX9_append_48 rfl (fun b8 gb8 => ?_)
    refine hz_iload (pc' := 53) (j := 4) dX9_append_51 rfl rfl ?_
    refine hz_cVv (pc' := 56) (av := [.int x4]) (rest := []) vl_X9_83 (fun w' h => ct_X4_addBytesOf hl h) gb8 rfl rfl (Nat.le_of_ble_eq_true rfl) (by decide) (by decide) rfl dX9_append_53 rfl (fun w9 => ?_)
    refine hz_aload_n (pc' := 57) (j := 0) dX9_append_56 rfl rfl rfl ?_
    refine hz_gP (pc' := 60) (c' := 5) fl_X9_10.r ga0 rfl dX9_append_57 rfl (fun b10 gb10 => ?_)
    refine hz_iload (pc' := 62) (j := 5) dX9_append_60 rfl rfl ?_
    refine hz_cVv (pc' := 65) (av := [.int x5]) (rest := []) vl_X9_83 (fun w' h => ct_X4_addBytesOf hl h) gb10 rfl rfl (Nat.le_of_ble_eq_true rfl) (by decide) (by decide) rfl dX9_append_62 rfl (fun w11 => ?_)
    refine hz_aload_n (pc' := 66) (j := 0) dX9_append_65 rfl rfl rfl ?_
    refine hz_gP (pc' := 69) (c' := 5) fl_X9_10.r ga0 rfl dX9_append_66 rfl (fun b12 gb12 => ?_)
    refine hz_gI (pc' := 72) fl_X9_73.r gb12 rfl dX9_append_69 rfl ?_
    exact hz_retiX dX9_append_72 rfl (by decide)
  · exact hz_throwS tl_76_78 dX9_append_13 dX9_append_16 dX9_append_17 dX9_append_19 dX9_append_22 (Nat.le_of_ble_eq_true rfl) (by decide)
def f_X9_needRange (x0 : Int32) (x1 : Int32) (x2 : Int32) (w : MW) : Option ((String ⊕ Unit) × MW) :=
  (if x0 < x1 then some (.inl "java/lang/IllegalArgumentException", w) else (if x0 ≤ x2 then some (.inr (), w) else some (.inl "java/lang/IllegalArgumentException", w)))
set_option maxHeartbeats 4000000 in
set_option maxRecDepth 100000 in
theorem ct_X9_needRange {l : Launch} (hl : l.stackTraces = false) {B : Bt} {x0 : Int32} {x1 : Int32} {x2 : Int32} {w : MW} {r : (String ⊕ Unit) × MW} (h : f_X9_needRange x0 x1 x2 w = some r) : hz_MetX l B 358 yX9_needRange cX9_needRange 3 (Option.none : Option FieldType) 7 1 6 [.int x0, .int x1, .int x2] w (Sum.map id (fun _ => none) r.1) r.2 := by
  refine hz_ofJX (rv := (fun _ : Unit => none)) (own := RX9) hl (by decide) rfl (Nat.le_of_ble_eq_true rfl) rfl ?_ h
  intro p e s m args below meth c
  unfold f_X9_needRange
  refine hz_iload_n (pc' := 1) (j := 0) dX9_needRange_0 rfl rfl rfl ?_
  refine hz_iload_n (pc' := 2) (j := 1) dX9_needRange_1 rfl rfl rfl ?_
  refine hz_icmplt (pc' := 5) (tgt := 10) dX9_needRange_2 (by decide) rfl ?_ ?_
  · exact hz_throwW tl_204_339 dX9_needRange_10 dX9_needRange_13 dX9_needRange_14 dX9_needRange_17 dX9_needRange_20 (Nat.le_of_ble_eq_true rfl) (by decide)
  · refine hz_iload_n (pc' := 6) (j := 0) dX9_needRange_5 rfl rfl rfl ?_
    refine hz_iload_n (pc' := 7) (j := 2) dX9_needRange_6 rfl rfl rfl ?_
    refine hz_icmple (pc' := 10) (tgt := 21) dX9_needRange_7 (by decide) rfl ?_ ?_
    · exact hz_retvX dX9_needRange_21 rfl (by decide)
    · exact hz_throwW tl_204_339 dX9_needRange_10 dX9_needRange_13 dX9_needRange_14 dX9_needRange_17 dX9_needRange_20 (Nat.le_of_ble_eq_true rfl) (by decide)
def f_X9_truncate (a0 : Nat) (x1 : Int32) (w : MW) : Option ((String ⊕ Int32) × MW) :=
  hz_gd (hz_g 358 a0 10) (hz_ldp w a0 0 358 5 (fun b1 => hz_bx (f_X9_needRange x1 0 (w.1 b1 1) w) (fun _ w2 => hz_ldp w2 a0 0 358 5 (fun b3 => hz_let (hz_pn w2 b3 1 x1) (fun w4 => some (.inr x1, w4))))))
set_option maxHeartbeats 4000000 in
set_option maxRecDepth 100000 in
theorem ct_X9_truncate {l : Launch} (hl : l.stackTraces = false) {B : Bt} {a0 : Nat} {x1 : Int32} {w : MW} {r : (String ⊕ Int32) × MW} (h : f_X9_truncate a0 x1 w = some r) : hz_MetX l B 358 yX9_truncate cX9_truncate 2 (Option.some FieldType.int) 8 1 6 [.ref (B.1 + a0), .int x1] w (Sum.map id (fun r => some (.int r)) r.1) r.2 := by
  refine hz_ofJX (rv := (fun r : Int32 => some (.int r))) (own := RX9) hl (by decide) rfl (Nat.le_of_ble_eq_true rfl) rfl ?_ h
  intro p e s m args below meth c
  unfold f_X9_truncate
  refine hz_gdr (fun ga0 => ?_)
  refine hz_iload_n (pc' := 1) (j := 1) dX9_truncate_0 rfl rfl rfl ?_
  refine hz_iconst (pc' := 2) (v := 0) dX9_truncate_1 rfl (by decide) ?_
  refine hz_aload_n (pc' := 3) (j := 0) dX9_truncate_2 rfl rfl rfl ?_
  refine hz_gP (pc' := 6) (c' := 5) fl_X9_10.r ga0 rfl dX9_truncate_3 rfl (fun b1 gb1 => ?_)
  refine hz_gI (pc' := 9) fl_X9_73.r gb1 rfl dX9_truncate_6 rfl ?_
  refine hz_xSv (pc' := 12) (av := [.int x1, .int 0, .int (w.1 b1 1)]) (rest := []) sl_X9_87 (fun v w' h => ct_X9_needRange hl h) rfl rfl (Nat.le_of_ble_eq_true rfl) (by decide) (by decide) dX9_truncate_9 rfl (fun w2 => ?_)
  refine hz_aload_n (pc' := 13) (j := 0) dX9_truncate_12 rfl rfl rfl ?_
  refine hz_gP (pc' := 16) (c' := 5) fl_X9_10.r ga0 rfl dX9_truncate_13 rfl (fun b3 gb3 => ?_)
  refine hz_iload_n (pc' := 17) (j := 1) dX9_truncate_16 rfl rfl rfl ?_
  refine hz_putI (pc' := 20) fl_X9_73 gb3 rfl dX9_truncate_17 rfl (fun w4 => ?_)
  refine hz_iload_n (pc' := 21) (j := 1) dX9_truncate_20 rfl rfl rfl ?_
  exact hz_retiX dX9_truncate_21 rfl (by decide)
def f_X9_load (a0 : Nat) (w : MW) : Option (Int32 × MW) :=
  hz_gd (hz_g 358 a0 10) (hz_ldp w a0 1 358 6 (fun b1 => hz_b (f_X5_parseText b1 w) (fun v3 w2 => hz_ldp w2 a0 0 358 5 (fun b4 => hz_let (hz_pn w2 b4 1 0) (fun w5 => hz_ldp w5 a0 1 358 6 (fun b6 => hz_let (hz_pn w5 a0 9 (w5.1 b6 2)) (fun w7 => (if v3 = 0 then hz_ldp w7 a0 1 358 6 (fun b18 => some (((-10) - (w7.1 b18 1)), w7)) else hz_ldp w7 a0 2 358 3 (fun b8 => hz_ldp w7 a0 1 358 6 (fun b9 => hz_ldp w7 b9 0 358 3 (fun b10 => hz_bv (f_X2_copyFrom b8 b10 w7) (fun w11 => hz_ldp w11 a0 3 358 4 (fun b12 => hz_bv (f_X3_reset b12 w11) (fun w13 => hz_ldp w13 a0 5 358 1 (fun b14 => hz_bv (f_X0_forgetAll b14 w13) (fun w15 => hz_gd (hz_isb 1) (hz_let (hz_pn w15 a0 8 1) (fun w16 => hz_ldp w16 a0 2 358 3 (fun b17 => some ((w16.1 b17 1), w16))))))))))))))))))))
set_option maxHeartbeats 4000000 in
set_option maxRecDepth 100000 in
theorem ct_X9_load {l : Launch} (hl : l.stackTraces = false) {B : Bt} {a0 : Nat} {w : MW} {r : Int32 × MW} (h : f_X9_load a0 w = some r) : hz_Met l B false 358 358 yX9_load cX9_load 2 (Option.some FieldType.int) 14 0 0 [.ref (B.1 + a0)] w (some (.int r.1)) r.2 := by
  refine hz_ofJ (rv := (fun r : Int32 × MW => some (.int r.1))) (wo := (fun r : Int32 × MW => r.2)) (own := RX9) (ini := false) hl (by decide) rfl (Or.inr rfl) (Nat.le_of_ble_eq_true rfl) rfl ?_ h
  intro p e s m args below meth c
  unfold f_X9_load
  refine hz_gdr (fun ga0 => ?_)
  refine hz_aload_n (pc' := 1) (j := 0) dX9_load_0 rfl rfl rfl ?_
  refine hz_gP (pc' := 4) (c' := 6) fl_X9_21.r ga0 rfl dX9_load_1 rfl (fun b1 gb1 => ?_)
  refine hz_cVi (pc' := 7) (av := []) (rest := []) vl_X9_91 (fun x w' h => ct_X5_parseText hl h) gb1 rfl rfl (Nat.le_of_ble_eq_true rfl) (by decide) (by decide) rfl dX9_load_4 rfl (fun v3 w2 => ?_)
  refine hz_istore_n (pc' := 8) (L' := [(1, .int v3), (0, .ref (B.1 + a0))]) dX9_load_7 rfl rfl (by decide) rfl ?_
  refine hz_aload_n (pc' := 9) (j := 1) dX9_load_8 rfl rfl rfl ?_
  refine hz_gP (pc' := 12) (c' := 5) fl_X9_10.r ga0 rfl dX9_load_9 rfl (fun b4 gb4 => ?_)
  refine hz_iconst (pc' := 13) (v := 0) dX9_load_12 rfl (by decide) ?_
  refine hz_putI (pc' := 16) fl_X9_73 gb4 rfl dX9_load_13 rfl (fun w5 => ?_)
  refine hz_aload_n (pc' := 17) (j := 1) dX9_load_16 rfl rfl rfl ?_
  refine hz_aload_n (pc' := 18) (j := 1) dX9_load_17 rfl rfl rfl ?_
  refine hz_gP (pc' := 21) (c' := 6) fl_X9_21.r ga0 rfl dX9_load_18 rfl (fun b6 gb6 => ?_)
  refine hz_gI (pc' := 24) fl_X9_95.r gb6 rfl dX9_load_21 rfl ?_
  refine hz_putI (pc' := 27) fl_X9_69 ga0 rfl dX9_load_24 rfl (fun w7 => ?_)
  refine hz_iload_n (pc' := 28) (j := 0) dX9_load_27 rfl rfl rfl ?_
  refine hz_ifne (pc' := 31) (tgt := 42) dX9_load_28 (by decide) rfl ?_ ?_
  · refine hz_aload_n (pc' := 43) (j := 1) dX9_load_42 rfl rfl rfl ?_
    refine hz_gP (pc' := 46) (c' := 3) fl_X9_28.r ga0 rfl dX9_load_43 rfl (fun b8 gb8 => ?_)
    refine hz_aload_n (pc' := 47) (j := 1) dX9_load_46 rfl rfl rfl ?_
    refine hz_gP (pc' := 50) (c' := 6) fl_X9_21.r ga0 rfl dX9_load_47 rfl (fun b9 gb9 => ?_)
    refine hz_gP (pc' := 53) (c' := 3) fl_X9_101 gb9 rfl dX9_load_50 rfl (fun b10 gb10 => ?_)
    refine hz_cVv (pc' := 56) (av := [.ref (B.1 + b10)]) (rest := []) vl_X9_104 (fun w' h => ct_X2_copyFrom hl h) gb8 rfl rfl (Nat.le_of_ble_eq_true rfl) (by decide) (by decide) rfl dX9_load_53 rfl (fun w11 => ?_)
    refine hz_aload_n (pc' := 57) (j := 1) dX9_load_56 rfl rfl rfl ?_
    refine hz_gP (pc' := 60) (c' := 4) fl_X9_37.r ga0 rfl dX9_load_57 rfl (fun b12 gb12 => ?_)
    refine hz_cVv (pc' := 63) (av := []) (rest := []) vl_X9_107 (fun w' h => ct_X3_reset hl h) gb12 rfl rfl (Nat.le_of_ble_eq_true rfl) (by decide) (by decide) rfl dX9_load_60 rfl (fun w13 => ?_)
    refine hz_aload_n (pc' := 64) (j := 1) dX9_load_63 rfl rfl rfl ?_
    refine hz_gP (pc' := 67) (c' := 1) fl_X9_47.r ga0 rfl dX9_load_64 rfl (fun b14 gb14 => ?_)
    refine hz_cVv (pc' := 70) (av := []) (rest := []) vl_X9_110 (fun w' h => ct_X0_forgetAll hl h) gb14 rfl rfl (Nat.le_of_ble_eq_true rfl) (by decide) (by decide) rfl dX9_load_67 rfl (fun w15 => ?_)
    refine hz_aload_n (pc' := 71) (j := 1) dX9_load_70 rfl rfl rfl ?_
    refine hz_iconst (pc' := 72) (v := 1) dX9_load_71 rfl (by decide) ?_
    refine hz_putZ (pc' := 75) fl_X9_65 ga0 rfl dX9_load_72 rfl (fun w16 => ?_)
    refine hz_aload_n (pc' := 76) (j := 1) dX9_load_75 rfl rfl rfl ?_
    refine hz_gP (pc' := 79) (c' := 3) fl_X9_28.r ga0 rfl dX9_load_76 rfl (fun b17 gb17 => ?_)
    refine hz_gI (pc' := 82) fl_X9_113.r gb17 rfl dX9_load_79 rfl ?_
    exact hz_reti dX9_load_82 rfl (by decide)
  · refine hz_bipush (pc' := 33) (v := (-10)) dX9_load_31 rfl (by decide) ?_
    refine hz_aload_n (pc' := 34) (j := 1) dX9_load_33 rfl rfl rfl ?_
    refine hz_gP (pc' := 37) (c' := 6) fl_X9_21.r ga0 rfl dX9_load_34 rfl (fun b18 gb18 => ?_)
    refine hz_gI (pc' := 40) fl_X9_98.r gb18 rfl dX9_load_37 rfl ?_
    refine hz_isub (pc' := 41) dX9_load_40 rfl ?_
    exact hz_reti dX9_load_41 rfl (by decide)
def f_X9_errorPosition (a0 : Nat) (w : MW) : Option (Int32 × MW) :=
  hz_gd (hz_g 358 a0 10) (some ((w.1 a0 9), w))
set_option maxHeartbeats 4000000 in
set_option maxRecDepth 100000 in
theorem ct_X9_errorPosition {l : Launch} (hl : l.stackTraces = false) {B : Bt} {a0 : Nat} {w : MW} {r : Int32 × MW} (h : f_X9_errorPosition a0 w = some r) : hz_Met l B false 358 358 yX9_errorPosition cX9_errorPosition 1 (Option.some FieldType.int) 2 0 0 [.ref (B.1 + a0)] w (some (.int r.1)) r.2 := by
  refine hz_ofJ (rv := (fun r : Int32 × MW => some (.int r.1))) (wo := (fun r : Int32 × MW => r.2)) (own := RX9) (ini := false) hl (by decide) rfl (Or.inr rfl) (Nat.le_of_ble_eq_true rfl) rfl ?_ h
  intro p e s m args below meth c
  unfold f_X9_errorPosition
  refine hz_gdr (fun ga0 => ?_)
  refine hz_aload_n (pc' := 1) (j := 0) dX9_errorPosition_0 rfl rfl rfl ?_
  refine hz_gI (pc' := 4) fl_X9_69.r ga0 rfl dX9_errorPosition_1 rfl ?_
  exact hz_reti dX9_errorPosition_4 rfl (by decide)
def f_X9_needSystem (a0 : Nat) (w : MW) : Option ((String ⊕ Unit) × MW) :=
  hz_gd (hz_g 358 a0 10) ((if (w.1 a0 8) = 0 then some (.inl "java/lang/IllegalStateException", w) else some (.inr (), w)))
set_option maxHeartbeats 4000000 in
set_option maxRecDepth 100000 in
theorem ct_X9_needSystem {l : Launch} (hl : l.stackTraces = false) {B : Bt} {a0 : Nat} {w : MW} {r : (String ⊕ Unit) × MW} (h : f_X9_needSystem a0 w = some r) : hz_MetX l B 358 yX9_needSystem cX9_needSystem 1 (Option.none : Option FieldType) 7 1 6 [.ref (B.1 + a0)] w (Sum.map id (fun _ => none) r.1) r.2 := by
  refine hz_ofJX (rv := (fun _ : Unit => none)) (own := RX9) hl (by decide) rfl (Nat.le_of_ble_eq_true rfl) rfl ?_ h
  intro p e s m args below meth c
  unfold f_X9_needSystem
  refine hz_gdr (fun ga0 => ?_)
  refine hz_aload_n (pc' := 1) (j := 0) dX9_needSystem_0 rfl rfl rfl ?_
  refine hz_gI (pc' := 4) fl_X9_65.r ga0 rfl dX9_needSystem_1 rfl ?_
  refine hz_ifne (pc' := 7) (tgt := 18) dX9_needSystem_4 (by decide) rfl ?_ ?_
  · exact hz_retvX dX9_needSystem_18 rfl (by decide)
  · exact hz_throwW tl_76_337 dX9_needSystem_7 dX9_needSystem_10 dX9_needSystem_11 dX9_needSystem_14 dX9_needSystem_17 (Nat.le_of_ble_eq_true rfl) (by decide)
def f_X9_needDomain (a0 : Nat) (x1 : Int32) (w : MW) : Option ((String ⊕ Unit) × MW) :=
  hz_gd (hz_g 358 a0 10) (hz_bx (f_X9_needSystem a0 w) (fun _ w1 => hz_ldp w1 a0 2 358 3 (fun b2 => hz_bx (f_X9_needRange x1 0 ((w1.1 b2 1) - 1) w1) (fun _ w3 => some (.inr (), w3)))))
set_option maxHeartbeats 4000000 in
set_option maxRecDepth 100000 in
theorem ct_X9_needDomain {l : Launch} (hl : l.stackTraces = false) {B : Bt} {a0 : Nat} {x1 : Int32} {w : MW} {r : (String ⊕ Unit) × MW} (h : f_X9_needDomain a0 x1 w = some r) : hz_MetX l B 358 yX9_needDomain cX9_needDomain 2 (Option.none : Option FieldType) 8 2 12 [.ref (B.1 + a0), .int x1] w (Sum.map id (fun _ => none) r.1) r.2 := by
  refine hz_ofJX (rv := (fun _ : Unit => none)) (own := RX9) hl (by decide) rfl (Nat.le_of_ble_eq_true rfl) rfl ?_ h
  intro p e s m args below meth c
  unfold f_X9_needDomain
  refine hz_gdr (fun ga0 => ?_)
  refine hz_aload_n (pc' := 1) (j := 0) dX9_needDomain_0 rfl rfl rfl ?_
  refine hz_xVv (pc' := 4) (av := []) (rest := []) vl_X9_164 (fun v w' h => ct_X9_needSystem hl h) ga0 rfl rfl (Nat.le_of_ble_eq_true rfl) (by decide) (by decide) dX9_needDomain_1 rfl (fun w1 => ?_)
  refine hz_iload_n (pc' := 5) (j := 1) dX9_needDomain_4 rfl rfl rfl ?_
  refine hz_iconst (pc' := 6) (v := 0) dX9_needDomain_5 rfl (by decide) ?_
  refine hz_aload_n (pc' := 7) (j := 0) dX9_needDomain_6 rfl rfl rfl ?_
  refine hz_gP (pc' := 10) (c' := 3) fl_X9_28.r ga0 rfl dX9_needDomain_7 rfl (fun b2 gb2 => ?_)
  refine hz_gI (pc' := 13) fl_X9_113.r gb2 rfl dX9_needDomain_10 rfl ?_
  refine hz_iconst (pc' := 14) (v := 1) dX9_needDomain_13 rfl (by decide) ?_
  refine hz_isub (pc' := 15) dX9_needDomain_14 rfl ?_
  refine hz_xSv (pc' := 18) (av := [.int x1, .int 0, .int ((w1.1 b2 1) - 1)]) (rest := []) sl_X9_87 (fun v w' h => ct_X9_needRange hl h) rfl rfl (Nat.le_of_ble_eq_true rfl) (by decide) (by decide) dX9_needDomain_15 rfl (fun w3 => ?_)
  exact hz_retvX dX9_needDomain_18 rfl (by decide)
def f_X9_addJob (a0 : Nat) (x1 : Int32) (x2 : Int32) (x3 : Int32) (x4 : Int32) (x5 : Int32) (x6 : Int32) (w : MW) : Option ((String ⊕ Int32) × MW) :=
  hz_gd (hz_g 358 a0 10) (hz_bx (f_X9_needDomain a0 x1 w) (fun _ w1 => hz_bx (f_X9_needRange x2 0 7 w1) (fun _ w2 => hz_bx (f_X9_needRange x3 0 999 w2) (fun _ w3 => hz_bx (f_X9_needRange x4 0 999 w3) (fun _ w4 => hz_bx (f_X9_needRange x5 1 9999 w4) (fun _ w5 => hz_bx (f_X9_needRange x6 1 9999 w5) (fun _ w6 => hz_ldp w6 a0 3 358 4 (fun b7 => hz_ldp w6 b7 1 358 2 (fun b8 => (if (w6.1 b8 0) < 24 then hz_ldp w6 a0 5 358 1 (fun b9 => hz_ldp w6 a0 3 358 4 (fun b10 => hz_bv (f_X0_remember b9 b10 w6) (fun w11 => hz_ldp w11 a0 3 358 4 (fun b12 => hz_ldp w11 b12 1 358 2 (fun b13 => hz_b (f_X1_addTo b13 x1 x2 x5 w11) (fun v15 w14 => hz_ldp w14 a0 3 358 4 (fun b16 => hz_ldp w14 b16 1 358 2 (fun b17 => hz_ldp w14 a0 3 358 4 (fun b18 => hz_bv (f_X1_setTimes b17 v15 ((w14.1 b18 2) + x3) x4 x6 w14) (fun w19 => some (.inr v15, w19))))))))))) else some (.inr (-2), w6)))))))))))
set_option maxHeartbeats 4000000 in
set_option maxRecDepth 100000 in
theorem ct_X9_addJob {l : Launch} (hl : l.stackTraces = false) {B : Bt} {a0 : Nat} {x1 : Int32} {x2 : Int32} {x3 : Int32} {x4 : Int32} {x5 : Int32} {x6 : Int32} {w : MW} {r : (String ⊕ Int32) × MW} (h : f_X9_addJob a0 x1 x2 x3 x4 x5 x6 w = some r) : hz_MetX l B 358 yX9_addJob cX9_addJob 8 (Option.some FieldType.int) 9 7 42 [.ref (B.1 + a0), .int x1, .int x2, .int x3, .int x4, .int x5, .int x6] w (Sum.map id (fun r => some (.int r)) r.1) r.2 := by
  refine hz_ofJX (rv := (fun r : Int32 => some (.int r))) (own := RX9) hl (by decide) rfl (Nat.le_of_ble_eq_true rfl) rfl ?_ h
  intro p e s m args below meth c
  unfold f_X9_addJob
  refine hz_gdr (fun ga0 => ?_)
  refine hz_aload_n (pc' := 1) (j := 0) dX9_addJob_0 rfl rfl rfl ?_
  refine hz_iload_n (pc' := 2) (j := 1) dX9_addJob_1 rfl rfl rfl ?_
  refine hz_xVv (pc' := 5) (av := [.int x1]) (rest := []) vl_X9_116 (fun v w' h => ct_X9_needDomain hl h) ga0 rfl rfl (Nat.le_of_ble_eq_true rfl) (by decide) (by decide) dX9_addJob_2 rfl (fun w1 => ?_)
  refine hz_iload_n (pc' := 6) (j := 2) dX9_addJob_5 rfl rfl rfl ?_
  refine hz_iconst (pc' := 7) (v := 0) dX9_addJob_6 rfl (by decide) ?_
  refine hz_bipush (pc' := 9) (v := 7) dX9_addJob_7 rfl (by decide) ?_
  refine hz_xSv (pc' := 12) (av := [.int x2, .int 0, .int 7]) (rest := []) sl_X9_87 (fun v w' h => ct_X9_needRange hl h) rfl rfl (Nat.le_of_ble_eq_true rfl) (by decide) (by decide) dX9_addJob_9 rfl (fun w2 => ?_)
  refine hz_iload_n (pc' := 13) (j := 3) dX9_addJob_12 rfl rfl rfl ?_
  refine hz_iconst (pc' := 14) (v := 0) dX9_addJob_13 rfl (by decide) ?_
  refine hz_sipush (pc' := 17) (v := 999) dX9_addJob_14 rfl (by decide) ?_
  refine hz_xSv (pc' := 20) (av := [.int x3, .int 0, .int 999]) (rest := []) sl_X9_87 (fun v w' h => ct_X9_needRange hl h) rfl rfl (Nat.le_of_ble_eq_true rfl) (by decide) (by decide) dX9_addJob_17 rfl (fun w3 => ?_)
  refine hz_iload (pc' := 22) (j := 4) dX9_addJob_20 rfl rfl ?_
  refine hz_iconst (pc' := 23) (v := 0) dX9_addJob_22 rfl (by decide) ?_
  refine hz_sipush (pc' := 26) (v := 999) dX9_addJob_23 rfl (by decide) ?_
  refine hz_xSv (pc' := 29) (av := [.int x4, .int 0, .int 999]) (rest := []) sl_X9_87 (fun v w' h => ct_X9_needRange hl h) rfl rfl (Nat.le_of_ble_eq_true rfl) (by decide) (by decide) dX9_addJob_26 rfl (fun w4 => ?_)
  refine hz_iload (pc' := 31) (j := 5) dX9_addJob_29 rfl rfl ?_
  refine hz_iconst (pc' := 32) (v := 1) dX9_addJob_31 rfl (by decide) ?_
  refine hz_sipush (pc' := 35) (v := 9999) dX9_addJob_32 rfl (by decide) ?_
  refine hz_xSv (pc' := 38) (av := [.int x5, .int 1, .int 9999]) (rest := []) sl_X9_87 (fun v w' h => ct_X9_needRange hl h) rfl rfl (Nat.le_of_ble_eq_true rfl) (by decide) (by decide) dX9_addJob_35 rfl (fun w5 => ?_)
  refine hz_iload (pc' := 40) (j := 6) dX9_addJob_38 rfl rfl ?_
  refine hz_iconst (pc' := 41) (v := 1) dX9_addJob_40 rfl (by decide) ?_
  refine hz_sipush (pc' := 44) (v := 9999) dX9_addJob_41 rfl (by decide) ?_
  refine hz_xSv (pc' := 47) (av := [.int x6, .int 1, .int 9999]) (rest := []) sl_X9_87 (fun v w' h => ct_X9_needRange hl h) rfl rfl (Nat.le_of_ble_eq_true rfl) (by decide) (by decide) dX9_addJob_44 rfl (fun w6 => ?_)
  refine hz_aload_n (pc' := 48) (j := 0) dX9_addJob_47 rfl rfl rfl ?_
  refine hz_gP (pc' := 51) (c' := 4) fl_X9_37.r ga0 rfl dX9_addJob_48 rfl (fun b7 gb7 => ?_)
  refine hz_gP (pc' := 54) (c' := 2) fl_X9_119 gb7 rfl dX9_addJob_51 rfl (fun b8 gb8 => ?_)
  refine hz_gI (pc' := 57) fl_X9_123.r gb8 rfl dX9_addJob_54 rfl ?_
  refine hz_bipush (pc' := 59) (v := 24) dX9_addJob_57 rfl (by decide) ?_
  refine hz_icmplt (pc' := 62) (tgt := 65) dX9_addJob_59 (by decide) rfl ?_ ?_
  · refine hz_aload_n (pc' := 66) (j := 0) dX9_addJob_65 rfl rfl rfl ?_
    refine hz_gP (pc' := 69) (c' := 1) fl_X9_47.r ga0 rfl dX9_addJob_66 rfl (fun b9 gb9 => ?_)
    refine hz_aload_n (pc' := 70) (j := 0) dX9_addJob_69 rfl rfl rfl ?_
    refine hz_gP (pc' := 73) (c' := 4) fl_X9_37.r ga0 rfl dX9_addJob_70 rfl (fun b10 gb10 => ?_)
    refine hz_cVv (pc' := 76) (av := [.ref (B.1 + b10)]) (rest := []) vl_X9_128 (fun w' h => ct_X0_remember hl h) gb9 rfl rfl (Nat.le_of_ble_eq_true rfl) (by decide) (by decide) rfl dX9_addJob_73 rfl (fun w11 => ?_)
    refine hz_aload_n (pc' := 77) (j := 0) dX9_addJob_76 rfl rfl rfl ?_
    refine hz_gP (pc' := 80) (c' := 4) fl_X9_37.r ga0 rfl dX9_addJob_77 rfl (fun b12 gb12 => ?_)
    refine hz_gP (pc' := 83) (c' := 2) fl_X9_119 gb12 rfl dX9_addJob_80 rfl (fun b13 gb13 => ?_)
    refine hz_iload_n (pc' := 84) (j := 1) dX9_addJob_83 rfl rfl rfl ?_
    refine hz_iload_n (pc' := 85) (j := 2) dX9_addJob_84 rfl rfl rfl ?_
    refine hz_iload (pc' := 87) (j := 5) dX9_addJob_85 rfl rfl ?_
    refine hz_cVi (pc' := 90) (av := [.int x1, .int x2, .int x5]) (rest := []) vl_X9_132 (fun x w' h => ct_X1_addTo hl h) gb13 rfl rfl (Nat.le_of_ble_eq_true rfl) (by decide) (by decide) rfl dX9_addJob_87 rfl (fun v15 w14 => ?_)
    refine hz_istore (pc' := 92) (L' := [(7, .int v15), (0, .ref (B.1 + a0)), (1, .int x1), (2, .int x2), (3, .int x3), (4, .int x4), (5, .int x5), (6, .int x6)]) dX9_addJob_90 rfl (by decide) rfl ?_
    refine hz_aload_n (pc' := 93) (j := 1) dX9_addJob_92 rfl rfl rfl ?_
    refine hz_gP (pc' := 96) (c' := 4) fl_X9_37.r ga0 rfl dX9_addJob_93 rfl (fun b16 gb16 => ?_)
    refine hz_gP (pc' := 99) (c' := 2) fl_X9_119 gb16 rfl dX9_addJob_96 rfl (fun b17 gb17 => ?_)
    refine hz_iload (pc' := 101) (j := 0) dX9_addJob_99 rfl rfl ?_
    refine hz_aload_n (pc' := 102) (j := 1) dX9_addJob_101 rfl rfl rfl ?_
    refine hz_gP (pc' := 105) (c' := 4) fl_X9_37.r ga0 rfl dX9_addJob_102 rfl (fun b18 gb18 => ?_)
    refine hz_gI (pc' := 108) fl_X9_136.r gb18 rfl dX9_addJob_105 rfl ?_
    refine hz_iload_n (pc' := 109) (j := 4) dX9_addJob_108 rfl rfl rfl ?_
    refine hz_iadd (pc' := 110) dX9_addJob_109 rfl ?_
    refine hz_iload (pc' := 112) (j := 5) dX9_addJob_110 rfl rfl ?_
    refine hz_iload (pc' := 114) (j := 7) dX9_addJob_112 rfl rfl ?_
    refine hz_cVv (pc' := 117) (av := [.int v15, .int ((w14.1 b18 2) + x3), .int x4, .int x6]) (rest := []) vl_X9_139 (fun w' h => ct_X1_setTimes hl h) gb17 rfl rfl (Nat.le_of_ble_eq_true rfl) (by decide) (by decide) rfl dX9_addJob_114 rfl (fun w19 => ?_)
    refine hz_iload (pc' := 119) (j := 0) dX9_addJob_117 rfl rfl ?_
    exact hz_retiX dX9_addJob_119 rfl (by decide)
  · refine hz_bipush (pc' := 64) (v := (-2)) dX9_addJob_62 rfl (by decide) ?_
    exact hz_retiX dX9_addJob_64 rfl (by decide)
def f_X9_needJob (a0 : Nat) (x1 : Int32) (w : MW) : Option ((String ⊕ Unit) × MW) :=
  hz_gd (hz_g 358 a0 10) (hz_bx (f_X9_needSystem a0 w) (fun _ w1 => hz_ldp w1 a0 3 358 4 (fun b2 => hz_ldp w1 b2 1 358 2 (fun b3 => hz_bx (f_X9_needRange x1 0 ((w1.1 b3 0) - 1) w1) (fun _ w4 => some (.inr (), w4))))))
set_option maxHeartbeats 4000000 in
set_option maxRecDepth 100000 in
theorem ct_X9_needJob {l : Launch} (hl : l.stackTraces = false) {B : Bt} {a0 : Nat} {x1 : Int32} {w : MW} {r : (String ⊕ Unit) × MW} (h : f_X9_needJob a0 x1 w = some r) : hz_MetX l B 358 yX9_needJob cX9_needJob 2 (Option.none : Option FieldType) 8 2 12 [.ref (B.1 + a0), .int x1] w (Sum.map id (fun _ => none) r.1) r.2 := by
  refine hz_ofJX (rv := (fun _ : Unit => none)) (own := RX9) hl (by decide) rfl (Nat.le_of_ble_eq_true rfl) rfl ?_ h
  intro p e s m args below meth c
  unfold f_X9_needJob
  refine hz_gdr (fun ga0 => ?_)
  refine hz_aload_n (pc' := 1) (j := 0) dX9_needJob_0 rfl rfl rfl ?_
  refine hz_xVv (pc' := 4) (av := []) (rest := []) vl_X9_164 (fun v w' h => ct_X9_needSystem hl h) ga0 rfl rfl (Nat.le_of_ble_eq_true rfl) (by decide) (by decide) dX9_needJob_1 rfl (fun w1 => ?_)
  refine hz_iload_n (pc' := 5) (j := 1) dX9_needJob_4 rfl rfl rfl ?_
  refine hz_iconst (pc' := 6) (v := 0) dX9_needJob_5 rfl (by decide) ?_
  refine hz_aload_n (pc' := 7) (j := 0) dX9_needJob_6 rfl rfl rfl ?_
  refine hz_gP (pc' := 10) (c' := 4) fl_X9_37.r ga0 rfl dX9_needJob_7 rfl (fun b2 gb2 => ?_)
  refine hz_gP (pc' := 13) (c' := 2) fl_X9_119 gb2 rfl dX9_needJob_10 rfl (fun b3 gb3 => ?_)
  refine hz_gI (pc' := 16) fl_X9_123.r gb3 rfl dX9_needJob_13 rfl ?_
  refine hz_iconst (pc' := 17) (v := 1) dX9_needJob_16 rfl (by decide) ?_
  refine hz_isub (pc' := 18) dX9_needJob_17 rfl ?_
  refine hz_xSv (pc' := 21) (av := [.int x1, .int 0, .int ((w1.1 b3 0) - 1)]) (rest := []) sl_X9_87 (fun v w' h => ct_X9_needRange hl h) rfl rfl (Nat.le_of_ble_eq_true rfl) (by decide) (by decide) dX9_needJob_18 rfl (fun w4 => ?_)
  exact hz_retvX dX9_needJob_21 rfl (by decide)
def f_X9_cancelJob (a0 : Nat) (x1 : Int32) (w : MW) : Option ((String ⊕ Int32) × MW) :=
  hz_gd (hz_g 358 a0 10) (hz_bx (f_X9_needJob a0 x1 w) (fun _ w1 => hz_ldp w1 a0 3 358 4 (fun b2 => hz_ldp w1 b2 1 358 2 (fun b3 => hz_b (f_X1_isOver b3 x1 w1) (fun v5 w4 => (if v5 = 0 then hz_ldp w4 a0 5 358 1 (fun b6 => hz_ldp w4 a0 3 358 4 (fun b7 => hz_bv (f_X0_remember b6 b7 w4) (fun w8 => hz_ldp w8 a0 3 358 4 (fun b9 => hz_bv (f_X3_cancel b9 x1 w8) (fun w10 => hz_ldp w10 a0 3 358 4 (fun b11 => hz_ldp w10 b11 1 358 2 (fun b12 => hz_ldp w10 b12 11 358 20 (fun b13 => hz_lda w10 b13 x1 (fun v14 => some (.inr v14, w10)))))))))) else some (.inr (-2), w4)))))))
set_option maxHeartbeats 4000000 in
set_option maxRecDepth 100000 in
theorem ct_X9_cancelJob {l : Launch} (hl : l.stackTraces = false) {B : Bt} {a0 : Nat} {x1 : Int32} {w : MW} {r : (String ⊕ Int32) × MW} (h : f_X9_cancelJob a0 x1 w = some r) : hz_MetX l B 358 yX9_cancelJob cX9_cancelJob 2 (Option.some FieldType.int) 9 2 12 [.ref (B.1 + a0), .int x1] w (Sum.map id (fun r => some (.int r)) r.1) r.2 := by
  refine hz_ofJX (rv := (fun r : Int32 => some (.int r))) (own := RX9) hl (by decide) rfl (Nat.le_of_ble_eq_true rfl) rfl ?_ h
  intro p e s m args below meth c
  unfold f_X9_cancelJob
  refine hz_gdr (fun ga0 => ?_)
  refine hz_aload_n (pc' := 1) (j := 0) dX9_cancelJob_0 rfl rfl rfl ?_
  refine hz_iload_n (pc' := 2) (j := 1) dX9_cancelJob_1 rfl rfl rfl ?_
  refine hz_xVv (pc' := 5) (av := [.int x1]) (rest := []) vl_X9_143 (fun v w' h => ct_X9_needJob hl h) ga0 rfl rfl (Nat.le_of_ble_eq_true rfl) (by decide) (by decide) dX9_cancelJob_2 rfl (fun w1 => ?_)
  refine hz_aload_n (pc' := 6) (j := 0) dX9_cancelJob_5 rfl rfl rfl ?_
  refine hz_gP (pc' := 9) (c' := 4) fl_X9_37.r ga0 rfl dX9_cancelJob_6 rfl (fun b2 gb2 => ?_)
  refine hz_gP (pc' := 12) (c' := 2) fl_X9_119 gb2 rfl dX9_cancelJob_9 rfl (fun b3 gb3 => ?_)
  refine hz_iload_n (pc' := 13) (j := 1) dX9_cancelJob_12 rfl rfl rfl ?_
  refine hz_cVi (pc' := 16) (av := [.int x1]) (rest := []) vl_X9_146 (fun x w' h => ct_X1_isOver hl h) gb3 rfl rfl (Nat.le_of_ble_eq_true rfl) (by decide) (by decide) rfl dX9_cancelJob_13 rfl (fun v5 w4 => ?_)
  refine hz_ifeq (pc' := 19) (tgt := 22) dX9_cancelJob_16 (by decide) rfl ?_ ?_
  · refine hz_aload_n (pc' := 23) (j := 0) dX9_cancelJob_22 rfl rfl rfl ?_
    refine hz_gP (pc' := 26) (c' := 1) fl_X9_47.r ga0 rfl dX9_cancelJob_23 rfl (fun b6 gb6 => ?_)
    refine hz_aload_n (pc' := 27) (j := 0) dX9_cancelJob_26 rfl rfl rfl ?_
    refine hz_gP (pc' := 30) (c' := 4) fl_X9_37.r ga0 rfl dX9_cancelJob_27 rfl (fun b7 gb7 => ?_)
    refine hz_cVv (pc' := 33) (av := [.ref (B.1 + b7)]) (rest := []) vl_X9_128 (fun w' h => ct_X0_remember hl h) gb6 rfl rfl (Nat.le_of_ble_eq_true rfl) (by decide) (by decide) rfl dX9_cancelJob_30 rfl (fun w8 => ?_)
    refine hz_aload_n (pc' := 34) (j := 0) dX9_cancelJob_33 rfl rfl rfl ?_
    refine hz_gP (pc' := 37) (c' := 4) fl_X9_37.r ga0 rfl dX9_cancelJob_34 rfl (fun b9 gb9 => ?_)
    refine hz_iload_n (pc' := 38) (j := 1) dX9_cancelJob_37 rfl rfl rfl ?_
    refine hz_cVv (pc' := 41) (av := [.int x1]) (rest := []) vl_X9_150 (fun w' h => ct_X3_cancel hl h) gb9 rfl rfl (Nat.le_of_ble_eq_true rfl) (by decide) (by decide) rfl dX9_cancelJob_38 rfl (fun w10 => ?_)
    refine hz_aload_n (pc' := 42) (j := 0) dX9_cancelJob_41 rfl rfl rfl ?_
    refine hz_gP (pc' := 45) (c' := 4) fl_X9_37.r ga0 rfl dX9_cancelJob_42 rfl (fun b11 gb11 => ?_)
    refine hz_gP (pc' := 48) (c' := 2) fl_X9_119 gb11 rfl dX9_cancelJob_45 rfl (fun b12 gb12 => ?_)
    refine hz_gP (pc' := 51) (c' := 20) fl_X9_153 gb12 rfl dX9_cancelJob_48 rfl (fun b13 gb13 => ?_)
    refine hz_iload_n (pc' := 52) (j := 1) dX9_cancelJob_51 rfl rfl rfl ?_
    refine hz_iald (pc' := 53) gb13 dX9_cancelJob_52 rfl (fun v14 => ?_)
    exact hz_retiX dX9_cancelJob_53 rfl (by decide)
  · refine hz_bipush (pc' := 21) (v := (-2)) dX9_cancelJob_19 rfl (by decide) ?_
    exact hz_retiX dX9_cancelJob_21 rfl (by decide)
def f_X9_setPolicy (a0 : Nat) (x1 : Int32) (x2 : Int32) (w : MW) : Option ((String ⊕ Int32) × MW) :=
  hz_gd (hz_g 358 a0 10) (hz_bx (f_X9_needDomain a0 x1 w) (fun _ w1 => hz_bx (f_X9_needRange x2 0 3 w1) (fun _ w2 => hz_ldp w2 a0 5 358 1 (fun b3 => hz_ldp w2 a0 3 358 4 (fun b4 => hz_bv (f_X0_remember b3 b4 w2) (fun w5 => hz_ldp w5 a0 3 358 4 (fun b6 => hz_ldp w5 b6 5 358 20 (fun b7 => hz_lda w5 b7 x1 (fun v8 => hz_ldp w5 a0 3 358 4 (fun b9 => hz_ldp w5 b9 5 358 20 (fun b10 => hz_sta w5 b10 x1 x2 (fun w11 => some (.inr v8, w11)))))))))))))
set_option maxHeartbeats 4000000 in
set_option maxRecDepth 100000 in
theorem ct_X9_setPolicy {l : Launch} (hl : l.stackTraces = false) {B : Bt} {a0 : Nat} {x1 : Int32} {x2 : Int32} {w : MW} {r : (String ⊕ Int32) × MW} (h : f_X9_setPolicy a0 x1 x2 w = some r) : hz_MetX l B 358 yX9_setPolicy cX9_setPolicy 4 (Option.some FieldType.int) 9 3 18 [.ref (B.1 + a0), .int x1, .int x2] w (Sum.map id (fun r => some (.int r)) r.1) r.2 := by
  refine hz_ofJX (rv := (fun r : Int32 => some (.int r))) (own := RX9) hl (by decide) rfl (Nat.le_of_ble_eq_true rfl) rfl ?_ h
  intro p e s m args below meth c
  unfold f_X9_setPolicy
  refine hz_gdr (fun ga0 => ?_)
  refine hz_aload_n (pc' := 1) (j := 0) dX9_setPolicy_0 rfl rfl rfl ?_
  refine hz_iload_n (pc' := 2) (j := 1) dX9_setPolicy_1 rfl rfl rfl ?_
  refine hz_xVv (pc' := 5) (av := [.int x1]) (rest := []) vl_X9_116 (fun v w' h => ct_X9_needDomain hl h) ga0 rfl rfl (Nat.le_of_ble_eq_true rfl) (by decide) (by decide) dX9_setPolicy_2 rfl (fun w1 => ?_)
  refine hz_iload_n (pc' := 6) (j := 2) dX9_setPolicy_5 rfl rfl rfl ?_
  refine hz_iconst (pc' := 7) (v := 0) dX9_setPolicy_6 rfl (by decide) ?_
  refine hz_iconst (pc' := 8) (v := 3) dX9_setPolicy_7 rfl (by decide) ?_
  refine hz_xSv (pc' := 11) (av := [.int x2, .int 0, .int 3]) (rest := []) sl_X9_87 (fun v w' h => ct_X9_needRange hl h) rfl rfl (Nat.le_of_ble_eq_true rfl) (by decide) (by decide) dX9_setPolicy_8 rfl (fun w2 => ?_)
  refine hz_aload_n (pc' := 12) (j := 0) dX9_setPolicy_11 rfl rfl rfl ?_
  refine hz_gP (pc' := 15) (c' := 1) fl_X9_47.r ga0 rfl dX9_setPolicy_12 rfl (fun b3 gb3 => ?_)
  refine hz_aload_n (pc' := 16) (j := 0) dX9_setPolicy_15 rfl rfl rfl ?_
  refine hz_gP (pc' := 19) (c' := 4) fl_X9_37.r ga0 rfl dX9_setPolicy_16 rfl (fun b4 gb4 => ?_)
  refine hz_cVv (pc' := 22) (av := [.ref (B.1 + b4)]) (rest := []) vl_X9_128 (fun w' h => ct_X0_remember hl h) gb3 rfl rfl (Nat.le_of_ble_eq_true rfl) (by decide) (by decide) rfl dX9_setPolicy_19 rfl (fun w5 => ?_)
  refine hz_aload_n (pc' := 23) (j := 0) dX9_setPolicy_22 rfl rfl rfl ?_
  refine hz_gP (pc' := 26) (c' := 4) fl_X9_37.r ga0 rfl dX9_setPolicy_23 rfl (fun b6 gb6 => ?_)
  refine hz_gP (pc' := 29) (c' := 20) fl_X9_157 gb6 rfl dX9_setPolicy_26 rfl (fun b7 gb7 => ?_)
  refine hz_iload_n (pc' := 30) (j := 1) dX9_setPolicy_29 rfl rfl rfl ?_
  refine hz_iald (pc' := 31) gb7 dX9_setPolicy_30 rfl (fun v8 => ?_)
  refine hz_istore_n (pc' := 32) (L' := [(3, .int v8), (0, .ref (B.1 + a0)), (1, .int x1), (2, .int x2)]) dX9_setPolicy_31 rfl rfl (by decide) rfl ?_
  refine hz_aload_n (pc' := 33) (j := 1) dX9_setPolicy_32 rfl rfl rfl ?_
  refine hz_gP (pc' := 36) (c' := 4) fl_X9_37.r ga0 rfl dX9_setPolicy_33 rfl (fun b9 gb9 => ?_)
  refine hz_gP (pc' := 39) (c' := 20) fl_X9_157 gb9 rfl dX9_setPolicy_36 rfl (fun b10 gb10 => ?_)
  refine hz_iload_n (pc' := 40) (j := 2) dX9_setPolicy_39 rfl rfl rfl ?_
  refine hz_iload_n (pc' := 41) (j := 3) dX9_setPolicy_40 rfl rfl rfl ?_
  refine hz_iast (pc' := 42) gb10 dX9_setPolicy_41 rfl (fun w11 => ?_)
  refine hz_iload_n (pc' := 43) (j := 0) dX9_setPolicy_42 rfl rfl rfl ?_
  exact hz_retiX dX9_setPolicy_43 rfl (by decide)
def f_X9_setLimit (a0 : Nat) (x1 : Int32) (x2 : Int32) (w : MW) : Option ((String ⊕ Int32) × MW) :=
  hz_gd (hz_g 358 a0 10) (hz_bx (f_X9_needDomain a0 x1 w) (fun _ w1 => hz_bx (f_X9_needRange x2 0 99999 w1) (fun _ w2 => hz_ldp w2 a0 5 358 1 (fun b3 => hz_ldp w2 a0 3 358 4 (fun b4 => hz_bv (f_X0_remember b3 b4 w2) (fun w5 => hz_ldp w5 a0 3 358 4 (fun b6 => hz_ldp w5 b6 4 358 20 (fun b7 => hz_lda w5 b7 x1 (fun v8 => hz_ldp w5 a0 3 358 4 (fun b9 => hz_ldp w5 b9 4 358 20 (fun b10 => hz_sta w5 b10 x1 x2 (fun w11 => some (.inr v8, w11)))))))))))))
set_option maxHeartbeats 4000000 in
set_option maxRecDepth 100000 in
theorem ct_X9_setLimit {l : Launch} (hl : l.stackTraces = false) {B : Bt} {a0 : Nat} {x1 : Int32} {x2 : Int32} {w : MW} {r : (String ⊕ Int32) × MW} (h : f_X9_setLimit a0 x1 x2 w = some r) : hz_MetX l B 358 yX9_setLimit cX9_setLimit 4 (Option.some FieldType.int) 9 3 18 [.ref (B.1 + a0), .int x1, .int x2] w (Sum.map id (fun r => some (.int r)) r.1) r.2 := by
  refine hz_ofJX (rv := (fun r : Int32 => some (.int r))) (own := RX9) hl (by decide) rfl (Nat.le_of_ble_eq_true rfl) rfl ?_ h
  intro p e s m args below meth c
  unfold f_X9_setLimit
  refine hz_gdr (fun ga0 => ?_)
  refine hz_aload_n (pc' := 1) (j := 0) dX9_setLimit_0 rfl rfl rfl ?_
  refine hz_iload_n (pc' := 2) (j := 1) dX9_setLimit_1 rfl rfl rfl ?_
  refine hz_xVv (pc' := 5) (av := [.int x1]) (rest := []) vl_X9_116 (fun v w' h => ct_X9_needDomain hl h) ga0 rfl rfl (Nat.le_of_ble_eq_true rfl) (by decide) (by decide) dX9_setLimit_2 rfl (fun w1 => ?_)
  refine hz_iload_n (pc' := 6) (j := 2) dX9_setLimit_5 rfl rfl rfl ?_
  refine hz_iconst (pc' := 7) (v := 0) dX9_setLimit_6 rfl (by decide) ?_
  refine hz_ldc (pc' := 9) (v := 99999) dX9_setLimit_7 rfl hq_757 ?_
  refine hz_xSv (pc' := 12) (av := [.int x2, .int 0, .int 99999]) (rest := []) sl_X9_87 (fun v w' h => ct_X9_needRange hl h) rfl rfl (Nat.le_of_ble_eq_true rfl) (by decide) (by decide) dX9_setLimit_9 rfl (fun w2 => ?_)
  refine hz_aload_n (pc' := 13) (j := 0) dX9_setLimit_12 rfl rfl rfl ?_
  refine hz_gP (pc' := 16) (c' := 1) fl_X9_47.r ga0 rfl dX9_setLimit_13 rfl (fun b3 gb3 => ?_)
  refine hz_aload_n (pc' := 17) (j := 0) dX9_setLimit_16 rfl rfl rfl ?_
  refine hz_gP (pc' := 20) (c' := 4) fl_X9_37.r ga0 rfl dX9_setLimit_17 rfl (fun b4 gb4 => ?_)
  refine hz_cVv (pc' := 23) (av := [.ref (B.1 + b4)]) (rest := []) vl_X9_128 (fun w' h => ct_X0_remember hl h) gb3 rfl rfl (Nat.le_of_ble_eq_true rfl) (by decide) (by decide) rfl dX9_setLimit_20 rfl (fun w5 => ?_)
  refine hz_aload_n (pc' := 24) (j := 0) dX9_setLimit_23 rfl rfl rfl ?_
  refine hz_gP (pc' := 27) (c' := 4) fl_X9_37.r ga0 rfl dX9_setLimit_24 rfl (fun b6 gb6 => ?_)
  refine hz_gP (pc' := 30) (c' := 20) fl_X9_161 gb6 rfl dX9_setLimit_27 rfl (fun b7 gb7 => ?_)
  refine hz_iload_n (pc' := 31) (j := 1) dX9_setLimit_30 rfl rfl rfl ?_
  refine hz_iald (pc' := 32) gb7 dX9_setLimit_31 rfl (fun v8 => ?_)
  refine hz_istore_n (pc' := 33) (L' := [(3, .int v8), (0, .ref (B.1 + a0)), (1, .int x1), (2, .int x2)]) dX9_setLimit_32 rfl rfl (by decide) rfl ?_
  refine hz_aload_n (pc' := 34) (j := 1) dX9_setLimit_33 rfl rfl rfl ?_
  refine hz_gP (pc' := 37) (c' := 4) fl_X9_37.r ga0 rfl dX9_setLimit_34 rfl (fun b9 gb9 => ?_)
  refine hz_gP (pc' := 40) (c' := 20) fl_X9_161 gb9 rfl dX9_setLimit_37 rfl (fun b10 gb10 => ?_)
  refine hz_iload_n (pc' := 41) (j := 2) dX9_setLimit_40 rfl rfl rfl ?_
  refine hz_iload_n (pc' := 42) (j := 3) dX9_setLimit_41 rfl rfl rfl ?_
  refine hz_iast (pc' := 43) gb10 dX9_setLimit_42 rfl (fun w11 => ?_)
  refine hz_iload_n (pc' := 44) (j := 0) dX9_setLimit_43 rfl rfl rfl ?_
  exact hz_retiX dX9_setLimit_44 rfl (by decide)
def f_X9_setAmbient (a0 : Nat) (x1 : Int32) (w : MW) : Option ((String ⊕ Int32) × MW) :=
  hz_gd (hz_g 358 a0 10) (hz_bx (f_X9_needSystem a0 w) (fun _ w1 => hz_bx (f_X9_needRange x1 0 9999 w1) (fun _ w2 => hz_ldp w2 a0 5 358 1 (fun b3 => hz_ldp w2 a0 3 358 4 (fun b4 => hz_bv (f_X0_remember b3 b4 w2) (fun w5 => hz_ldp w5 a0 3 358 4 (fun b6 => hz_let (w5.1 b6 3) (fun v7 => hz_ldp w5 a0 3 358 4 (fun b8 => hz_let (hz_pn w5 b8 3 x1) (fun w9 => some (.inr v7, w9)))))))))))
set_option maxHeartbeats 4000000 in
set_option maxRecDepth 100000 in
theorem ct_X9_setAmbient {l : Launch} (hl : l.stackTraces = false) {B : Bt} {a0 : Nat} {x1 : Int32} {w : MW} {r : (String ⊕ Int32) × MW} (h : f_X9_setAmbient a0 x1 w = some r) : hz_MetX l B 358 yX9_setAmbient cX9_setAmbient 3 (Option.some FieldType.int) 8 2 12 [.ref (B.1 + a0), .int x1] w (Sum.map id (fun r => some (.int r)) r.1) r.2 := by
  refine hz_ofJX (rv := (fun r : Int32 => some (.int r))) (own := RX9) hl (by decide) rfl (Nat.le_of_ble_eq_true rfl) rfl ?_ h
  intro p e s m args below meth c
  unfold f_X9_setAmbient
  refine hz_gdr (fun ga0 => ?_)
  refine hz_aload_n (pc' := 1) (j := 0) dX9_setAmbient_0 rfl rfl rfl ?_
  refine hz_xVv (pc' := 4) (av := []) (rest := []) vl_X9_164 (fun v w' h => ct_X9_needSystem hl h) ga0 rfl rfl (Nat.le_of_ble_eq_true rfl) (by decide) (by decide) dX9_setAmbient_1 rfl (fun w1 => ?_)
  refine hz_iload_n (pc' := 5) (j := 1) dX9_setAmbient_4 rfl rfl rfl ?_
  refine hz_iconst (pc' := 6) (v := 0) dX9_setAmbient_5 rfl (by decide) ?_
  refine hz_sipush (pc' := 9) (v := 9999) dX9_setAmbient_6 rfl (by decide) ?_
  refine hz_xSv (pc' := 12) (av := [.int x1, .int 0, .int 9999]) (rest := []) sl_X9_87 (fun v w' h => ct_X9_needRange hl h) rfl rfl (Nat.le_of_ble_eq_true rfl) (by decide) (by decide) dX9_setAmbient_9 rfl (fun w2 => ?_)
  refine hz_aload_n (pc' := 13) (j := 0) dX9_setAmbient_12 rfl rfl rfl ?_
  refine hz_gP (pc' := 16) (c' := 1) fl_X9_47.r ga0 rfl dX9_setAmbient_13 rfl (fun b3 gb3 => ?_)
  refine hz_aload_n (pc' := 17) (j := 0) dX9_setAmbient_16 rfl rfl rfl ?_
  refine hz_gP (pc' := 20) (c' := 4) fl_X9_37.r ga0 rfl dX9_setAmbient_17 rfl (fun b4 gb4 => ?_)
  refine hz_cVv (pc' := 23) (av := [.ref (B.1 + b4)]) (rest := []) vl_X9_128 (fun w' h => ct_X0_remember hl h) gb3 rfl rfl (Nat.le_of_ble_eq_true rfl) (by decide) (by decide) rfl dX9_setAmbient_20 rfl (fun w5 => ?_)
  refine hz_aload_n (pc' := 24) (j := 0) dX9_setAmbient_23 rfl rfl rfl ?_
  refine hz_gP (pc' := 27) (c' := 4) fl_X9_37.r ga0 rfl dX9_setAmbient_24 rfl (fun b6 gb6 => ?_)
  refine hz_gI (pc' := 30) fl_X9_167.r gb6 rfl dX9_setAmbient_27 rfl ?_
  refine hz_nameI (fun v7 => ?_)
  refine hz_istore_n (pc' := 31) (L' := [(2, .int v7), (0, .ref (B.1 + a0)), (1, .int x1)]) dX9_setAmbient_30 rfl rfl (by decide) rfl ?_
  refine hz_aload_n (pc' := 32) (j := 1) dX9_setAmbient_31 rfl rfl rfl ?_
  refine hz_gP (pc' := 35) (c' := 4) fl_X9_37.r ga0 rfl dX9_setAmbient_32 rfl (fun b8 gb8 => ?_)
  refine hz_iload_n (pc' := 36) (j := 2) dX9_setAmbient_35 rfl rfl rfl ?_
  refine hz_putI (pc' := 39) fl_X9_167 gb8 rfl dX9_setAmbient_36 rfl (fun w9 => ?_)
  refine hz_iload_n (pc' := 40) (j := 0) dX9_setAmbient_39 rfl rfl rfl ?_
  exact hz_retiX dX9_setAmbient_40 rfl (by decide)
def lp_X9_tick_27 (c0 : Nat) (c1 : Int32) : Nat → (Int32 × Int32 × MW) → Option (Int32 × MW)
  | 0, _ => none
  | N + 1, v0 => (if c1 ≤ v0.2.1 then some (v0.1, v0.2.2) else hz_ldp v0.2.2 c0 3 358 4 (fun b6 => hz_b (f_X3_passTick b6 v0.2.2) (fun v8 w7 => hz_let (v0.1 + v8) (fun v9 => hz_let (v0.2.1 + Int32.ofInt 1) (fun v10 => lp_X9_tick_27 c0 c1 N (v9, v10, w7))))))
def f_X9_tick (a0 : Nat) (x1 : Int32) (w : MW) : Option ((String ⊕ Int32) × MW) :=
  hz_gd (hz_g 358 a0 10) (hz_bx (f_X9_needSystem a0 w) (fun _ w1 => hz_bx (f_X9_needRange x1 1 500 w1) (fun _ w2 => hz_ldp w2 a0 5 358 1 (fun b3 => hz_ldp w2 a0 3 358 4 (fun b4 => hz_bv (f_X0_remember b3 b4 w2) (fun w5 => Option.bind (lp_X9_tick_27 a0 x1 3000 (0, 0, w5)) (fun q7 : Int32 × MW => some (.inr q7.1, q7.2))))))))
set_option maxHeartbeats 4000000 in
set_option maxRecDepth 100000 in
theorem ct_X9_tick {l : Launch} (hl : l.stackTraces = false) {B : Bt} {a0 : Nat} {x1 : Int32} {w : MW} {r : (String ⊕ Int32) × MW} (h : f_X9_tick a0 x1 w = some r) : hz_MetX l B 358 yX9_tick cX9_tick 4 (Option.some FieldType.int) 8 2 12 [.ref (B.1 + a0), .int x1] w (Sum.map id (fun r => some (.int r)) r.1) r.2 := by
  refine hz_ofJX (rv := (fun r : Int32 => some (.int r))) (own := RX9) hl (by decide) rfl (Nat.le_of_ble_eq_true rfl) rfl ?_ h
  intro p e s m args below meth c
  unfold f_X9_tick
  refine hz_gdr (fun ga0 => ?_)
  refine hz_aload_n (pc' := 1) (j := 0) dX9_tick_0 rfl rfl rfl ?_
  refine hz_xVv (pc' := 4) (av := []) (rest := []) vl_X9_164 (fun v w' h => ct_X9_needSystem hl h) ga0 rfl rfl (Nat.le_of_ble_eq_true rfl) (by decide) (by decide) dX9_tick_1 rfl (fun w1 => ?_)
  refine hz_iload_n (pc' := 5) (j := 1) dX9_tick_4 rfl rfl rfl ?_
  refine hz_iconst (pc' := 6) (v := 1) dX9_tick_5 rfl (by decide) ?_
  refine hz_sipush (pc' := 9) (v := 500) dX9_tick_6 rfl (by decide) ?_
  refine hz_xSv (pc' := 12) (av := [.int x1, .int 1, .int 500]) (rest := []) sl_X9_87 (fun v w' h => ct_X9_needRange hl h) rfl rfl (Nat.le_of_ble_eq_true rfl) (by decide) (by decide) dX9_tick_9 rfl (fun w2 => ?_)
  refine hz_aload_n (pc' := 13) (j := 0) dX9_tick_12 rfl rfl rfl ?_
  refine hz_gP (pc' := 16) (c' := 1) fl_X9_47.r ga0 rfl dX9_tick_13 rfl (fun b3 gb3 => ?_)
  refine hz_aload_n (pc' := 17) (j := 0) dX9_tick_16 rfl rfl rfl ?_
  refine hz_gP (pc' := 20) (c' := 4) fl_X9_37.r ga0 rfl dX9_tick_17 rfl (fun b4 gb4 => ?_)
  refine hz_cVv (pc' := 23) (av := [.ref (B.1 + b4)]) (rest := []) vl_X9_128 (fun w' h => ct_X0_remember hl h) gb3 rfl rfl (Nat.le_of_ble_eq_true rfl) (by decide) (by decide) rfl dX9_tick_20 rfl (fun w5 => ?_)
  refine hz_iconst (pc' := 24) (v := 0) dX9_tick_23 rfl (by decide) ?_
  refine hz_istore_n (pc' := 25) (L' := [(2, .int 0), (0, .ref (B.1 + a0)), (1, .int x1)]) dX9_tick_24 rfl rfl (by decide) rfl ?_
  refine hz_iconst (pc' := 26) (v := 0) dX9_tick_25 rfl (by decide) ?_
  refine hz_istore_n (pc' := 27) (L' := [(3, .int 0), (2, .int 0), (0, .ref (B.1 + a0)), (1, .int x1)]) dX9_tick_26 rfl rfl (by decide) rfl ?_
  refine hz_bindJ (pcJ := 48) (LJ := fun q7 : Int32 × MW => [(2, .int q7.1)]) (stJ := fun _ => []) (kJ := 2) (slJ := 12) (nJ := 358) (wJ := fun q7 : Int32 × MW => q7.2) (fun q7 => ?_) (fun hq7 => ?_)
  · refine hz_iload_n (pc' := 49) (j := 0) dX9_tick_48 rfl rfl rfl ?_
    exact hz_retiX dX9_tick_49 rfl (by decide)
  · refine hz_loc [2, 3, 1, 0] rfl (hz_loopJ (lp := lp_X9_tick_27 a0 x1) (Lh := fun v6 : Int32 × Int32 × MW => [(0, .ref (B.1 + a0)), (1, .int x1), (2, .int v6.1), (3, .int v6.2.1)]) (wh := fun v6 : Int32 × Int32 × MW => v6.2.2) (fun _ => rfl) (fun Nv6 ihv6 v6 => ?_) 3000 (0, 0, w5))
    rw [lp_X9_tick_27]
    refine hz_iload_n (pc' := 28) (j := 3) dX9_tick_27 rfl rfl rfl ?_
    refine hz_iload_n (pc' := 29) (j := 1) dX9_tick_28 rfl rfl rfl ?_
    refine hz_icmpge (pc' := 32) (tgt := 48) dX9_tick_29 (by decide) rfl ?_ ?_
    · exact hz_loc [2] rfl (hq7 (v6.1, v6.2.2))
    · refine hz_iload_n (pc' := 33) (j := 2) dX9_tick_32 rfl rfl rfl ?_
      refine hz_aload_n (pc' := 34) (j := 0) dX9_tick_33 rfl rfl rfl ?_
      refine hz_gP (pc' := 37) (c' := 4) fl_X9_37.r ga0 rfl dX9_tick_34 rfl (fun b8 gb8 => ?_)
      refine hz_cVi (pc' := 40) (av := []) (rest := [.int v6.1]) vl_X9_170 (fun x w' h => ct_X3_passTick hl h) gb8 rfl rfl (Nat.le_of_ble_eq_true rfl) (by decide) (by decide) rfl dX9_tick_37 rfl (fun v10 w9 => ?_)
      refine hz_iadd (pc' := 41) dX9_tick_40 rfl ?_
      refine hz_nameI (fun v11 => ?_)
      refine hz_istore_n (pc' := 42) (L' := [(2, .int v11), (0, .ref (B.1 + a0)), (1, .int x1), (3, .int v6.2.1)]) dX9_tick_41 rfl rfl (by decide) rfl ?_
      refine hz_iincN (pc' := 45) (j := 3) (fun v12 => [(3, .int v12), (2, .int v11), (0, .ref (B.1 + a0)), (1, .int x1)]) dX9_tick_42 rfl rfl (by decide) (fun _ => rfl) (fun v12 => ?_)
      refine hz_goto (tgt := 27) dX9_tick_45 (by decide) ?_
      exact hz_loc [2, 3, 1, 0] rfl (ihv6 (v11, v12, w9))
def f_X9_clock (a0 : Nat) (w : MW) : Option ((String ⊕ Int32) × MW) :=
  hz_gd (hz_g 358 a0 10) (hz_bx (f_X9_needSystem a0 w) (fun _ w1 => hz_ldp w1 a0 3 358 4 (fun b2 => some (.inr (w1.1 b2 2), w1))))
set_option maxHeartbeats 4000000 in
set_option maxRecDepth 100000 in
theorem ct_X9_clock {l : Launch} (hl : l.stackTraces = false) {B : Bt} {a0 : Nat} {w : MW} {r : (String ⊕ Int32) × MW} (h : f_X9_clock a0 w = some r) : hz_MetX l B 358 yX9_clock cX9_clock 1 (Option.some FieldType.int) 8 1 6 [.ref (B.1 + a0)] w (Sum.map id (fun r => some (.int r)) r.1) r.2 := by
  refine hz_ofJX (rv := (fun r : Int32 => some (.int r))) (own := RX9) hl (by decide) rfl (Nat.le_of_ble_eq_true rfl) rfl ?_ h
  intro p e s m args below meth c
  unfold f_X9_clock
  refine hz_gdr (fun ga0 => ?_)
  refine hz_aload_n (pc' := 1) (j := 0) dX9_clock_0 rfl rfl rfl ?_
  refine hz_xVv (pc' := 4) (av := []) (rest := []) vl_X9_164 (fun v w' h => ct_X9_needSystem hl h) ga0 rfl rfl (Nat.le_of_ble_eq_true rfl) (by decide) (by decide) dX9_clock_1 rfl (fun w1 => ?_)
  refine hz_aload_n (pc' := 5) (j := 0) dX9_clock_4 rfl rfl rfl ?_
  refine hz_gP (pc' := 8) (c' := 4) fl_X9_37.r ga0 rfl dX9_clock_5 rfl (fun b2 gb2 => ?_)
  refine hz_gI (pc' := 11) fl_X9_136.r gb2 rfl dX9_clock_8 rfl ?_
  exact hz_retiX dX9_clock_11 rfl (by decide)
def f_X9_temperature (a0 : Nat) (x1 : Int32) (w : MW) : Option ((String ⊕ Int32) × MW) :=
  hz_gd (hz_g 358 a0 10) (hz_bx (f_X9_needDomain a0 x1 w) (fun _ w1 => hz_ldp w1 a0 3 358 4 (fun b2 => hz_ldp w1 b2 6 358 20 (fun b3 => hz_lda w1 b3 x1 (fun v4 => some (.inr v4, w1))))))
set_option maxHeartbeats 4000000 in
set_option maxRecDepth 100000 in
theorem ct_X9_temperature {l : Launch} (hl : l.stackTraces = false) {B : Bt} {a0 : Nat} {x1 : Int32} {w : MW} {r : (String ⊕ Int32) × MW} (h : f_X9_temperature a0 x1 w = some r) : hz_MetX l B 358 yX9_temperature cX9_temperature 2 (Option.some FieldType.int) 9 2 12 [.ref (B.1 + a0), .int x1] w (Sum.map id (fun r => some (.int r)) r.1) r.2 := by
  refine hz_ofJX (rv := (fun r : Int32 => some (.int r))) (own := RX9) hl (by decide) rfl (Nat.le_of_ble_eq_true rfl) rfl ?_ h
  intro p e s m args below meth c
  unfold f_X9_temperature
  refine hz_gdr (fun ga0 => ?_)
  refine hz_aload_n (pc' := 1) (j := 0) dX9_temperature_0 rfl rfl rfl ?_
  refine hz_iload_n (pc' := 2) (j := 1) dX9_temperature_1 rfl rfl rfl ?_
  refine hz_xVv (pc' := 5) (av := [.int x1]) (rest := []) vl_X9_116 (fun v w' h => ct_X9_needDomain hl h) ga0 rfl rfl (Nat.le_of_ble_eq_true rfl) (by decide) (by decide) dX9_temperature_2 rfl (fun w1 => ?_)
  refine hz_aload_n (pc' := 6) (j := 0) dX9_temperature_5 rfl rfl rfl ?_
  refine hz_gP (pc' := 9) (c' := 4) fl_X9_37.r ga0 rfl dX9_temperature_6 rfl (fun b2 gb2 => ?_)
  refine hz_gP (pc' := 12) (c' := 20) fl_X9_174 gb2 rfl dX9_temperature_9 rfl (fun b3 gb3 => ?_)
  refine hz_iload_n (pc' := 13) (j := 1) dX9_temperature_12 rfl rfl rfl ?_
  refine hz_iald (pc' := 14) gb3 dX9_temperature_13 rfl (fun v4 => ?_)
  exact hz_retiX dX9_temperature_14 rfl (by decide)
def f_X9_level (a0 : Nat) (x1 : Int32) (w : MW) : Option ((String ⊕ Int32) × MW) :=
  hz_gd (hz_g 358 a0 10) (hz_bx (f_X9_needDomain a0 x1 w) (fun _ w1 => hz_ldp w1 a0 3 358 4 (fun b2 => hz_ldp w1 b2 7 358 20 (fun b3 => hz_lda w1 b3 x1 (fun v4 => some (.inr v4, w1))))))
set_option maxHeartbeats 4000000 in
set_option maxRecDepth 100000 in
theorem ct_X9_level {l : Launch} (hl : l.stackTraces = false) {B : Bt} {a0 : Nat} {x1 : Int32} {w : MW} {r : (String ⊕ Int32) × MW} (h : f_X9_level a0 x1 w = some r) : hz_MetX l B 358 yX9_level cX9_level 2 (Option.some FieldType.int) 9 2 12 [.ref (B.1 + a0), .int x1] w (Sum.map id (fun r => some (.int r)) r.1) r.2 := by
  refine hz_ofJX (rv := (fun r : Int32 => some (.int r))) (own := RX9) hl (by decide) rfl (Nat.le_of_ble_eq_true rfl) rfl ?_ h
  intro p e s m args below meth c
  unfold f_X9_level
  refine hz_gdr (fun ga0 => ?_)
  refine hz_aload_n (pc' := 1) (j := 0) dX9_level_0 rfl rfl rfl ?_
  refine hz_iload_n (pc' := 2) (j := 1) dX9_level_1 rfl rfl rfl ?_
  refine hz_xVv (pc' := 5) (av := [.int x1]) (rest := []) vl_X9_116 (fun v w' h => ct_X9_needDomain hl h) ga0 rfl rfl (Nat.le_of_ble_eq_true rfl) (by decide) (by decide) dX9_level_2 rfl (fun w1 => ?_)
  refine hz_aload_n (pc' := 6) (j := 0) dX9_level_5 rfl rfl rfl ?_
  refine hz_gP (pc' := 9) (c' := 4) fl_X9_37.r ga0 rfl dX9_level_6 rfl (fun b2 gb2 => ?_)
  refine hz_gP (pc' := 12) (c' := 20) fl_X9_177 gb2 rfl dX9_level_9 rfl (fun b3 gb3 => ?_)
  refine hz_iload_n (pc' := 13) (j := 1) dX9_level_12 rfl rfl rfl ?_
  refine hz_iald (pc' := 14) gb3 dX9_level_13 rfl (fun v4 => ?_)
  exact hz_retiX dX9_level_14 rfl (by decide)
def f_X9_energy (a0 : Nat) (x1 : Int32) (w : MW) : Option ((String ⊕ Int32) × MW) :=
  hz_gd (hz_g 358 a0 10) (hz_bx (f_X9_needDomain a0 x1 w) (fun _ w1 => hz_ldp w1 a0 3 358 4 (fun b2 => hz_ldp w1 b2 8 358 20 (fun b3 => hz_lda w1 b3 x1 (fun v4 => some (.inr v4, w1))))))
set_option maxHeartbeats 4000000 in
set_option maxRecDepth 100000 in
theorem ct_X9_energy {l : Launch} (hl : l.stackTraces = false) {B : Bt} {a0 : Nat} {x1 : Int32} {w : MW} {r : (String ⊕ Int32) × MW} (h : f_X9_energy a0 x1 w = some r) : hz_MetX l B 358 yX9_energy cX9_energy 2 (Option.some FieldType.int) 9 2 12 [.ref (B.1 + a0), .int x1] w (Sum.map id (fun r => some (.int r)) r.1) r.2 := by
  refine hz_ofJX (rv := (fun r : Int32 => some (.int r))) (own := RX9) hl (by decide) rfl (Nat.le_of_ble_eq_true rfl) rfl ?_ h
  intro p e s m args below meth c
  unfold f_X9_energy
  refine hz_gdr (fun ga0 => ?_)
  refine hz_aload_n (pc' := 1) (j := 0) dX9_energy_0 rfl rfl rfl ?_
  refine hz_iload_n (pc' := 2) (j := 1) dX9_energy_1 rfl rfl rfl ?_
  refine hz_xVv (pc' := 5) (av := [.int x1]) (rest := []) vl_X9_116 (fun v w' h => ct_X9_needDomain hl h) ga0 rfl rfl (Nat.le_of_ble_eq_true rfl) (by decide) (by decide) dX9_energy_2 rfl (fun w1 => ?_)
  refine hz_aload_n (pc' := 6) (j := 0) dX9_energy_5 rfl rfl rfl ?_
  refine hz_gP (pc' := 9) (c' := 4) fl_X9_37.r ga0 rfl dX9_energy_6 rfl (fun b2 gb2 => ?_)
  refine hz_gP (pc' := 12) (c' := 20) fl_X9_180 gb2 rfl dX9_energy_9 rfl (fun b3 gb3 => ?_)
  refine hz_iload_n (pc' := 13) (j := 1) dX9_energy_12 rfl rfl rfl ?_
  refine hz_iald (pc' := 14) gb3 dX9_energy_13 rfl (fun v4 => ?_)
  exact hz_retiX dX9_energy_14 rfl (by decide)
def f_X9_domainValue (a0 : Nat) (x1 : Int32) (x2 : Int32) (w : MW) : Option ((String ⊕ Int32) × MW) :=
  hz_gd (hz_g 358 a0 10) (hz_bx (f_X9_needDomain a0 x1 w) (fun _ w1 => (if x2 = 0 then hz_ldp w1 a0 3 358 4 (fun b2 => hz_ldp w1 b2 9 358 20 (fun b3 => hz_lda w1 b3 x1 (fun v4 => some (.inr v4, w1)))) else (if x2 = 1 then hz_ldp w1 a0 3 358 4 (fun b6 => hz_ldp w1 b6 10 358 20 (fun b7 => hz_lda w1 b7 x1 (fun v8 => some (.inr v8, w1)))) else (if x2 = 2 then hz_ldp w1 a0 3 358 4 (fun b10 => hz_ldp w1 b10 11 358 20 (fun b11 => hz_lda w1 b11 x1 (fun v12 => some (.inr v12, w1)))) else (if x2 = 3 then hz_ldp w1 a0 3 358 4 (fun b14 => hz_ldp w1 b14 12 358 20 (fun b15 => hz_lda w1 b15 x1 (fun v16 => some (.inr v16, w1)))) else (if x2 = 4 then hz_ldp w1 a0 3 358 4 (fun b18 => hz_ldp w1 b18 4 358 20 (fun b19 => hz_lda w1 b19 x1 (fun v20 => some (.inr v20, w1)))) else (if x2 = 5 then hz_ldp w1 a0 3 358 4 (fun b22 => hz_ldp w1 b22 5 358 20 (fun b23 => hz_lda w1 b23 x1 (fun v24 => some (.inr v24, w1)))) else (if x2 = 6 then hz_ldp w1 a0 2 358 3 (fun b26 => hz_ldp w1 b26 10 358 20 (fun b27 => hz_lda w1 b27 x1 (fun v28 => some (.inr v28, w1)))) else (if x2 = 7 then hz_ldp w1 a0 2 358 3 (fun b30 => hz_ldp w1 b30 2 358 20 (fun b31 => hz_lda w1 b31 x1 (fun v32 => some (.inr v32, w1)))) else (if x2 = 8 then hz_ldp w1 a0 2 358 3 (fun b34 => hz_ldp w1 b34 7 358 20 (fun b35 => hz_lda w1 b35 x1 (fun v36 => some (.inr v36, w1)))) else some (.inl "java/lang/IllegalArgumentException", w1))))))))))))
set_option maxHeartbeats 4000000 in
set_option maxRecDepth 100000 in
theorem ct_X9_domainValue {l : Launch} (hl : l.stackTraces = false) {B : Bt} {a0 : Nat} {x1 : Int32} {x2 : Int32} {w : MW} {r : (String ⊕ Int32) × MW} (h : f_X9_domainValue a0 x1 x2 w = some r) : hz_MetX l B 358 yX9_domainValue cX9_domainValue 3 (Option.some FieldType.int) 9 3 18 [.ref (B.1 + a0), .int x1, .int x2] w (Sum.map id (fun r => some (.int r)) r.1) r.2 := by
  refine hz_ofJX (rv := (fun r : Int32 => some (.int r))) (own := RX9) hl (by decide) rfl (Nat.le_of_ble_eq_true rfl) rfl ?_ h
  intro p e s m args below meth c
  unfold f_X9_domainValue
  refine hz_gdr (fun ga0 => ?_)
  refine hz_aload_n (pc' := 1) (j := 0) dX9_domainValue_0 rfl rfl rfl ?_
  refine hz_iload_n (pc' := 2) (j := 1) dX9_domainValue_1 rfl rfl rfl ?_
  refine hz_xVv (pc' := 5) (av := [.int x1]) (rest := []) vl_X9_116 (fun v w' h => ct_X9_needDomain hl h) ga0 rfl rfl (Nat.le_of_ble_eq_true rfl) (by decide) (by decide) dX9_domainValue_2 rfl (fun w1 => ?_)
  refine hz_iload_n (pc' := 6) (j := 2) dX9_domainValue_5 rfl rfl rfl ?_
  refine hz_swIn (v := 0) (off := 50) (tgt := 56) dX9_domainValue_6 (by decide) (by decide) (by decide +kernel) (by decide) ?_ (fun hs5 => ?_)
  · refine hz_aload_n (pc' := 57) (j := 0) dX9_domainValue_56 rfl rfl rfl ?_
    refine hz_gP (pc' := 60) (c' := 4) fl_X9_37.r ga0 rfl dX9_domainValue_57 rfl (fun b2 gb2 => ?_)
    refine hz_gP (pc' := 63) (c' := 20) fl_X9_183 gb2 rfl dX9_domainValue_60 rfl (fun b3 gb3 => ?_)
    refine hz_iload_n (pc' := 64) (j := 1) dX9_domainValue_63 rfl rfl rfl ?_
    refine hz_iald (pc' := 65) gb3 dX9_domainValue_64 rfl (fun v4 => ?_)
    exact hz_retiX dX9_domainValue_65 rfl (by decide)
  refine hz_swIn (v := 1) (off := 60) (tgt := 66) dX9_domainValue_6 (by decide) (by decide) (by decide +kernel) (by decide) ?_ (fun hs9 => ?_)
  · refine hz_aload_n (pc' := 67) (j := 0) dX9_domainValue_66 rfl rfl rfl ?_
    refine hz_gP (pc' := 70) (c' := 4) fl_X9_37.r ga0 rfl dX9_domainValue_67 rfl (fun b6 gb6 => ?_)
    refine hz_gP (pc' := 73) (c' := 20) fl_X9_186 gb6 rfl dX9_domainValue_70 rfl (fun b7 gb7 => ?_)
    refine hz_iload_n (pc' := 74) (j := 1) dX9_domainValue_73 rfl rfl rfl ?_
    refine hz_iald (pc' := 75) gb7 dX9_domainValue_74 rfl (fun v8 => ?_)
    exact hz_retiX dX9_domainValue_75 rfl (by decide)
  refine hz_swIn (v := 2) (off := 70) (tgt := 76) dX9_domainValue_6 (by decide) (by decide) (by decide +kernel) (by decide) ?_ (fun hs13 => ?_)
  · refine hz_aload_n (pc' := 77) (j := 0) dX9_domainValue_76 rfl rfl rfl ?_
    refine hz_gP (pc' := 80) (c' := 4) fl_X9_37.r ga0 rfl dX9_domainValue_77 rfl (fun b10 gb10 => ?_)
    refine hz_gP (pc' := 83) (c' := 20) fl_X9_189 gb10 rfl dX9_domainValue_80 rfl (fun b11 gb11 => ?_)
    refine hz_iload_n (pc' := 84) (j := 1) dX9_domainValue_83 rfl rfl rfl ?_
    refine hz_iald (pc' := 85) gb11 dX9_domainValue_84 rfl (fun v12 => ?_)
    exact hz_retiX dX9_domainValue_85 rfl (by decide)
  refine hz_swIn (v := 3) (off := 80) (tgt := 86) dX9_domainValue_6 (by decide) (by decide) (by decide +kernel) (by decide) ?_ (fun hs17 => ?_)
  · refine hz_aload_n (pc' := 87) (j := 0) dX9_domainValue_86 rfl rfl rfl ?_
    refine hz_gP (pc' := 90) (c' := 4) fl_X9_37.r ga0 rfl dX9_domainValue_87 rfl (fun b14 gb14 => ?_)
    refine hz_gP (pc' := 93) (c' := 20) fl_X9_192 gb14 rfl dX9_domainValue_90 rfl (fun b15 gb15 => ?_)
    refine hz_iload_n (pc' := 94) (j := 1) dX9_domainValue_93 rfl rfl rfl ?_
    refine hz_iald (pc' := 95) gb15 dX9_domainValue_94 rfl (fun v16 => ?_)
    exact hz_retiX dX9_domainValue_95 rfl (by decide)
  refine hz_swIn (v := 4) (off := 90) (tgt := 96) dX9_domainValue_6 (by decide) (by decide) (by decide +kernel) (by decide) ?_ (fun hs21 => ?_)
  · refine hz_aload_n (pc' := 97) (j := 0) dX9_domainValue_96 rfl rfl rfl ?_
    refine hz_gP (pc' := 100) (c' := 4) fl_X9_37.r ga0 rfl dX9_domainValue_97 rfl (fun b18 gb18 => ?_)
    refine hz_gP (pc' := 103) (c' := 20) fl_X9_161 gb18 rfl dX9_domainValue_100 rfl (fun b19 gb19 => ?_)
    refine hz_iload_n (pc' := 104) (j := 1) dX9_domainValue_103 rfl rfl rfl ?_
    refine hz_iald (pc' := 105) gb19 dX9_domainValue_104 rfl (fun v20 => ?_)
    exact hz_retiX dX9_domainValue_105 rfl (by decide)
  refine hz_swIn (v := 5) (off := 100) (tgt := 106) dX9_domainValue_6 (by decide) (by decide) (by decide +kernel) (by decide) ?_ (fun hs25 => ?_)
  · refine hz_aload_n (pc' := 107) (j := 0) dX9_domainValue_106 rfl rfl rfl ?_
    refine hz_gP (pc' := 110) (c' := 4) fl_X9_37.r ga0 rfl dX9_domainValue_107 rfl (fun b22 gb22 => ?_)
    refine hz_gP (pc' := 113) (c' := 20) fl_X9_157 gb22 rfl dX9_domainValue_110 rfl (fun b23 gb23 => ?_)
    refine hz_iload_n (pc' := 114) (j := 1) dX9_domainValue_113 rfl rfl rfl ?_
    refine hz_iald (pc' := 115) gb23 dX9_domainValue_114 rfl (fun v24 => ?_)
    exact hz_retiX dX9_domainValue_115 rfl (by decide)
  refine hz_swIn (v := 6) (off := 110) (tgt := 116) dX9_domainValue_6 (by decide) (by decide) (by decide +kernel) (by decide) ?_ (fun hs29 => ?_)
  · refine hz_aload_n (pc' := 117) (j := 0) dX9_domainValue_116 rfl rfl rfl ?_
    refine hz_gP (pc' := 120) (c' := 3) fl_X9_28.r ga0 rfl dX9_domainValue_117 rfl (fun b26 gb26 => ?_)
    refine hz_gP (pc' := 123) (c' := 20) fl_X9_195 gb26 rfl dX9_domainValue_120 rfl (fun b27 gb27 => ?_)
    refine hz_iload_n (pc' := 124) (j := 1) dX9_domainValue_123 rfl rfl rfl ?_
    refine hz_iald (pc' := 125) gb27 dX9_domainValue_124 rfl (fun v28 => ?_)
    exact hz_retiX dX9_domainValue_125 rfl (by decide)
  refine hz_swIn (v := 7) (off := 120) (tgt := 126) dX9_domainValue_6 (by decide) (by decide) (by decide +kernel) (by decide) ?_ (fun hs33 => ?_)
  · refine hz_aload_n (pc' := 127) (j := 0) dX9_domainValue_126 rfl rfl rfl ?_
    refine hz_gP (pc' := 130) (c' := 3) fl_X9_28.r ga0 rfl dX9_domainValue_127 rfl (fun b30 gb30 => ?_)
    refine hz_gP (pc' := 133) (c' := 20) fl_X9_198 gb30 rfl dX9_domainValue_130 rfl (fun b31 gb31 => ?_)
    refine hz_iload_n (pc' := 134) (j := 1) dX9_domainValue_133 rfl rfl rfl ?_
    refine hz_iald (pc' := 135) gb31 dX9_domainValue_134 rfl (fun v32 => ?_)
    exact hz_retiX dX9_domainValue_135 rfl (by decide)
  refine hz_swIn (v := 8) (off := 130) (tgt := 136) dX9_domainValue_6 (by decide) (by decide) (by decide +kernel) (by decide) ?_ (fun hs37 => ?_)
  · refine hz_aload_n (pc' := 137) (j := 0) dX9_domainValue_136 rfl rfl rfl ?_
    refine hz_gP (pc' := 140) (c' := 3) fl_X9_28.r ga0 rfl dX9_domainValue_137 rfl (fun b34 gb34 => ?_)
    refine hz_gP (pc' := 143) (c' := 20) fl_X9_201 gb34 rfl dX9_domainValue_140 rfl (fun b35 gb35 => ?_)
    refine hz_iload_n (pc' := 144) (j := 1) dX9_domainValue_143 rfl rfl rfl ?_
    refine hz_iald (pc' := 145) gb35 dX9_domainValue_144 rfl (fun v36 => ?_)
    exact hz_retiX dX9_domainValue_145 rfl (by decide)
  refine hz_swOut (tgt := 146) dX9_domainValue_6 (by have z0 := lv_neT (a := 0) hs5 (by decide); have z1 := lv_neT (a := 1) hs9 (by decide); have z2 := lv_neT (a := 2) hs13 (by decide); have z3 := lv_neT (a := 3) hs17 (by decide); have z4 := lv_neT (a := 4) hs21 (by decide); have z5 := lv_neT (a := 5) hs25 (by decide); have z6 := lv_neT (a := 6) hs29 (by decide); have z7 := lv_neT (a := 7) hs33 (by decide); have z8 := lv_neT (a := 8) hs37 (by decide); omega) (by decide) ?_
  exact hz_throwS tl_204_206 dX9_domainValue_146 dX9_domainValue_149 dX9_domainValue_150 dX9_domainValue_152 dX9_domainValue_155 (Nat.le_of_ble_eq_true rfl) (by decide)
def f_X9_jobOn (a0 : Nat) (x1 : Int32) (x2 : Int32) (w : MW) : Option ((String ⊕ Int32) × MW) :=
  hz_gd (hz_g 358 a0 10) (hz_bx (f_X9_needDomain a0 x1 w) (fun _ w1 => hz_ldp w1 a0 2 358 3 (fun b2 => hz_ldp w1 b2 2 358 20 (fun b3 => hz_lda w1 b3 x1 (fun v4 => hz_bx (f_X9_needRange x2 0 (v4 - 1) w1) (fun _ w5 => hz_ldp w5 a0 3 358 4 (fun b6 => hz_ldp w5 b6 14 358 20 (fun b7 => hz_lda w5 b7 ((x1 * 4) + x2) (fun v8 => some (.inr v8, w5))))))))))
set_option maxHeartbeats 4000000 in
set_option maxRecDepth 100000 in
theorem ct_X9_jobOn {l : Launch} (hl : l.stackTraces = false) {B : Bt} {a0 : Nat} {x1 : Int32} {x2 : Int32} {w : MW} {r : (String ⊕ Int32) × MW} (h : f_X9_jobOn a0 x1 x2 w = some r) : hz_MetX l B 358 yX9_jobOn cX9_jobOn 3 (Option.some FieldType.int) 9 3 18 [.ref (B.1 + a0), .int x1, .int x2] w (Sum.map id (fun r => some (.int r)) r.1) r.2 := by
  refine hz_ofJX (rv := (fun r : Int32 => some (.int r))) (own := RX9) hl (by decide) rfl (Nat.le_of_ble_eq_true rfl) rfl ?_ h
  intro p e s m args below meth c
  unfold f_X9_jobOn
  refine hz_gdr (fun ga0 => ?_)
  refine hz_aload_n (pc' := 1) (j := 0) dX9_jobOn_0 rfl rfl rfl ?_
  refine hz_iload_n (pc' := 2) (j := 1) dX9_jobOn_1 rfl rfl rfl ?_
  refine hz_xVv (pc' := 5) (av := [.int x1]) (rest := []) vl_X9_116 (fun v w' h => ct_X9_needDomain hl h) ga0 rfl rfl (Nat.le_of_ble_eq_true rfl) (by decide) (by decide) dX9_jobOn_2 rfl (fun w1 => ?_)
  refine hz_iload_n (pc' := 6) (j := 2) dX9_jobOn_5 rfl rfl rfl ?_
  refine hz_iconst (pc' := 7) (v := 0) dX9_jobOn_6 rfl (by decide) ?_
  refine hz_aload_n (pc' := 8) (j := 0) dX9_jobOn_7 rfl rfl rfl ?_
  refine hz_gP (pc' := 11) (c' := 3) fl_X9_28.r ga0 rfl dX9_jobOn_8 rfl (fun b2 gb2 => ?_)
  refine hz_gP (pc' := 14) (c' := 20) fl_X9_198 gb2 rfl dX9_jobOn_11 rfl (fun b3 gb3 => ?_)
  refine hz_iload_n (pc' := 15) (j := 1) dX9_jobOn_14 rfl rfl rfl ?_
  refine hz_iald (pc' := 16) gb3 dX9_jobOn_15 rfl (fun v4 => ?_)
  refine hz_iconst (pc' := 17) (v := 1) dX9_jobOn_16 rfl (by decide) ?_
  refine hz_isub (pc' := 18) dX9_jobOn_17 rfl ?_
  refine hz_xSv (pc' := 21) (av := [.int x2, .int 0, .int (v4 - 1)]) (rest := []) sl_X9_87 (fun v w' h => ct_X9_needRange hl h) rfl rfl (Nat.le_of_ble_eq_true rfl) (by decide) (by decide) dX9_jobOn_18 rfl (fun w5 => ?_)
  refine hz_aload_n (pc' := 22) (j := 0) dX9_jobOn_21 rfl rfl rfl ?_
  refine hz_gP (pc' := 25) (c' := 4) fl_X9_37.r ga0 rfl dX9_jobOn_22 rfl (fun b6 gb6 => ?_)
  refine hz_gP (pc' := 28) (c' := 20) fl_X9_209 gb6 rfl dX9_jobOn_25 rfl (fun b7 gb7 => ?_)
  refine hz_iload_n (pc' := 29) (j := 1) dX9_jobOn_28 rfl rfl rfl ?_
  refine hz_iconst (pc' := 30) (v := 4) dX9_jobOn_29 rfl (by decide) ?_
  refine hz_imul (pc' := 31) dX9_jobOn_30 rfl ?_
  refine hz_iload_n (pc' := 32) (j := 2) dX9_jobOn_31 rfl rfl rfl ?_
  refine hz_iadd (pc' := 33) dX9_jobOn_32 rfl ?_
  refine hz_iald (pc' := 34) gb7 dX9_jobOn_33 rfl (fun v8 => ?_)
  exact hz_retiX dX9_jobOn_34 rfl (by decide)
def f_X9_needNotNegative (x0 : Int32) (w : MW) : Option ((String ⊕ Unit) × MW) :=
  (if 0 ≤ x0 then some (.inr (), w) else some (.inl "java/lang/IllegalArgumentException", w))
set_option maxHeartbeats 4000000 in
set_option maxRecDepth 100000 in
theorem ct_X9_needNotNegative {l : Launch} (hl : l.stackTraces = false) {B : Bt} {x0 : Int32} {w : MW} {r : (String ⊕ Unit) × MW} (h : f_X9_needNotNegative x0 w = some r) : hz_MetX l B 358 yX9_needNotNegative cX9_needNotNegative 1 (Option.none : Option FieldType) 7 1 6 [.int x0] w (Sum.map id (fun _ => none) r.1) r.2 := by
  refine hz_ofJX (rv := (fun _ : Unit => none)) (own := RX9) hl (by decide) rfl (Nat.le_of_ble_eq_true rfl) rfl ?_ h
  intro p e s m args below meth c
  unfold f_X9_needNotNegative
  refine hz_iload_n (pc' := 1) (j := 0) dX9_needNotNegative_0 rfl rfl rfl ?_
  refine hz_ifge (pc' := 4) (tgt := 15) dX9_needNotNegative_1 (by decide) rfl ?_ ?_
  · exact hz_retvX dX9_needNotNegative_15 rfl (by decide)
  · exact hz_throwW tl_204_341 dX9_needNotNegative_4 dX9_needNotNegative_7 dX9_needNotNegative_8 dX9_needNotNegative_11 dX9_needNotNegative_14 (Nat.le_of_ble_eq_true rfl) (by decide)
def lp_X9_throttleOrder_10 (c0 : Nat) (c1 : Int32) : Nat → (Int32 × MW) → Option ((String ⊕ Int32) × MW)
  | 0, _ => none
  | N + 1, v0 => hz_ldp v0.2 c0 2 358 3 (fun b3 => (if (v0.2.1 b3 1) ≤ v0.1 then some (.inl "java/util/NoSuchElementException", v0.2) else hz_ldp v0.2 c0 3 358 4 (fun b4 => hz_b (f_X3_throttleRank b4 v0.1 v0.2) (fun v6 w5 => (if v6 = c1 then some (.inr v0.1, w5) else hz_let (v0.1 + Int32.ofInt 1) (fun v7 => lp_X9_throttleOrder_10 c0 c1 N (v7, w5)))))))
def f_X9_throttleOrder (a0 : Nat) (x1 : Int32) (w : MW) : Option ((String ⊕ Int32) × MW) :=
  hz_gd (hz_g 358 a0 10) (hz_bx (f_X9_needSystem a0 w) (fun _ w1 => hz_bx (f_X9_needNotNegative x1 w1) (fun _ w2 => lp_X9_throttleOrder_10 a0 x1 3000 (0, w2))))
set_option maxHeartbeats 4000000 in
set_option maxRecDepth 100000 in
theorem ct_X9_throttleOrder {l : Launch} (hl : l.stackTraces = false) {B : Bt} {a0 : Nat} {x1 : Int32} {w : MW} {r : (String ⊕ Int32) × MW} (h : f_X9_throttleOrder a0 x1 w = some r) : hz_MetX l B 358 yX9_throttleOrder cX9_throttleOrder 3 (Option.some FieldType.int) 8 3 18 [.ref (B.1 + a0), .int x1] w (Sum.map id (fun r => some (.int r)) r.1) r.2 := by
  refine hz_ofJX (rv := (fun r : Int32 => some (.int r))) (own := RX9) hl (by decide) rfl (Nat.le_of_ble_eq_true rfl) rfl ?_ h
  intro p e s m args below meth c
  unfold f_X9_throttleOrder
  refine hz_gdr (fun ga0 => ?_)
  refine hz_aload_n (pc' := 1) (j := 0) dX9_throttleOrder_0 rfl rfl rfl ?_
  refine hz_xVv (pc' := 4) (av := []) (rest := []) vl_X9_164 (fun v w' h => ct_X9_needSystem hl h) ga0 rfl rfl (Nat.le_of_ble_eq_true rfl) (by decide) (by decide) dX9_throttleOrder_1 rfl (fun w1 => ?_)
  refine hz_iload_n (pc' := 5) (j := 1) dX9_throttleOrder_4 rfl rfl rfl ?_
  refine hz_xSv (pc' := 8) (av := [.int x1]) (rest := []) sl_X9_212 (fun v w' h => ct_X9_needNotNegative hl h) rfl rfl (Nat.le_of_ble_eq_true rfl) (by decide) (by decide) dX9_throttleOrder_5 rfl (fun w2 => ?_)
  refine hz_iconst (pc' := 9) (v := 0) dX9_throttleOrder_8 rfl (by decide) ?_
  refine hz_istore_n (pc' := 10) (L' := [(2, .int 0), (0, .ref (B.1 + a0)), (1, .int x1)]) dX9_throttleOrder_9 rfl rfl (by decide) rfl ?_
  refine hz_loc [1, 2, 0] rfl (hz_loopJ (lp := lp_X9_throttleOrder_10 a0 x1) (Lh := fun v3 : Int32 × MW => [(0, .ref (B.1 + a0)), (1, .int x1), (2, .int v3.1)]) (wh := fun v3 : Int32 × MW => v3.2) (fun _ => rfl) (fun Nv3 ihv3 v3 => ?_) 3000 (0, w2))
  rw [lp_X9_throttleOrder_10]
  refine hz_iload_n (pc' := 11) (j := 2) dX9_throttleOrder_10 rfl rfl rfl ?_
  refine hz_aload_n (pc' := 12) (j := 0) dX9_throttleOrder_11 rfl rfl rfl ?_
  refine hz_gP (pc' := 15) (c' := 3) fl_X9_28.r ga0 rfl dX9_throttleOrder_12 rfl (fun b4 gb4 => ?_)
  refine hz_gI (pc' := 18) fl_X9_113.r gb4 rfl dX9_throttleOrder_15 rfl ?_
  refine hz_icmpge (pc' := 21) (tgt := 41) dX9_throttleOrder_18 (by decide) rfl ?_ ?_
  · exact hz_throwNS dX9_throttleOrder_41 dX9_throttleOrder_44 dX9_throttleOrder_45 dX9_throttleOrder_47 dX9_throttleOrder_50 (Nat.le_of_ble_eq_true rfl) (by decide)
  · refine hz_aload_n (pc' := 22) (j := 0) dX9_throttleOrder_21 rfl rfl rfl ?_
    refine hz_gP (pc' := 25) (c' := 4) fl_X9_37.r ga0 rfl dX9_throttleOrder_22 rfl (fun b5 gb5 => ?_)
    refine hz_iload_n (pc' := 26) (j := 2) dX9_throttleOrder_25 rfl rfl rfl ?_
    refine hz_cVi (pc' := 29) (av := [.int v3.1]) (rest := []) vl_X9_215 (fun x w' h => ct_X3_throttleRank hl h) gb5 rfl rfl (Nat.le_of_ble_eq_true rfl) (by decide) (by decide) rfl dX9_throttleOrder_26 rfl (fun v7 w6 => ?_)
    refine hz_iload_n (pc' := 30) (j := 1) dX9_throttleOrder_29 rfl rfl rfl ?_
    refine hz_icmpne (pc' := 33) (tgt := 35) dX9_throttleOrder_30 (by decide) rfl ?_ ?_
    · refine hz_iincN (pc' := 38) (j := 2) (fun v8 => [(2, .int v8), (0, .ref (B.1 + a0)), (1, .int x1)]) dX9_throttleOrder_35 rfl rfl (by decide) (fun _ => rfl) (fun v8 => ?_)
      refine hz_goto (tgt := 10) dX9_throttleOrder_38 (by decide) ?_
      exact hz_loc [1, 2, 0] rfl (ihv3 (v8, w6))
    · refine hz_iload_n (pc' := 34) (j := 2) dX9_throttleOrder_33 rfl rfl rfl ?_
      exact hz_retiX dX9_throttleOrder_34 rfl (by decide)
def f_X9_meanPower (a0 : Nat) (x1 : Int32) (w : MW) : Option ((String ⊕ UInt32) × MW) :=
  hz_gd (hz_g 358 a0 10) (hz_bx (f_X9_needDomain a0 x1 w) (fun _ w1 => hz_ldp w1 a0 3 358 4 (fun b2 => (if (w1.1 b2 2) = 0 then some (.inl "java/lang/ArithmeticException", w1) else hz_ldp w1 a0 3 358 4 (fun b3 => hz_ldp w1 b3 8 358 20 (fun b4 => hz_lda w1 b4 x1 (fun v5 => hz_ldp w1 a0 3 358 4 (fun b6 => hz_nfl (FP.fdiv (FP.i2f v5) (FP.i2f (w1.1 b6 2))) (fun v7 => some (.inr v7, w1))))))))))
set_option maxHeartbeats 4000000 in
set_option maxRecDepth 100000 in
theorem ct_X9_meanPower {l : Launch} (hl : l.stackTraces = false) {B : Bt} {a0 : Nat} {x1 : Int32} {w : MW} {r : (String ⊕ UInt32) × MW} (h : f_X9_meanPower a0 x1 w = some r) : hz_MetX l B 358 yX9_meanPower cX9_meanPower 2 (Option.some FieldType.float) 9 3 18 [.ref (B.1 + a0), .int x1] w (Sum.map id (fun r => some (.float r)) r.1) r.2 := by
  refine hz_ofJX (rv := (fun r : UInt32 => some (.float r))) (own := RX9) hl (by decide) rfl (Nat.le_of_ble_eq_true rfl) rfl ?_ h
  intro p e s m args below meth c
  unfold f_X9_meanPower
  refine hz_gdr (fun ga0 => ?_)
  refine hz_aload_n (pc' := 1) (j := 0) dX9_meanPower_0 rfl rfl rfl ?_
  refine hz_iload_n (pc' := 2) (j := 1) dX9_meanPower_1 rfl rfl rfl ?_
  refine hz_xVv (pc' := 5) (av := [.int x1]) (rest := []) vl_X9_116 (fun v w' h => ct_X9_needDomain hl h) ga0 rfl rfl (Nat.le_of_ble_eq_true rfl) (by decide) (by decide) dX9_meanPower_2 rfl (fun w1 => ?_)
  refine hz_aload_n (pc' := 6) (j := 0) dX9_meanPower_5 rfl rfl rfl ?_
  refine hz_gP (pc' := 9) (c' := 4) fl_X9_37.r ga0 rfl dX9_meanPower_6 rfl (fun b2 gb2 => ?_)
  refine hz_gI (pc' := 12) fl_X9_136.r gb2 rfl dX9_meanPower_9 rfl ?_
  refine hz_ifne (pc' := 15) (tgt := 25) dX9_meanPower_12 (by decide) rfl ?_ ?_
  · refine hz_aload_n (pc' := 26) (j := 0) dX9_meanPower_25 rfl rfl rfl ?_
    refine hz_gP (pc' := 29) (c' := 4) fl_X9_37.r ga0 rfl dX9_meanPower_26 rfl (fun b3 gb3 => ?_)
    refine hz_gP (pc' := 32) (c' := 20) fl_X9_180 gb3 rfl dX9_meanPower_29 rfl (fun b4 gb4 => ?_)
    refine hz_iload_n (pc' := 33) (j := 1) dX9_meanPower_32 rfl rfl rfl ?_
    refine hz_iald (pc' := 34) gb4 dX9_meanPower_33 rfl (fun v5 => ?_)
    refine hz_i2f (pc' := 35) dX9_meanPower_34 rfl ?_
    refine hz_aload_n (pc' := 36) (j := 0) dX9_meanPower_35 rfl rfl rfl ?_
    refine hz_gP (pc' := 39) (c' := 4) fl_X9_37.r ga0 rfl dX9_meanPower_36 rfl (fun b6 gb6 => ?_)
    refine hz_gI (pc' := 42) fl_X9_136.r gb6 rfl dX9_meanPower_39 rfl ?_
    refine hz_i2f (pc' := 43) dX9_meanPower_42 rfl ?_
    refine hz_fdiv (pc' := 44) dX9_meanPower_43 rfl (fun v7 => ?_)
    exact hz_retfX dX9_meanPower_44 rfl (by decide)
  · exact hz_throwS tl_224_226 dX9_meanPower_15 dX9_meanPower_18 dX9_meanPower_19 dX9_meanPower_21 dX9_meanPower_24 (Nat.le_of_ble_eq_true rfl) (by decide)
def f_X9_jobCount (a0 : Nat) (w : MW) : Option ((String ⊕ Int32) × MW) :=
  hz_gd (hz_g 358 a0 10) (hz_bx (f_X9_needSystem a0 w) (fun _ w1 => hz_ldp w1 a0 3 358 4 (fun b2 => hz_ldp w1 b2 1 358 2 (fun b3 => some (.inr (w1.1 b3 0), w1)))))
set_option maxHeartbeats 4000000 in
set_option maxRecDepth 100000 in
theorem ct_X9_jobCount {l : Launch} (hl : l.stackTraces = false) {B : Bt} {a0 : Nat} {w : MW} {r : (String ⊕ Int32) × MW} (h : f_X9_jobCount a0 w = some r) : hz_MetX l B 358 yX9_jobCount cX9_jobCount 1 (Option.some FieldType.int) 8 1 6 [.ref (B.1 + a0)] w (Sum.map id (fun r => some (.int r)) r.1) r.2 := by
  refine hz_ofJX (rv := (fun r : Int32 => some (.int r))) (own := RX9) hl (by decide) rfl (Nat.le_of_ble_eq_true rfl) rfl ?_ h
  intro p e s m args below meth c
  unfold f_X9_jobCount
  refine hz_gdr (fun ga0 => ?_)
  refine hz_aload_n (pc' := 1) (j := 0) dX9_jobCount_0 rfl rfl rfl ?_
  refine hz_xVv (pc' := 4) (av := []) (rest := []) vl_X9_164 (fun v w' h => ct_X9_needSystem hl h) ga0 rfl rfl (Nat.le_of_ble_eq_true rfl) (by decide) (by decide) dX9_jobCount_1 rfl (fun w1 => ?_)
  refine hz_aload_n (pc' := 5) (j := 0) dX9_jobCount_4 rfl rfl rfl ?_
  refine hz_gP (pc' := 8) (c' := 4) fl_X9_37.r ga0 rfl dX9_jobCount_5 rfl (fun b2 gb2 => ?_)
  refine hz_gP (pc' := 11) (c' := 2) fl_X9_119 gb2 rfl dX9_jobCount_8 rfl (fun b3 gb3 => ?_)
  refine hz_gI (pc' := 14) fl_X9_123.r gb3 rfl dX9_jobCount_11 rfl ?_
  exact hz_retiX dX9_jobCount_14 rfl (by decide)
def f_X9_jobValue (a0 : Nat) (x1 : Int32) (x2 : Int32) (w : MW) : Option ((String ⊕ Int32) × MW) :=
  hz_gd (hz_g 358 a0 10) (hz_bx (f_X9_needJob a0 x1 w) (fun _ w1 => hz_ldp w1 a0 3 358 4 (fun b2 => hz_ldp w1 b2 1 358 2 (fun b3 => (if x2 = 0 then hz_ldp w1 b3 5 358 20 (fun b4 => hz_lda w1 b4 x1 (fun v5 => some (.inr v5, w1))) else (if x2 = 1 then hz_ldp w1 b3 6 358 20 (fun b7 => hz_lda w1 b7 x1 (fun v8 => some (.inr v8, w1))) else (if x2 = 2 then hz_ldp w1 b3 7 358 20 (fun b10 => hz_lda w1 b10 x1 (fun v11 => some (.inr v11, w1))) else (if x2 = 3 then hz_ldp w1 b3 8 358 20 (fun b13 => hz_lda w1 b13 x1 (fun v14 => some (.inr v14, w1))) else (if x2 = 4 then hz_ldp w1 b3 9 358 20 (fun b16 => hz_lda w1 b16 x1 (fun v17 => some (.inr v17, w1))) else (if x2 = 5 then hz_ldp w1 b3 10 358 20 (fun b19 => hz_lda w1 b19 x1 (fun v20 => some (.inr v20, w1))) else (if x2 = 6 then hz_ldp w1 b3 11 358 20 (fun b22 => hz_lda w1 b22 x1 (fun v23 => some (.inr v23, w1))) else (if x2 = 7 then hz_b (f_X1_statusOf b3 x1 w1) (fun v26 w25 => some (.inr v26, w25)) else some (.inl "java/lang/IllegalArgumentException", w1)))))))))))))
set_option maxHeartbeats 4000000 in
set_option maxRecDepth 100000 in
theorem ct_X9_jobValue {l : Launch} (hl : l.stackTraces = false) {B : Bt} {a0 : Nat} {x1 : Int32} {x2 : Int32} {w : MW} {r : (String ⊕ Int32) × MW} (h : f_X9_jobValue a0 x1 x2 w = some r) : hz_MetX l B 358 yX9_jobValue cX9_jobValue 4 (Option.some FieldType.int) 9 3 18 [.ref (B.1 + a0), .int x1, .int x2] w (Sum.map id (fun r => some (.int r)) r.1) r.2 := by
  refine hz_ofJX (rv := (fun r : Int32 => some (.int r))) (own := RX9) hl (by decide) rfl (Nat.le_of_ble_eq_true rfl) rfl ?_ h
  intro p e s m args below meth c
  unfold f_X9_jobValue
  refine hz_gdr (fun ga0 => ?_)
  refine hz_aload_n (pc' := 1) (j := 0) dX9_jobValue_0 rfl rfl rfl ?_
  refine hz_iload_n (pc' := 2) (j := 1) dX9_jobValue_1 rfl rfl rfl ?_
  refine hz_xVv (pc' := 5) (av := [.int x1]) (rest := []) vl_X9_143 (fun v w' h => ct_X9_needJob hl h) ga0 rfl rfl (Nat.le_of_ble_eq_true rfl) (by decide) (by decide) dX9_jobValue_2 rfl (fun w1 => ?_)
  refine hz_aload_n (pc' := 6) (j := 0) dX9_jobValue_5 rfl rfl rfl ?_
  refine hz_gP (pc' := 9) (c' := 4) fl_X9_37.r ga0 rfl dX9_jobValue_6 rfl (fun b2 gb2 => ?_)
  refine hz_gP (pc' := 12) (c' := 2) fl_X9_119 gb2 rfl dX9_jobValue_9 rfl (fun b3 gb3 => ?_)
  refine hz_astore_n (pc' := 13) (L' := [(3, .ref (B.1 + b3)), (0, .ref (B.1 + a0)), (1, .int x1), (2, .int x2)]) dX9_jobValue_12 rfl rfl (by decide) rfl ?_
  refine hz_iload_n (pc' := 14) (j := 3) dX9_jobValue_13 rfl rfl rfl ?_
  refine hz_swIn (v := 0) (off := 46) (tgt := 60) dX9_jobValue_14 (by decide) (by decide) (by decide +kernel) (by decide) ?_ (fun hs6 => ?_)
  · refine hz_aload_n (pc' := 61) (j := 0) dX9_jobValue_60 rfl rfl rfl ?_
    refine hz_gP (pc' := 64) (c' := 20) fl_X9_229 gb3 rfl dX9_jobValue_61 rfl (fun b4 gb4 => ?_)
    refine hz_iload_n (pc' := 65) (j := 2) dX9_jobValue_64 rfl rfl rfl ?_
    refine hz_iald (pc' := 66) gb4 dX9_jobValue_65 rfl (fun v5 => ?_)
    exact hz_retiX dX9_jobValue_66 rfl (by decide)
  refine hz_swIn (v := 1) (off := 53) (tgt := 67) dX9_jobValue_14 (by decide) (by decide) (by decide +kernel) (by decide) ?_ (fun hs9 => ?_)
  · refine hz_aload_n (pc' := 68) (j := 0) dX9_jobValue_67 rfl rfl rfl ?_
    refine hz_gP (pc' := 71) (c' := 20) fl_X9_232 gb3 rfl dX9_jobValue_68 rfl (fun b7 gb7 => ?_)
    refine hz_iload_n (pc' := 72) (j := 2) dX9_jobValue_71 rfl rfl rfl ?_
    refine hz_iald (pc' := 73) gb7 dX9_jobValue_72 rfl (fun v8 => ?_)
    exact hz_retiX dX9_jobValue_73 rfl (by decide)
  refine hz_swIn (v := 2) (off := 60) (tgt := 74) dX9_jobValue_14 (by decide) (by decide) (by decide +kernel) (by decide) ?_ (fun hs12 => ?_)
  · refine hz_aload_n (pc' := 75) (j := 0) dX9_jobValue_74 rfl rfl rfl ?_
    refine hz_gP (pc' := 78) (c' := 20) fl_X9_235 gb3 rfl dX9_jobValue_75 rfl (fun b10 gb10 => ?_)
    refine hz_iload_n (pc' := 79) (j := 2) dX9_jobValue_78 rfl rfl rfl ?_
    refine hz_iald (pc' := 80) gb10 dX9_jobValue_79 rfl (fun v11 => ?_)
    exact hz_retiX dX9_jobValue_80 rfl (by decide)
  refine hz_swIn (v := 3) (off := 67) (tgt := 81) dX9_jobValue_14 (by decide) (by decide) (by decide +kernel) (by decide) ?_ (fun hs15 => ?_)
  · refine hz_aload_n (pc' := 82) (j := 0) dX9_jobValue_81 rfl rfl rfl ?_
    refine hz_gP (pc' := 85) (c' := 20) fl_X9_238 gb3 rfl dX9_jobValue_82 rfl (fun b13 gb13 => ?_)
    refine hz_iload_n (pc' := 86) (j := 2) dX9_jobValue_85 rfl rfl rfl ?_
    refine hz_iald (pc' := 87) gb13 dX9_jobValue_86 rfl (fun v14 => ?_)
    exact hz_retiX dX9_jobValue_87 rfl (by decide)
  refine hz_swIn (v := 4) (off := 74) (tgt := 88) dX9_jobValue_14 (by decide) (by decide) (by decide +kernel) (by decide) ?_ (fun hs18 => ?_)
  · refine hz_aload_n (pc' := 89) (j := 0) dX9_jobValue_88 rfl rfl rfl ?_
    refine hz_gP (pc' := 92) (c' := 20) fl_X9_241 gb3 rfl dX9_jobValue_89 rfl (fun b16 gb16 => ?_)
    refine hz_iload_n (pc' := 93) (j := 2) dX9_jobValue_92 rfl rfl rfl ?_
    refine hz_iald (pc' := 94) gb16 dX9_jobValue_93 rfl (fun v17 => ?_)
    exact hz_retiX dX9_jobValue_94 rfl (by decide)
  refine hz_swIn (v := 5) (off := 81) (tgt := 95) dX9_jobValue_14 (by decide) (by decide) (by decide +kernel) (by decide) ?_ (fun hs21 => ?_)
  · refine hz_aload_n (pc' := 96) (j := 0) dX9_jobValue_95 rfl rfl rfl ?_
    refine hz_gP (pc' := 99) (c' := 20) fl_X9_244 gb3 rfl dX9_jobValue_96 rfl (fun b19 gb19 => ?_)
    refine hz_iload_n (pc' := 100) (j := 2) dX9_jobValue_99 rfl rfl rfl ?_
    refine hz_iald (pc' := 101) gb19 dX9_jobValue_100 rfl (fun v20 => ?_)
    exact hz_retiX dX9_jobValue_101 rfl (by decide)
  refine hz_swIn (v := 6) (off := 88) (tgt := 102) dX9_jobValue_14 (by decide) (by decide) (by decide +kernel) (by decide) ?_ (fun hs24 => ?_)
  · refine hz_aload_n (pc' := 103) (j := 0) dX9_jobValue_102 rfl rfl rfl ?_
    refine hz_gP (pc' := 106) (c' := 20) fl_X9_153 gb3 rfl dX9_jobValue_103 rfl (fun b22 gb22 => ?_)
    refine hz_iload_n (pc' := 107) (j := 2) dX9_jobValue_106 rfl rfl rfl ?_
    refine hz_iald (pc' := 108) gb22 dX9_jobValue_107 rfl (fun v23 => ?_)
    exact hz_retiX dX9_jobValue_108 rfl (by decide)
  refine hz_swIn (v := 7) (off := 95) (tgt := 109) dX9_jobValue_14 (by decide) (by decide) (by decide +kernel) (by decide) ?_ (fun hs27 => ?_)
  · refine hz_aload_n (pc' := 110) (j := 0) dX9_jobValue_109 rfl rfl rfl ?_
    refine hz_iload_n (pc' := 111) (j := 2) dX9_jobValue_110 rfl rfl rfl ?_
    refine hz_cVi (pc' := 114) (av := [.int x1]) (rest := []) vl_X9_247 (fun x w' h => ct_X1_statusOf hl h) gb3 rfl rfl (Nat.le_of_ble_eq_true rfl) (by decide) (by decide) rfl dX9_jobValue_111 rfl (fun v26 w25 => ?_)
    exact hz_retiX dX9_jobValue_114 rfl (by decide)
  refine hz_swOut (tgt := 115) dX9_jobValue_14 (by have z0 := lv_neT (a := 0) hs6 (by decide); have z1 := lv_neT (a := 1) hs9 (by decide); have z2 := lv_neT (a := 2) hs12 (by decide); have z3 := lv_neT (a := 3) hs15 (by decide); have z4 := lv_neT (a := 4) hs18 (by decide); have z5 := lv_neT (a := 5) hs21 (by decide); have z6 := lv_neT (a := 6) hs24 (by decide); have z7 := lv_neT (a := 7) hs27 (by decide); omega) (by decide) ?_
  exact hz_throwS tl_204_206 dX9_jobValue_115 dX9_jobValue_118 dX9_jobValue_119 dX9_jobValue_121 dX9_jobValue_124 (Nat.le_of_ble_eq_true rfl) (by decide)
def f_X9_doneAt (a0 : Nat) (x1 : Int32) (w : MW) : Option ((String ⊕ Int32) × MW) :=
  hz_gd (hz_g 358 a0 10) (hz_bx (f_X9_needJob a0 x1 w) (fun _ w1 => hz_ldp w1 a0 3 358 4 (fun b2 => hz_ldp w1 b2 1 358 2 (fun b3 => hz_b (f_X1_endOf b3 x1 w1) (fun v5 w4 => some (.inr v5, w4))))))
set_option maxHeartbeats 4000000 in
set_option maxRecDepth 100000 in
theorem ct_X9_doneAt {l : Launch} (hl : l.stackTraces = false) {B : Bt} {a0 : Nat} {x1 : Int32} {w : MW} {r : (String ⊕ Int32) × MW} (h : f_X9_doneAt a0 x1 w = some r) : hz_MetX l B 358 yX9_doneAt cX9_doneAt 2 (Option.some FieldType.int) 9 2 12 [.ref (B.1 + a0), .int x1] w (Sum.map id (fun r => some (.int r)) r.1) r.2 := by
  refine hz_ofJX (rv := (fun r : Int32 => some (.int r))) (own := RX9) hl (by decide) rfl (Nat.le_of_ble_eq_true rfl) rfl ?_ h
  intro p e s m args below meth c
  unfold f_X9_doneAt
  refine hz_gdr (fun ga0 => ?_)
  refine hz_aload_n (pc' := 1) (j := 0) dX9_doneAt_0 rfl rfl rfl ?_
  refine hz_iload_n (pc' := 2) (j := 1) dX9_doneAt_1 rfl rfl rfl ?_
  refine hz_xVv (pc' := 5) (av := [.int x1]) (rest := []) vl_X9_143 (fun v w' h => ct_X9_needJob hl h) ga0 rfl rfl (Nat.le_of_ble_eq_true rfl) (by decide) (by decide) dX9_doneAt_2 rfl (fun w1 => ?_)
  refine hz_aload_n (pc' := 6) (j := 0) dX9_doneAt_5 rfl rfl rfl ?_
  refine hz_gP (pc' := 9) (c' := 4) fl_X9_37.r ga0 rfl dX9_doneAt_6 rfl (fun b2 gb2 => ?_)
  refine hz_gP (pc' := 12) (c' := 2) fl_X9_119 gb2 rfl dX9_doneAt_9 rfl (fun b3 gb3 => ?_)
  refine hz_iload_n (pc' := 13) (j := 1) dX9_doneAt_12 rfl rfl rfl ?_
  refine hz_cVi (pc' := 16) (av := [.int x1]) (rest := []) vl_X9_250 (fun x w' h => ct_X1_endOf hl h) gb3 rfl rfl (Nat.le_of_ble_eq_true rfl) (by decide) (by decide) rfl dX9_doneAt_13 rfl (fun v5 w4 => ?_)
  exact hz_retiX dX9_doneAt_16 rfl (by decide)
def f_X9_lateJobs (a0 : Nat) (w : MW) : Option ((String ⊕ Int32) × MW) :=
  hz_gd (hz_g 358 a0 10) (hz_bx (f_X9_needSystem a0 w) (fun _ w1 => hz_ldp w1 a0 3 358 4 (fun b2 => hz_ldp w1 b2 1 358 2 (fun b3 => hz_ldp w1 a0 3 358 4 (fun b4 => hz_ldp w1 b4 1 358 2 (fun b5 => hz_b (f_X1_lateOf b3 (w1.1 b5 1) w1) (fun v7 w6 => some (.inr v7, w6))))))))
set_option maxHeartbeats 4000000 in
set_option maxRecDepth 100000 in
theorem ct_X9_lateJobs {l : Launch} (hl : l.stackTraces = false) {B : Bt} {a0 : Nat} {w : MW} {r : (String ⊕ Int32) × MW} (h : f_X9_lateJobs a0 w = some r) : hz_MetX l B 358 yX9_lateJobs cX9_lateJobs 1 (Option.some FieldType.int) 8 1 6 [.ref (B.1 + a0)] w (Sum.map id (fun r => some (.int r)) r.1) r.2 := by
  refine hz_ofJX (rv := (fun r : Int32 => some (.int r))) (own := RX9) hl (by decide) rfl (Nat.le_of_ble_eq_true rfl) rfl ?_ h
  intro p e s m args below meth c
  unfold f_X9_lateJobs
  refine hz_gdr (fun ga0 => ?_)
  refine hz_aload_n (pc' := 1) (j := 0) dX9_lateJobs_0 rfl rfl rfl ?_
  refine hz_xVv (pc' := 4) (av := []) (rest := []) vl_X9_164 (fun v w' h => ct_X9_needSystem hl h) ga0 rfl rfl (Nat.le_of_ble_eq_true rfl) (by decide) (by decide) dX9_lateJobs_1 rfl (fun w1 => ?_)
  refine hz_aload_n (pc' := 5) (j := 0) dX9_lateJobs_4 rfl rfl rfl ?_
  refine hz_gP (pc' := 8) (c' := 4) fl_X9_37.r ga0 rfl dX9_lateJobs_5 rfl (fun b2 gb2 => ?_)
  refine hz_gP (pc' := 11) (c' := 2) fl_X9_119 gb2 rfl dX9_lateJobs_8 rfl (fun b3 gb3 => ?_)
  refine hz_aload_n (pc' := 12) (j := 0) dX9_lateJobs_11 rfl rfl rfl ?_
  refine hz_gP (pc' := 15) (c' := 4) fl_X9_37.r ga0 rfl dX9_lateJobs_12 rfl (fun b4 gb4 => ?_)
  refine hz_gP (pc' := 18) (c' := 2) fl_X9_119 gb4 rfl dX9_lateJobs_15 rfl (fun b5 gb5 => ?_)
  refine hz_gI (pc' := 21) fl_X9_253.r gb5 rfl dX9_lateJobs_18 rfl ?_
  refine hz_cVi (pc' := 24) (av := [.int (w1.1 b5 1)]) (rest := []) vl_X9_256 (fun x w' h => ct_X1_lateOf hl h) gb3 rfl rfl (Nat.le_of_ble_eq_true rfl) (by decide) (by decide) rfl dX9_lateJobs_21 rfl (fun v7 w6 => ?_)
  exact hz_retiX dX9_lateJobs_24 rfl (by decide)
def lp_X9_queued_55 (c2 : Int32) (c3 : Nat) : Nat → (Int32 × Int32 × MW) → Option (Int32 × MW)
  | 0, _ => none
  | N + 1, v0 => (if c2 ≤ v0.2.1 then some (v0.1, v0.2.2) else hz_b (f_X1_firstByDeadline c3 v0.1 v0.2.2) (fun v13 w12 => hz_b (f_X9_without v0.1 v13 w12) (fun v15 w14 => hz_let (v0.2.1 + Int32.ofInt 1) (fun v16 => lp_X9_queued_55 c2 c3 N (v15, v16, w14)))))
def f_X9_queued (a0 : Nat) (x1 : Int32) (x2 : Int32) (w : MW) : Option ((String ⊕ Int32) × MW) :=
  hz_gd (hz_g 358 a0 10) (hz_bx (f_X9_needDomain a0 x1 w) (fun _ w1 => hz_bx (f_X9_needNotNegative x2 w1) (fun _ w2 => hz_ldp w2 a0 3 358 4 (fun b3 => hz_ldp w2 b3 1 358 2 (fun b4 => hz_ldp w2 b4 3 358 20 (fun b5 => hz_lda w2 b5 x1 (fun v6 => hz_ldp w2 b4 4 358 20 (fun b7 => hz_lda w2 b7 x1 (fun v8 => hz_let (v6 ||| v8) (fun v9 => hz_b (f_J6_bitCount_0f7a4 v9 w2) (fun v11 w10 => (if x2 < v11 then Option.bind (lp_X9_queued_55 x2 b4 3000 (v9, 0, w10)) (fun q13 : Int32 × MW => hz_b (f_X1_firstByDeadline b4 q13.1 q13.2) (fun v15 w14 => some (.inr v15, w14))) else some (.inl "java/util/NoSuchElementException", w10)))))))))))))
set_option maxHeartbeats 4000000 in
set_option maxRecDepth 100000 in
theorem ct_X9_queued {l : Launch} (hl : l.stackTraces = false) {B : Bt} {a0 : Nat} {x1 : Int32} {x2 : Int32} {w : MW} {r : (String ⊕ Int32) × MW} (h : f_X9_queued a0 x1 x2 w = some r) : hz_MetX l B 358 yX9_queued cX9_queued 6 (Option.some FieldType.int) 9 4 24 [.ref (B.1 + a0), .int x1, .int x2] w (Sum.map id (fun r => some (.int r)) r.1) r.2 := by
  refine hz_ofJX (rv := (fun r : Int32 => some (.int r))) (own := RX9) hl (by decide) rfl (Nat.le_of_ble_eq_true rfl) rfl ?_ h
  intro p e s m args below meth c
  unfold f_X9_queued
  refine hz_gdr (fun ga0 => ?_)
  refine hz_aload_n (pc' := 1) (j := 0) dX9_queued_0 rfl rfl rfl ?_
  refine hz_iload_n (pc' := 2) (j := 1) dX9_queued_1 rfl rfl rfl ?_
  refine hz_xVv (pc' := 5) (av := [.int x1]) (rest := []) vl_X9_116 (fun v w' h => ct_X9_needDomain hl h) ga0 rfl rfl (Nat.le_of_ble_eq_true rfl) (by decide) (by decide) dX9_queued_2 rfl (fun w1 => ?_)
  refine hz_iload_n (pc' := 6) (j := 2) dX9_queued_5 rfl rfl rfl ?_
  refine hz_xSv (pc' := 9) (av := [.int x2]) (rest := []) sl_X9_212 (fun v w' h => ct_X9_needNotNegative hl h) rfl rfl (Nat.le_of_ble_eq_true rfl) (by decide) (by decide) dX9_queued_6 rfl (fun w2 => ?_)
  refine hz_aload_n (pc' := 10) (j := 0) dX9_queued_9 rfl rfl rfl ?_
  refine hz_gP (pc' := 13) (c' := 4) fl_X9_37.r ga0 rfl dX9_queued_10 rfl (fun b3 gb3 => ?_)
  refine hz_gP (pc' := 16) (c' := 2) fl_X9_119 gb3 rfl dX9_queued_13 rfl (fun b4 gb4 => ?_)
  refine hz_astore_n (pc' := 17) (L' := [(3, .ref (B.1 + b4)), (0, .ref (B.1 + a0)), (1, .int x1), (2, .int x2)]) dX9_queued_16 rfl rfl (by decide) rfl ?_
  refine hz_aload_n (pc' := 18) (j := 0) dX9_queued_17 rfl rfl rfl ?_
  refine hz_gP (pc' := 21) (c' := 20) fl_X9_259 gb4 rfl dX9_queued_18 rfl (fun b5 gb5 => ?_)
  refine hz_iload_n (pc' := 22) (j := 2) dX9_queued_21 rfl rfl rfl ?_
  refine hz_iald (pc' := 23) gb5 dX9_queued_22 rfl (fun v6 => ?_)
  refine hz_aload_n (pc' := 24) (j := 0) dX9_queued_23 rfl rfl rfl ?_
  refine hz_gP (pc' := 27) (c' := 20) fl_X9_262 gb4 rfl dX9_queued_24 rfl (fun b7 gb7 => ?_)
  refine hz_iload_n (pc' := 28) (j := 2) dX9_queued_27 rfl rfl rfl ?_
  refine hz_iald (pc' := 29) gb7 dX9_queued_28 rfl (fun v8 => ?_)
  refine hz_ior (pc' := 30) dX9_queued_29 rfl ?_
  refine hz_nameI (fun v9 => ?_)
  refine hz_istore (pc' := 32) (L' := [(4, .int v9), (3, .ref (B.1 + b4)), (0, .ref (B.1 + a0)), (1, .int x1), (2, .int x2)]) dX9_queued_30 rfl (by decide) rfl ?_
  refine hz_iload_n (pc' := 33) (j := 4) dX9_queued_32 rfl rfl rfl ?_
  refine hz_iload (pc' := 35) (j := 0) dX9_queued_33 rfl rfl ?_
  refine hz_cSi (pc' := 38) (av := [.int v9]) (rest := [.int x2]) sl_X9_265 (fun x w' h => ct_J6_bitCount_0f7a4 hl h) rfl rfl (Nat.le_of_ble_eq_true rfl) (by decide) (by decide) rfl dX9_queued_35 rfl (fun v11 w10 => ?_)
  refine hz_icmplt (pc' := 41) (tgt := 52) dX9_queued_38 (by decide) rfl ?_ ?_
  · refine hz_iconst (pc' := 53) (v := 0) dX9_queued_52 rfl (by decide) ?_
    refine hz_istore (pc' := 55) (L' := [(5, .int 0), (4, .int v9), (3, .ref (B.1 + b4)), (0, .ref (B.1 + a0)), (1, .int x1), (2, .int x2)]) dX9_queued_53 rfl (by decide) rfl ?_
    refine hz_bindJ (pcJ := 80) (LJ := fun q13 : Int32 × MW => [(3, .ref (B.1 + b4)), (4, .int q13.1)]) (stJ := fun _ => []) (kJ := 3) (slJ := 18) (nJ := 358) (wJ := fun q13 : Int32 × MW => q13.2) (fun q13 => ?_) (fun hq13 => ?_)
    · refine hz_aload_n (pc' := 81) (j := 0) dX9_queued_80 rfl rfl rfl ?_
      refine hz_iload (pc' := 83) (j := 1) dX9_queued_81 rfl rfl ?_
      refine hz_cVi (pc' := 86) (av := [.int q13.1]) (rest := []) vl_X9_272 (fun x w' h => ct_X1_firstByDeadline hl h) gb4 rfl rfl (Nat.le_of_ble_eq_true rfl) (by decide) (by decide) rfl dX9_queued_83 rfl (fun v15 w14 => ?_)
      exact hz_retiX dX9_queued_86 rfl (by decide)
    · refine hz_loc [5, 2, 1, 0] rfl (hz_loopJ (lp := lp_X9_queued_55 x2 b4) (Lh := fun v12 : Int32 × Int32 × MW => [(2, .int x2), (3, .ref (B.1 + b4)), (4, .int v12.1), (5, .int v12.2.1)]) (wh := fun v12 : Int32 × Int32 × MW => v12.2.2) (fun _ => rfl) (fun Nv12 ihv12 v12 => ?_) 3000 (v9, 0, w10))
      rw [lp_X9_queued_55]
      refine hz_iload (pc' := 57) (j := 3) dX9_queued_55 rfl rfl ?_
      refine hz_iload_n (pc' := 58) (j := 0) dX9_queued_57 rfl rfl rfl ?_
      refine hz_icmpge (pc' := 61) (tgt := 80) dX9_queued_58 (by decide) rfl ?_ ?_
      · exact hz_loc [1, 2] rfl (hq13 (v12.1, v12.2.2))
      · refine hz_iload (pc' := 63) (j := 2) dX9_queued_61 rfl rfl ?_
        refine hz_aload_n (pc' := 64) (j := 1) dX9_queued_63 rfl rfl rfl ?_
        refine hz_iload (pc' := 66) (j := 2) dX9_queued_64 rfl rfl ?_
        refine hz_cVi (pc' := 69) (av := [.int v12.1]) (rest := [.int v12.1]) vl_X9_272 (fun x w' h => ct_X1_firstByDeadline hl h) gb4 rfl rfl (Nat.le_of_ble_eq_true rfl) (by decide) (by decide) rfl dX9_queued_66 rfl (fun v17 w16 => ?_)
        refine hz_cSi (pc' := 72) (av := [.int v12.1, .int v17]) (rest := []) sl_X9_275 (fun x w' h => ct_X9_without hl h) rfl rfl (Nat.le_of_ble_eq_true rfl) (by decide) (by decide) rfl dX9_queued_69 rfl (fun v19 w18 => ?_)
        refine hz_istore (pc' := 74) (L' := [(4, .int v19), (2, .int x2), (3, .ref (B.1 + b4)), (5, .int v12.2.1)]) dX9_queued_72 rfl (by decide) rfl ?_
        refine hz_iincN (pc' := 77) (j := 3) (fun v20 => [(5, .int v20), (4, .int v19), (2, .int x2), (3, .ref (B.1 + b4))]) dX9_queued_74 rfl rfl (by decide) (fun _ => rfl) (fun v20 => ?_)
        refine hz_goto (tgt := 55) dX9_queued_77 (by decide) ?_
        exact hz_loc [2, 3, 1, 0] rfl (ihv12 (v19, v20, w18))
  · exact hz_throwNW dX9_queued_41 dX9_queued_44 dX9_queued_45 dX9_queued_48 dX9_queued_51 (Nat.le_of_ble_eq_true rfl) (by decide)
def f_X9_estimate (a0 : Nat) (x1 : Int32) (w : MW) : Option ((String ⊕ Int32) × MW) :=
  hz_gd (hz_g 358 a0 10) (hz_bx (f_X9_needSystem a0 w) (fun _ w1 => hz_bx (f_X9_needRange x1 0 7 w1) (fun _ w2 => hz_ldp w2 a0 3 358 4 (fun b3 => hz_ldp w2 b3 1 358 2 (fun b4 => hz_ldp w2 b4 13 358 20 (fun b5 => hz_lda w2 b5 x1 (fun v6 => some (.inr v6, w2))))))))
set_option maxHeartbeats 4000000 in
set_option maxRecDepth 100000 in
theorem ct_X9_estimate {l : Launch} (hl : l.stackTraces = false) {B : Bt} {a0 : Nat} {x1 : Int32} {w : MW} {r : (String ⊕ Int32) × MW} (h : f_X9_estimate a0 x1 w = some r) : hz_MetX l B 358 yX9_estimate cX9_estimate 2 (Option.some FieldType.int) 8 2 12 [.ref (B.1 + a0), .int x1] w (Sum.map id (fun r => some (.int r)) r.1) r.2 := by
  refine hz_ofJX (rv := (fun r : Int32 => some (.int r))) (own := RX9) hl (by decide) rfl (Nat.le_of_ble_eq_true rfl) rfl ?_ h
  intro p e s m args below meth c
  unfold f_X9_estimate
  refine hz_gdr (fun ga0 => ?_)
  refine hz_aload_n (pc' := 1) (j := 0) dX9_estimate_0 rfl rfl rfl ?_
  refine hz_xVv (pc' := 4) (av := []) (rest := []) vl_X9_164 (fun v w' h => ct_X9_needSystem hl h) ga0 rfl rfl (Nat.le_of_ble_eq_true rfl) (by decide) (by decide) dX9_estimate_1 rfl (fun w1 => ?_)
  refine hz_iload_n (pc' := 5) (j := 1) dX9_estimate_4 rfl rfl rfl ?_
  refine hz_iconst (pc' := 6) (v := 0) dX9_estimate_5 rfl (by decide) ?_
  refine hz_bipush (pc' := 8) (v := 7) dX9_estimate_6 rfl (by decide) ?_
  refine hz_xSv (pc' := 11) (av := [.int x1, .int 0, .int 7]) (rest := []) sl_X9_87 (fun v w' h => ct_X9_needRange hl h) rfl rfl (Nat.le_of_ble_eq_true rfl) (by decide) (by decide) dX9_estimate_8 rfl (fun w2 => ?_)
  refine hz_aload_n (pc' := 12) (j := 0) dX9_estimate_11 rfl rfl rfl ?_
  refine hz_gP (pc' := 15) (c' := 4) fl_X9_37.r ga0 rfl dX9_estimate_12 rfl (fun b3 gb3 => ?_)
  refine hz_gP (pc' := 18) (c' := 2) fl_X9_119 gb3 rfl dX9_estimate_15 rfl (fun b4 gb4 => ?_)
  refine hz_gP (pc' := 21) (c' := 20) fl_X9_279 gb4 rfl dX9_estimate_18 rfl (fun b5 gb5 => ?_)
  refine hz_iload_n (pc' := 22) (j := 1) dX9_estimate_21 rfl rfl rfl ?_
  refine hz_iald (pc' := 23) gb5 dX9_estimate_22 rfl (fun v6 => ?_)
  exact hz_retiX dX9_estimate_23 rfl (by decide)
def f_X9_deviation (a0 : Nat) (x1 : Int32) (w : MW) : Option ((String ⊕ UInt64) × MW) :=
  hz_gd (hz_g 358 a0 10) (hz_bx (f_X9_needSystem a0 w) (fun _ w1 => hz_bx (f_X9_needRange x1 0 7 w1) (fun _ w2 => hz_ldp w2 a0 3 358 4 (fun b3 => hz_ldp w2 b3 1 358 2 (fun b4 => hz_ldp w2 b4 14 358 20 (fun b5 => hz_lda w2 b5 x1 (fun v6 => (if v6 = 0 then some (.inl "java/lang/ArithmeticException", w2) else hz_ldp w2 a0 3 358 4 (fun b7 => hz_ldp w2 b7 1 358 2 (fun b8 => hz_b (f_X1_deviationSum b8 x1 w2) (fun v10 w9 => hz_nd (FP.ddiv (FP.i2d v10) (FP.i2d v6)) (fun v11 => some (.inr v11, w9)))))))))))))
set_option maxHeartbeats 4000000 in
set_option maxRecDepth 100000 in
theorem ct_X9_deviation {l : Launch} (hl : l.stackTraces = false) {B : Bt} {a0 : Nat} {x1 : Int32} {w : MW} {r : (String ⊕ UInt64) × MW} (h : f_X9_deviation a0 x1 w = some r) : hz_MetX l B 358 yX9_deviation cX9_deviation 3 (Option.some FieldType.double) 8 3 18 [.ref (B.1 + a0), .int x1] w (Sum.map id (fun r => some (.double r)) r.1) r.2 := by
  refine hz_ofJX (rv := (fun r : UInt64 => some (.double r))) (own := RX9) hl (by decide) rfl (Nat.le_of_ble_eq_true rfl) rfl ?_ h
  intro p e s m args below meth c
  unfold f_X9_deviation
  refine hz_gdr (fun ga0 => ?_)
  refine hz_aload_n (pc' := 1) (j := 0) dX9_deviation_0 rfl rfl rfl ?_
  refine hz_xVv (pc' := 4) (av := []) (rest := []) vl_X9_164 (fun v w' h => ct_X9_needSystem hl h) ga0 rfl rfl (Nat.le_of_ble_eq_true rfl) (by decide) (by decide) dX9_deviation_1 rfl (fun w1 => ?_)
  refine hz_iload_n (pc' := 5) (j := 1) dX9_deviation_4 rfl rfl rfl ?_
  refine hz_iconst (pc' := 6) (v := 0) dX9_deviation_5 rfl (by decide) ?_
  refine hz_bipush (pc' := 8) (v := 7) dX9_deviation_6 rfl (by decide) ?_
  refine hz_xSv (pc' := 11) (av := [.int x1, .int 0, .int 7]) (rest := []) sl_X9_87 (fun v w' h => ct_X9_needRange hl h) rfl rfl (Nat.le_of_ble_eq_true rfl) (by decide) (by decide) dX9_deviation_8 rfl (fun w2 => ?_)
  refine hz_aload_n (pc' := 12) (j := 0) dX9_deviation_11 rfl rfl rfl ?_
  refine hz_gP (pc' := 15) (c' := 4) fl_X9_37.r ga0 rfl dX9_deviation_12 rfl (fun b3 gb3 => ?_)
  refine hz_gP (pc' := 18) (c' := 2) fl_X9_119 gb3 rfl dX9_deviation_15 rfl (fun b4 gb4 => ?_)
  refine hz_gP (pc' := 21) (c' := 20) fl_X9_282 gb4 rfl dX9_deviation_18 rfl (fun b5 gb5 => ?_)
  refine hz_iload_n (pc' := 22) (j := 1) dX9_deviation_21 rfl rfl rfl ?_
  refine hz_iald (pc' := 23) gb5 dX9_deviation_22 rfl (fun v6 => ?_)
  refine hz_istore_n (pc' := 24) (L' := [(2, .int v6), (0, .ref (B.1 + a0)), (1, .int x1)]) dX9_deviation_23 rfl rfl (by decide) rfl ?_
  refine hz_iload_n (pc' := 25) (j := 0) dX9_deviation_24 rfl rfl rfl ?_
  refine hz_ifne (pc' := 28) (tgt := 39) dX9_deviation_25 (by decide) rfl ?_ ?_
  · refine hz_aload_n (pc' := 40) (j := 1) dX9_deviation_39 rfl rfl rfl ?_
    refine hz_gP (pc' := 43) (c' := 4) fl_X9_37.r ga0 rfl dX9_deviation_40 rfl (fun b7 gb7 => ?_)
    refine hz_gP (pc' := 46) (c' := 2) fl_X9_119 gb7 rfl dX9_deviation_43 rfl (fun b8 gb8 => ?_)
    refine hz_iload_n (pc' := 47) (j := 2) dX9_deviation_46 rfl rfl rfl ?_
    refine hz_cVi (pc' := 50) (av := [.int x1]) (rest := []) vl_X9_287 (fun x w' h => ct_X1_deviationSum hl h) gb8 rfl rfl (Nat.le_of_ble_eq_true rfl) (by decide) (by decide) rfl dX9_deviation_47 rfl (fun v10 w9 => ?_)
    refine hz_i2d (pc' := 51) dX9_deviation_50 rfl ?_
    refine hz_iload_n (pc' := 52) (j := 0) dX9_deviation_51 rfl rfl rfl ?_
    refine hz_i2d (pc' := 53) dX9_deviation_52 rfl ?_
    refine hz_ddiv (pc' := 54) dX9_deviation_53 rfl (fun v11 => ?_)
    exact hz_retdX dX9_deviation_54 rfl (by decide)
  · exact hz_throwW tl_224_285 dX9_deviation_28 dX9_deviation_31 dX9_deviation_32 dX9_deviation_35 dX9_deviation_38 (Nat.le_of_ble_eq_true rfl) (by decide)
def lp_X9_willBeDone_18 (c0 : Nat) (c1 : Int32) : Nat → (Int32 × MW) → Option (MW)
  | 0, _ => none
  | N + 1, v0 => (if 1000 ≤ v0.1 then some v0.2 else hz_ldp v0.2 c0 4 358 4 (fun b5 => hz_ldp v0.2 b5 1 358 2 (fun b6 => hz_b (f_X1_isOver b6 c1 v0.2) (fun v8 w7 => (if v8 = 0 then hz_ldp w7 c0 4 358 4 (fun b9 => hz_b (f_X3_passTick b9 w7) (fun v11 w10 => hz_let (v0.1 + Int32.ofInt 1) (fun v12 => lp_X9_willBeDone_18 c0 c1 N (v12, w10)))) else some w7)))))
def f_X9_willBeDone (a0 : Nat) (x1 : Int32) (w : MW) : Option ((String ⊕ Int32) × MW) :=
  hz_gd (hz_g 358 a0 10) (hz_bx (f_X9_needJob a0 x1 w) (fun _ w1 => hz_ldp w1 a0 4 358 4 (fun b2 => hz_ldp w1 a0 3 358 4 (fun b3 => hz_bv (f_X3_copyFrom b2 b3 w1) (fun w4 => Option.bind (lp_X9_willBeDone_18 a0 x1 3000 (0, w4)) (fun q6 : MW => hz_ldp q6 a0 4 358 4 (fun b7 => hz_ldp q6 b7 1 358 2 (fun b8 => hz_b (f_X1_endOf b8 x1 q6) (fun v10 w9 => some (.inr v10, w9))))))))))
set_option maxHeartbeats 4000000 in
set_option maxRecDepth 100000 in
theorem ct_X9_willBeDone {l : Launch} (hl : l.stackTraces = false) {B : Bt} {a0 : Nat} {x1 : Int32} {w : MW} {r : (String ⊕ Int32) × MW} (h : f_X9_willBeDone a0 x1 w = some r) : hz_MetX l B 358 yX9_willBeDone cX9_willBeDone 3 (Option.some FieldType.int) 9 2 12 [.ref (B.1 + a0), .int x1] w (Sum.map id (fun r => some (.int r)) r.1) r.2 := by
  refine hz_ofJX (rv := (fun r : Int32 => some (.int r))) (own := RX9) hl (by decide) rfl (Nat.le_of_ble_eq_true rfl) rfl ?_ h
  intro p e s m args below meth c
  unfold f_X9_willBeDone
  refine hz_gdr (fun ga0 => ?_)
  refine hz_aload_n (pc' := 1) (j := 0) dX9_willBeDone_0 rfl rfl rfl ?_
  refine hz_iload_n (pc' := 2) (j := 1) dX9_willBeDone_1 rfl rfl rfl ?_
  refine hz_xVv (pc' := 5) (av := [.int x1]) (rest := []) vl_X9_143 (fun v w' h => ct_X9_needJob hl h) ga0 rfl rfl (Nat.le_of_ble_eq_true rfl) (by decide) (by decide) dX9_willBeDone_2 rfl (fun w1 => ?_)
  refine hz_aload_n (pc' := 6) (j := 0) dX9_willBeDone_5 rfl rfl rfl ?_
  refine hz_gP (pc' := 9) (c' := 4) fl_X9_41.r ga0 rfl dX9_willBeDone_6 rfl (fun b2 gb2 => ?_)
  refine hz_aload_n (pc' := 10) (j := 0) dX9_willBeDone_9 rfl rfl rfl ?_
  refine hz_gP (pc' := 13) (c' := 4) fl_X9_37.r ga0 rfl dX9_willBeDone_10 rfl (fun b3 gb3 => ?_)
  refine hz_cVv (pc' := 16) (av := [.ref (B.1 + b3)]) (rest := []) vl_X9_290 (fun w' h => ct_X3_copyFrom hl h) gb2 rfl rfl (Nat.le_of_ble_eq_true rfl) (by decide) (by decide) rfl dX9_willBeDone_13 rfl (fun w4 => ?_)
  refine hz_iconst (pc' := 17) (v := 0) dX9_willBeDone_16 rfl (by decide) ?_
  refine hz_istore_n (pc' := 18) (L' := [(2, .int 0), (0, .ref (B.1 + a0)), (1, .int x1)]) dX9_willBeDone_17 rfl rfl (by decide) rfl ?_
  refine hz_bindJ (pcJ := 53) (LJ := fun q6 : MW => [(0, .ref (B.1 + a0)), (1, .int x1)]) (stJ := fun _ => []) (kJ := 2) (slJ := 12) (nJ := 358) (wJ := fun q6 : MW => q6) (fun q6 => ?_) (fun hq6 => ?_)
  · refine hz_aload_n (pc' := 54) (j := 0) dX9_willBeDone_53 rfl rfl rfl ?_
    refine hz_gP (pc' := 57) (c' := 4) fl_X9_41.r ga0 rfl dX9_willBeDone_54 rfl (fun b7 gb7 => ?_)
    refine hz_gP (pc' := 60) (c' := 2) fl_X9_119 gb7 rfl dX9_willBeDone_57 rfl (fun b8 gb8 => ?_)
    refine hz_iload_n (pc' := 61) (j := 1) dX9_willBeDone_60 rfl rfl rfl ?_
    refine hz_cVi (pc' := 64) (av := [.int x1]) (rest := []) vl_X9_250 (fun x w' h => ct_X1_endOf hl h) gb8 rfl rfl (Nat.le_of_ble_eq_true rfl) (by decide) (by decide) rfl dX9_willBeDone_61 rfl (fun v10 w9 => ?_)
    exact hz_retiX dX9_willBeDone_64 rfl (by decide)
  · refine hz_loc [1, 2, 0] rfl (hz_loopJ (lp := lp_X9_willBeDone_18 a0 x1) (Lh := fun v5 : Int32 × MW => [(0, .ref (B.1 + a0)), (1, .int x1), (2, .int v5.1)]) (wh := fun v5 : Int32 × MW => v5.2) (fun _ => rfl) (fun Nv5 ihv5 v5 => ?_) 3000 (0, w4))
    rw [lp_X9_willBeDone_18]
    refine hz_iload_n (pc' := 19) (j := 2) dX9_willBeDone_18 rfl rfl rfl ?_
    refine hz_sipush (pc' := 22) (v := 1000) dX9_willBeDone_19 rfl (by decide) ?_
    refine hz_icmpge (pc' := 25) (tgt := 53) dX9_willBeDone_22 (by decide) rfl ?_ ?_
    · exact hz_loc [0, 1] rfl (hq6 v5.2)
    · refine hz_aload_n (pc' := 26) (j := 0) dX9_willBeDone_25 rfl rfl rfl ?_
      refine hz_gP (pc' := 29) (c' := 4) fl_X9_41.r ga0 rfl dX9_willBeDone_26 rfl (fun b11 gb11 => ?_)
      refine hz_gP (pc' := 32) (c' := 2) fl_X9_119 gb11 rfl dX9_willBeDone_29 rfl (fun b12 gb12 => ?_)
      refine hz_iload_n (pc' := 33) (j := 1) dX9_willBeDone_32 rfl rfl rfl ?_
      refine hz_cVi (pc' := 36) (av := [.int x1]) (rest := []) vl_X9_146 (fun x w' h => ct_X1_isOver hl h) gb12 rfl rfl (Nat.le_of_ble_eq_true rfl) (by decide) (by decide) rfl dX9_willBeDone_33 rfl (fun v14 w13 => ?_)
      refine hz_ifne (pc' := 39) (tgt := 53) dX9_willBeDone_36 (by decide) rfl ?_ ?_
      · exact hz_loc [0, 1] rfl (hq6 w13)
      · refine hz_aload_n (pc' := 40) (j := 0) dX9_willBeDone_39 rfl rfl rfl ?_
        refine hz_gP (pc' := 43) (c' := 4) fl_X9_41.r ga0 rfl dX9_willBeDone_40 rfl (fun b15 gb15 => ?_)
        refine hz_cVi (pc' := 46) (av := []) (rest := []) vl_X9_170 (fun x w' h => ct_X3_passTick hl h) gb15 rfl rfl (Nat.le_of_ble_eq_true rfl) (by decide) (by decide) rfl dX9_willBeDone_43 rfl (fun v17 w16 => ?_)
        refine hz_pop (pc' := 47) dX9_willBeDone_46 rfl rfl ?_
        refine hz_iincN (pc' := 50) (j := 2) (fun v18 => [(2, .int v18), (0, .ref (B.1 + a0)), (1, .int x1)]) dX9_willBeDone_47 rfl rfl (by decide) (fun _ => rfl) (fun v18 => ?_)
        refine hz_goto (tgt := 18) dX9_willBeDone_50 (by decide) ?_
        exact hz_loc [1, 2, 0] rfl (ihv5 (v18, w16))
def f_X9_allOver (a0 : Nat) (w : MW) : Option ((String ⊕ Int32) × MW) :=
  hz_gd (hz_g 358 a0 10) (hz_bx (f_X9_needSystem a0 w) (fun _ w1 => hz_ldp w1 a0 4 358 4 (fun b2 => hz_ldp w1 a0 3 358 4 (fun b3 => hz_bv (f_X3_copyFrom b2 b3 w1) (fun w4 => hz_ldp w4 a0 4 358 4 (fun b5 => hz_bv (f_X3_passTicksUntilOver b5 w4) (fun w6 => hz_ldp w6 a0 4 358 4 (fun b7 => hz_ldp w6 b7 1 358 2 (fun b8 => hz_b (f_X1_areOver b8 w6) (fun v10 w9 => Option.bind ((if v10 = 0 then some (-2) else hz_ldp w9 a0 4 358 4 (fun b12 => some (w9.1 b12 2)))) (fun q11 : Int32 => some (.inr q11, w9))))))))))))
set_option maxHeartbeats 4000000 in
set_option maxRecDepth 100000 in
theorem ct_X9_allOver {l : Launch} (hl : l.stackTraces = false) {B : Bt} {a0 : Nat} {w : MW} {r : (String ⊕ Int32) × MW} (h : f_X9_allOver a0 w = some r) : hz_MetX l B 358 yX9_allOver cX9_allOver 1 (Option.some FieldType.int) 8 1 6 [.ref (B.1 + a0)] w (Sum.map id (fun r => some (.int r)) r.1) r.2 := by
  refine hz_ofJX (rv := (fun r : Int32 => some (.int r))) (own := RX9) hl (by decide) rfl (Nat.le_of_ble_eq_true rfl) rfl ?_ h
  intro p e s m args below meth c
  unfold f_X9_allOver
  refine hz_gdr (fun ga0 => ?_)
  refine hz_aload_n (pc' := 1) (j := 0) dX9_allOver_0 rfl rfl rfl ?_
  refine hz_xVv (pc' := 4) (av := []) (rest := []) vl_X9_164 (fun v w' h => ct_X9_needSystem hl h) ga0 rfl rfl (Nat.le_of_ble_eq_true rfl) (by decide) (by decide) dX9_allOver_1 rfl (fun w1 => ?_)
  refine hz_aload_n (pc' := 5) (j := 0) dX9_allOver_4 rfl rfl rfl ?_
  refine hz_gP (pc' := 8) (c' := 4) fl_X9_41.r ga0 rfl dX9_allOver_5 rfl (fun b2 gb2 => ?_)
  refine hz_aload_n (pc' := 9) (j := 0) dX9_allOver_8 rfl rfl rfl ?_
  refine hz_gP (pc' := 12) (c' := 4) fl_X9_37.r ga0 rfl dX9_allOver_9 rfl (fun b3 gb3 => ?_)
  refine hz_cVv (pc' := 15) (av := [.ref (B.1 + b3)]) (rest := []) vl_X9_290 (fun w' h => ct_X3_copyFrom hl h) gb2 rfl rfl (Nat.le_of_ble_eq_true rfl) (by decide) (by decide) rfl dX9_allOver_12 rfl (fun w4 => ?_)
  refine hz_aload_n (pc' := 16) (j := 0) dX9_allOver_15 rfl rfl rfl ?_
  refine hz_gP (pc' := 19) (c' := 4) fl_X9_41.r ga0 rfl dX9_allOver_16 rfl (fun b5 gb5 => ?_)
  refine hz_cVv (pc' := 22) (av := []) (rest := []) vl_X9_292 (fun w' h => ct_X3_passTicksUntilOver hl h) gb5 rfl rfl (Nat.le_of_ble_eq_true rfl) (by decide) (by decide) rfl dX9_allOver_19 rfl (fun w6 => ?_)
  refine hz_aload_n (pc' := 23) (j := 0) dX9_allOver_22 rfl rfl rfl ?_
  refine hz_gP (pc' := 26) (c' := 4) fl_X9_41.r ga0 rfl dX9_allOver_23 rfl (fun b7 gb7 => ?_)
  refine hz_gP (pc' := 29) (c' := 2) fl_X9_119 gb7 rfl dX9_allOver_26 rfl (fun b8 gb8 => ?_)
  refine hz_cVi (pc' := 32) (av := []) (rest := []) vl_X9_295 (fun x w' h => ct_X1_areOver hl h) gb8 rfl rfl (Nat.le_of_ble_eq_true rfl) (by decide) (by decide) rfl dX9_allOver_29 rfl (fun v10 w9 => ?_)
  refine hz_bindJ (pcJ := 47) (LJ := fun q11 : Int32 => []) (stJ := fun q11 : Int32 => [.int q11]) (kJ := 1) (slJ := 6) (nJ := 358) (wJ := fun q11 : Int32 => w9) (fun q11 => ?_) (fun hq11 => ?_)
  · exact hz_retiX dX9_allOver_47 rfl (by decide)
  · refine hz_ifeq (pc' := 35) (tgt := 45) dX9_allOver_32 (by decide) rfl ?_ ?_
    · refine hz_bipush (pc' := 47) (v := (-2)) dX9_allOver_45 rfl (by decide) ?_
      exact hz_loc [] rfl (hq11 (-2))
    · refine hz_aload_n (pc' := 36) (j := 0) dX9_allOver_35 rfl rfl rfl ?_
      refine hz_gP (pc' := 39) (c' := 4) fl_X9_41.r ga0 rfl dX9_allOver_36 rfl (fun b12 gb12 => ?_)
      refine hz_gI (pc' := 42) fl_X9_136.r gb12 rfl dX9_allOver_39 rfl ?_
      refine hz_goto (tgt := 47) dX9_allOver_42 (by decide) ?_
      exact hz_loc [] rfl (hq11 (w9.1 b12 2))
def f_X9_willBeLate (a0 : Nat) (w : MW) : Option ((String ⊕ Int32) × MW) :=
  hz_gd (hz_g 358 a0 10) (hz_bx (f_X9_needSystem a0 w) (fun _ w1 => hz_ldp w1 a0 4 358 4 (fun b2 => hz_ldp w1 a0 3 358 4 (fun b3 => hz_bv (f_X3_copyFrom b2 b3 w1) (fun w4 => hz_ldp w4 a0 4 358 4 (fun b5 => hz_bv (f_X3_passTicksUntilOver b5 w4) (fun w6 => hz_ldp w6 a0 4 358 4 (fun b7 => hz_ldp w6 b7 1 358 2 (fun b8 => hz_b (f_X1_lateOrOpen b8 w6) (fun v10 w9 => some (.inr v10, w9)))))))))))
set_option maxHeartbeats 4000000 in
set_option maxRecDepth 100000 in
theorem ct_X9_willBeLate {l : Launch} (hl : l.stackTraces = false) {B : Bt} {a0 : Nat} {w : MW} {r : (String ⊕ Int32) × MW} (h : f_X9_willBeLate a0 w = some r) : hz_MetX l B 358 yX9_willBeLate cX9_willBeLate 1 (Option.some FieldType.int) 8 1 6 [.ref (B.1 + a0)] w (Sum.map id (fun r => some (.int r)) r.1) r.2 := by
  refine hz_ofJX (rv := (fun r : Int32 => some (.int r))) (own := RX9) hl (by decide) rfl (Nat.le_of_ble_eq_true rfl) rfl ?_ h
  intro p e s m args below meth c
  unfold f_X9_willBeLate
  refine hz_gdr (fun ga0 => ?_)
  refine hz_aload_n (pc' := 1) (j := 0) dX9_willBeLate_0 rfl rfl rfl ?_
  refine hz_xVv (pc' := 4) (av := []) (rest := []) vl_X9_164 (fun v w' h => ct_X9_needSystem hl h) ga0 rfl rfl (Nat.le_of_ble_eq_true rfl) (by decide) (by decide) dX9_willBeLate_1 rfl (fun w1 => ?_)
  refine hz_aload_n (pc' := 5) (j := 0) dX9_willBeLate_4 rfl rfl rfl ?_
  refine hz_gP (pc' := 8) (c' := 4) fl_X9_41.r ga0 rfl dX9_willBeLate_5 rfl (fun b2 gb2 => ?_)
  refine hz_aload_n (pc' := 9) (j := 0) dX9_willBeLate_8 rfl rfl rfl ?_
  refine hz_gP (pc' := 12) (c' := 4) fl_X9_37.r ga0 rfl dX9_willBeLate_9 rfl (fun b3 gb3 => ?_)
  refine hz_cVv (pc' := 15) (av := [.ref (B.1 + b3)]) (rest := []) vl_X9_290 (fun w' h => ct_X3_copyFrom hl h) gb2 rfl rfl (Nat.le_of_ble_eq_true rfl) (by decide) (by decide) rfl dX9_willBeLate_12 rfl (fun w4 => ?_)
  refine hz_aload_n (pc' := 16) (j := 0) dX9_willBeLate_15 rfl rfl rfl ?_
  refine hz_gP (pc' := 19) (c' := 4) fl_X9_41.r ga0 rfl dX9_willBeLate_16 rfl (fun b5 gb5 => ?_)
  refine hz_cVv (pc' := 22) (av := []) (rest := []) vl_X9_292 (fun w' h => ct_X3_passTicksUntilOver hl h) gb5 rfl rfl (Nat.le_of_ble_eq_true rfl) (by decide) (by decide) rfl dX9_willBeLate_19 rfl (fun w6 => ?_)
  refine hz_aload_n (pc' := 23) (j := 0) dX9_willBeLate_22 rfl rfl rfl ?_
  refine hz_gP (pc' := 26) (c' := 4) fl_X9_41.r ga0 rfl dX9_willBeLate_23 rfl (fun b7 gb7 => ?_)
  refine hz_gP (pc' := 29) (c' := 2) fl_X9_119 gb7 rfl dX9_willBeLate_26 rfl (fun b8 gb8 => ?_)
  refine hz_cVi (pc' := 32) (av := []) (rest := []) vl_X9_298 (fun x w' h => ct_X1_lateOrOpen hl h) gb8 rfl rfl (Nat.le_of_ble_eq_true rfl) (by decide) (by decide) rfl dX9_willBeLate_29 rfl (fun v10 w9 => ?_)
  exact hz_retiX dX9_willBeLate_32 rfl (by decide)
def lp_X9_peak_37 (c0 : Nat) (c1 : Int32) (c2 : Int32) : Nat → (Int32 × Int32 × MW) → Option (Int32 × MW)
  | 0, _ => none
  | N + 1, v0 => (if c2 ≤ v0.2.1 then some (v0.1, v0.2.2) else hz_ldp v0.2.2 c0 4 358 4 (fun b9 => hz_b (f_X3_passTick b9 v0.2.2) (fun v11 w10 => hz_ldp w10 c0 4 358 4 (fun b12 => hz_ldp w10 b12 6 358 20 (fun b13 => hz_lda w10 b13 c1 (fun v14 => hz_let (if v0.1 < v14 then v14 else v0.1) (fun v15 => hz_let (v0.2.1 + Int32.ofInt 1) (fun v16 => lp_X9_peak_37 c0 c1 c2 N (v15, v16, w10)))))))))
def f_X9_peak (a0 : Nat) (x1 : Int32) (x2 : Int32) (w : MW) : Option ((String ⊕ Int32) × MW) :=
  hz_gd (hz_g 358 a0 10) (hz_bx (f_X9_needDomain a0 x1 w) (fun _ w1 => hz_bx (f_X9_needRange x2 1 500 w1) (fun _ w2 => hz_ldp w2 a0 4 358 4 (fun b3 => hz_ldp w2 a0 3 358 4 (fun b4 => hz_bv (f_X3_copyFrom b3 b4 w2) (fun w5 => hz_ldp w5 a0 4 358 4 (fun b6 => hz_ldp w5 b6 6 358 20 (fun b7 => hz_lda w5 b7 x1 (fun v8 => Option.bind (lp_X9_peak_37 a0 x1 x2 3000 (v8, 0, w5)) (fun q10 : Int32 × MW => some (.inr q10.1, q10.2)))))))))))
set_option maxHeartbeats 4000000 in
set_option maxRecDepth 100000 in
theorem ct_X9_peak {l : Launch} (hl : l.stackTraces = false) {B : Bt} {a0 : Nat} {x1 : Int32} {x2 : Int32} {w : MW} {r : (String ⊕ Int32) × MW} (h : f_X9_peak a0 x1 x2 w = some r) : hz_MetX l B 358 yX9_peak cX9_peak 5 (Option.some FieldType.int) 9 3 18 [.ref (B.1 + a0), .int x1, .int x2] w (Sum.map id (fun r => some (.int r)) r.1) r.2 := by
  refine hz_ofJX (rv := (fun r : Int32 => some (.int r))) (own := RX9) hl (by decide) rfl (Nat.le_of_ble_eq_true rfl) rfl ?_ h
  intro p e s m args below meth c
  unfold f_X9_peak
  refine hz_gdr (fun ga0 => ?_)
  refine hz_aload_n (pc' := 1) (j := 0) dX9_peak_0 rfl rfl rfl ?_
  refine hz_iload_n (pc' := 2) (j := 1) dX9_peak_1 rfl rfl rfl ?_
  refine hz_xVv (pc' := 5) (av := [.int x1]) (rest := []) vl_X9_116 (fun v w' h => ct_X9_needDomain hl h) ga0 rfl rfl (Nat.le_of_ble_eq_true rfl) (by decide) (by decide) dX9_peak_2 rfl (fun w1 => ?_)
  refine hz_iload_n (pc' := 6) (j := 2) dX9_peak_5 rfl rfl rfl ?_
  refine hz_iconst (pc' := 7) (v := 1) dX9_peak_6 rfl (by decide) ?_
  refine hz_sipush (pc' := 10) (v := 500) dX9_peak_7 rfl (by decide) ?_
  refine hz_xSv (pc' := 13) (av := [.int x2, .int 1, .int 500]) (rest := []) sl_X9_87 (fun v w' h => ct_X9_needRange hl h) rfl rfl (Nat.le_of_ble_eq_true rfl) (by decide) (by decide) dX9_peak_10 rfl (fun w2 => ?_)
  refine hz_aload_n (pc' := 14) (j := 0) dX9_peak_13 rfl rfl rfl ?_
  refine hz_gP (pc' := 17) (c' := 4) fl_X9_41.r ga0 rfl dX9_peak_14 rfl (fun b3 gb3 => ?_)
  refine hz_aload_n (pc' := 18) (j := 0) dX9_peak_17 rfl rfl rfl ?_
  refine hz_gP (pc' := 21) (c' := 4) fl_X9_37.r ga0 rfl dX9_peak_18 rfl (fun b4 gb4 => ?_)
  refine hz_cVv (pc' := 24) (av := [.ref (B.1 + b4)]) (rest := []) vl_X9_290 (fun w' h => ct_X3_copyFrom hl h) gb3 rfl rfl (Nat.le_of_ble_eq_true rfl) (by decide) (by decide) rfl dX9_peak_21 rfl (fun w5 => ?_)
  refine hz_aload_n (pc' := 25) (j := 0) dX9_peak_24 rfl rfl rfl ?_
  refine hz_gP (pc' := 28) (c' := 4) fl_X9_41.r ga0 rfl dX9_peak_25 rfl (fun b6 gb6 => ?_)
  refine hz_gP (pc' := 31) (c' := 20) fl_X9_174 gb6 rfl dX9_peak_28 rfl (fun b7 gb7 => ?_)
  refine hz_iload_n (pc' := 32) (j := 1) dX9_peak_31 rfl rfl rfl ?_
  refine hz_iald (pc' := 33) gb7 dX9_peak_32 rfl (fun v8 => ?_)
  refine hz_istore_n (pc' := 34) (L' := [(3, .int v8), (0, .ref (B.1 + a0)), (1, .int x1), (2, .int x2)]) dX9_peak_33 rfl rfl (by decide) rfl ?_
  refine hz_iconst (pc' := 35) (v := 0) dX9_peak_34 rfl (by decide) ?_
  refine hz_istore (pc' := 37) (L' := [(4, .int 0), (3, .int v8), (0, .ref (B.1 + a0)), (1, .int x1), (2, .int x2)]) dX9_peak_35 rfl (by decide) rfl ?_
  refine hz_bindJ (pcJ := 71) (LJ := fun q10 : Int32 × MW => [(3, .int q10.1)]) (stJ := fun _ => []) (kJ := 3) (slJ := 18) (nJ := 358) (wJ := fun q10 : Int32 × MW => q10.2) (fun q10 => ?_) (fun hq10 => ?_)
  · refine hz_iload_n (pc' := 72) (j := 0) dX9_peak_71 rfl rfl rfl ?_
    exact hz_retiX dX9_peak_72 rfl (by decide)
  · refine hz_loc [2, 3, 4, 1, 0] rfl (hz_loopJ (lp := lp_X9_peak_37 a0 x1 x2) (Lh := fun v9 : Int32 × Int32 × MW => [(0, .ref (B.1 + a0)), (1, .int x1), (2, .int x2), (3, .int v9.1), (4, .int v9.2.1)]) (wh := fun v9 : Int32 × Int32 × MW => v9.2.2) (fun _ => rfl) (fun Nv9 ihv9 v9 => ?_) 3000 (v8, 0, w5))
    rw [lp_X9_peak_37]
    refine hz_iload (pc' := 39) (j := 4) dX9_peak_37 rfl rfl ?_
    refine hz_iload_n (pc' := 40) (j := 2) dX9_peak_39 rfl rfl rfl ?_
    refine hz_icmpge (pc' := 43) (tgt := 71) dX9_peak_40 (by decide) rfl ?_ ?_
    · exact hz_loc [3] rfl (hq10 (v9.1, v9.2.2))
    · refine hz_aload_n (pc' := 44) (j := 0) dX9_peak_43 rfl rfl rfl ?_
      refine hz_gP (pc' := 47) (c' := 4) fl_X9_41.r ga0 rfl dX9_peak_44 rfl (fun b11 gb11 => ?_)
      refine hz_cVi (pc' := 50) (av := []) (rest := []) vl_X9_170 (fun x w' h => ct_X3_passTick hl h) gb11 rfl rfl (Nat.le_of_ble_eq_true rfl) (by decide) (by decide) rfl dX9_peak_47 rfl (fun v13 w12 => ?_)
      refine hz_pop (pc' := 51) dX9_peak_50 rfl rfl ?_
      refine hz_iload_n (pc' := 52) (j := 3) dX9_peak_51 rfl rfl rfl ?_
      refine hz_aload_n (pc' := 53) (j := 0) dX9_peak_52 rfl rfl rfl ?_
      refine hz_gP (pc' := 56) (c' := 4) fl_X9_41.r ga0 rfl dX9_peak_53 rfl (fun b14 gb14 => ?_)
      refine hz_gP (pc' := 59) (c' := 20) fl_X9_174 gb14 rfl dX9_peak_56 rfl (fun b15 gb15 => ?_)
      refine hz_iload_n (pc' := 60) (j := 1) dX9_peak_59 rfl rfl rfl ?_
      refine hz_iald (pc' := 61) gb15 dX9_peak_60 rfl (fun v16 => ?_)
      refine hz_mmax (pc' := 64) hq_1091 hq_824 hq_17 hq_825 ⟨Nat.le_of_ble_eq_true rfl, Nat.le_of_ble_eq_true rfl⟩ (by decide) dX9_peak_61 rfl ?_
      refine hz_nameI (fun v17 => ?_)
      refine hz_istore_n (pc' := 65) (L' := [(3, .int v17), (0, .ref (B.1 + a0)), (1, .int x1), (2, .int x2), (4, .int v9.2.1)]) dX9_peak_64 rfl rfl (by decide) rfl ?_
      refine hz_iincN (pc' := 68) (j := 4) (fun v18 => [(4, .int v18), (3, .int v17), (0, .ref (B.1 + a0)), (1, .int x1), (2, .int x2)]) dX9_peak_65 rfl rfl (by decide) (fun _ => rfl) (fun v18 => ?_)
      refine hz_goto (tgt := 37) dX9_peak_68 (by decide) ?_
      exact hz_loc [2, 3, 4, 1, 0] rfl (ihv9 (v17, v18, w12))
def lp_X9_energyIn_25 (c0 : Nat) (c1 : Int32) : Nat → (Int32 × MW) → Option (MW)
  | 0, _ => none
  | N + 1, v0 => (if c1 ≤ v0.1 then some v0.2 else hz_ldp v0.2 c0 4 358 4 (fun b6 => hz_b (f_X3_passTick b6 v0.2) (fun v8 w7 => hz_let (v0.1 + Int32.ofInt 1) (fun v9 => lp_X9_energyIn_25 c0 c1 N (v9, w7)))))
def f_X9_energyIn (a0 : Nat) (x1 : Int32) (w : MW) : Option ((String ⊕ Int32) × MW) :=
  hz_gd (hz_g 358 a0 10) (hz_bx (f_X9_needSystem a0 w) (fun _ w1 => hz_bx (f_X9_needRange x1 1 500 w1) (fun _ w2 => hz_ldp w2 a0 4 358 4 (fun b3 => hz_ldp w2 a0 3 358 4 (fun b4 => hz_bv (f_X3_copyFrom b3 b4 w2) (fun w5 => Option.bind (lp_X9_energyIn_25 a0 x1 3000 (0, w5)) (fun q7 : MW => hz_ldp q7 a0 4 358 4 (fun b8 => hz_b (f_X3_energySum b8 q7) (fun v10 w9 => hz_ldp w9 a0 3 358 4 (fun b11 => hz_b (f_X3_energySum b11 w9) (fun v13 w12 => some (.inr (Int64.toInt32 (v10 - v13)), w12))))))))))))
set_option maxHeartbeats 4000000 in
set_option maxRecDepth 100000 in
theorem ct_X9_energyIn {l : Launch} (hl : l.stackTraces = false) {B : Bt} {a0 : Nat} {x1 : Int32} {w : MW} {r : (String ⊕ Int32) × MW} (h : f_X9_energyIn a0 x1 w = some r) : hz_MetX l B 358 yX9_energyIn cX9_energyIn 3 (Option.some FieldType.int) 8 2 12 [.ref (B.1 + a0), .int x1] w (Sum.map id (fun r => some (.int r)) r.1) r.2 := by
  refine hz_ofJX (rv := (fun r : Int32 => some (.int r))) (own := RX9) hl (by decide) rfl (Nat.le_of_ble_eq_true rfl) rfl ?_ h
  intro p e s m args below meth c
  unfold f_X9_energyIn
  refine hz_gdr (fun ga0 => ?_)
  refine hz_aload_n (pc' := 1) (j := 0) dX9_energyIn_0 rfl rfl rfl ?_
  refine hz_xVv (pc' := 4) (av := []) (rest := []) vl_X9_164 (fun v w' h => ct_X9_needSystem hl h) ga0 rfl rfl (Nat.le_of_ble_eq_true rfl) (by decide) (by decide) dX9_energyIn_1 rfl (fun w1 => ?_)
  refine hz_iload_n (pc' := 5) (j := 1) dX9_energyIn_4 rfl rfl rfl ?_
  refine hz_iconst (pc' := 6) (v := 1) dX9_energyIn_5 rfl (by decide) ?_
  refine hz_sipush (pc' := 9) (v := 500) dX9_energyIn_6 rfl (by decide) ?_
  refine hz_xSv (pc' := 12) (av := [.int x1, .int 1, .int 500]) (rest := []) sl_X9_87 (fun v w' h => ct_X9_needRange hl h) rfl rfl (Nat.le_of_ble_eq_true rfl) (by decide) (by decide) dX9_energyIn_9 rfl (fun w2 => ?_)
  refine hz_aload_n (pc' := 13) (j := 0) dX9_energyIn_12 rfl rfl rfl ?_
  refine hz_gP (pc' := 16) (c' := 4) fl_X9_41.r ga0 rfl dX9_energyIn_13 rfl (fun b3 gb3 => ?_)
  refine hz_aload_n (pc' := 17) (j := 0) dX9_energyIn_16 rfl rfl rfl ?_
  refine hz_gP (pc' := 20) (c' := 4) fl_X9_37.r ga0 rfl dX9_energyIn_17 rfl (fun b4 gb4 => ?_)
  refine hz_cVv (pc' := 23) (av := [.ref (B.1 + b4)]) (rest := []) vl_X9_290 (fun w' h => ct_X3_copyFrom hl h) gb3 rfl rfl (Nat.le_of_ble_eq_true rfl) (by decide) (by decide) rfl dX9_energyIn_20 rfl (fun w5 => ?_)
  refine hz_iconst (pc' := 24) (v := 0) dX9_energyIn_23 rfl (by decide) ?_
  refine hz_istore_n (pc' := 25) (L' := [(2, .int 0), (0, .ref (B.1 + a0)), (1, .int x1)]) dX9_energyIn_24 rfl rfl (by decide) rfl ?_
  refine hz_bindJ (pcJ := 44) (LJ := fun q7 : MW => [(0, .ref (B.1 + a0))]) (stJ := fun _ => []) (kJ := 2) (slJ := 12) (nJ := 358) (wJ := fun q7 : MW => q7) (fun q7 => ?_) (fun hq7 => ?_)
  · refine hz_aload_n (pc' := 45) (j := 0) dX9_energyIn_44 rfl rfl rfl ?_
    refine hz_gP (pc' := 48) (c' := 4) fl_X9_41.r ga0 rfl dX9_energyIn_45 rfl (fun b8 gb8 => ?_)
    refine hz_cVl (pc' := 51) (av := []) (rest := []) vl_X9_306 (fun x w' h => ct_X3_energySum hl h) gb8 rfl rfl (Nat.le_of_ble_eq_true rfl) (by decide) (by decide) rfl dX9_energyIn_48 rfl (fun v10 w9 => ?_)
    refine hz_aload_n (pc' := 52) (j := 0) dX9_energyIn_51 rfl rfl rfl ?_
    refine hz_gP (pc' := 55) (c' := 4) fl_X9_37.r ga0 rfl dX9_energyIn_52 rfl (fun b11 gb11 => ?_)
    refine hz_cVl (pc' := 58) (av := []) (rest := [.long v10]) vl_X9_306 (fun x w' h => ct_X3_energySum hl h) gb11 rfl rfl (Nat.le_of_ble_eq_true rfl) (by decide) (by decide) rfl dX9_energyIn_55 rfl (fun v13 w12 => ?_)
    refine hz_lsub (pc' := 59) dX9_energyIn_58 rfl ?_
    refine hz_l2i (pc' := 60) dX9_energyIn_59 rfl ?_
    exact hz_retiX dX9_energyIn_60 rfl (by decide)
  · refine hz_loc [1, 2, 0] rfl (hz_loopJ (lp := lp_X9_energyIn_25 a0 x1) (Lh := fun v6 : Int32 × MW => [(0, .ref (B.1 + a0)), (1, .int x1), (2, .int v6.1)]) (wh := fun v6 : Int32 × MW => v6.2) (fun _ => rfl) (fun Nv6 ihv6 v6 => ?_) 3000 (0, w5))
    rw [lp_X9_energyIn_25]
    refine hz_iload_n (pc' := 26) (j := 2) dX9_energyIn_25 rfl rfl rfl ?_
    refine hz_iload_n (pc' := 27) (j := 1) dX9_energyIn_26 rfl rfl rfl ?_
    refine hz_icmpge (pc' := 30) (tgt := 44) dX9_energyIn_27 (by decide) rfl ?_ ?_
    · exact hz_loc [0] rfl (hq7 v6.2)
    · refine hz_aload_n (pc' := 31) (j := 0) dX9_energyIn_30 rfl rfl rfl ?_
      refine hz_gP (pc' := 34) (c' := 4) fl_X9_41.r ga0 rfl dX9_energyIn_31 rfl (fun b14 gb14 => ?_)
      refine hz_cVi (pc' := 37) (av := []) (rest := []) vl_X9_170 (fun x w' h => ct_X3_passTick hl h) gb14 rfl rfl (Nat.le_of_ble_eq_true rfl) (by decide) (by decide) rfl dX9_energyIn_34 rfl (fun v16 w15 => ?_)
      refine hz_pop (pc' := 38) dX9_energyIn_37 rfl rfl ?_
      refine hz_iincN (pc' := 41) (j := 2) (fun v17 => [(2, .int v17), (0, .ref (B.1 + a0)), (1, .int x1)]) dX9_energyIn_38 rfl rfl (by decide) (fun _ => rfl) (fun v17 => ?_)
      refine hz_goto (tgt := 25) dX9_energyIn_41 (by decide) ?_
      exact hz_loc [1, 2, 0] rfl (ihv6 (v17, w15))
def lp_X9_nextThrottle_38 (c0 : Nat) (c1 : Int32) (c2 : Int32) : Nat → (Int32 × MW) → Option ((String ⊕ Int32) × MW)
  | 0, _ => none
  | N + 1, v0 => (if 1000 < v0.1 then some (.inr (-2), v0.2) else hz_ldp v0.2 c0 4 358 4 (fun b12 => hz_b (f_X3_passTick b12 v0.2) (fun v14 w13 => hz_ldp w13 c0 4 358 4 (fun b15 => hz_ldp w13 b15 10 358 20 (fun b16 => hz_lda w13 b16 c1 (fun v17 => hz_ldp w13 c0 4 358 4 (fun b18 => hz_ldp w13 b18 11 358 20 (fun b19 => hz_lda w13 b19 c1 (fun v20 => (if (v17 + v20) = c2 then hz_let (v0.1 + Int32.ofInt 1) (fun v21 => lp_X9_nextThrottle_38 c0 c1 c2 N (v21, w13)) else some (.inr v0.1, w13)))))))))))
def f_X9_nextThrottle (a0 : Nat) (x1 : Int32) (w : MW) : Option ((String ⊕ Int32) × MW) :=
  hz_gd (hz_g 358 a0 10) (hz_bx (f_X9_needDomain a0 x1 w) (fun _ w1 => hz_ldp w1 a0 4 358 4 (fun b2 => hz_ldp w1 a0 3 358 4 (fun b3 => hz_bv (f_X3_copyFrom b2 b3 w1) (fun w4 => hz_ldp w4 a0 3 358 4 (fun b5 => hz_ldp w4 b5 10 358 20 (fun b6 => hz_lda w4 b6 x1 (fun v7 => hz_ldp w4 a0 3 358 4 (fun b8 => hz_ldp w4 b8 11 358 20 (fun b9 => hz_lda w4 b9 x1 (fun v10 => hz_let (v7 + v10) (fun v11 => lp_X9_nextThrottle_38 a0 x1 v11 3000 (1, w4)))))))))))))
set_option maxHeartbeats 4000000 in
set_option maxRecDepth 100000 in
theorem ct_X9_nextThrottle {l : Launch} (hl : l.stackTraces = false) {B : Bt} {a0 : Nat} {x1 : Int32} {w : MW} {r : (String ⊕ Int32) × MW} (h : f_X9_nextThrottle a0 x1 w = some r) : hz_MetX l B 358 yX9_nextThrottle cX9_nextThrottle 4 (Option.some FieldType.int) 9 2 12 [.ref (B.1 + a0), .int x1] w (Sum.map id (fun r => some (.int r)) r.1) r.2 := by
  refine hz_ofJX (rv := (fun r : Int32 => some (.int r))) (own := RX9) hl (by decide) rfl (Nat.le_of_ble_eq_true rfl) rfl ?_ h
  intro p e s m args below meth c
  unfold f_X9_nextThrottle
  refine hz_gdr (fun ga0 => ?_)
  refine hz_aload_n (pc' := 1) (j := 0) dX9_nextThrottle_0 rfl rfl rfl ?_
  refine hz_iload_n (pc' := 2) (j := 1) dX9_nextThrottle_1 rfl rfl rfl ?_
  refine hz_xVv (pc' := 5) (av := [.int x1]) (rest := []) vl_X9_116 (fun v w' h => ct_X9_needDomain hl h) ga0 rfl rfl (Nat.le_of_ble_eq_true rfl) (by decide) (by decide) dX9_nextThrottle_2 rfl (fun w1 => ?_)
  refine hz_aload_n (pc' := 6) (j := 0) dX9_nextThrottle_5 rfl rfl rfl ?_
  refine hz_gP (pc' := 9) (c' := 4) fl_X9_41.r ga0 rfl dX9_nextThrottle_6 rfl (fun b2 gb2 => ?_)
  refine hz_aload_n (pc' := 10) (j := 0) dX9_nextThrottle_9 rfl rfl rfl ?_
  refine hz_gP (pc' := 13) (c' := 4) fl_X9_37.r ga0 rfl dX9_nextThrottle_10 rfl (fun b3 gb3 => ?_)
  refine hz_cVv (pc' := 16) (av := [.ref (B.1 + b3)]) (rest := []) vl_X9_290 (fun w' h => ct_X3_copyFrom hl h) gb2 rfl rfl (Nat.le_of_ble_eq_true rfl) (by decide) (by decide) rfl dX9_nextThrottle_13 rfl (fun w4 => ?_)
  refine hz_aload_n (pc' := 17) (j := 0) dX9_nextThrottle_16 rfl rfl rfl ?_
  refine hz_gP (pc' := 20) (c' := 4) fl_X9_37.r ga0 rfl dX9_nextThrottle_17 rfl (fun b5 gb5 => ?_)
  refine hz_gP (pc' := 23) (c' := 20) fl_X9_186 gb5 rfl dX9_nextThrottle_20 rfl (fun b6 gb6 => ?_)
  refine hz_iload_n (pc' := 24) (j := 1) dX9_nextThrottle_23 rfl rfl rfl ?_
  refine hz_iald (pc' := 25) gb6 dX9_nextThrottle_24 rfl (fun v7 => ?_)
  refine hz_aload_n (pc' := 26) (j := 0) dX9_nextThrottle_25 rfl rfl rfl ?_
  refine hz_gP (pc' := 29) (c' := 4) fl_X9_37.r ga0 rfl dX9_nextThrottle_26 rfl (fun b8 gb8 => ?_)
  refine hz_gP (pc' := 32) (c' := 20) fl_X9_189 gb8 rfl dX9_nextThrottle_29 rfl (fun b9 gb9 => ?_)
  refine hz_iload_n (pc' := 33) (j := 1) dX9_nextThrottle_32 rfl rfl rfl ?_
  refine hz_iald (pc' := 34) gb9 dX9_nextThrottle_33 rfl (fun v10 => ?_)
  refine hz_iadd (pc' := 35) dX9_nextThrottle_34 rfl ?_
  refine hz_nameI (fun v11 => ?_)
  refine hz_istore_n (pc' := 36) (L' := [(2, .int v11), (0, .ref (B.1 + a0)), (1, .int x1)]) dX9_nextThrottle_35 rfl rfl (by decide) rfl ?_
  refine hz_iconst (pc' := 37) (v := 1) dX9_nextThrottle_36 rfl (by decide) ?_
  refine hz_istore_n (pc' := 38) (L' := [(3, .int 1), (2, .int v11), (0, .ref (B.1 + a0)), (1, .int x1)]) dX9_nextThrottle_37 rfl rfl (by decide) rfl ?_
  refine hz_loc [2, 3, 1, 0] rfl (hz_loopJ (lp := lp_X9_nextThrottle_38 a0 x1 v11) (Lh := fun v12 : Int32 × MW => [(0, .ref (B.1 + a0)), (1, .int x1), (2, .int v11), (3, .int v12.1)]) (wh := fun v12 : Int32 × MW => v12.2) (fun _ => rfl) (fun Nv12 ihv12 v12 => ?_) 3000 (1, w4))
  rw [lp_X9_nextThrottle_38]
  refine hz_iload_n (pc' := 39) (j := 3) dX9_nextThrottle_38 rfl rfl rfl ?_
  refine hz_sipush (pc' := 42) (v := 1000) dX9_nextThrottle_39 rfl (by decide) ?_
  refine hz_icmpgt (pc' := 45) (tgt := 84) dX9_nextThrottle_42 (by decide) rfl ?_ ?_
  · refine hz_bipush (pc' := 86) (v := (-2)) dX9_nextThrottle_84 rfl (by decide) ?_
    exact hz_retiX dX9_nextThrottle_86 rfl (by decide)
  · refine hz_aload_n (pc' := 46) (j := 0) dX9_nextThrottle_45 rfl rfl rfl ?_
    refine hz_gP (pc' := 49) (c' := 4) fl_X9_41.r ga0 rfl dX9_nextThrottle_46 rfl (fun b13 gb13 => ?_)
    refine hz_cVi (pc' := 52) (av := []) (rest := []) vl_X9_170 (fun x w' h => ct_X3_passTick hl h) gb13 rfl rfl (Nat.le_of_ble_eq_true rfl) (by decide) (by decide) rfl dX9_nextThrottle_49 rfl (fun v15 w14 => ?_)
    refine hz_pop (pc' := 53) dX9_nextThrottle_52 rfl rfl ?_
    refine hz_aload_n (pc' := 54) (j := 0) dX9_nextThrottle_53 rfl rfl rfl ?_
    refine hz_gP (pc' := 57) (c' := 4) fl_X9_41.r ga0 rfl dX9_nextThrottle_54 rfl (fun b16 gb16 => ?_)
    refine hz_gP (pc' := 60) (c' := 20) fl_X9_186 gb16 rfl dX9_nextThrottle_57 rfl (fun b17 gb17 => ?_)
    refine hz_iload_n (pc' := 61) (j := 1) dX9_nextThrottle_60 rfl rfl rfl ?_
    refine hz_iald (pc' := 62) gb17 dX9_nextThrottle_61 rfl (fun v18 => ?_)
    refine hz_aload_n (pc' := 63) (j := 0) dX9_nextThrottle_62 rfl rfl rfl ?_
    refine hz_gP (pc' := 66) (c' := 4) fl_X9_41.r ga0 rfl dX9_nextThrottle_63 rfl (fun b19 gb19 => ?_)
    refine hz_gP (pc' := 69) (c' := 20) fl_X9_189 gb19 rfl dX9_nextThrottle_66 rfl (fun b20 gb20 => ?_)
    refine hz_iload_n (pc' := 70) (j := 1) dX9_nextThrottle_69 rfl rfl rfl ?_
    refine hz_iald (pc' := 71) gb20 dX9_nextThrottle_70 rfl (fun v21 => ?_)
    refine hz_iadd (pc' := 72) dX9_nextThrottle_71 rfl ?_
    refine hz_iload_n (pc' := 73) (j := 2) dX9_nextThrottle_72 rfl rfl rfl ?_
    refine hz_icmpeq (pc' := 76) (tgt := 78) dX9_nextThrottle_73 (by decide) rfl ?_ ?_
    · refine hz_iincN (pc' := 81) (j := 3) (fun v22 => [(3, .int v22), (0, .ref (B.1 + a0)), (1, .int x1), (2, .int v11)]) dX9_nextThrottle_78 rfl rfl (by decide) (fun _ => rfl) (fun v22 => ?_)
      refine hz_goto (tgt := 38) dX9_nextThrottle_81 (by decide) ?_
      exact hz_loc [1, 2, 3, 0] rfl (ihv12 (v22, w14))
    · refine hz_iload_n (pc' := 77) (j := 3) dX9_nextThrottle_76 rfl rfl rfl ?_
      exact hz_retiX dX9_nextThrottle_77 rfl (by decide)
def lp_X9_bestPolicy_16 (c0 : Nat) (c1 : Int32) : Nat → (Int32 × Int32 × Int64 × Int32 × MW) → Option (Int32 × MW)
  | 0, _ => none
  | N + 1, v0 => (if 4 ≤ v0.2.2.2.1 then some (v0.1, v0.2.2.2.2) else hz_ldp v0.2.2.2.2 c0 4 358 4 (fun b2 => hz_ldp v0.2.2.2.2 c0 3 358 4 (fun b3 => hz_bv (f_X3_copyFrom b2 b3 v0.2.2.2.2) (fun w4 => hz_ldp w4 c0 4 358 4 (fun b5 => hz_ldp w4 b5 5 358 20 (fun b6 => hz_sta w4 b6 c1 v0.2.2.2.1 (fun w7 => hz_ldp w7 c0 4 358 4 (fun b8 => hz_bv (f_X3_passTicksUntilOver b8 w7) (fun w9 => hz_ldp w9 c0 4 358 4 (fun b10 => hz_ldp w9 b10 1 358 2 (fun b11 => hz_b (f_X1_lateOrOpen b11 w9) (fun v13 w12 => hz_b (f_J6_bitCount_0f7a4 v13 w12) (fun v15 w14 => hz_ldp w14 c0 4 358 4 (fun b16 => hz_b (f_X3_energySum b16 w14) (fun v18 w17 => Option.bind ((if v15 < v0.2.1 then some (v0.2.2.2.1, v15, v18) else (if v15 = v0.2.1 then (if 0 ≤ (lg_cmp v18 v0.2.2.1) then some (v0.1, v0.2.1, v0.2.2.1) else some (v0.2.2.2.1, v15, v18)) else some (v0.1, v0.2.1, v0.2.2.1)))) (fun q19 : Int32 × Int32 × Int64 => hz_let (v0.2.2.2.1 + Int32.ofInt 1) (fun v20 => lp_X9_bestPolicy_16 c0 c1 N (q19.1, q19.2.1, q19.2.2, v20, w17))))))))))))))))))
def f_X9_bestPolicy (a0 : Nat) (x1 : Int32) (w : MW) : Option ((String ⊕ Int32) × MW) :=
  hz_gd (hz_g 358 a0 10) (hz_bx (f_X9_needDomain a0 x1 w) (fun _ w1 => Option.bind (lp_X9_bestPolicy_16 a0 x1 3000 (0, 25, 0, 0, w1)) (fun q3 : Int32 × MW => some (.inr q3.1, q3.2))))
set_option maxHeartbeats 4000000 in
set_option maxRecDepth 100000 in
theorem ct_X9_bestPolicy {l : Launch} (hl : l.stackTraces = false) {B : Bt} {a0 : Nat} {x1 : Int32} {w : MW} {r : (String ⊕ Int32) × MW} (h : f_X9_bestPolicy a0 x1 w = some r) : hz_MetX l B 358 yX9_bestPolicy cX9_bestPolicy 10 (Option.some FieldType.int) 9 2 12 [.ref (B.1 + a0), .int x1] w (Sum.map id (fun r => some (.int r)) r.1) r.2 := by
  refine hz_ofJX (rv := (fun r : Int32 => some (.int r))) (own := RX9) hl (by decide) rfl (Nat.le_of_ble_eq_true rfl) rfl ?_ h
  intro p e s m args below meth c
  unfold f_X9_bestPolicy
  refine hz_gdr (fun ga0 => ?_)
  refine hz_aload_n (pc' := 1) (j := 0) dX9_bestPolicy_0 rfl rfl rfl ?_
  refine hz_iload_n (pc' := 2) (j := 1) dX9_bestPolicy_1 rfl rfl rfl ?_
  refine hz_xVv (pc' := 5) (av := [.int x1]) (rest := []) vl_X9_116 (fun v w' h => ct_X9_needDomain hl h) ga0 rfl rfl (Nat.le_of_ble_eq_true rfl) (by decide) (by decide) dX9_bestPolicy_2 rfl (fun w1 => ?_)
  refine hz_iconst (pc' := 6) (v := 0) dX9_bestPolicy_5 rfl (by decide) ?_
  refine hz_istore_n (pc' := 7) (L' := [(2, .int 0), (0, .ref (B.1 + a0)), (1, .int x1)]) dX9_bestPolicy_6 rfl rfl (by decide) rfl ?_
  refine hz_bipush (pc' := 9) (v := 25) dX9_bestPolicy_7 rfl (by decide) ?_
  refine hz_istore_n (pc' := 10) (L' := [(3, .int 25), (2, .int 0), (0, .ref (B.1 + a0)), (1, .int x1)]) dX9_bestPolicy_9 rfl rfl (by decide) rfl ?_
  refine hz_lconst (pc' := 11) (v := 0) dX9_bestPolicy_10 rfl (by decide) ?_
  refine hz_lstore (pc' := 13) (L' := [(4, .long 0), (3, .int 25), (2, .int 0), (0, .ref (B.1 + a0)), (1, .int x1)]) dX9_bestPolicy_11 rfl (by decide) rfl ?_
  refine hz_iconst (pc' := 14) (v := 0) dX9_bestPolicy_13 rfl (by decide) ?_
  refine hz_istore (pc' := 16) (L' := [(6, .int 0), (4, .long 0), (3, .int 25), (2, .int 0), (0, .ref (B.1 + a0)), (1, .int x1)]) dX9_bestPolicy_14 rfl (by decide) rfl ?_
  refine hz_bindJ (pcJ := 111) (LJ := fun q3 : Int32 × MW => [(2, .int q3.1)]) (stJ := fun _ => []) (kJ := 2) (slJ := 12) (nJ := 358) (wJ := fun q3 : Int32 × MW => q3.2) (fun q3 => ?_) (fun hq3 => ?_)
  · refine hz_iload_n (pc' := 112) (j := 0) dX9_bestPolicy_111 rfl rfl rfl ?_
    exact hz_retiX dX9_bestPolicy_112 rfl (by decide)
  · refine hz_loc [4, 5, 3, 2, 1, 0] rfl (hz_loopJ (lp := lp_X9_bestPolicy_16 a0 x1) (Lh := fun v2 : Int32 × Int32 × Int64 × Int32 × MW => [(0, .ref (B.1 + a0)), (1, .int x1), (2, .int v2.1), (3, .int v2.2.1), (4, .long v2.2.2.1), (6, .int v2.2.2.2.1)]) (wh := fun v2 : Int32 × Int32 × Int64 × Int32 × MW => v2.2.2.2.2) (fun _ => rfl) (fun Nv2 ihv2 v2 => ?_) 3000 (0, 25, 0, 0, w1))
    rw [lp_X9_bestPolicy_16]
    refine hz_iload (pc' := 18) (j := 5) dX9_bestPolicy_16 rfl rfl ?_
    refine hz_iconst (pc' := 19) (v := 4) dX9_bestPolicy_18 rfl (by decide) ?_
    refine hz_icmpge (pc' := 22) (tgt := 111) dX9_bestPolicy_19 (by decide) rfl ?_ ?_
    · exact hz_loc [2] rfl (hq3 (v2.1, v2.2.2.2.2))
    · refine hz_aload_n (pc' := 23) (j := 0) dX9_bestPolicy_22 rfl rfl rfl ?_
      refine hz_gP (pc' := 26) (c' := 4) fl_X9_41.r ga0 rfl dX9_bestPolicy_23 rfl (fun b4 gb4 => ?_)
      refine hz_aload_n (pc' := 27) (j := 0) dX9_bestPolicy_26 rfl rfl rfl ?_
      refine hz_gP (pc' := 30) (c' := 4) fl_X9_37.r ga0 rfl dX9_bestPolicy_27 rfl (fun b5 gb5 => ?_)
      refine hz_cVv (pc' := 33) (av := [.ref (B.1 + b5)]) (rest := []) vl_X9_290 (fun w' h => ct_X3_copyFrom hl h) gb4 rfl rfl (Nat.le_of_ble_eq_true rfl) (by decide) (by decide) rfl dX9_bestPolicy_30 rfl (fun w6 => ?_)
      refine hz_aload_n (pc' := 34) (j := 0) dX9_bestPolicy_33 rfl rfl rfl ?_
      refine hz_gP (pc' := 37) (c' := 4) fl_X9_41.r ga0 rfl dX9_bestPolicy_34 rfl (fun b7 gb7 => ?_)
      refine hz_gP (pc' := 40) (c' := 20) fl_X9_157 gb7 rfl dX9_bestPolicy_37 rfl (fun b8 gb8 => ?_)
      refine hz_iload_n (pc' := 41) (j := 1) dX9_bestPolicy_40 rfl rfl rfl ?_
      refine hz_iload (pc' := 43) (j := 5) dX9_bestPolicy_41 rfl rfl ?_
      refine hz_iast (pc' := 44) gb8 dX9_bestPolicy_43 rfl (fun w9 => ?_)
      refine hz_aload_n (pc' := 45) (j := 0) dX9_bestPolicy_44 rfl rfl rfl ?_
      refine hz_gP (pc' := 48) (c' := 4) fl_X9_41.r ga0 rfl dX9_bestPolicy_45 rfl (fun b10 gb10 => ?_)
      refine hz_cVv (pc' := 51) (av := []) (rest := []) vl_X9_292 (fun w' h => ct_X3_passTicksUntilOver hl h) gb10 rfl rfl (Nat.le_of_ble_eq_true rfl) (by decide) (by decide) rfl dX9_bestPolicy_48 rfl (fun w11 => ?_)
      refine hz_aload_n (pc' := 52) (j := 0) dX9_bestPolicy_51 rfl rfl rfl ?_
      refine hz_gP (pc' := 55) (c' := 4) fl_X9_41.r ga0 rfl dX9_bestPolicy_52 rfl (fun b12 gb12 => ?_)
      refine hz_gP (pc' := 58) (c' := 2) fl_X9_119 gb12 rfl dX9_bestPolicy_55 rfl (fun b13 gb13 => ?_)
      refine hz_cVi (pc' := 61) (av := []) (rest := []) vl_X9_298 (fun x w' h => ct_X1_lateOrOpen hl h) gb13 rfl rfl (Nat.le_of_ble_eq_true rfl) (by decide) (by decide) rfl dX9_bestPolicy_58 rfl (fun v15 w14 => ?_)
      refine hz_cSi (pc' := 64) (av := [.int v15]) (rest := []) sl_X9_265 (fun x w' h => ct_J6_bitCount_0f7a4 hl h) rfl rfl (Nat.le_of_ble_eq_true rfl) (by decide) (by decide) rfl dX9_bestPolicy_61 rfl (fun v17 w16 => ?_)
      refine hz_istore (pc' := 66) (L' := [(7, .int v17), (0, .ref (B.1 + a0)), (1, .int x1), (2, .int v2.1), (3, .int v2.2.1), (4, .long v2.2.2.1), (6, .int v2.2.2.2.1)]) dX9_bestPolicy_64 rfl (by decide) rfl ?_
      refine hz_aload_n (pc' := 67) (j := 1) dX9_bestPolicy_66 rfl rfl rfl ?_
      refine hz_gP (pc' := 70) (c' := 4) fl_X9_41.r ga0 rfl dX9_bestPolicy_67 rfl (fun b18 gb18 => ?_)
      refine hz_cVl (pc' := 73) (av := []) (rest := []) vl_X9_306 (fun x w' h => ct_X3_energySum hl h) gb18 rfl rfl (Nat.le_of_ble_eq_true rfl) (by decide) (by decide) rfl dX9_bestPolicy_70 rfl (fun v20 w19 => ?_)
      refine hz_lstore (pc' := 75) (L' := [(8, .long v20), (7, .int v17), (0, .ref (B.1 + a0)), (1, .int x1), (2, .int v2.1), (3, .int v2.2.1), (4, .long v2.2.2.1), (6, .int v2.2.2.2.1)]) dX9_bestPolicy_73 rfl (by decide) rfl ?_
      refine hz_iload (pc' := 77) (j := 1) dX9_bestPolicy_75 rfl rfl ?_
      refine hz_iload_n (pc' := 78) (j := 5) dX9_bestPolicy_77 rfl rfl rfl ?_
      refine hz_bindJ (pcJ := 105) (LJ := fun q21 : Int32 × Int32 × Int64 => [(0, .ref (B.1 + a0)), (1, .int x1), (2, .int q21.1), (3, .int q21.2.1), (4, .long q21.2.2), (6, .int v2.2.2.2.1)]) (stJ := fun q21 : Int32 × Int32 × Int64 => []) (kJ := 2) (slJ := 12) (nJ := 358) (wJ := fun q21 : Int32 × Int32 × Int64 => w19) (fun q21 => ?_) (fun hq21 => ?_)
      · refine hz_iincN (pc' := 108) (j := 5) (fun v22 => [(6, .int v22), (0, .ref (B.1 + a0)), (1, .int x1), (2, .int q21.1), (3, .int q21.2.1), (4, .long q21.2.2)]) dX9_bestPolicy_105 rfl rfl (by decide) (fun _ => rfl) (fun v22 => ?_)
        refine hz_goto (tgt := 16) dX9_bestPolicy_108 (by decide) ?_
        exact hz_loc [1, 2, 3, 4, 5, 0] rfl (ihv2 (q21.1, q21.2.1, q21.2.2, v22, w19))
      · refine hz_icmplt (pc' := 81) (tgt := 95) dX9_bestPolicy_78 (by decide) rfl ?_ ?_
        · refine hz_iload (pc' := 97) (j := 7) dX9_bestPolicy_95 rfl rfl ?_
          refine hz_istore_n (pc' := 98) (L' := [(2, .int v2.2.2.2.1), (8, .long v20), (7, .int v17), (0, .ref (B.1 + a0)), (1, .int x1), (3, .int v2.2.1), (4, .long v2.2.2.1), (6, .int v2.2.2.2.1)]) dX9_bestPolicy_97 rfl rfl (by decide) rfl ?_
          refine hz_iload (pc' := 100) (j := 2) dX9_bestPolicy_98 rfl rfl ?_
          refine hz_istore_n (pc' := 101) (L' := [(3, .int v17), (2, .int v2.2.2.2.1), (8, .long v20), (7, .int v17), (0, .ref (B.1 + a0)), (1, .int x1), (4, .long v2.2.2.1), (6, .int v2.2.2.2.1)]) dX9_bestPolicy_100 rfl rfl (by decide) rfl ?_
          refine hz_lload (pc' := 103) (j := 2) dX9_bestPolicy_101 rfl rfl ?_
          refine hz_lstore (pc' := 105) (L' := [(4, .long v20), (3, .int v17), (2, .int v2.2.2.2.1), (8, .long v20), (7, .int v17), (0, .ref (B.1 + a0)), (1, .int x1), (6, .int v2.2.2.2.1)]) dX9_bestPolicy_103 rfl (by decide) rfl ?_
          exact hz_loc [5, 6, 2, 1, 0, 7] rfl (hq21 (v2.2.2.2.1, v17, v20))
        · refine hz_iload (pc' := 83) (j := 1) dX9_bestPolicy_81 rfl rfl ?_
          refine hz_iload_n (pc' := 84) (j := 5) dX9_bestPolicy_83 rfl rfl rfl ?_
          refine hz_icmpne (pc' := 87) (tgt := 105) dX9_bestPolicy_84 (by decide) rfl ?_ ?_
          · exact hz_loc [2, 3, 4, 5, 6, 7] rfl (hq21 (v2.1, v2.2.1, v2.2.2.1))
          · refine hz_lload (pc' := 89) (j := 0) dX9_bestPolicy_87 rfl rfl ?_
            refine hz_lload (pc' := 91) (j := 6) dX9_bestPolicy_89 rfl rfl ?_
            refine hz_lcmp (pc' := 92) dX9_bestPolicy_91 rfl ?_
            refine hz_ifge (pc' := 95) (tgt := 105) dX9_bestPolicy_92 (by decide) rfl ?_ ?_
            · exact hz_loc [2, 3, 4, 5, 6, 7] rfl (hq21 (v2.1, v2.2.1, v2.2.2.1))
            · refine hz_iload (pc' := 97) (j := 7) dX9_bestPolicy_95 rfl rfl ?_
              refine hz_istore_n (pc' := 98) (L' := [(2, .int v2.2.2.2.1), (8, .long v20), (7, .int v17), (0, .ref (B.1 + a0)), (1, .int x1), (3, .int v2.2.1), (4, .long v2.2.2.1), (6, .int v2.2.2.2.1)]) dX9_bestPolicy_97 rfl rfl (by decide) rfl ?_
              refine hz_iload (pc' := 100) (j := 2) dX9_bestPolicy_98 rfl rfl ?_
              refine hz_istore_n (pc' := 101) (L' := [(3, .int v17), (2, .int v2.2.2.2.1), (8, .long v20), (7, .int v17), (0, .ref (B.1 + a0)), (1, .int x1), (4, .long v2.2.2.1), (6, .int v2.2.2.2.1)]) dX9_bestPolicy_100 rfl rfl (by decide) rfl ?_
              refine hz_lload (pc' := 103) (j := 2) dX9_bestPolicy_101 rfl rfl ?_
              refine hz_lstore (pc' := 105) (L' := [(4, .long v20), (3, .int v17), (2, .int v2.2.2.2.1), (8, .long v20), (7, .int v17), (0, .ref (B.1 + a0)), (1, .int x1), (6, .int v2.2.2.2.1)]) dX9_bestPolicy_103 rfl (by decide) rfl ?_
              exact hz_loc [5, 6, 2, 1, 0, 7] rfl (hq21 (v2.2.2.2.1, v17, v20))
def lp_X9_coolLimit_32 (c0 : Nat) (c1 : Int32) : Nat → (Int32 × Int32 × MW) → Option (Int32 × MW)
  | 0, _ => none
  | N + 1, v0 => (if 1000 ≤ v0.2.1 then some (v0.1, v0.2.2) else hz_ldp v0.2.2 c0 4 358 4 (fun b8 => hz_ldp v0.2.2 b8 1 358 2 (fun b9 => hz_b (f_X1_areOver b9 v0.2.2) (fun v11 w10 => (if v11 = 0 then hz_ldp w10 c0 4 358 4 (fun b12 => hz_b (f_X3_passTick b12 w10) (fun v14 w13 => hz_ldp w13 c0 4 358 4 (fun b15 => hz_ldp w13 b15 13 358 20 (fun b16 => hz_lda w13 b16 c1 (fun v17 => Option.bind ((if v17 ≤ 0 then some v0.1 else hz_ldp w13 c0 4 358 4 (fun b20 => hz_ldp w13 b20 6 358 20 (fun b21 => hz_lda w13 b21 c1 (fun v22 => hz_let (if v0.1 < v22 then v22 else v0.1) (fun v23 => some v23)))))) (fun q18 : Int32 => hz_let (v0.2.1 + Int32.ofInt 1) (fun v19 => lp_X9_coolLimit_32 c0 c1 N (q18, v19, w13)))))))) else some (v0.1, w10))))))
def f_X9_coolLimit (a0 : Nat) (x1 : Int32) (w : MW) : Option ((String ⊕ Int32) × MW) :=
  hz_gd (hz_g 358 a0 10) (hz_bx (f_X9_needDomain a0 x1 w) (fun _ w1 => hz_ldp w1 a0 4 358 4 (fun b2 => hz_ldp w1 a0 3 358 4 (fun b3 => hz_bv (f_X3_copyFrom b2 b3 w1) (fun w4 => hz_ldp w4 a0 4 358 4 (fun b5 => hz_ldp w4 b5 4 358 20 (fun b6 => hz_sta w4 b6 x1 2147483647 (fun w7 => Option.bind (lp_X9_coolLimit_32 a0 x1 3000 (0, 0, w7)) (fun q9 : Int32 × MW => Option.bind ((if q9.1 ≤ 99999 then some q9.1 else some (-2))) (fun q10 : Int32 => some (.inr q10, q9.2)))))))))))
set_option maxHeartbeats 4000000 in
set_option maxRecDepth 100000 in
theorem ct_X9_coolLimit {l : Launch} (hl : l.stackTraces = false) {B : Bt} {a0 : Nat} {x1 : Int32} {w : MW} {r : (String ⊕ Int32) × MW} (h : f_X9_coolLimit a0 x1 w = some r) : hz_MetX l B 358 yX9_coolLimit cX9_coolLimit 4 (Option.some FieldType.int) 9 2 12 [.ref (B.1 + a0), .int x1] w (Sum.map id (fun r => some (.int r)) r.1) r.2 := by
  refine hz_ofJX (rv := (fun r : Int32 => some (.int r))) (own := RX9) hl (by decide) rfl (Nat.le_of_ble_eq_true rfl) rfl ?_ h
  intro p e s m args below meth c
  unfold f_X9_coolLimit
  refine hz_gdr (fun ga0 => ?_)
  refine hz_aload_n (pc' := 1) (j := 0) dX9_coolLimit_0 rfl rfl rfl ?_
  refine hz_iload_n (pc' := 2) (j := 1) dX9_coolLimit_1 rfl rfl rfl ?_
  refine hz_xVv (pc' := 5) (av := [.int x1]) (rest := []) vl_X9_116 (fun v w' h => ct_X9_needDomain hl h) ga0 rfl rfl (Nat.le_of_ble_eq_true rfl) (by decide) (by decide) dX9_coolLimit_2 rfl (fun w1 => ?_)
  refine hz_aload_n (pc' := 6) (j := 0) dX9_coolLimit_5 rfl rfl rfl ?_
  refine hz_gP (pc' := 9) (c' := 4) fl_X9_41.r ga0 rfl dX9_coolLimit_6 rfl (fun b2 gb2 => ?_)
  refine hz_aload_n (pc' := 10) (j := 0) dX9_coolLimit_9 rfl rfl rfl ?_
  refine hz_gP (pc' := 13) (c' := 4) fl_X9_37.r ga0 rfl dX9_coolLimit_10 rfl (fun b3 gb3 => ?_)
  refine hz_cVv (pc' := 16) (av := [.ref (B.1 + b3)]) (rest := []) vl_X9_290 (fun w' h => ct_X3_copyFrom hl h) gb2 rfl rfl (Nat.le_of_ble_eq_true rfl) (by decide) (by decide) rfl dX9_coolLimit_13 rfl (fun w4 => ?_)
  refine hz_aload_n (pc' := 17) (j := 0) dX9_coolLimit_16 rfl rfl rfl ?_
  refine hz_gP (pc' := 20) (c' := 4) fl_X9_41.r ga0 rfl dX9_coolLimit_17 rfl (fun b5 gb5 => ?_)
  refine hz_gP (pc' := 23) (c' := 20) fl_X9_161 gb5 rfl dX9_coolLimit_20 rfl (fun b6 gb6 => ?_)
  refine hz_iload_n (pc' := 24) (j := 1) dX9_coolLimit_23 rfl rfl rfl ?_
  refine hz_ldcw (pc' := 27) (v := 2147483647) dX9_coolLimit_24 rfl hq_1124 ?_
  refine hz_iast (pc' := 28) gb6 dX9_coolLimit_27 rfl (fun w7 => ?_)
  refine hz_iconst (pc' := 29) (v := 0) dX9_coolLimit_28 rfl (by decide) ?_
  refine hz_istore_n (pc' := 30) (L' := [(2, .int 0), (0, .ref (B.1 + a0)), (1, .int x1)]) dX9_coolLimit_29 rfl rfl (by decide) rfl ?_
  refine hz_iconst (pc' := 31) (v := 0) dX9_coolLimit_30 rfl (by decide) ?_
  refine hz_istore_n (pc' := 32) (L' := [(3, .int 0), (2, .int 0), (0, .ref (B.1 + a0)), (1, .int x1)]) dX9_coolLimit_31 rfl rfl (by decide) rfl ?_
  refine hz_bindJ (pcJ := 92) (LJ := fun q9 : Int32 × MW => [(2, .int q9.1)]) (stJ := fun _ => []) (kJ := 2) (slJ := 12) (nJ := 358) (wJ := fun q9 : Int32 × MW => q9.2) (fun q9 => ?_) (fun hq9 => ?_)
  · refine hz_iload_n (pc' := 93) (j := 0) dX9_coolLimit_92 rfl rfl rfl ?_
    refine hz_ldc (pc' := 95) (v := 99999) dX9_coolLimit_93 rfl hq_757 ?_
    refine hz_bindJ (pcJ := 104) (LJ := fun q10 : Int32 => []) (stJ := fun q10 : Int32 => [.int q10]) (kJ := 2) (slJ := 12) (nJ := 358) (wJ := fun q10 : Int32 => q9.2) (fun q10 => ?_) (fun hq10 => ?_)
    · exact hz_retiX dX9_coolLimit_104 rfl (by decide)
    · refine hz_icmple (pc' := 98) (tgt := 103) dX9_coolLimit_95 (by decide) rfl ?_ ?_
      · refine hz_iload_n (pc' := 104) (j := 0) dX9_coolLimit_103 rfl rfl rfl ?_
        exact hz_loc [] rfl (hq10 q9.1)
      · refine hz_bipush (pc' := 100) (v := (-2)) dX9_coolLimit_98 rfl (by decide) ?_
        refine hz_goto (tgt := 104) dX9_coolLimit_100 (by decide) ?_
        exact hz_loc [] rfl (hq10 (-2))
  · refine hz_loc [2, 3, 1, 0] rfl (hz_loopJ (lp := lp_X9_coolLimit_32 a0 x1) (Lh := fun v8 : Int32 × Int32 × MW => [(0, .ref (B.1 + a0)), (1, .int x1), (2, .int v8.1), (3, .int v8.2.1)]) (wh := fun v8 : Int32 × Int32 × MW => v8.2.2) (fun _ => rfl) (fun Nv8 ihv8 v8 => ?_) 3000 (0, 0, w7))
    rw [lp_X9_coolLimit_32]
    refine hz_iload_n (pc' := 33) (j := 3) dX9_coolLimit_32 rfl rfl rfl ?_
    refine hz_sipush (pc' := 36) (v := 1000) dX9_coolLimit_33 rfl (by decide) ?_
    refine hz_icmpge (pc' := 39) (tgt := 92) dX9_coolLimit_36 (by decide) rfl ?_ ?_
    · exact hz_loc [2] rfl (hq9 (v8.1, v8.2.2))
    · refine hz_aload_n (pc' := 40) (j := 0) dX9_coolLimit_39 rfl rfl rfl ?_
      refine hz_gP (pc' := 43) (c' := 4) fl_X9_41.r ga0 rfl dX9_coolLimit_40 rfl (fun b11 gb11 => ?_)
      refine hz_gP (pc' := 46) (c' := 2) fl_X9_119 gb11 rfl dX9_coolLimit_43 rfl (fun b12 gb12 => ?_)
      refine hz_cVi (pc' := 49) (av := []) (rest := []) vl_X9_295 (fun x w' h => ct_X1_areOver hl h) gb12 rfl rfl (Nat.le_of_ble_eq_true rfl) (by decide) (by decide) rfl dX9_coolLimit_46 rfl (fun v14 w13 => ?_)
      refine hz_ifne (pc' := 52) (tgt := 92) dX9_coolLimit_49 (by decide) rfl ?_ ?_
      · exact hz_loc [2] rfl (hq9 (v8.1, w13))
      · refine hz_aload_n (pc' := 53) (j := 0) dX9_coolLimit_52 rfl rfl rfl ?_
        refine hz_gP (pc' := 56) (c' := 4) fl_X9_41.r ga0 rfl dX9_coolLimit_53 rfl (fun b15 gb15 => ?_)
        refine hz_cVi (pc' := 59) (av := []) (rest := []) vl_X9_170 (fun x w' h => ct_X3_passTick hl h) gb15 rfl rfl (Nat.le_of_ble_eq_true rfl) (by decide) (by decide) rfl dX9_coolLimit_56 rfl (fun v17 w16 => ?_)
        refine hz_pop (pc' := 60) dX9_coolLimit_59 rfl rfl ?_
        refine hz_aload_n (pc' := 61) (j := 0) dX9_coolLimit_60 rfl rfl rfl ?_
        refine hz_gP (pc' := 64) (c' := 4) fl_X9_41.r ga0 rfl dX9_coolLimit_61 rfl (fun b18 gb18 => ?_)
        refine hz_gP (pc' := 67) (c' := 20) fl_X9_311 gb18 rfl dX9_coolLimit_64 rfl (fun b19 gb19 => ?_)
        refine hz_iload_n (pc' := 68) (j := 1) dX9_coolLimit_67 rfl rfl rfl ?_
        refine hz_iald (pc' := 69) gb19 dX9_coolLimit_68 rfl (fun v20 => ?_)
        refine hz_bindJ (pcJ := 86) (LJ := fun q21 : Int32 => [(0, .ref (B.1 + a0)), (1, .int x1), (2, .int q21), (3, .int v8.2.1)]) (stJ := fun q21 : Int32 => []) (kJ := 2) (slJ := 12) (nJ := 358) (wJ := fun q21 : Int32 => w16) (fun q21 => ?_) (fun hq21 => ?_)
        · refine hz_iincN (pc' := 89) (j := 3) (fun v22 => [(3, .int v22), (0, .ref (B.1 + a0)), (1, .int x1), (2, .int q21)]) dX9_coolLimit_86 rfl rfl (by decide) (fun _ => rfl) (fun v22 => ?_)
          refine hz_goto (tgt := 32) dX9_coolLimit_89 (by decide) ?_
          exact hz_loc [1, 2, 3, 0] rfl (ihv8 (q21, v22, w16))
        · refine hz_ifle (pc' := 72) (tgt := 86) dX9_coolLimit_69 (by decide) rfl ?_ ?_
          · exact hz_loc [0, 1, 2, 3] rfl (hq21 v8.1)
          · refine hz_iload_n (pc' := 73) (j := 2) dX9_coolLimit_72 rfl rfl rfl ?_
            refine hz_aload_n (pc' := 74) (j := 0) dX9_coolLimit_73 rfl rfl rfl ?_
            refine hz_gP (pc' := 77) (c' := 4) fl_X9_41.r ga0 rfl dX9_coolLimit_74 rfl (fun b23 gb23 => ?_)
            refine hz_gP (pc' := 80) (c' := 20) fl_X9_174 gb23 rfl dX9_coolLimit_77 rfl (fun b24 gb24 => ?_)
            refine hz_iload_n (pc' := 81) (j := 1) dX9_coolLimit_80 rfl rfl rfl ?_
            refine hz_iald (pc' := 82) gb24 dX9_coolLimit_81 rfl (fun v25 => ?_)
            refine hz_mmax (pc' := 85) hq_1091 hq_824 hq_17 hq_825 ⟨Nat.le_of_ble_eq_true rfl, Nat.le_of_ble_eq_true rfl⟩ (by decide) dX9_coolLimit_82 rfl ?_
            refine hz_nameI (fun v26 => ?_)
            refine hz_istore_n (pc' := 86) (L' := [(2, .int v26), (0, .ref (B.1 + a0)), (1, .int x1), (3, .int v8.2.1)]) dX9_coolLimit_85 rfl rfl (by decide) rfl ?_
            exact hz_loc [1, 2, 0, 3] rfl (hq21 v26)
def f_X9_levelEnergy (a0 : Nat) (x1 : Int32) (x2 : Int32) (x3 : Int32) (x4 : Int32) (w : MW) : Option ((String ⊕ Int32) × MW) :=
  hz_gd (hz_g 358 a0 10) (hz_bx (f_X9_needDomain a0 x1 w) (fun _ w1 => hz_ldp w1 a0 2 358 3 (fun b2 => hz_ldp w1 b2 10 358 20 (fun b3 => hz_lda w1 b3 x1 (fun v4 => hz_bx (f_X9_needRange x2 0 (v4 - 1) w1) (fun _ w5 => hz_bx (f_X9_needRange x3 1 9999 w5) (fun _ w6 => hz_bx (f_X9_needRange x4 1 9999 w6) (fun _ w7 => hz_ldp w7 a0 2 358 3 (fun b8 => hz_b (f_X2_energyAt b8 x1 x2 x3 x4 w7) (fun v10 w9 => some (.inr v10, w9)))))))))))
set_option maxHeartbeats 4000000 in
set_option maxRecDepth 100000 in
theorem ct_X9_levelEnergy {l : Launch} (hl : l.stackTraces = false) {B : Bt} {a0 : Nat} {x1 : Int32} {x2 : Int32} {x3 : Int32} {x4 : Int32} {w : MW} {r : (String ⊕ Int32) × MW} (h : f_X9_levelEnergy a0 x1 x2 x3 x4 w = some r) : hz_MetX l B 358 yX9_levelEnergy cX9_levelEnergy 5 (Option.some FieldType.int) 9 5 30 [.ref (B.1 + a0), .int x1, .int x2, .int x3, .int x4] w (Sum.map id (fun r => some (.int r)) r.1) r.2 := by
  refine hz_ofJX (rv := (fun r : Int32 => some (.int r))) (own := RX9) hl (by decide) rfl (Nat.le_of_ble_eq_true rfl) rfl ?_ h
  intro p e s m args below meth c
  unfold f_X9_levelEnergy
  refine hz_gdr (fun ga0 => ?_)
  refine hz_aload_n (pc' := 1) (j := 0) dX9_levelEnergy_0 rfl rfl rfl ?_
  refine hz_iload_n (pc' := 2) (j := 1) dX9_levelEnergy_1 rfl rfl rfl ?_
  refine hz_xVv (pc' := 5) (av := [.int x1]) (rest := []) vl_X9_116 (fun v w' h => ct_X9_needDomain hl h) ga0 rfl rfl (Nat.le_of_ble_eq_true rfl) (by decide) (by decide) dX9_levelEnergy_2 rfl (fun w1 => ?_)
  refine hz_iload_n (pc' := 6) (j := 2) dX9_levelEnergy_5 rfl rfl rfl ?_
  refine hz_iconst (pc' := 7) (v := 0) dX9_levelEnergy_6 rfl (by decide) ?_
  refine hz_aload_n (pc' := 8) (j := 0) dX9_levelEnergy_7 rfl rfl rfl ?_
  refine hz_gP (pc' := 11) (c' := 3) fl_X9_28.r ga0 rfl dX9_levelEnergy_8 rfl (fun b2 gb2 => ?_)
  refine hz_gP (pc' := 14) (c' := 20) fl_X9_195 gb2 rfl dX9_levelEnergy_11 rfl (fun b3 gb3 => ?_)
  refine hz_iload_n (pc' := 15) (j := 1) dX9_levelEnergy_14 rfl rfl rfl ?_
  refine hz_iald (pc' := 16) gb3 dX9_levelEnergy_15 rfl (fun v4 => ?_)
  refine hz_iconst (pc' := 17) (v := 1) dX9_levelEnergy_16 rfl (by decide) ?_
  refine hz_isub (pc' := 18) dX9_levelEnergy_17 rfl ?_
  refine hz_xSv (pc' := 21) (av := [.int x2, .int 0, .int (v4 - 1)]) (rest := []) sl_X9_87 (fun v w' h => ct_X9_needRange hl h) rfl rfl (Nat.le_of_ble_eq_true rfl) (by decide) (by decide) dX9_levelEnergy_18 rfl (fun w5 => ?_)
  refine hz_iload_n (pc' := 22) (j := 3) dX9_levelEnergy_21 rfl rfl rfl ?_
  refine hz_iconst (pc' := 23) (v := 1) dX9_levelEnergy_22 rfl (by decide) ?_
  refine hz_sipush (pc' := 26) (v := 9999) dX9_levelEnergy_23 rfl (by decide) ?_
  refine hz_xSv (pc' := 29) (av := [.int x3, .int 1, .int 9999]) (rest := []) sl_X9_87 (fun v w' h => ct_X9_needRange hl h) rfl rfl (Nat.le_of_ble_eq_true rfl) (by decide) (by decide) dX9_levelEnergy_26 rfl (fun w6 => ?_)
  refine hz_iload (pc' := 31) (j := 4) dX9_levelEnergy_29 rfl rfl ?_
  refine hz_iconst (pc' := 32) (v := 1) dX9_levelEnergy_31 rfl (by decide) ?_
  refine hz_sipush (pc' := 35) (v := 9999) dX9_levelEnergy_32 rfl (by decide) ?_
  refine hz_xSv (pc' := 38) (av := [.int x4, .int 1, .int 9999]) (rest := []) sl_X9_87 (fun v w' h => ct_X9_needRange hl h) rfl rfl (Nat.le_of_ble_eq_true rfl) (by decide) (by decide) dX9_levelEnergy_35 rfl (fun w7 => ?_)
  refine hz_aload_n (pc' := 39) (j := 0) dX9_levelEnergy_38 rfl rfl rfl ?_
  refine hz_gP (pc' := 42) (c' := 3) fl_X9_28.r ga0 rfl dX9_levelEnergy_39 rfl (fun b8 gb8 => ?_)
  refine hz_iload_n (pc' := 43) (j := 1) dX9_levelEnergy_42 rfl rfl rfl ?_
  refine hz_iload_n (pc' := 44) (j := 2) dX9_levelEnergy_43 rfl rfl rfl ?_
  refine hz_iload_n (pc' := 45) (j := 3) dX9_levelEnergy_44 rfl rfl rfl ?_
  refine hz_iload (pc' := 47) (j := 4) dX9_levelEnergy_45 rfl rfl ?_
  refine hz_cVi (pc' := 50) (av := [.int x1, .int x2, .int x3, .int x4]) (rest := []) vl_X9_314 (fun x w' h => ct_X2_energyAt hl h) gb8 rfl rfl (Nat.le_of_ble_eq_true rfl) (by decide) (by decide) rfl dX9_levelEnergy_47 rfl (fun v10 w9 => ?_)
  exact hz_retiX dX9_levelEnergy_50 rfl (by decide)
def lp_X9_bestLevel_33 (c0 : Nat) (c1 : Int32) (c2 : Int32) (c3 : Int32) : Nat → (Int32 × Int32 × Int32 × MW) → Option (Int32 × MW)
  | 0, _ => none
  | N + 1, v0 => hz_ldp v0.2.2.2 c0 2 358 3 (fun b4 => hz_ldp v0.2.2.2 b4 10 358 20 (fun b5 => hz_lda v0.2.2.2 b5 c1 (fun v6 => (if v6 ≤ v0.2.2.1 then some (v0.1, v0.2.2.2) else hz_ldp v0.2.2.2 c0 2 358 3 (fun b7 => hz_b (f_X2_energyAt b7 c1 v0.2.2.1 c2 c3 v0.2.2.2) (fun v9 w8 => Option.bind ((if v9 = (-2) then some (v0.1, v0.2.1) else (if v0.2.1 < v9 then some (v0.1, v0.2.1) else some (v0.2.2.1, v9)))) (fun q10 : Int32 × Int32 => hz_let (v0.2.2.1 + Int32.ofInt 1) (fun v11 => lp_X9_bestLevel_33 c0 c1 c2 c3 N (q10.1, q10.2, v11, w8)))))))))
def f_X9_bestLevel (a0 : Nat) (x1 : Int32) (x2 : Int32) (x3 : Int32) (w : MW) : Option ((String ⊕ Int32) × MW) :=
  hz_gd (hz_g 358 a0 10) (hz_bx (f_X9_needDomain a0 x1 w) (fun _ w1 => hz_bx (f_X9_needRange x2 1 9999 w1) (fun _ w2 => hz_bx (f_X9_needRange x3 1 9999 w2) (fun _ w3 => Option.bind (lp_X9_bestLevel_33 a0 x1 x2 x3 3000 ((-2), 2147483647, 0, w3)) (fun q5 : Int32 × MW => some (.inr q5.1, q5.2))))))
set_option maxHeartbeats 4000000 in
set_option maxRecDepth 100000 in
theorem ct_X9_bestLevel {l : Launch} (hl : l.stackTraces = false) {B : Bt} {a0 : Nat} {x1 : Int32} {x2 : Int32} {x3 : Int32} {w : MW} {r : (String ⊕ Int32) × MW} (h : f_X9_bestLevel a0 x1 x2 x3 w = some r) : hz_MetX l B 358 yX9_bestLevel cX9_bestLevel 8 (Option.some FieldType.int) 9 4 24 [.ref (B.1 + a0), .int x1, .int x2, .int x3] w (Sum.map id (fun r => some (.int r)) r.1) r.2 := by
  refine hz_ofJX (rv := (fun r : Int32 => some (.int r))) (own := RX9) hl (by decide) rfl (Nat.le_of_ble_eq_true rfl) rfl ?_ h
  intro p e s m args below meth c
  unfold f_X9_bestLevel
  refine hz_gdr (fun ga0 => ?_)
  refine hz_aload_n (pc' := 1) (j := 0) dX9_bestLevel_0 rfl rfl rfl ?_
  refine hz_iload_n (pc' := 2) (j := 1) dX9_bestLevel_1 rfl rfl rfl ?_
  refine hz_xVv (pc' := 5) (av := [.int x1]) (rest := []) vl_X9_116 (fun v w' h => ct_X9_needDomain hl h) ga0 rfl rfl (Nat.le_of_ble_eq_true rfl) (by decide) (by decide) dX9_bestLevel_2 rfl (fun w1 => ?_)
  refine hz_iload_n (pc' := 6) (j := 2) dX9_bestLevel_5 rfl rfl rfl ?_
  refine hz_iconst (pc' := 7) (v := 1) dX9_bestLevel_6 rfl (by decide) ?_
  refine hz_sipush (pc' := 10) (v := 9999) dX9_bestLevel_7 rfl (by decide) ?_
  refine hz_xSv (pc' := 13) (av := [.int x2, .int 1, .int 9999]) (rest := []) sl_X9_87 (fun v w' h => ct_X9_needRange hl h) rfl rfl (Nat.le_of_ble_eq_true rfl) (by decide) (by decide) dX9_bestLevel_10 rfl (fun w2 => ?_)
  refine hz_iload_n (pc' := 14) (j := 3) dX9_bestLevel_13 rfl rfl rfl ?_
  refine hz_iconst (pc' := 15) (v := 1) dX9_bestLevel_14 rfl (by decide) ?_
  refine hz_sipush (pc' := 18) (v := 9999) dX9_bestLevel_15 rfl (by decide) ?_
  refine hz_xSv (pc' := 21) (av := [.int x3, .int 1, .int 9999]) (rest := []) sl_X9_87 (fun v w' h => ct_X9_needRange hl h) rfl rfl (Nat.le_of_ble_eq_true rfl) (by decide) (by decide) dX9_bestLevel_18 rfl (fun w3 => ?_)
  refine hz_bipush (pc' := 23) (v := (-2)) dX9_bestLevel_21 rfl (by decide) ?_
  refine hz_istore (pc' := 25) (L' := [(4, .int (-2)), (0, .ref (B.1 + a0)), (1, .int x1), (2, .int x2), (3, .int x3)]) dX9_bestLevel_23 rfl (by decide) rfl ?_
  refine hz_ldcw (pc' := 28) (v := 2147483647) dX9_bestLevel_25 rfl hq_1124 ?_
  refine hz_istore (pc' := 30) (L' := [(5, .int 2147483647), (4, .int (-2)), (0, .ref (B.1 + a0)), (1, .int x1), (2, .int x2), (3, .int x3)]) dX9_bestLevel_28 rfl (by decide) rfl ?_
  refine hz_iconst (pc' := 31) (v := 0) dX9_bestLevel_30 rfl (by decide) ?_
  refine hz_istore (pc' := 33) (L' := [(6, .int 0), (5, .int 2147483647), (4, .int (-2)), (0, .ref (B.1 + a0)), (1, .int x1), (2, .int x2), (3, .int x3)]) dX9_bestLevel_31 rfl (by decide) rfl ?_
  refine hz_bindJ (pcJ := 89) (LJ := fun q5 : Int32 × MW => [(4, .int q5.1)]) (stJ := fun _ => []) (kJ := 4) (slJ := 24) (nJ := 358) (wJ := fun q5 : Int32 × MW => q5.2) (fun q5 => ?_) (fun hq5 => ?_)
  · refine hz_iload (pc' := 91) (j := 0) dX9_bestLevel_89 rfl rfl ?_
    exact hz_retiX dX9_bestLevel_91 rfl (by decide)
  · refine hz_loc [3, 4, 5, 6, 2, 1, 0] rfl (hz_loopJ (lp := lp_X9_bestLevel_33 a0 x1 x2 x3) (Lh := fun v4 : Int32 × Int32 × Int32 × MW => [(0, .ref (B.1 + a0)), (1, .int x1), (2, .int x2), (3, .int x3), (4, .int v4.1), (5, .int v4.2.1), (6, .int v4.2.2.1)]) (wh := fun v4 : Int32 × Int32 × Int32 × MW => v4.2.2.2) (fun _ => rfl) (fun Nv4 ihv4 v4 => ?_) 3000 ((-2), 2147483647, 0, w3))
    rw [lp_X9_bestLevel_33]
    refine hz_iload (pc' := 35) (j := 6) dX9_bestLevel_33 rfl rfl ?_
    refine hz_aload_n (pc' := 36) (j := 0) dX9_bestLevel_35 rfl rfl rfl ?_
    refine hz_gP (pc' := 39) (c' := 3) fl_X9_28.r ga0 rfl dX9_bestLevel_36 rfl (fun b6 gb6 => ?_)
    refine hz_gP (pc' := 42) (c' := 20) fl_X9_195 gb6 rfl dX9_bestLevel_39 rfl (fun b7 gb7 => ?_)
    refine hz_iload_n (pc' := 43) (j := 1) dX9_bestLevel_42 rfl rfl rfl ?_
    refine hz_iald (pc' := 44) gb7 dX9_bestLevel_43 rfl (fun v8 => ?_)
    refine hz_icmpge (pc' := 47) (tgt := 89) dX9_bestLevel_44 (by decide) rfl ?_ ?_
    · exact hz_loc [4] rfl (hq5 (v4.1, v4.2.2.2))
    · refine hz_aload_n (pc' := 48) (j := 0) dX9_bestLevel_47 rfl rfl rfl ?_
      refine hz_gP (pc' := 51) (c' := 3) fl_X9_28.r ga0 rfl dX9_bestLevel_48 rfl (fun b9 gb9 => ?_)
      refine hz_iload_n (pc' := 52) (j := 1) dX9_bestLevel_51 rfl rfl rfl ?_
      refine hz_iload (pc' := 54) (j := 6) dX9_bestLevel_52 rfl rfl ?_
      refine hz_iload_n (pc' := 55) (j := 2) dX9_bestLevel_54 rfl rfl rfl ?_
      refine hz_iload_n (pc' := 56) (j := 3) dX9_bestLevel_55 rfl rfl rfl ?_
      refine hz_cVi (pc' := 59) (av := [.int x1, .int v4.2.2.1, .int x2, .int x3]) (rest := []) vl_X9_314 (fun x w' h => ct_X2_energyAt hl h) gb9 rfl rfl (Nat.le_of_ble_eq_true rfl) (by decide) (by decide) rfl dX9_bestLevel_56 rfl (fun v11 w10 => ?_)
      refine hz_istore (pc' := 61) (L' := [(7, .int v11), (0, .ref (B.1 + a0)), (1, .int x1), (2, .int x2), (3, .int x3), (4, .int v4.1), (5, .int v4.2.1), (6, .int v4.2.2.1)]) dX9_bestLevel_59 rfl (by decide) rfl ?_
      refine hz_iload (pc' := 63) (j := 0) dX9_bestLevel_61 rfl rfl ?_
      refine hz_bipush (pc' := 65) (v := (-2)) dX9_bestLevel_63 rfl (by decide) ?_
      refine hz_bindJ (pcJ := 83) (LJ := fun q12 : Int32 × Int32 => [(0, .ref (B.1 + a0)), (1, .int x1), (2, .int x2), (3, .int x3), (4, .int q12.1), (5, .int q12.2), (6, .int v4.2.2.1)]) (stJ := fun q12 : Int32 × Int32 => []) (kJ := 4) (slJ := 24) (nJ := 358) (wJ := fun q12 : Int32 × Int32 => w10) (fun q12 => ?_) (fun hq12 => ?_)
      · refine hz_iincN (pc' := 86) (j := 6) (fun v13 => [(6, .int v13), (0, .ref (B.1 + a0)), (1, .int x1), (2, .int x2), (3, .int x3), (4, .int q12.1), (5, .int q12.2)]) dX9_bestLevel_83 rfl rfl (by decide) (fun _ => rfl) (fun v13 => ?_)
        refine hz_goto (tgt := 33) dX9_bestLevel_86 (by decide) ?_
        exact hz_loc [1, 2, 3, 4, 5, 6, 0] rfl (ihv4 (q12.1, q12.2, v13, w10))
      · refine hz_icmpeq (pc' := 68) (tgt := 83) dX9_bestLevel_65 (by decide) rfl ?_ ?_
        · exact hz_loc [1, 2, 3, 4, 5, 6, 7] rfl (hq12 (v4.1, v4.2.1))
        · refine hz_iload (pc' := 70) (j := 0) dX9_bestLevel_68 rfl rfl ?_
          refine hz_iload (pc' := 72) (j := 6) dX9_bestLevel_70 rfl rfl ?_
          refine hz_icmpgt (pc' := 75) (tgt := 83) dX9_bestLevel_72 (by decide) rfl ?_ ?_
          · exact hz_loc [1, 2, 3, 4, 5, 6, 7] rfl (hq12 (v4.1, v4.2.1))
          · refine hz_iload (pc' := 77) (j := 7) dX9_bestLevel_75 rfl rfl ?_
            refine hz_istore (pc' := 79) (L' := [(4, .int v4.2.2.1), (7, .int v11), (0, .ref (B.1 + a0)), (1, .int x1), (2, .int x2), (3, .int x3), (5, .int v4.2.1), (6, .int v4.2.2.1)]) dX9_bestLevel_77 rfl (by decide) rfl ?_
            refine hz_iload (pc' := 81) (j := 1) dX9_bestLevel_79 rfl rfl ?_
            refine hz_istore (pc' := 83) (L' := [(5, .int v11), (4, .int v4.2.2.1), (7, .int v11), (0, .ref (B.1 + a0)), (1, .int x1), (2, .int x2), (3, .int x3), (6, .int v4.2.2.1)]) dX9_bestLevel_81 rfl (by decide) rfl ?_
            exact hz_loc [3, 4, 5, 6, 1, 0, 7] rfl (hq12 (v4.2.2.1, v11))
def f_X9_mixedEnergy (a0 : Nat) (x1 : Int32) (x2 : Int32) (x3 : Int32) (w : MW) : Option ((String ⊕ Int32) × MW) :=
  hz_gd (hz_g 358 a0 10) (hz_bx (f_X9_needDomain a0 x1 w) (fun _ w1 => hz_bx (f_X9_needRange x2 1 500 w1) (fun _ w2 => hz_bx (f_X9_needRange x3 1 100 w2) (fun _ w3 => hz_ldp w3 a0 7 358 7 (fun b4 => hz_ldp w3 a0 2 358 3 (fun b5 => hz_b (f_X6_leastEnergy b4 b5 x1 x2 x3 w3) (fun v7 w6 => some (.inr v7, w6))))))))
set_option maxHeartbeats 4000000 in
set_option maxRecDepth 100000 in
theorem ct_X9_mixedEnergy {l : Launch} (hl : l.stackTraces = false) {B : Bt} {a0 : Nat} {x1 : Int32} {x2 : Int32} {x3 : Int32} {w : MW} {r : (String ⊕ Int32) × MW} (h : f_X9_mixedEnergy a0 x1 x2 x3 w = some r) : hz_MetX l B 358 yX9_mixedEnergy cX9_mixedEnergy 4 (Option.some FieldType.int) 9 4 24 [.ref (B.1 + a0), .int x1, .int x2, .int x3] w (Sum.map id (fun r => some (.int r)) r.1) r.2 := by
  refine hz_ofJX (rv := (fun r : Int32 => some (.int r))) (own := RX9) hl (by decide) rfl (Nat.le_of_ble_eq_true rfl) rfl ?_ h
  intro p e s m args below meth c
  unfold f_X9_mixedEnergy
  refine hz_gdr (fun ga0 => ?_)
  refine hz_aload_n (pc' := 1) (j := 0) dX9_mixedEnergy_0 rfl rfl rfl ?_
  refine hz_iload_n (pc' := 2) (j := 1) dX9_mixedEnergy_1 rfl rfl rfl ?_
  refine hz_xVv (pc' := 5) (av := [.int x1]) (rest := []) vl_X9_116 (fun v w' h => ct_X9_needDomain hl h) ga0 rfl rfl (Nat.le_of_ble_eq_true rfl) (by decide) (by decide) dX9_mixedEnergy_2 rfl (fun w1 => ?_)
  refine hz_iload_n (pc' := 6) (j := 2) dX9_mixedEnergy_5 rfl rfl rfl ?_
  refine hz_iconst (pc' := 7) (v := 1) dX9_mixedEnergy_6 rfl (by decide) ?_
  refine hz_sipush (pc' := 10) (v := 500) dX9_mixedEnergy_7 rfl (by decide) ?_
  refine hz_xSv (pc' := 13) (av := [.int x2, .int 1, .int 500]) (rest := []) sl_X9_87 (fun v w' h => ct_X9_needRange hl h) rfl rfl (Nat.le_of_ble_eq_true rfl) (by decide) (by decide) dX9_mixedEnergy_10 rfl (fun w2 => ?_)
  refine hz_iload_n (pc' := 14) (j := 3) dX9_mixedEnergy_13 rfl rfl rfl ?_
  refine hz_iconst (pc' := 15) (v := 1) dX9_mixedEnergy_14 rfl (by decide) ?_
  refine hz_bipush (pc' := 17) (v := 100) dX9_mixedEnergy_15 rfl (by decide) ?_
  refine hz_xSv (pc' := 20) (av := [.int x3, .int 1, .int 100]) (rest := []) sl_X9_87 (fun v w' h => ct_X9_needRange hl h) rfl rfl (Nat.le_of_ble_eq_true rfl) (by decide) (by decide) dX9_mixedEnergy_17 rfl (fun w3 => ?_)
  refine hz_aload_n (pc' := 21) (j := 0) dX9_mixedEnergy_20 rfl rfl rfl ?_
  refine hz_gP (pc' := 24) (c' := 7) fl_X9_61.r ga0 rfl dX9_mixedEnergy_21 rfl (fun b4 gb4 => ?_)
  refine hz_aload_n (pc' := 25) (j := 0) dX9_mixedEnergy_24 rfl rfl rfl ?_
  refine hz_gP (pc' := 28) (c' := 3) fl_X9_28.r ga0 rfl dX9_mixedEnergy_25 rfl (fun b5 gb5 => ?_)
  refine hz_iload_n (pc' := 29) (j := 1) dX9_mixedEnergy_28 rfl rfl rfl ?_
  refine hz_iload_n (pc' := 30) (j := 2) dX9_mixedEnergy_29 rfl rfl rfl ?_
  refine hz_iload_n (pc' := 31) (j := 3) dX9_mixedEnergy_30 rfl rfl rfl ?_
  refine hz_cVi (pc' := 34) (av := [.ref (B.1 + b5), .int x1, .int x2, .int x3]) (rest := []) vl_X9_318 (fun x w' h => ct_X6_leastEnergy hl h) gb4 rfl rfl (Nat.le_of_ble_eq_true rfl) (by decide) (by decide) rfl dX9_mixedEnergy_31 rfl (fun v7 w6 => ?_)
  exact hz_retiX dX9_mixedEnergy_34 rfl (by decide)
def f_X9_packedWakeUps (a0 : Nat) (x1 : Int32) (w : MW) : Option ((String ⊕ Int32) × MW) :=
  hz_gd (hz_g 358 a0 10) (hz_bx (f_X9_needDomain a0 x1 w) (fun _ w1 => hz_ldp w1 a0 6 358 9 (fun b2 => hz_ldp w1 a0 3 358 4 (fun b3 => hz_bv (f_X8_makeFor b2 b3 x1 w1) (fun w4 => hz_ldp w4 a0 6 358 9 (fun b5 => some (.inr (w4.1 b5 0), w4)))))))
set_option maxHeartbeats 4000000 in
set_option maxRecDepth 100000 in
theorem ct_X9_packedWakeUps {l : Launch} (hl : l.stackTraces = false) {B : Bt} {a0 : Nat} {x1 : Int32} {w : MW} {r : (String ⊕ Int32) × MW} (h : f_X9_packedWakeUps a0 x1 w = some r) : hz_MetX l B 358 yX9_packedWakeUps cX9_packedWakeUps 2 (Option.some FieldType.int) 9 2 12 [.ref (B.1 + a0), .int x1] w (Sum.map id (fun r => some (.int r)) r.1) r.2 := by
  refine hz_ofJX (rv := (fun r : Int32 => some (.int r))) (own := RX9) hl (by decide) rfl (Nat.le_of_ble_eq_true rfl) rfl ?_ h
  intro p e s m args below meth c
  unfold f_X9_packedWakeUps
  refine hz_gdr (fun ga0 => ?_)
  refine hz_aload_n (pc' := 1) (j := 0) dX9_packedWakeUps_0 rfl rfl rfl ?_
  refine hz_iload_n (pc' := 2) (j := 1) dX9_packedWakeUps_1 rfl rfl rfl ?_
  refine hz_xVv (pc' := 5) (av := [.int x1]) (rest := []) vl_X9_116 (fun v w' h => ct_X9_needDomain hl h) ga0 rfl rfl (Nat.le_of_ble_eq_true rfl) (by decide) (by decide) dX9_packedWakeUps_2 rfl (fun w1 => ?_)
  refine hz_aload_n (pc' := 6) (j := 0) dX9_packedWakeUps_5 rfl rfl rfl ?_
  refine hz_gP (pc' := 9) (c' := 9) fl_X9_54.r ga0 rfl dX9_packedWakeUps_6 rfl (fun b2 gb2 => ?_)
  refine hz_aload_n (pc' := 10) (j := 0) dX9_packedWakeUps_9 rfl rfl rfl ?_
  refine hz_gP (pc' := 13) (c' := 4) fl_X9_37.r ga0 rfl dX9_packedWakeUps_10 rfl (fun b3 gb3 => ?_)
  refine hz_iload_n (pc' := 14) (j := 1) dX9_packedWakeUps_13 rfl rfl rfl ?_
  refine hz_cVv (pc' := 17) (av := [.ref (B.1 + b3), .int x1]) (rest := []) vl_X9_322 (fun w' h => ct_X8_makeFor hl h) gb2 rfl rfl (Nat.le_of_ble_eq_true rfl) (by decide) (by decide) rfl dX9_packedWakeUps_14 rfl (fun w4 => ?_)
  refine hz_aload_n (pc' := 18) (j := 0) dX9_packedWakeUps_17 rfl rfl rfl ?_
  refine hz_gP (pc' := 21) (c' := 9) fl_X9_54.r ga0 rfl dX9_packedWakeUps_18 rfl (fun b5 gb5 => ?_)
  refine hz_gI (pc' := 24) fl_X9_326.r gb5 rfl dX9_packedWakeUps_21 rfl ?_
  exact hz_retiX dX9_packedWakeUps_24 rfl (by decide)
def f_X9_packedTick (a0 : Nat) (x1 : Int32) (x2 : Int32) (w : MW) : Option ((String ⊕ Int32) × MW) :=
  hz_gd (hz_g 358 a0 10) (hz_bx (f_X9_needDomain a0 x1 w) (fun _ w1 => hz_bx (f_X9_needNotNegative x2 w1) (fun _ w2 => hz_ldp w2 a0 6 358 9 (fun b3 => hz_ldp w2 a0 3 358 4 (fun b4 => hz_bv (f_X8_makeFor b3 b4 x1 w2) (fun w5 => hz_ldp w5 a0 6 358 9 (fun b6 => Option.bind ((if (w5.1 b6 0) ≤ x2 then some (-2) else hz_ldp w5 a0 6 358 9 (fun b8 => hz_ldp w5 b8 1 358 20 (fun b9 => hz_lda w5 b9 x2 (fun v10 => some v10))))) (fun q7 : Int32 => some (.inr q7, w5)))))))))
set_option maxHeartbeats 4000000 in
set_option maxRecDepth 100000 in
theorem ct_X9_packedTick {l : Launch} (hl : l.stackTraces = false) {B : Bt} {a0 : Nat} {x1 : Int32} {x2 : Int32} {w : MW} {r : (String ⊕ Int32) × MW} (h : f_X9_packedTick a0 x1 x2 w = some r) : hz_MetX l B 358 yX9_packedTick cX9_packedTick 3 (Option.some FieldType.int) 9 3 18 [.ref (B.1 + a0), .int x1, .int x2] w (Sum.map id (fun r => some (.int r)) r.1) r.2 := by
  refine hz_ofJX (rv := (fun r : Int32 => some (.int r))) (own := RX9) hl (by decide) rfl (Nat.le_of_ble_eq_true rfl) rfl ?_ h
  intro p e s m args below meth c
  unfold f_X9_packedTick
  refine hz_gdr (fun ga0 => ?_)
  refine hz_aload_n (pc' := 1) (j := 0) dX9_packedTick_0 rfl rfl rfl ?_
  refine hz_iload_n (pc' := 2) (j := 1) dX9_packedTick_1 rfl rfl rfl ?_
  refine hz_xVv (pc' := 5) (av := [.int x1]) (rest := []) vl_X9_116 (fun v w' h => ct_X9_needDomain hl h) ga0 rfl rfl (Nat.le_of_ble_eq_true rfl) (by decide) (by decide) dX9_packedTick_2 rfl (fun w1 => ?_)
  refine hz_iload_n (pc' := 6) (j := 2) dX9_packedTick_5 rfl rfl rfl ?_
  refine hz_xSv (pc' := 9) (av := [.int x2]) (rest := []) sl_X9_212 (fun v w' h => ct_X9_needNotNegative hl h) rfl rfl (Nat.le_of_ble_eq_true rfl) (by decide) (by decide) dX9_packedTick_6 rfl (fun w2 => ?_)
  refine hz_aload_n (pc' := 10) (j := 0) dX9_packedTick_9 rfl rfl rfl ?_
  refine hz_gP (pc' := 13) (c' := 9) fl_X9_54.r ga0 rfl dX9_packedTick_10 rfl (fun b3 gb3 => ?_)
  refine hz_aload_n (pc' := 14) (j := 0) dX9_packedTick_13 rfl rfl rfl ?_
  refine hz_gP (pc' := 17) (c' := 4) fl_X9_37.r ga0 rfl dX9_packedTick_14 rfl (fun b4 gb4 => ?_)
  refine hz_iload_n (pc' := 18) (j := 1) dX9_packedTick_17 rfl rfl rfl ?_
  refine hz_cVv (pc' := 21) (av := [.ref (B.1 + b4), .int x1]) (rest := []) vl_X9_322 (fun w' h => ct_X8_makeFor hl h) gb3 rfl rfl (Nat.le_of_ble_eq_true rfl) (by decide) (by decide) rfl dX9_packedTick_18 rfl (fun w5 => ?_)
  refine hz_iload_n (pc' := 22) (j := 2) dX9_packedTick_21 rfl rfl rfl ?_
  refine hz_aload_n (pc' := 23) (j := 0) dX9_packedTick_22 rfl rfl rfl ?_
  refine hz_gP (pc' := 26) (c' := 9) fl_X9_54.r ga0 rfl dX9_packedTick_23 rfl (fun b6 gb6 => ?_)
  refine hz_gI (pc' := 29) fl_X9_326.r gb6 rfl dX9_packedTick_26 rfl ?_
  refine hz_bindJ (pcJ := 46) (LJ := fun q7 : Int32 => []) (stJ := fun q7 : Int32 => [.int q7]) (kJ := 3) (slJ := 18) (nJ := 358) (wJ := fun q7 : Int32 => w5) (fun q7 => ?_) (fun hq7 => ?_)
  · exact hz_retiX dX9_packedTick_46 rfl (by decide)
  · refine hz_icmpge (pc' := 32) (tgt := 44) dX9_packedTick_29 (by decide) rfl ?_ ?_
    · refine hz_bipush (pc' := 46) (v := (-2)) dX9_packedTick_44 rfl (by decide) ?_
      exact hz_loc [] rfl (hq7 (-2))
    · refine hz_aload_n (pc' := 33) (j := 0) dX9_packedTick_32 rfl rfl rfl ?_
      refine hz_gP (pc' := 36) (c' := 9) fl_X9_54.r ga0 rfl dX9_packedTick_33 rfl (fun b8 gb8 => ?_)
      refine hz_gP (pc' := 39) (c' := 20) fl_X9_327 gb8 rfl dX9_packedTick_36 rfl (fun b9 gb9 => ?_)
      refine hz_iload_n (pc' := 40) (j := 2) dX9_packedTick_39 rfl rfl rfl ?_
      refine hz_iald (pc' := 41) gb9 dX9_packedTick_40 rfl (fun v10 => ?_)
      refine hz_goto (tgt := 46) dX9_packedTick_41 (by decide) ?_
      exact hz_loc [] rfl (hq7 v10)
def f_X9_packedJobs (a0 : Nat) (x1 : Int32) (x2 : Int32) (w : MW) : Option ((String ⊕ Int32) × MW) :=
  hz_gd (hz_g 358 a0 10) (hz_bx (f_X9_needDomain a0 x1 w) (fun _ w1 => hz_bx (f_X9_needNotNegative x2 w1) (fun _ w2 => hz_ldp w2 a0 6 358 9 (fun b3 => hz_ldp w2 a0 3 358 4 (fun b4 => hz_bv (f_X8_makeFor b3 b4 x1 w2) (fun w5 => hz_ldp w5 a0 6 358 9 (fun b6 => Option.bind ((if (w5.1 b6 0) ≤ x2 then some (-2) else hz_ldp w5 a0 6 358 9 (fun b8 => hz_ldp w5 b8 2 358 20 (fun b9 => hz_lda w5 b9 x2 (fun v10 => some v10))))) (fun q7 : Int32 => some (.inr q7, w5)))))))))
set_option maxHeartbeats 4000000 in
set_option maxRecDepth 100000 in
theorem ct_X9_packedJobs {l : Launch} (hl : l.stackTraces = false) {B : Bt} {a0 : Nat} {x1 : Int32} {x2 : Int32} {w : MW} {r : (String ⊕ Int32) × MW} (h : f_X9_packedJobs a0 x1 x2 w = some r) : hz_MetX l B 358 yX9_packedJobs cX9_packedJobs 3 (Option.some FieldType.int) 9 3 18 [.ref (B.1 + a0), .int x1, .int x2] w (Sum.map id (fun r => some (.int r)) r.1) r.2 := by
  refine hz_ofJX (rv := (fun r : Int32 => some (.int r))) (own := RX9) hl (by decide) rfl (Nat.le_of_ble_eq_true rfl) rfl ?_ h
  intro p e s m args below meth c
  unfold f_X9_packedJobs
  refine hz_gdr (fun ga0 => ?_)
  refine hz_aload_n (pc' := 1) (j := 0) dX9_packedJobs_0 rfl rfl rfl ?_
  refine hz_iload_n (pc' := 2) (j := 1) dX9_packedJobs_1 rfl rfl rfl ?_
  refine hz_xVv (pc' := 5) (av := [.int x1]) (rest := []) vl_X9_116 (fun v w' h => ct_X9_needDomain hl h) ga0 rfl rfl (Nat.le_of_ble_eq_true rfl) (by decide) (by decide) dX9_packedJobs_2 rfl (fun w1 => ?_)
  refine hz_iload_n (pc' := 6) (j := 2) dX9_packedJobs_5 rfl rfl rfl ?_
  refine hz_xSv (pc' := 9) (av := [.int x2]) (rest := []) sl_X9_212 (fun v w' h => ct_X9_needNotNegative hl h) rfl rfl (Nat.le_of_ble_eq_true rfl) (by decide) (by decide) dX9_packedJobs_6 rfl (fun w2 => ?_)
  refine hz_aload_n (pc' := 10) (j := 0) dX9_packedJobs_9 rfl rfl rfl ?_
  refine hz_gP (pc' := 13) (c' := 9) fl_X9_54.r ga0 rfl dX9_packedJobs_10 rfl (fun b3 gb3 => ?_)
  refine hz_aload_n (pc' := 14) (j := 0) dX9_packedJobs_13 rfl rfl rfl ?_
  refine hz_gP (pc' := 17) (c' := 4) fl_X9_37.r ga0 rfl dX9_packedJobs_14 rfl (fun b4 gb4 => ?_)
  refine hz_iload_n (pc' := 18) (j := 1) dX9_packedJobs_17 rfl rfl rfl ?_
  refine hz_cVv (pc' := 21) (av := [.ref (B.1 + b4), .int x1]) (rest := []) vl_X9_322 (fun w' h => ct_X8_makeFor hl h) gb3 rfl rfl (Nat.le_of_ble_eq_true rfl) (by decide) (by decide) rfl dX9_packedJobs_18 rfl (fun w5 => ?_)
  refine hz_iload_n (pc' := 22) (j := 2) dX9_packedJobs_21 rfl rfl rfl ?_
  refine hz_aload_n (pc' := 23) (j := 0) dX9_packedJobs_22 rfl rfl rfl ?_
  refine hz_gP (pc' := 26) (c' := 9) fl_X9_54.r ga0 rfl dX9_packedJobs_23 rfl (fun b6 gb6 => ?_)
  refine hz_gI (pc' := 29) fl_X9_326.r gb6 rfl dX9_packedJobs_26 rfl ?_
  refine hz_bindJ (pcJ := 46) (LJ := fun q7 : Int32 => []) (stJ := fun q7 : Int32 => [.int q7]) (kJ := 3) (slJ := 18) (nJ := 358) (wJ := fun q7 : Int32 => w5) (fun q7 => ?_) (fun hq7 => ?_)
  · exact hz_retiX dX9_packedJobs_46 rfl (by decide)
  · refine hz_icmpge (pc' := 32) (tgt := 44) dX9_packedJobs_29 (by decide) rfl ?_ ?_
    · refine hz_bipush (pc' := 46) (v := (-2)) dX9_packedJobs_44 rfl (by decide) ?_
      exact hz_loc [] rfl (hq7 (-2))
    · refine hz_aload_n (pc' := 33) (j := 0) dX9_packedJobs_32 rfl rfl rfl ?_
      refine hz_gP (pc' := 36) (c' := 9) fl_X9_54.r ga0 rfl dX9_packedJobs_33 rfl (fun b8 gb8 => ?_)
      refine hz_gP (pc' := 39) (c' := 20) fl_X9_330 gb8 rfl dX9_packedJobs_36 rfl (fun b9 gb9 => ?_)
      refine hz_iload_n (pc' := 40) (j := 2) dX9_packedJobs_39 rfl rfl rfl ?_
      refine hz_iald (pc' := 41) gb9 dX9_packedJobs_40 rfl (fun v10 => ?_)
      refine hz_goto (tgt := 46) dX9_packedJobs_41 (by decide) ?_
      exact hz_loc [] rfl (hq7 v10)
def f_X9_undo (a0 : Nat) (w : MW) : Option ((String ⊕ Int32) × MW) :=
  hz_gd (hz_g 358 a0 10) (hz_bx (f_X9_needSystem a0 w) (fun _ w1 => hz_ldp w1 a0 5 358 1 (fun b2 => (if (w1.1 b2 0) = 0 then some (.inr (-2), w1) else hz_ldp w1 a0 5 358 1 (fun b3 => hz_ldp w1 a0 3 358 4 (fun b4 => hz_bv (f_X0_takeBackInto b3 b4 w1) (fun w5 => hz_ldp w5 a0 5 358 1 (fun b6 => some (.inr (w5.1 b6 0), w5)))))))))
set_option maxHeartbeats 4000000 in
set_option maxRecDepth 100000 in
theorem ct_X9_undo {l : Launch} (hl : l.stackTraces = false) {B : Bt} {a0 : Nat} {w : MW} {r : (String ⊕ Int32) × MW} (h : f_X9_undo a0 w = some r) : hz_MetX l B 358 yX9_undo cX9_undo 1 (Option.some FieldType.int) 8 1 6 [.ref (B.1 + a0)] w (Sum.map id (fun r => some (.int r)) r.1) r.2 := by
  refine hz_ofJX (rv := (fun r : Int32 => some (.int r))) (own := RX9) hl (by decide) rfl (Nat.le_of_ble_eq_true rfl) rfl ?_ h
  intro p e s m args below meth c
  unfold f_X9_undo
  refine hz_gdr (fun ga0 => ?_)
  refine hz_aload_n (pc' := 1) (j := 0) dX9_undo_0 rfl rfl rfl ?_
  refine hz_xVv (pc' := 4) (av := []) (rest := []) vl_X9_164 (fun v w' h => ct_X9_needSystem hl h) ga0 rfl rfl (Nat.le_of_ble_eq_true rfl) (by decide) (by decide) dX9_undo_1 rfl (fun w1 => ?_)
  refine hz_aload_n (pc' := 5) (j := 0) dX9_undo_4 rfl rfl rfl ?_
  refine hz_gP (pc' := 8) (c' := 1) fl_X9_47.r ga0 rfl dX9_undo_5 rfl (fun b2 gb2 => ?_)
  refine hz_gI (pc' := 11) fl_X9_333.r gb2 rfl dX9_undo_8 rfl ?_
  refine hz_ifne (pc' := 14) (tgt := 17) dX9_undo_11 (by decide) rfl ?_ ?_
  · refine hz_aload_n (pc' := 18) (j := 0) dX9_undo_17 rfl rfl rfl ?_
    refine hz_gP (pc' := 21) (c' := 1) fl_X9_47.r ga0 rfl dX9_undo_18 rfl (fun b3 gb3 => ?_)
    refine hz_aload_n (pc' := 22) (j := 0) dX9_undo_21 rfl rfl rfl ?_
    refine hz_gP (pc' := 25) (c' := 4) fl_X9_37.r ga0 rfl dX9_undo_22 rfl (fun b4 gb4 => ?_)
    refine hz_cVv (pc' := 28) (av := [.ref (B.1 + b4)]) (rest := []) vl_X9_334 (fun w' h => ct_X0_takeBackInto hl h) gb3 rfl rfl (Nat.le_of_ble_eq_true rfl) (by decide) (by decide) rfl dX9_undo_25 rfl (fun w5 => ?_)
    refine hz_aload_n (pc' := 29) (j := 0) dX9_undo_28 rfl rfl rfl ?_
    refine hz_gP (pc' := 32) (c' := 1) fl_X9_47.r ga0 rfl dX9_undo_29 rfl (fun b6 gb6 => ?_)
    refine hz_gI (pc' := 35) fl_X9_333.r gb6 rfl dX9_undo_32 rfl ?_
    exact hz_retiX dX9_undo_35 rfl (by decide)
  · refine hz_bipush (pc' := 16) (v := (-2)) dX9_undo_14 rfl (by decide) ?_
    exact hz_retiX dX9_undo_16 rfl (by decide)
