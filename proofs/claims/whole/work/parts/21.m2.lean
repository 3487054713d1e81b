def f_X0_forgetAll (a0 : Nat) (w : MW) : Option (MW) :=
  hz_gd (hz_g 358 a0 1) (hz_let (hz_pn w a0 0 0) (fun w1 => some w1))
set_option maxHeartbeats 4000000 in
set_option maxRecDepth 100000 in
theorem ct_X0_forgetAll {l : Launch} (hl : l.stackTraces = false) {B : Bt} {a0 : Nat} {w : MW} {r : MW} (h : f_X0_forgetAll a0 w = some r) : hz_Met l B false 358 358 yX0_forgetAll cX0_forgetAll 1 (Option.none : Option FieldType) 2 0 0 [.ref (B.1 + a0)] w none r := by
  refine hz_ofJ (rv := (fun _ : MW => none)) (wo := (fun r : MW => r)) (own := RX0) (ini := false) hl (by decide) rfl (Or.inr rfl) (Nat.le_of_ble_eq_true rfl) rfl ?_ h
  intro p e s m args below meth c
  unfold f_X0_forgetAll
  refine hz_gdr (fun ga0 => ?_)
  refine hz_aload_n (pc' := 1) (j := 0) dX0_forgetAll_0 rfl rfl rfl ?_
  refine hz_iconst (pc' := 2) (v := 0) dX0_forgetAll_1 rfl (by decide) ?_
  refine hz_putI (pc' := 5) fl_X0_20 ga0 rfl dX0_forgetAll_2 rfl (fun w1 => ?_)
  exact hz_retv dX0_forgetAll_5 rfl (by decide)
def f_X5_init (a0 : Nat) (a1 : Nat) (n0 : Nat) (w : MW) : Option (MW) :=
  hz_gd (hz_g n0 a0 6) (hz_gd (hz_g n0 a1 5) (hz_gd (hz_sh n0 == 3) (hz_let (hz_fr w n0) (fun w1 => hz_bv (f_X2_init n0 (n0 + 1) w1) (fun w5 => hz_let (hz_pp w5 a0 0 (some n0)) (fun w9 => hz_gd (hz_sh (n0 + 12) == 8) (hz_let (hz_fr w9 (n0 + 12)) (fun w10 => hz_bv (f_X7_init (n0 + 12) a1 (n0 + 13) w10) (fun w14 => hz_let (hz_pp w14 a0 3 (some (n0 + 12))) (fun w18 => some w18))))))))))
set_option maxHeartbeats 4000000 in
set_option maxRecDepth 100000 in
theorem ct_X5_init {l : Launch} (hl : l.stackTraces = false) {B : Bt} {a0 : Nat} {a1 : Nat} {n0 : Nat} {w : MW} {r : MW} (h : f_X5_init a0 a1 n0 w = some r) : hz_Met l B true n0 (n0 + 13) yX5_init cX5_init 2 (Option.none : Option FieldType) 3 13 93 [.ref (B.1 + a0), .ref (B.1 + a1)] w none r := by
  refine hz_ofJ (rv := (fun _ : MW => none)) (wo := (fun r : MW => r)) (own := RX5) (ini := true) hl (by decide) rfl (Or.inl rfl) (Nat.le_of_ble_eq_true rfl) rfl ?_ h
  intro p e s m args below meth c
  unfold f_X5_init
  refine hz_gdr (fun ga0 => ?_)
  refine hz_gdr (fun ga1 => ?_)
  refine hz_aload_n (pc' := 1) (j := 0) dX5_init_0 rfl rfl rfl ?_
  refine hz_objinit (pc' := 4) hq_55 hq_32 hq_33 ⟨Nat.le_of_ble_eq_true rfl, Nat.le_of_ble_eq_true rfl⟩ dX5_init_1 rfl ?_
  refine hz_aload_n (pc' := 5) (j := 0) dX5_init_4 rfl rfl rfl ?_
  refine hz_new (pc' := 8) (N := 13) cl_X5_9 rfl rfl ⟨by omega, by omega⟩ dX5_init_5 rfl (fun w1 g2 => ?_)
  have g3 := hz_g_up (n' := n0 + 1) ga0 (by omega)
  have g4 := hz_g_up (n' := n0 + 1) ga1 (by omega)
  refine hz_dup (pc' := 9) dX5_init_8 rfl rfl ?_
  refine hz_cIN (pc' := 12) (n' := n0 + 12) (av := []) (rest := [.ref (B.1 + n0), .ref (B.1 + a0)]) inl_X5_11 (fun w' h => ct_X2_init hl h) rfl rfl (Nat.le_of_ble_eq_true rfl) (by decide) ⟨by omega, by omega⟩ rfl (by omega) dX5_init_9 rfl (fun w5 => ?_)
  have g6 := hz_g_up (n' := n0 + 12) g3 (by omega)
  have g7 := hz_g_up (n' := n0 + 12) g4 (by omega)
  have g8 := hz_g_up (n' := n0 + 12) g2 (by omega)
  refine hz_putP (pc' := 15) fl_X5_12 rfl g6 rfl rfl rfl dX5_init_12 rfl (fun w9 => ?_)
  refine hz_aload_n (pc' := 16) (j := 0) dX5_init_15 rfl rfl rfl ?_
  refine hz_new (pc' := 19) (N := 4) cl_X5_18 rfl rfl ⟨by omega, by omega⟩ dX5_init_16 rfl (fun w10 g11 => ?_)
  have g12 := hz_g_up (n' := n0 + 13) g6 (by omega)
  have g13 := hz_g_up (n' := n0 + 13) g7 (by omega)
  refine hz_dup (pc' := 20) dX5_init_19 rfl rfl ?_
  refine hz_aload_n (pc' := 21) (j := 1) dX5_init_20 rfl rfl rfl ?_
  refine hz_cI (pc' := 24) (n' := n0 + 13) (av := [.ref (B.1 + a1)]) (rest := [.ref (B.1 + (n0 + 12)), .ref (B.1 + a0)]) il_X5_20 (fun w' h => ct_X7_init hl h) rfl rfl (Nat.le_of_ble_eq_true rfl) (by decide) ⟨by omega, by omega⟩ rfl (by omega) dX5_init_21 rfl (fun w14 => ?_)
  have g15 := hz_g_up (n' := n0 + 13) g12 (by omega)
  have g16 := hz_g_up (n' := n0 + 13) g13 (by omega)
  have g17 := hz_g_up (n' := n0 + 13) g11 (by omega)
  refine hz_putP (pc' := 27) fl_X5_23 rfl g15 rfl rfl rfl dX5_init_24 rfl (fun w18 => ?_)
  exact hz_retv dX5_init_27 rfl ⟨by omega, by omega⟩
def f_X5_fail (a0 : Nat) (x1 : Int32) (w : MW) : Option (Int32 × MW) :=
  hz_gd (hz_g 358 a0 6) (hz_let (hz_pn w a0 1 x1) (fun w1 => hz_ldp w1 a0 3 358 8 (fun b2 => hz_let (hz_pn w1 a0 2 (w1.1 b2 2)) (fun w3 => hz_gd (hz_isb 0) (some (0, w3))))))
set_option maxHeartbeats 4000000 in
set_option maxRecDepth 100000 in
theorem ct_X5_fail {l : Launch} (hl : l.stackTraces = false) {B : Bt} {a0 : Nat} {x1 : Int32} {w : MW} {r : Int32 × MW} (h : f_X5_fail a0 x1 w = some r) : hz_Met l B false 358 358 yX5_fail cX5_fail 2 (Option.some FieldType.boolean) 2 0 0 [.ref (B.1 + a0), .int x1] w (some (.int r.1)) r.2 := by
  refine hz_ofJ (rv := (fun r : Int32 × MW => some (.int r.1))) (wo := (fun r : Int32 × MW => r.2)) (own := RX5) (ini := false) hl (by decide) rfl (Or.inr rfl) (Nat.le_of_ble_eq_true rfl) rfl ?_ h
  intro p e s m args below meth c
  unfold f_X5_fail
  refine hz_gdr (fun ga0 => ?_)
  refine hz_aload_n (pc' := 1) (j := 0) dX5_fail_0 rfl rfl rfl ?_
  refine hz_iload_n (pc' := 2) (j := 1) dX5_fail_1 rfl rfl rfl ?_
  refine hz_putI (pc' := 5) fl_X5_27 ga0 rfl dX5_fail_2 rfl (fun w1 => ?_)
  refine hz_aload_n (pc' := 6) (j := 0) dX5_fail_5 rfl rfl rfl ?_
  refine hz_aload_n (pc' := 7) (j := 0) dX5_fail_6 rfl rfl rfl ?_
  refine hz_gP (pc' := 10) (c' := 8) fl_X5_23.r ga0 rfl dX5_fail_7 rfl (fun b2 gb2 => ?_)
  refine hz_gI (pc' := 13) fl_X5_150.r gb2 rfl dX5_fail_10 rfl ?_
  refine hz_putI (pc' := 16) fl_X5_31 ga0 rfl dX5_fail_13 rfl (fun w3 => ?_)
  refine hz_iconst (pc' := 17) (v := 0) dX5_fail_16 rfl (by decide) ?_
  exact hz_retz dX5_fail_17 rfl (by decide)
def f_X5_acceptSemicolon (a0 : Nat) (w : MW) : Option (Int32 × MW) :=
  hz_gd (hz_g 358 a0 6) (hz_ldp w a0 3 358 8 (fun b1 => (if (w.1 b1 1) = 4 then hz_ldp w a0 3 358 8 (fun b2 => hz_bv (f_X7_readNext b2 w) (fun w3 => hz_gd (hz_isb 1) (some (1, w3)))) else hz_b (f_X5_fail a0 1 w) (fun v5 w4 => hz_gd (hz_isb v5) (some (v5, w4))))))
set_option maxHeartbeats 4000000 in
set_option maxRecDepth 100000 in
theorem ct_X5_acceptSemicolon {l : Launch} (hl : l.stackTraces = false) {B : Bt} {a0 : Nat} {w : MW} {r : Int32 × MW} (h : f_X5_acceptSemicolon a0 w = some r) : hz_Met l B false 358 358 yX5_acceptSemicolon cX5_acceptSemicolon 1 (Option.some FieldType.boolean) 5 0 0 [.ref (B.1 + a0)] w (some (.int r.1)) r.2 := by
  refine hz_ofJ (rv := (fun r : Int32 × MW => some (.int r.1))) (wo := (fun r : Int32 × MW => r.2)) (own := RX5) (ini := false) hl (by decide) rfl (Or.inr rfl) (Nat.le_of_ble_eq_true rfl) rfl ?_ h
  intro p e s m args below meth c
  unfold f_X5_acceptSemicolon
  refine hz_gdr (fun ga0 => ?_)
  refine hz_aload_n (pc' := 1) (j := 0) dX5_acceptSemicolon_0 rfl rfl rfl ?_
  refine hz_gP (pc' := 4) (c' := 8) fl_X5_23.r ga0 rfl dX5_acceptSemicolon_1 rfl (fun b1 gb1 => ?_)
  refine hz_gI (pc' := 7) fl_X5_51.r gb1 rfl dX5_acceptSemicolon_4 rfl ?_
  refine hz_iconst (pc' := 8) (v := 4) dX5_acceptSemicolon_7 rfl (by decide) ?_
  refine hz_icmpeq (pc' := 11) (tgt := 17) dX5_acceptSemicolon_8 (by decide) rfl ?_ ?_
  · refine hz_aload_n (pc' := 18) (j := 0) dX5_acceptSemicolon_17 rfl rfl rfl ?_
    refine hz_gP (pc' := 21) (c' := 8) fl_X5_23.r ga0 rfl dX5_acceptSemicolon_18 rfl (fun b2 gb2 => ?_)
    refine hz_cVv (pc' := 24) (av := []) (rest := []) vl_X5_124 (fun w' h => ct_X7_readNext hl h) gb2 rfl rfl (Nat.le_of_ble_eq_true rfl) (by decide) (by decide) rfl dX5_acceptSemicolon_21 rfl (fun w3 => ?_)
    refine hz_iconst (pc' := 25) (v := 1) dX5_acceptSemicolon_24 rfl (by decide) ?_
    exact hz_retz dX5_acceptSemicolon_25 rfl (by decide)
  · refine hz_aload_n (pc' := 12) (j := 0) dX5_acceptSemicolon_11 rfl rfl rfl ?_
    refine hz_iconst (pc' := 13) (v := 1) dX5_acceptSemicolon_12 rfl (by decide) ?_
    refine hz_cVi (pc' := 16) (av := [.int 1]) (rest := []) vl_X5_60 (fun x w' h => ct_X5_fail hl h) ga0 rfl rfl (Nat.le_of_ble_eq_true rfl) (by decide) (by decide) rfl dX5_acceptSemicolon_13 rfl (fun v5 w4 => ?_)
    exact hz_retz dX5_acceptSemicolon_16 rfl (by decide)
def f_X5_acceptWord (a0 : Nat) (x1 : Nat) (w : MW) : Option (Int32 × MW) :=
  hz_gd (hz_g 358 a0 6) (hz_ldp w a0 3 358 8 (fun b1 => hz_b (f_X7_isAtWord b1 x1 w) (fun v3 w2 => (if v3 = 0 then hz_b (f_X5_fail a0 1 w2) (fun v7 w6 => hz_gd (hz_isb v7) (some (v7, w6))) else hz_ldp w2 a0 3 358 8 (fun b4 => hz_bv (f_X7_readNext b4 w2) (fun w5 => hz_gd (hz_isb 1) (some (1, w5))))))))
set_option maxHeartbeats 4000000 in
set_option maxRecDepth 100000 in
theorem ct_X5_acceptWord {l : Launch} (hl : l.stackTraces = false) {B : Bt} {a0 : Nat} {x1 : Nat} {w : MW} {r : Int32 × MW} (h : f_X5_acceptWord a0 x1 w = some r) : hz_Met l B false 358 358 yX5_acceptWord cX5_acceptWord 2 (Option.some FieldType.boolean) 10 0 0 [.ref (B.1 + a0), .ref (B.2.2.2.1 x1)] w (some (.int r.1)) r.2 := by
  refine hz_ofJ (rv := (fun r : Int32 × MW => some (.int r.1))) (wo := (fun r : Int32 × MW => r.2)) (own := RX5) (ini := false) hl (by decide) rfl (Or.inr rfl) (Nat.le_of_ble_eq_true rfl) rfl ?_ h
  intro p e s m args below meth c
  unfold f_X5_acceptWord
  refine hz_gdr (fun ga0 => ?_)
  refine hz_aload_n (pc' := 1) (j := 0) dX5_acceptWord_0 rfl rfl rfl ?_
  refine hz_gP (pc' := 4) (c' := 8) fl_X5_23.r ga0 rfl dX5_acceptWord_1 rfl (fun b1 gb1 => ?_)
  refine hz_aload_n (pc' := 5) (j := 1) dX5_acceptWord_4 rfl rfl rfl ?_
  refine hz_cVi (pc' := 8) (av := [.ref (B.2.2.2.1 x1)]) (rest := []) vl_X5_56 (fun x w' h => ct_X7_isAtWord hl h) gb1 rfl rfl (Nat.le_of_ble_eq_true rfl) (by decide) (by decide) rfl dX5_acceptWord_5 rfl (fun v3 w2 => ?_)
  refine hz_ifne (pc' := 11) (tgt := 17) dX5_acceptWord_8 (by decide) rfl ?_ ?_
  · refine hz_aload_n (pc' := 18) (j := 0) dX5_acceptWord_17 rfl rfl rfl ?_
    refine hz_gP (pc' := 21) (c' := 8) fl_X5_23.r ga0 rfl dX5_acceptWord_18 rfl (fun b4 gb4 => ?_)
    refine hz_cVv (pc' := 24) (av := []) (rest := []) vl_X5_124 (fun w' h => ct_X7_readNext hl h) gb4 rfl rfl (Nat.le_of_ble_eq_true rfl) (by decide) (by decide) rfl dX5_acceptWord_21 rfl (fun w5 => ?_)
    refine hz_iconst (pc' := 25) (v := 1) dX5_acceptWord_24 rfl (by decide) ?_
    exact hz_retz dX5_acceptWord_25 rfl (by decide)
  · refine hz_aload_n (pc' := 12) (j := 0) dX5_acceptWord_11 rfl rfl rfl ?_
    refine hz_iconst (pc' := 13) (v := 1) dX5_acceptWord_12 rfl (by decide) ?_
    refine hz_cVi (pc' := 16) (av := [.int 1]) (rest := []) vl_X5_60 (fun x w' h => ct_X5_fail hl h) ga0 rfl rfl (Nat.le_of_ble_eq_true rfl) (by decide) (by decide) rfl dX5_acceptWord_13 rfl (fun v7 w6 => ?_)
    exact hz_retz dX5_acceptWord_16 rfl (by decide)
def f_X5_acceptNumber (a0 : Nat) (x1 : Int32) (x2 : Int32) (w : MW) : Option (Int32 × MW) :=
  hz_gd (hz_g 358 a0 6) (hz_ldp w a0 3 358 8 (fun b1 => (if (w.1 b1 1) = 3 then hz_ldp w a0 3 358 8 (fun b2 => hz_b (f_X7_numberHere b2 w) (fun v4 w3 => hz_let (hz_pn w3 a0 4 v4) (fun w5 => (if (w5.1 a0 4) < x1 then hz_b (f_X5_fail a0 2 w5) (fun v7 w6 => hz_gd (hz_isb v7) (some (v7, w6))) else (if (w5.1 a0 4) ≤ x2 then hz_ldp w5 a0 3 358 8 (fun b8 => hz_bv (f_X7_readNext b8 w5) (fun w9 => hz_gd (hz_isb 1) (some (1, w9)))) else hz_b (f_X5_fail a0 2 w5) (fun v11 w10 => hz_gd (hz_isb v11) (some (v11, w10)))))))) else hz_b (f_X5_fail a0 1 w) (fun v13 w12 => hz_gd (hz_isb v13) (some (v13, w12))))))
set_option maxHeartbeats 4000000 in
set_option maxRecDepth 100000 in
theorem ct_X5_acceptNumber {l : Launch} (hl : l.stackTraces = false) {B : Bt} {a0 : Nat} {x1 : Int32} {x2 : Int32} {w : MW} {r : Int32 × MW} (h : f_X5_acceptNumber a0 x1 x2 w = some r) : hz_Met l B false 358 358 yX5_acceptNumber cX5_acceptNumber 3 (Option.some FieldType.boolean) 5 0 0 [.ref (B.1 + a0), .int x1, .int x2] w (some (.int r.1)) r.2 := by
  refine hz_ofJ (rv := (fun r : Int32 × MW => some (.int r.1))) (wo := (fun r : Int32 × MW => r.2)) (own := RX5) (ini := false) hl (by decide) rfl (Or.inr rfl) (Nat.le_of_ble_eq_true rfl) rfl ?_ h
  intro p e s m args below meth c
  unfold f_X5_acceptNumber
  refine hz_gdr (fun ga0 => ?_)
  refine hz_aload_n (pc' := 1) (j := 0) dX5_acceptNumber_0 rfl rfl rfl ?_
  refine hz_gP (pc' := 4) (c' := 8) fl_X5_23.r ga0 rfl dX5_acceptNumber_1 rfl (fun b1 gb1 => ?_)
  refine hz_gI (pc' := 7) fl_X5_51.r gb1 rfl dX5_acceptNumber_4 rfl ?_
  refine hz_iconst (pc' := 8) (v := 3) dX5_acceptNumber_7 rfl (by decide) ?_
  refine hz_icmpeq (pc' := 11) (tgt := 17) dX5_acceptNumber_8 (by decide) rfl ?_ ?_
  · refine hz_aload_n (pc' := 18) (j := 0) dX5_acceptNumber_17 rfl rfl rfl ?_
    refine hz_aload_n (pc' := 19) (j := 0) dX5_acceptNumber_18 rfl rfl rfl ?_
    refine hz_gP (pc' := 22) (c' := 8) fl_X5_23.r ga0 rfl dX5_acceptNumber_19 rfl (fun b2 gb2 => ?_)
    refine hz_cVi (pc' := 25) (av := []) (rest := [.ref (B.1 + a0)]) vl_X5_146 (fun x w' h => ct_X7_numberHere hl h) gb2 rfl rfl (Nat.le_of_ble_eq_true rfl) (by decide) (by decide) rfl dX5_acceptNumber_22 rfl (fun v4 w3 => ?_)
    refine hz_putI (pc' := 28) fl_X5_72 ga0 rfl dX5_acceptNumber_25 rfl (fun w5 => ?_)
    refine hz_aload_n (pc' := 29) (j := 0) dX5_acceptNumber_28 rfl rfl rfl ?_
    refine hz_gI (pc' := 32) fl_X5_72.r ga0 rfl dX5_acceptNumber_29 rfl ?_
    refine hz_iload_n (pc' := 33) (j := 1) dX5_acceptNumber_32 rfl rfl rfl ?_
    refine hz_icmplt (pc' := 36) (tgt := 44) dX5_acceptNumber_33 (by decide) rfl ?_ ?_
    · refine hz_aload_n (pc' := 45) (j := 0) dX5_acceptNumber_44 rfl rfl rfl ?_
      refine hz_iconst (pc' := 46) (v := 2) dX5_acceptNumber_45 rfl (by decide) ?_
      refine hz_cVi (pc' := 49) (av := [.int 2]) (rest := []) vl_X5_60 (fun x w' h => ct_X5_fail hl h) ga0 rfl rfl (Nat.le_of_ble_eq_true rfl) (by decide) (by decide) rfl dX5_acceptNumber_46 rfl (fun v7 w6 => ?_)
      exact hz_retz dX5_acceptNumber_49 rfl (by decide)
    · refine hz_aload_n (pc' := 37) (j := 0) dX5_acceptNumber_36 rfl rfl rfl ?_
      refine hz_gI (pc' := 40) fl_X5_72.r ga0 rfl dX5_acceptNumber_37 rfl ?_
      refine hz_iload_n (pc' := 41) (j := 2) dX5_acceptNumber_40 rfl rfl rfl ?_
      refine hz_icmple (pc' := 44) (tgt := 50) dX5_acceptNumber_41 (by decide) rfl ?_ ?_
      · refine hz_aload_n (pc' := 51) (j := 0) dX5_acceptNumber_50 rfl rfl rfl ?_
        refine hz_gP (pc' := 54) (c' := 8) fl_X5_23.r ga0 rfl dX5_acceptNumber_51 rfl (fun b8 gb8 => ?_)
        refine hz_cVv (pc' := 57) (av := []) (rest := []) vl_X5_124 (fun w' h => ct_X7_readNext hl h) gb8 rfl rfl (Nat.le_of_ble_eq_true rfl) (by decide) (by decide) rfl dX5_acceptNumber_54 rfl (fun w9 => ?_)
        refine hz_iconst (pc' := 58) (v := 1) dX5_acceptNumber_57 rfl (by decide) ?_
        exact hz_retz dX5_acceptNumber_58 rfl (by decide)
      · refine hz_aload_n (pc' := 45) (j := 0) dX5_acceptNumber_44 rfl rfl rfl ?_
        refine hz_iconst (pc' := 46) (v := 2) dX5_acceptNumber_45 rfl (by decide) ?_
        refine hz_cVi (pc' := 49) (av := [.int 2]) (rest := []) vl_X5_60 (fun x w' h => ct_X5_fail hl h) ga0 rfl rfl (Nat.le_of_ble_eq_true rfl) (by decide) (by decide) rfl dX5_acceptNumber_46 rfl (fun v11 w10 => ?_)
        exact hz_retz dX5_acceptNumber_49 rfl (by decide)
  · refine hz_aload_n (pc' := 12) (j := 0) dX5_acceptNumber_11 rfl rfl rfl ?_
    refine hz_iconst (pc' := 13) (v := 1) dX5_acceptNumber_12 rfl (by decide) ?_
    refine hz_cVi (pc' := 16) (av := [.int 1]) (rest := []) vl_X5_60 (fun x w' h => ct_X5_fail hl h) ga0 rfl rfl (Nat.le_of_ble_eq_true rfl) (by decide) (by decide) rfl dX5_acceptNumber_13 rfl (fun v13 w12 => ?_)
    exact hz_retz dX5_acceptNumber_16 rfl (by decide)
def f_X5_readHeat (a0 : Nat) (x1 : Int32) (w : MW) : Option (Int32 × MW) :=
  hz_gd (hz_g 358 a0 6) (hz_b (f_X5_acceptNumber a0 1 4 w) (fun v2 w1 => (if v2 = 0 then hz_gd (hz_isb 0) (some (0, w1)) else hz_ldp w1 a0 0 358 3 (fun b3 => hz_ldp w1 b3 2 358 20 (fun b4 => hz_sta w1 b4 x1 (w1.1 a0 4) (fun w5 => hz_b (f_X5_acceptNumber a0 0 99999 w5) (fun v7 w6 => (if v7 = 0 then hz_gd (hz_isb 0) (some (0, w6)) else hz_ldp w6 a0 0 358 3 (fun b8 => hz_ldp w6 b8 3 358 20 (fun b9 => hz_sta w6 b9 x1 (w6.1 a0 4) (fun w10 => hz_b (f_X5_acceptNumber a0 0 999 w10) (fun v12 w11 => (if v12 = 0 then hz_gd (hz_isb 0) (some (0, w11)) else hz_ldp w11 a0 0 358 3 (fun b13 => hz_ldp w11 b13 4 358 20 (fun b14 => hz_sta w11 b14 x1 (w11.1 a0 4) (fun w15 => hz_b (f_X5_acceptNumber a0 1 999 w15) (fun v17 w16 => (if v17 = 0 then hz_gd (hz_isb 0) (some (0, w16)) else hz_ldp w16 a0 0 358 3 (fun b18 => hz_ldp w16 b18 5 358 20 (fun b19 => hz_sta w16 b19 x1 (w16.1 a0 4) (fun w20 => hz_gd (hz_isb 1) (some (1, w20)))))))))))))))))))))))
set_option maxHeartbeats 4000000 in
set_option maxRecDepth 100000 in
theorem ct_X5_readHeat {l : Launch} (hl : l.stackTraces = false) {B : Bt} {a0 : Nat} {x1 : Int32} {w : MW} {r : Int32 × MW} (h : f_X5_readHeat a0 x1 w = some r) : hz_Met l B false 358 358 yX5_readHeat cX5_readHeat 2 (Option.some FieldType.boolean) 6 0 0 [.ref (B.1 + a0), .int x1] w (some (.int r.1)) r.2 := by
  refine hz_ofJ (rv := (fun r : Int32 × MW => some (.int r.1))) (wo := (fun r : Int32 × MW => r.2)) (own := RX5) (ini := false) hl (by decide) rfl (Or.inr rfl) (Nat.le_of_ble_eq_true rfl) rfl ?_ h
  intro p e s m args below meth c
  unfold f_X5_readHeat
  refine hz_gdr (fun ga0 => ?_)
  refine hz_aload_n (pc' := 1) (j := 0) dX5_readHeat_0 rfl rfl rfl ?_
  refine hz_iconst (pc' := 2) (v := 1) dX5_readHeat_1 rfl (by decide) ?_
  refine hz_iconst (pc' := 3) (v := 4) dX5_readHeat_2 rfl (by decide) ?_
  refine hz_cVi (pc' := 6) (av := [.int 1, .int 4]) (rest := []) vl_X5_68 (fun x w' h => ct_X5_acceptNumber hl h) ga0 rfl rfl (Nat.le_of_ble_eq_true rfl) (by decide) (by decide) rfl dX5_readHeat_3 rfl (fun v2 w1 => ?_)
  refine hz_ifne (pc' := 9) (tgt := 11) dX5_readHeat_6 (by decide) rfl ?_ ?_
  · refine hz_aload_n (pc' := 12) (j := 0) dX5_readHeat_11 rfl rfl rfl ?_
    refine hz_gP (pc' := 15) (c' := 3) fl_X5_12.r ga0 rfl dX5_readHeat_12 rfl (fun b3 gb3 => ?_)
    refine hz_gP (pc' := 18) (c' := 20) fl_X5_90 gb3 rfl dX5_readHeat_15 rfl (fun b4 gb4 => ?_)
    refine hz_iload_n (pc' := 19) (j := 1) dX5_readHeat_18 rfl rfl rfl ?_
    refine hz_aload_n (pc' := 20) (j := 0) dX5_readHeat_19 rfl rfl rfl ?_
    refine hz_gI (pc' := 23) fl_X5_72.r ga0 rfl dX5_readHeat_20 rfl ?_
    refine hz_iast (pc' := 24) gb4 dX5_readHeat_23 rfl (fun w5 => ?_)
    refine hz_aload_n (pc' := 25) (j := 0) dX5_readHeat_24 rfl rfl rfl ?_
    refine hz_iconst (pc' := 26) (v := 0) dX5_readHeat_25 rfl (by decide) ?_
    refine hz_ldc (pc' := 28) (v := 99999) dX5_readHeat_26 rfl hq_511 ?_
    refine hz_cVi (pc' := 31) (av := [.int 0, .int 99999]) (rest := []) vl_X5_68 (fun x w' h => ct_X5_acceptNumber hl h) ga0 rfl rfl (Nat.le_of_ble_eq_true rfl) (by decide) (by decide) rfl dX5_readHeat_28 rfl (fun v7 w6 => ?_)
    refine hz_ifne (pc' := 34) (tgt := 36) dX5_readHeat_31 (by decide) rfl ?_ ?_
    · refine hz_aload_n (pc' := 37) (j := 0) dX5_readHeat_36 rfl rfl rfl ?_
      refine hz_gP (pc' := 40) (c' := 3) fl_X5_12.r ga0 rfl dX5_readHeat_37 rfl (fun b8 gb8 => ?_)
      refine hz_gP (pc' := 43) (c' := 20) fl_X5_95 gb8 rfl dX5_readHeat_40 rfl (fun b9 gb9 => ?_)
      refine hz_iload_n (pc' := 44) (j := 1) dX5_readHeat_43 rfl rfl rfl ?_
      refine hz_aload_n (pc' := 45) (j := 0) dX5_readHeat_44 rfl rfl rfl ?_
      refine hz_gI (pc' := 48) fl_X5_72.r ga0 rfl dX5_readHeat_45 rfl ?_
      refine hz_iast (pc' := 49) gb9 dX5_readHeat_48 rfl (fun w10 => ?_)
      refine hz_aload_n (pc' := 50) (j := 0) dX5_readHeat_49 rfl rfl rfl ?_
      refine hz_iconst (pc' := 51) (v := 0) dX5_readHeat_50 rfl (by decide) ?_
      refine hz_sipush (pc' := 54) (v := 999) dX5_readHeat_51 rfl (by decide) ?_
      refine hz_cVi (pc' := 57) (av := [.int 0, .int 999]) (rest := []) vl_X5_68 (fun x w' h => ct_X5_acceptNumber hl h) ga0 rfl rfl (Nat.le_of_ble_eq_true rfl) (by decide) (by decide) rfl dX5_readHeat_54 rfl (fun v12 w11 => ?_)
      refine hz_ifne (pc' := 60) (tgt := 62) dX5_readHeat_57 (by decide) rfl ?_ ?_
      · refine hz_aload_n (pc' := 63) (j := 0) dX5_readHeat_62 rfl rfl rfl ?_
        refine hz_gP (pc' := 66) (c' := 3) fl_X5_12.r ga0 rfl dX5_readHeat_63 rfl (fun b13 gb13 => ?_)
        refine hz_gP (pc' := 69) (c' := 20) fl_X5_98 gb13 rfl dX5_readHeat_66 rfl (fun b14 gb14 => ?_)
        refine hz_iload_n (pc' := 70) (j := 1) dX5_readHeat_69 rfl rfl rfl ?_
        refine hz_aload_n (pc' := 71) (j := 0) dX5_readHeat_70 rfl rfl rfl ?_
        refine hz_gI (pc' := 74) fl_X5_72.r ga0 rfl dX5_readHeat_71 rfl ?_
        refine hz_iast (pc' := 75) gb14 dX5_readHeat_74 rfl (fun w15 => ?_)
        refine hz_aload_n (pc' := 76) (j := 0) dX5_readHeat_75 rfl rfl rfl ?_
        refine hz_iconst (pc' := 77) (v := 1) dX5_readHeat_76 rfl (by decide) ?_
        refine hz_sipush (pc' := 80) (v := 999) dX5_readHeat_77 rfl (by decide) ?_
        refine hz_cVi (pc' := 83) (av := [.int 1, .int 999]) (rest := []) vl_X5_68 (fun x w' h => ct_X5_acceptNumber hl h) ga0 rfl rfl (Nat.le_of_ble_eq_true rfl) (by decide) (by decide) rfl dX5_readHeat_80 rfl (fun v17 w16 => ?_)
        refine hz_ifne (pc' := 86) (tgt := 88) dX5_readHeat_83 (by decide) rfl ?_ ?_
        · refine hz_aload_n (pc' := 89) (j := 0) dX5_readHeat_88 rfl rfl rfl ?_
          refine hz_gP (pc' := 92) (c' := 3) fl_X5_12.r ga0 rfl dX5_readHeat_89 rfl (fun b18 gb18 => ?_)
          refine hz_gP (pc' := 95) (c' := 20) fl_X5_101 gb18 rfl dX5_readHeat_92 rfl (fun b19 gb19 => ?_)
          refine hz_iload_n (pc' := 96) (j := 1) dX5_readHeat_95 rfl rfl rfl ?_
          refine hz_aload_n (pc' := 97) (j := 0) dX5_readHeat_96 rfl rfl rfl ?_
          refine hz_gI (pc' := 100) fl_X5_72.r ga0 rfl dX5_readHeat_97 rfl ?_
          refine hz_iast (pc' := 101) gb19 dX5_readHeat_100 rfl (fun w20 => ?_)
          refine hz_iconst (pc' := 102) (v := 1) dX5_readHeat_101 rfl (by decide) ?_
          exact hz_retz dX5_readHeat_102 rfl (by decide)
        · refine hz_iconst (pc' := 87) (v := 0) dX5_readHeat_86 rfl (by decide) ?_
          exact hz_retz dX5_readHeat_87 rfl (by decide)
      · refine hz_iconst (pc' := 61) (v := 0) dX5_readHeat_60 rfl (by decide) ?_
        exact hz_retz dX5_readHeat_61 rfl (by decide)
    · refine hz_iconst (pc' := 35) (v := 0) dX5_readHeat_34 rfl (by decide) ?_
      exact hz_retz dX5_readHeat_35 rfl (by decide)
  · refine hz_iconst (pc' := 10) (v := 0) dX5_readHeat_9 rfl (by decide) ?_
    exact hz_retz dX5_readHeat_10 rfl (by decide)
def f_X5_readPolicy (a0 : Nat) (x1 : Int32) (w : MW) : Option (Int32 × MW) :=
  hz_gd (hz_g 358 a0 6) (hz_ldp w a0 3 358 8 (fun b1 => hz_b (f_X7_isAtWord b1 2 w) (fun v3 w2 => (if v3 = 0 then hz_ldp w2 a0 3 358 8 (fun b4 => hz_b (f_X7_isAtWord b4 3 w2) (fun v6 w5 => (if v6 = 0 then hz_ldp w5 a0 3 358 8 (fun b7 => hz_b (f_X7_isAtWord b7 4 w5) (fun v9 w8 => (if v9 = 0 then hz_ldp w8 a0 3 358 8 (fun b10 => hz_b (f_X7_isAtWord b10 5 w8) (fun v12 w11 => (if v12 = 0 then hz_b (f_X5_fail a0 1 w11) (fun v14 w13 => hz_gd (hz_isb v14) (some (v14, w13))) else hz_ldp w11 a0 0 358 3 (fun b15 => hz_ldp w11 b15 9 358 20 (fun b16 => hz_sta w11 b16 x1 3 (fun w17 => hz_ldp w17 a0 3 358 8 (fun b18 => hz_bv (f_X7_readNext b18 w17) (fun w19 => hz_gd (hz_isb 1) (some (1, w19)))))))))) else hz_ldp w8 a0 0 358 3 (fun b20 => hz_ldp w8 b20 9 358 20 (fun b21 => hz_sta w8 b21 x1 2 (fun w22 => hz_ldp w22 a0 3 358 8 (fun b23 => hz_bv (f_X7_readNext b23 w22) (fun w24 => hz_gd (hz_isb 1) (some (1, w24)))))))))) else hz_ldp w5 a0 0 358 3 (fun b25 => hz_ldp w5 b25 9 358 20 (fun b26 => hz_sta w5 b26 x1 1 (fun w27 => hz_ldp w27 a0 3 358 8 (fun b28 => hz_bv (f_X7_readNext b28 w27) (fun w29 => hz_gd (hz_isb 1) (some (1, w29)))))))))) else hz_ldp w2 a0 0 358 3 (fun b30 => hz_ldp w2 b30 9 358 20 (fun b31 => hz_sta w2 b31 x1 0 (fun w32 => hz_ldp w32 a0 3 358 8 (fun b33 => hz_bv (f_X7_readNext b33 w32) (fun w34 => hz_gd (hz_isb 1) (some (1, w34)))))))))))
set_option maxHeartbeats 4000000 in
set_option maxRecDepth 100000 in
theorem ct_X5_readPolicy {l : Launch} (hl : l.stackTraces = false) {B : Bt} {a0 : Nat} {x1 : Int32} {w : MW} {r : Int32 × MW} (h : f_X5_readPolicy a0 x1 w = some r) : hz_Met l B false 358 358 yX5_readPolicy cX5_readPolicy 2 (Option.some FieldType.boolean) 10 0 0 [.ref (B.1 + a0), .int x1] w (some (.int r.1)) r.2 := by
  refine hz_ofJ (rv := (fun r : Int32 × MW => some (.int r.1))) (wo := (fun r : Int32 × MW => r.2)) (own := RX5) (ini := false) hl (by decide) rfl (Or.inr rfl) (Nat.le_of_ble_eq_true rfl) rfl ?_ h
  intro p e s m args below meth c
  unfold f_X5_readPolicy
  refine hz_gdr (fun ga0 => ?_)
  refine hz_aload_n (pc' := 1) (j := 0) dX5_readPolicy_0 rfl rfl rfl ?_
  refine hz_gP (pc' := 4) (c' := 8) fl_X5_23.r ga0 rfl dX5_readPolicy_1 rfl (fun b1 gb1 => ?_)
  refine hz_ldcS (pc' := 6) (i := 2) dX5_readPolicy_4 rfl rfl ?_
  refine hz_cVi (pc' := 9) (av := [.ref (B.2.2.2.1 2)]) (rest := []) vl_X5_56 (fun x w' h => ct_X7_isAtWord hl h) gb1 rfl rfl (Nat.le_of_ble_eq_true rfl) (by decide) (by decide) rfl dX5_readPolicy_6 rfl (fun v3 w2 => ?_)
  refine hz_ifeq (pc' := 12) (tgt := 25) dX5_readPolicy_9 (by decide) rfl ?_ ?_
  · refine hz_aload_n (pc' := 26) (j := 0) dX5_readPolicy_25 rfl rfl rfl ?_
    refine hz_gP (pc' := 29) (c' := 8) fl_X5_23.r ga0 rfl dX5_readPolicy_26 rfl (fun b4 gb4 => ?_)
    refine hz_ldcS (pc' := 31) (i := 3) dX5_readPolicy_29 rfl rfl ?_
    refine hz_cVi (pc' := 34) (av := [.ref (B.2.2.2.1 3)]) (rest := []) vl_X5_56 (fun x w' h => ct_X7_isAtWord hl h) gb4 rfl rfl (Nat.le_of_ble_eq_true rfl) (by decide) (by decide) rfl dX5_readPolicy_31 rfl (fun v6 w5 => ?_)
    refine hz_ifeq (pc' := 37) (tgt := 50) dX5_readPolicy_34 (by decide) rfl ?_ ?_
    · refine hz_aload_n (pc' := 51) (j := 0) dX5_readPolicy_50 rfl rfl rfl ?_
      refine hz_gP (pc' := 54) (c' := 8) fl_X5_23.r ga0 rfl dX5_readPolicy_51 rfl (fun b7 gb7 => ?_)
      refine hz_ldcS (pc' := 56) (i := 4) dX5_readPolicy_54 rfl rfl ?_
      refine hz_cVi (pc' := 59) (av := [.ref (B.2.2.2.1 4)]) (rest := []) vl_X5_56 (fun x w' h => ct_X7_isAtWord hl h) gb7 rfl rfl (Nat.le_of_ble_eq_true rfl) (by decide) (by decide) rfl dX5_readPolicy_56 rfl (fun v9 w8 => ?_)
      refine hz_ifeq (pc' := 62) (tgt := 75) dX5_readPolicy_59 (by decide) rfl ?_ ?_
      · refine hz_aload_n (pc' := 76) (j := 0) dX5_readPolicy_75 rfl rfl rfl ?_
        refine hz_gP (pc' := 79) (c' := 8) fl_X5_23.r ga0 rfl dX5_readPolicy_76 rfl (fun b10 gb10 => ?_)
        refine hz_ldcS (pc' := 81) (i := 5) dX5_readPolicy_79 rfl rfl ?_
        refine hz_cVi (pc' := 84) (av := [.ref (B.2.2.2.1 5)]) (rest := []) vl_X5_56 (fun x w' h => ct_X7_isAtWord hl h) gb10 rfl rfl (Nat.le_of_ble_eq_true rfl) (by decide) (by decide) rfl dX5_readPolicy_81 rfl (fun v12 w11 => ?_)
        refine hz_ifeq (pc' := 87) (tgt := 100) dX5_readPolicy_84 (by decide) rfl ?_ ?_
        · refine hz_aload_n (pc' := 101) (j := 0) dX5_readPolicy_100 rfl rfl rfl ?_
          refine hz_iconst (pc' := 102) (v := 1) dX5_readPolicy_101 rfl (by decide) ?_
          refine hz_cVi (pc' := 105) (av := [.int 1]) (rest := []) vl_X5_60 (fun x w' h => ct_X5_fail hl h) ga0 rfl rfl (Nat.le_of_ble_eq_true rfl) (by decide) (by decide) rfl dX5_readPolicy_102 rfl (fun v14 w13 => ?_)
          exact hz_retz dX5_readPolicy_105 rfl (by decide)
        · refine hz_aload_n (pc' := 88) (j := 0) dX5_readPolicy_87 rfl rfl rfl ?_
          refine hz_gP (pc' := 91) (c' := 3) fl_X5_12.r ga0 rfl dX5_readPolicy_88 rfl (fun b15 gb15 => ?_)
          refine hz_gP (pc' := 94) (c' := 20) fl_X5_115 gb15 rfl dX5_readPolicy_91 rfl (fun b16 gb16 => ?_)
          refine hz_iload_n (pc' := 95) (j := 1) dX5_readPolicy_94 rfl rfl rfl ?_
          refine hz_iconst (pc' := 96) (v := 3) dX5_readPolicy_95 rfl (by decide) ?_
          refine hz_iast (pc' := 97) gb16 dX5_readPolicy_96 rfl (fun w17 => ?_)
          refine hz_goto (tgt := 106) dX5_readPolicy_97 (by decide) ?_
          refine hz_aload_n (pc' := 107) (j := 0) dX5_readPolicy_106 rfl rfl rfl ?_
          refine hz_gP (pc' := 110) (c' := 8) fl_X5_23.r ga0 rfl dX5_readPolicy_107 rfl (fun b18 gb18 => ?_)
          refine hz_cVv (pc' := 113) (av := []) (rest := []) vl_X5_124 (fun w' h => ct_X7_readNext hl h) gb18 rfl rfl (Nat.le_of_ble_eq_true rfl) (by decide) (by decide) rfl dX5_readPolicy_110 rfl (fun w19 => ?_)
          refine hz_iconst (pc' := 114) (v := 1) dX5_readPolicy_113 rfl (by decide) ?_
          exact hz_retz dX5_readPolicy_114 rfl (by decide)
      · refine hz_aload_n (pc' := 63) (j := 0) dX5_readPolicy_62 rfl rfl rfl ?_
        refine hz_gP (pc' := 66) (c' := 3) fl_X5_12.r ga0 rfl dX5_readPolicy_63 rfl (fun b20 gb20 => ?_)
        refine hz_gP (pc' := 69) (c' := 20) fl_X5_115 gb20 rfl dX5_readPolicy_66 rfl (fun b21 gb21 => ?_)
        refine hz_iload_n (pc' := 70) (j := 1) dX5_readPolicy_69 rfl rfl rfl ?_
        refine hz_iconst (pc' := 71) (v := 2) dX5_readPolicy_70 rfl (by decide) ?_
        refine hz_iast (pc' := 72) gb21 dX5_readPolicy_71 rfl (fun w22 => ?_)
        refine hz_goto (tgt := 106) dX5_readPolicy_72 (by decide) ?_
        refine hz_aload_n (pc' := 107) (j := 0) dX5_readPolicy_106 rfl rfl rfl ?_
        refine hz_gP (pc' := 110) (c' := 8) fl_X5_23.r ga0 rfl dX5_readPolicy_107 rfl (fun b23 gb23 => ?_)
        refine hz_cVv (pc' := 113) (av := []) (rest := []) vl_X5_124 (fun w' h => ct_X7_readNext hl h) gb23 rfl rfl (Nat.le_of_ble_eq_true rfl) (by decide) (by decide) rfl dX5_readPolicy_110 rfl (fun w24 => ?_)
        refine hz_iconst (pc' := 114) (v := 1) dX5_readPolicy_113 rfl (by decide) ?_
        exact hz_retz dX5_readPolicy_114 rfl (by decide)
    · refine hz_aload_n (pc' := 38) (j := 0) dX5_readPolicy_37 rfl rfl rfl ?_
      refine hz_gP (pc' := 41) (c' := 3) fl_X5_12.r ga0 rfl dX5_readPolicy_38 rfl (fun b25 gb25 => ?_)
      refine hz_gP (pc' := 44) (c' := 20) fl_X5_115 gb25 rfl dX5_readPolicy_41 rfl (fun b26 gb26 => ?_)
      refine hz_iload_n (pc' := 45) (j := 1) dX5_readPolicy_44 rfl rfl rfl ?_
      refine hz_iconst (pc' := 46) (v := 1) dX5_readPolicy_45 rfl (by decide) ?_
      refine hz_iast (pc' := 47) gb26 dX5_readPolicy_46 rfl (fun w27 => ?_)
      refine hz_goto (tgt := 106) dX5_readPolicy_47 (by decide) ?_
      refine hz_aload_n (pc' := 107) (j := 0) dX5_readPolicy_106 rfl rfl rfl ?_
      refine hz_gP (pc' := 110) (c' := 8) fl_X5_23.r ga0 rfl dX5_readPolicy_107 rfl (fun b28 gb28 => ?_)
      refine hz_cVv (pc' := 113) (av := []) (rest := []) vl_X5_124 (fun w' h => ct_X7_readNext hl h) gb28 rfl rfl (Nat.le_of_ble_eq_true rfl) (by decide) (by decide) rfl dX5_readPolicy_110 rfl (fun w29 => ?_)
      refine hz_iconst (pc' := 114) (v := 1) dX5_readPolicy_113 rfl (by decide) ?_
      exact hz_retz dX5_readPolicy_114 rfl (by decide)
  · refine hz_aload_n (pc' := 13) (j := 0) dX5_readPolicy_12 rfl rfl rfl ?_
    refine hz_gP (pc' := 16) (c' := 3) fl_X5_12.r ga0 rfl dX5_readPolicy_13 rfl (fun b30 gb30 => ?_)
    refine hz_gP (pc' := 19) (c' := 20) fl_X5_115 gb30 rfl dX5_readPolicy_16 rfl (fun b31 gb31 => ?_)
    refine hz_iload_n (pc' := 20) (j := 1) dX5_readPolicy_19 rfl rfl rfl ?_
    refine hz_iconst (pc' := 21) (v := 0) dX5_readPolicy_20 rfl (by decide) ?_
    refine hz_iast (pc' := 22) gb31 dX5_readPolicy_21 rfl (fun w32 => ?_)
    refine hz_goto (tgt := 106) dX5_readPolicy_22 (by decide) ?_
    refine hz_aload_n (pc' := 107) (j := 0) dX5_readPolicy_106 rfl rfl rfl ?_
    refine hz_gP (pc' := 110) (c' := 8) fl_X5_23.r ga0 rfl dX5_readPolicy_107 rfl (fun b33 gb33 => ?_)
    refine hz_cVv (pc' := 113) (av := []) (rest := []) vl_X5_124 (fun w' h => ct_X7_readNext hl h) gb33 rfl rfl (Nat.le_of_ble_eq_true rfl) (by decide) (by decide) rfl dX5_readPolicy_110 rfl (fun w34 => ?_)
    refine hz_iconst (pc' := 114) (v := 1) dX5_readPolicy_113 rfl (by decide) ?_
    exact hz_retz dX5_readPolicy_114 rfl (by decide)
def f_X5_readPower (a0 : Nat) (x1 : Int32) (w : MW) : Option (Int32 × MW) :=
  hz_gd (hz_g 358 a0 6) (hz_b (f_X5_acceptNumber a0 0 99 w) (fun v2 w1 => (if v2 = 0 then hz_gd (hz_isb 0) (some (0, w1)) else hz_ldp w1 a0 0 358 3 (fun b3 => hz_ldp w1 b3 6 358 20 (fun b4 => hz_sta w1 b4 x1 (w1.1 a0 4) (fun w5 => hz_b (f_X5_acceptNumber a0 0 4 w5) (fun v7 w6 => (if v7 = 0 then hz_gd (hz_isb 0) (some (0, w6)) else hz_ldp w6 a0 0 358 3 (fun b8 => hz_ldp w6 b8 7 358 20 (fun b9 => hz_sta w6 b9 x1 (w6.1 a0 4) (fun w10 => hz_b (f_X5_acceptNumber a0 0 99 w10) (fun v12 w11 => (if v12 = 0 then hz_gd (hz_isb 0) (some (0, w11)) else hz_ldp w11 a0 0 358 3 (fun b13 => hz_ldp w11 b13 8 358 20 (fun b14 => hz_sta w11 b14 x1 (w11.1 a0 4) (fun w15 => hz_gd (hz_isb 1) (some (1, w15))))))))))))))))))
set_option maxHeartbeats 4000000 in
set_option maxRecDepth 100000 in
theorem ct_X5_readPower {l : Launch} (hl : l.stackTraces = false) {B : Bt} {a0 : Nat} {x1 : Int32} {w : MW} {r : Int32 × MW} (h : f_X5_readPower a0 x1 w = some r) : hz_Met l B false 358 358 yX5_readPower cX5_readPower 2 (Option.some FieldType.boolean) 6 0 0 [.ref (B.1 + a0), .int x1] w (some (.int r.1)) r.2 := by
  refine hz_ofJ (rv := (fun r : Int32 × MW => some (.int r.1))) (wo := (fun r : Int32 × MW => r.2)) (own := RX5) (ini := false) hl (by decide) rfl (Or.inr rfl) (Nat.le_of_ble_eq_true rfl) rfl ?_ h
  intro p e s m args below meth c
  unfold f_X5_readPower
  refine hz_gdr (fun ga0 => ?_)
  refine hz_aload_n (pc' := 1) (j := 0) dX5_readPower_0 rfl rfl rfl ?_
  refine hz_iconst (pc' := 2) (v := 0) dX5_readPower_1 rfl (by decide) ?_
  refine hz_bipush (pc' := 4) (v := 99) dX5_readPower_2 rfl (by decide) ?_
  refine hz_cVi (pc' := 7) (av := [.int 0, .int 99]) (rest := []) vl_X5_68 (fun x w' h => ct_X5_acceptNumber hl h) ga0 rfl rfl (Nat.le_of_ble_eq_true rfl) (by decide) (by decide) rfl dX5_readPower_4 rfl (fun v2 w1 => ?_)
  refine hz_ifne (pc' := 10) (tgt := 12) dX5_readPower_7 (by decide) rfl ?_ ?_
  · refine hz_aload_n (pc' := 13) (j := 0) dX5_readPower_12 rfl rfl rfl ?_
    refine hz_gP (pc' := 16) (c' := 3) fl_X5_12.r ga0 rfl dX5_readPower_13 rfl (fun b3 gb3 => ?_)
    refine hz_gP (pc' := 19) (c' := 20) fl_X5_104 gb3 rfl dX5_readPower_16 rfl (fun b4 gb4 => ?_)
    refine hz_iload_n (pc' := 20) (j := 1) dX5_readPower_19 rfl rfl rfl ?_
    refine hz_aload_n (pc' := 21) (j := 0) dX5_readPower_20 rfl rfl rfl ?_
    refine hz_gI (pc' := 24) fl_X5_72.r ga0 rfl dX5_readPower_21 rfl ?_
    refine hz_iast (pc' := 25) gb4 dX5_readPower_24 rfl (fun w5 => ?_)
    refine hz_aload_n (pc' := 26) (j := 0) dX5_readPower_25 rfl rfl rfl ?_
    refine hz_iconst (pc' := 27) (v := 0) dX5_readPower_26 rfl (by decide) ?_
    refine hz_iconst (pc' := 28) (v := 4) dX5_readPower_27 rfl (by decide) ?_
    refine hz_cVi (pc' := 31) (av := [.int 0, .int 4]) (rest := []) vl_X5_68 (fun x w' h => ct_X5_acceptNumber hl h) ga0 rfl rfl (Nat.le_of_ble_eq_true rfl) (by decide) (by decide) rfl dX5_readPower_28 rfl (fun v7 w6 => ?_)
    refine hz_ifne (pc' := 34) (tgt := 36) dX5_readPower_31 (by decide) rfl ?_ ?_
    · refine hz_aload_n (pc' := 37) (j := 0) dX5_readPower_36 rfl rfl rfl ?_
      refine hz_gP (pc' := 40) (c' := 3) fl_X5_12.r ga0 rfl dX5_readPower_37 rfl (fun b8 gb8 => ?_)
      refine hz_gP (pc' := 43) (c' := 20) fl_X5_107 gb8 rfl dX5_readPower_40 rfl (fun b9 gb9 => ?_)
      refine hz_iload_n (pc' := 44) (j := 1) dX5_readPower_43 rfl rfl rfl ?_
      refine hz_aload_n (pc' := 45) (j := 0) dX5_readPower_44 rfl rfl rfl ?_
      refine hz_gI (pc' := 48) fl_X5_72.r ga0 rfl dX5_readPower_45 rfl ?_
      refine hz_iast (pc' := 49) gb9 dX5_readPower_48 rfl (fun w10 => ?_)
      refine hz_aload_n (pc' := 50) (j := 0) dX5_readPower_49 rfl rfl rfl ?_
      refine hz_iconst (pc' := 51) (v := 0) dX5_readPower_50 rfl (by decide) ?_
      refine hz_bipush (pc' := 53) (v := 99) dX5_readPower_51 rfl (by decide) ?_
      refine hz_cVi (pc' := 56) (av := [.int 0, .int 99]) (rest := []) vl_X5_68 (fun x w' h => ct_X5_acceptNumber hl h) ga0 rfl rfl (Nat.le_of_ble_eq_true rfl) (by decide) (by decide) rfl dX5_readPower_53 rfl (fun v12 w11 => ?_)
      refine hz_ifne (pc' := 59) (tgt := 61) dX5_readPower_56 (by decide) rfl ?_ ?_
      · refine hz_aload_n (pc' := 62) (j := 0) dX5_readPower_61 rfl rfl rfl ?_
        refine hz_gP (pc' := 65) (c' := 3) fl_X5_12.r ga0 rfl dX5_readPower_62 rfl (fun b13 gb13 => ?_)
        refine hz_gP (pc' := 68) (c' := 20) fl_X5_110 gb13 rfl dX5_readPower_65 rfl (fun b14 gb14 => ?_)
        refine hz_iload_n (pc' := 69) (j := 1) dX5_readPower_68 rfl rfl rfl ?_
        refine hz_aload_n (pc' := 70) (j := 0) dX5_readPower_69 rfl rfl rfl ?_
        refine hz_gI (pc' := 73) fl_X5_72.r ga0 rfl dX5_readPower_70 rfl ?_
        refine hz_iast (pc' := 74) gb14 dX5_readPower_73 rfl (fun w15 => ?_)
        refine hz_iconst (pc' := 75) (v := 1) dX5_readPower_74 rfl (by decide) ?_
        exact hz_retz dX5_readPower_75 rfl (by decide)
      · refine hz_iconst (pc' := 60) (v := 0) dX5_readPower_59 rfl (by decide) ?_
        exact hz_retz dX5_readPower_60 rfl (by decide)
    · refine hz_iconst (pc' := 35) (v := 0) dX5_readPower_34 rfl (by decide) ?_
      exact hz_retz dX5_readPower_35 rfl (by decide)
  · refine hz_iconst (pc' := 11) (v := 0) dX5_readPower_10 rfl (by decide) ?_
    exact hz_retz dX5_readPower_11 rfl (by decide)
def f_X5_readDomain (a0 : Nat) (x1 : Int32) (w : MW) : Option (Int32 × MW) :=
  hz_gd (hz_g 358 a0 6) (hz_b (f_X5_acceptWord a0 0 w) (fun v2 w1 => Option.bind ((if v2 = 0 then some (0, w1) else hz_b (f_X5_readHeat a0 x1 w1) (fun v5 w4 => (if v5 = 0 then some (0, w4) else hz_b (f_X5_readPower a0 x1 w4) (fun v7 w6 => (if v7 = 0 then some (0, w6) else hz_b (f_X5_readPolicy a0 x1 w6) (fun v9 w8 => (if v9 = 0 then some (0, w8) else hz_b (f_X5_acceptSemicolon a0 w8) (fun v11 w10 => (if v11 = 0 then some (0, w10) else some (1, w10))))))))))) (fun q3 : Int32 × MW => hz_gd (hz_isb q3.1) (some (q3.1, q3.2)))))
set_option maxHeartbeats 4000000 in
set_option maxRecDepth 100000 in
theorem ct_X5_readDomain {l : Launch} (hl : l.stackTraces = false) {B : Bt} {a0 : Nat} {x1 : Int32} {w : MW} {r : Int32 × MW} (h : f_X5_readDomain a0 x1 w = some r) : hz_Met l B false 358 358 yX5_readDomain cX5_readDomain 2 (Option.some FieldType.boolean) 11 0 0 [.ref (B.1 + a0), .int x1] w (some (.int r.1)) r.2 := by
  refine hz_ofJ (rv := (fun r : Int32 × MW => some (.int r.1))) (wo := (fun r : Int32 × MW => r.2)) (own := RX5) (ini := false) hl (by decide) rfl (Or.inr rfl) (Nat.le_of_ble_eq_true rfl) rfl ?_ h
  intro p e s m args below meth c
  unfold f_X5_readDomain
  refine hz_gdr (fun ga0 => ?_)
  refine hz_aload_n (pc' := 1) (j := 0) dX5_readDomain_0 rfl rfl rfl ?_
  refine hz_ldcS (pc' := 3) (i := 0) dX5_readDomain_1 rfl rfl ?_
  refine hz_cVi (pc' := 6) (av := [.ref (B.2.2.2.1 0)]) (rest := []) vl_X5_65 (fun x w' h => ct_X5_acceptWord hl h) ga0 rfl rfl (Nat.le_of_ble_eq_true rfl) (by decide) (by decide) rfl dX5_readDomain_3 rfl (fun v2 w1 => ?_)
  refine hz_bindJ (pcJ := 45) (LJ := fun q3 : Int32 × MW => []) (stJ := fun q3 : Int32 × MW => [.int q3.1]) (kJ := 0) (slJ := 0) (nJ := 358) (wJ := fun q3 : Int32 × MW => q3.2) (fun q3 => ?_) (fun hq3 => ?_)
  · exact hz_retz dX5_readDomain_45 rfl (by decide)
  · refine hz_ifeq (pc' := 9) (tgt := 44) dX5_readDomain_6 (by decide) rfl ?_ ?_
    · refine hz_iconst (pc' := 45) (v := 0) dX5_readDomain_44 rfl (by decide) ?_
      exact hz_loc [] rfl (hq3 (0, w1))
    · refine hz_aload_n (pc' := 10) (j := 0) dX5_readDomain_9 rfl rfl rfl ?_
      refine hz_iload_n (pc' := 11) (j := 1) dX5_readDomain_10 rfl rfl rfl ?_
      refine hz_cVi (pc' := 14) (av := [.int x1]) (rest := []) vl_X5_81 (fun x w' h => ct_X5_readHeat hl h) ga0 rfl rfl (Nat.le_of_ble_eq_true rfl) (by decide) (by decide) rfl dX5_readDomain_11 rfl (fun v5 w4 => ?_)
      refine hz_ifeq (pc' := 17) (tgt := 44) dX5_readDomain_14 (by decide) rfl ?_ ?_
      · refine hz_iconst (pc' := 45) (v := 0) dX5_readDomain_44 rfl (by decide) ?_
        exact hz_loc [] rfl (hq3 (0, w4))
      · refine hz_aload_n (pc' := 18) (j := 0) dX5_readDomain_17 rfl rfl rfl ?_
        refine hz_iload_n (pc' := 19) (j := 1) dX5_readDomain_18 rfl rfl rfl ?_
        refine hz_cVi (pc' := 22) (av := [.int x1]) (rest := []) vl_X5_84 (fun x w' h => ct_X5_readPower hl h) ga0 rfl rfl (Nat.le_of_ble_eq_true rfl) (by decide) (by decide) rfl dX5_readDomain_19 rfl (fun v7 w6 => ?_)
        refine hz_ifeq (pc' := 25) (tgt := 44) dX5_readDomain_22 (by decide) rfl ?_ ?_
        · refine hz_iconst (pc' := 45) (v := 0) dX5_readDomain_44 rfl (by decide) ?_
          exact hz_loc [] rfl (hq3 (0, w6))
        · refine hz_aload_n (pc' := 26) (j := 0) dX5_readDomain_25 rfl rfl rfl ?_
          refine hz_iload_n (pc' := 27) (j := 1) dX5_readDomain_26 rfl rfl rfl ?_
          refine hz_cVi (pc' := 30) (av := [.int x1]) (rest := []) vl_X5_87 (fun x w' h => ct_X5_readPolicy hl h) ga0 rfl rfl (Nat.le_of_ble_eq_true rfl) (by decide) (by decide) rfl dX5_readDomain_27 rfl (fun v9 w8 => ?_)
          refine hz_ifeq (pc' := 33) (tgt := 44) dX5_readDomain_30 (by decide) rfl ?_ ?_
          · refine hz_iconst (pc' := 45) (v := 0) dX5_readDomain_44 rfl (by decide) ?_
            exact hz_loc [] rfl (hq3 (0, w8))
          · refine hz_aload_n (pc' := 34) (j := 0) dX5_readDomain_33 rfl rfl rfl ?_
            refine hz_cVi (pc' := 37) (av := []) (rest := []) vl_X5_78 (fun x w' h => ct_X5_acceptSemicolon hl h) ga0 rfl rfl (Nat.le_of_ble_eq_true rfl) (by decide) (by decide) rfl dX5_readDomain_34 rfl (fun v11 w10 => ?_)
            refine hz_ifeq (pc' := 40) (tgt := 44) dX5_readDomain_37 (by decide) rfl ?_ ?_
            · refine hz_iconst (pc' := 45) (v := 0) dX5_readDomain_44 rfl (by decide) ?_
              exact hz_loc [] rfl (hq3 (0, w10))
            · refine hz_iconst (pc' := 41) (v := 1) dX5_readDomain_40 rfl (by decide) ?_
              refine hz_goto (tgt := 45) dX5_readDomain_41 (by decide) ?_
              exact hz_loc [] rfl (hq3 (1, w10))
def f_X5_readLevel (a0 : Nat) (x1 : Int32) (x2 : Int32) (w : MW) : Option (Int32 × MW) :=
  hz_gd (hz_g 358 a0 6) (hz_let ((x1 * 5) + x2) (fun v1 => Option.bind ((if x2 = 0 then some 1 else hz_ldp w a0 0 358 3 (fun b17 => hz_ldp w b17 11 358 20 (fun b18 => hz_lda w b18 (v1 - 1) (fun v19 => some (v19 + 1)))))) (fun q2 : Int32 => hz_b (f_X5_acceptWord a0 6 w) (fun v4 w3 => (if v4 = 0 then hz_gd (hz_isb 0) (some (0, w3)) else hz_b (f_X5_acceptNumber a0 q2 999 w3) (fun v6 w5 => (if v6 = 0 then hz_gd (hz_isb 0) (some (0, w5)) else hz_ldp w5 a0 0 358 3 (fun b7 => hz_ldp w5 b7 11 358 20 (fun b8 => hz_sta w5 b8 v1 (w5.1 a0 4) (fun w9 => hz_b (f_X5_acceptNumber a0 0 999 w9) (fun v11 w10 => (if v11 = 0 then hz_gd (hz_isb 0) (some (0, w10)) else hz_ldp w10 a0 0 358 3 (fun b12 => hz_ldp w10 b12 12 358 20 (fun b13 => hz_sta w10 b13 v1 (w10.1 a0 4) (fun w14 => hz_b (f_X5_acceptSemicolon a0 w14) (fun v16 w15 => hz_gd (hz_isb v16) (some (v16, w15))))))))))))))))))
set_option maxHeartbeats 4000000 in
set_option maxRecDepth 100000 in
theorem ct_X5_readLevel {l : Launch} (hl : l.stackTraces = false) {B : Bt} {a0 : Nat} {x1 : Int32} {x2 : Int32} {w : MW} {r : Int32 × MW} (h : f_X5_readLevel a0 x1 x2 w = some r) : hz_Met l B false 358 358 yX5_readLevel cX5_readLevel 5 (Option.some FieldType.boolean) 11 0 0 [.ref (B.1 + a0), .int x1, .int x2] w (some (.int r.1)) r.2 := by
  refine hz_ofJ (rv := (fun r : Int32 × MW => some (.int r.1))) (wo := (fun r : Int32 × MW => r.2)) (own := RX5) (ini := false) hl (by decide) rfl (Or.inr rfl) (Nat.le_of_ble_eq_true rfl) rfl ?_ h
  intro p e s m args below meth c
  unfold f_X5_readLevel
  refine hz_gdr (fun ga0 => ?_)
  refine hz_iload_n (pc' := 1) (j := 1) dX5_readLevel_0 rfl rfl rfl ?_
  refine hz_iconst (pc' := 2) (v := 5) dX5_readLevel_1 rfl (by decide) ?_
  refine hz_imul (pc' := 3) dX5_readLevel_2 rfl ?_
  refine hz_iload_n (pc' := 4) (j := 2) dX5_readLevel_3 rfl rfl rfl ?_
  refine hz_iadd (pc' := 5) dX5_readLevel_4 rfl ?_
  refine hz_nameI (fun v1 => ?_)
  refine hz_istore_n (pc' := 6) (L' := [(3, .int v1), (0, .ref (B.1 + a0)), (1, .int x1), (2, .int x2)]) dX5_readLevel_5 rfl rfl (by decide) rfl ?_
  refine hz_iload_n (pc' := 7) (j := 3) dX5_readLevel_6 rfl rfl rfl ?_
  refine hz_bindJ (pcJ := 27) (LJ := fun q2 : Int32 => [(0, .ref (B.1 + a0)), (3, .int v1)]) (stJ := fun q2 : Int32 => [.int q2]) (kJ := 0) (slJ := 0) (nJ := 358) (wJ := fun q2 : Int32 => w) (fun q2 => ?_) (fun hq2 => ?_)
  · refine hz_istore (pc' := 29) (L' := [(4, .int q2), (0, .ref (B.1 + a0)), (3, .int v1)]) dX5_readLevel_27 rfl (by decide) rfl ?_
    refine hz_aload_n (pc' := 30) (j := 1) dX5_readLevel_29 rfl rfl rfl ?_
    refine hz_ldcS (pc' := 32) (i := 6) dX5_readLevel_30 rfl rfl ?_
    refine hz_cVi (pc' := 35) (av := [.ref (B.2.2.2.1 6)]) (rest := []) vl_X5_65 (fun x w' h => ct_X5_acceptWord hl h) ga0 rfl rfl (Nat.le_of_ble_eq_true rfl) (by decide) (by decide) rfl dX5_readLevel_32 rfl (fun v4 w3 => ?_)
    refine hz_ifeq (pc' := 38) (tgt := 50) dX5_readLevel_35 (by decide) rfl ?_ ?_
    · refine hz_iconst (pc' := 51) (v := 0) dX5_readLevel_50 rfl (by decide) ?_
      exact hz_retz dX5_readLevel_51 rfl (by decide)
    · refine hz_aload_n (pc' := 39) (j := 1) dX5_readLevel_38 rfl rfl rfl ?_
      refine hz_iload (pc' := 41) (j := 0) dX5_readLevel_39 rfl rfl ?_
      refine hz_sipush (pc' := 44) (v := 999) dX5_readLevel_41 rfl (by decide) ?_
      refine hz_cVi (pc' := 47) (av := [.int q2, .int 999]) (rest := []) vl_X5_68 (fun x w' h => ct_X5_acceptNumber hl h) ga0 rfl rfl (Nat.le_of_ble_eq_true rfl) (by decide) (by decide) rfl dX5_readLevel_44 rfl (fun v6 w5 => ?_)
      refine hz_ifne (pc' := 50) (tgt := 52) dX5_readLevel_47 (by decide) rfl ?_ ?_
      · refine hz_aload_n (pc' := 53) (j := 1) dX5_readLevel_52 rfl rfl rfl ?_
        refine hz_gP (pc' := 56) (c' := 3) fl_X5_12.r ga0 rfl dX5_readLevel_53 rfl (fun b7 gb7 => ?_)
        refine hz_gP (pc' := 59) (c' := 20) fl_X5_140 gb7 rfl dX5_readLevel_56 rfl (fun b8 gb8 => ?_)
        refine hz_iload_n (pc' := 60) (j := 2) dX5_readLevel_59 rfl rfl rfl ?_
        refine hz_aload_n (pc' := 61) (j := 1) dX5_readLevel_60 rfl rfl rfl ?_
        refine hz_gI (pc' := 64) fl_X5_72.r ga0 rfl dX5_readLevel_61 rfl ?_
        refine hz_iast (pc' := 65) gb8 dX5_readLevel_64 rfl (fun w9 => ?_)
        refine hz_aload_n (pc' := 66) (j := 1) dX5_readLevel_65 rfl rfl rfl ?_
        refine hz_iconst (pc' := 67) (v := 0) dX5_readLevel_66 rfl (by decide) ?_
        refine hz_sipush (pc' := 70) (v := 999) dX5_readLevel_67 rfl (by decide) ?_
        refine hz_cVi (pc' := 73) (av := [.int 0, .int 999]) (rest := []) vl_X5_68 (fun x w' h => ct_X5_acceptNumber hl h) ga0 rfl rfl (Nat.le_of_ble_eq_true rfl) (by decide) (by decide) rfl dX5_readLevel_70 rfl (fun v11 w10 => ?_)
        refine hz_ifne (pc' := 76) (tgt := 78) dX5_readLevel_73 (by decide) rfl ?_ ?_
        · refine hz_aload_n (pc' := 79) (j := 1) dX5_readLevel_78 rfl rfl rfl ?_
          refine hz_gP (pc' := 82) (c' := 3) fl_X5_12.r ga0 rfl dX5_readLevel_79 rfl (fun b12 gb12 => ?_)
          refine hz_gP (pc' := 85) (c' := 20) fl_X5_143 gb12 rfl dX5_readLevel_82 rfl (fun b13 gb13 => ?_)
          refine hz_iload_n (pc' := 86) (j := 2) dX5_readLevel_85 rfl rfl rfl ?_
          refine hz_aload_n (pc' := 87) (j := 1) dX5_readLevel_86 rfl rfl rfl ?_
          refine hz_gI (pc' := 90) fl_X5_72.r ga0 rfl dX5_readLevel_87 rfl ?_
          refine hz_iast (pc' := 91) gb13 dX5_readLevel_90 rfl (fun w14 => ?_)
          refine hz_aload_n (pc' := 92) (j := 1) dX5_readLevel_91 rfl rfl rfl ?_
          refine hz_cVi (pc' := 95) (av := []) (rest := []) vl_X5_78 (fun x w' h => ct_X5_acceptSemicolon hl h) ga0 rfl rfl (Nat.le_of_ble_eq_true rfl) (by decide) (by decide) rfl dX5_readLevel_92 rfl (fun v16 w15 => ?_)
          exact hz_retz dX5_readLevel_95 rfl (by decide)
        · refine hz_iconst (pc' := 77) (v := 0) dX5_readLevel_76 rfl (by decide) ?_
          exact hz_retz dX5_readLevel_77 rfl (by decide)
      · refine hz_iconst (pc' := 51) (v := 0) dX5_readLevel_50 rfl (by decide) ?_
        exact hz_retz dX5_readLevel_51 rfl (by decide)
  · refine hz_ifne (pc' := 10) (tgt := 14) dX5_readLevel_7 (by decide) rfl ?_ ?_
    · refine hz_aload_n (pc' := 15) (j := 1) dX5_readLevel_14 rfl rfl rfl ?_
      refine hz_gP (pc' := 18) (c' := 3) fl_X5_12.r ga0 rfl dX5_readLevel_15 rfl (fun b17 gb17 => ?_)
      refine hz_gP (pc' := 21) (c' := 20) fl_X5_140 gb17 rfl dX5_readLevel_18 rfl (fun b18 gb18 => ?_)
      refine hz_iload_n (pc' := 22) (j := 0) dX5_readLevel_21 rfl rfl rfl ?_
      refine hz_iconst (pc' := 23) (v := 1) dX5_readLevel_22 rfl (by decide) ?_
      refine hz_isub (pc' := 24) dX5_readLevel_23 rfl ?_
      refine hz_iald (pc' := 25) gb18 dX5_readLevel_24 rfl (fun v19 => ?_)
      refine hz_iconst (pc' := 26) (v := 1) dX5_readLevel_25 rfl (by decide) ?_
      refine hz_iadd (pc' := 27) dX5_readLevel_26 rfl ?_
      exact hz_loc [1, 0] rfl (hq2 (v19 + 1))
    · refine hz_iconst (pc' := 11) (v := 1) dX5_readLevel_10 rfl (by decide) ?_
      refine hz_goto (tgt := 27) dX5_readLevel_11 (by decide) ?_
      exact hz_loc [1, 0] rfl (hq2 1)
def lp_X5_readLevels_2 (c0 : Nat) (c1 : Int32) : Nat → (Int32 × MW) → Option (Int32 × MW)
  | 0, _ => none
  | N + 1, v0 => (if 5 ≤ v0.1 then hz_ldp v0.2 c0 3 358 8 (fun b1 => hz_b (f_X7_isAtWord b1 6 v0.2) (fun v3 w2 => (if v3 = 0 then hz_ldp w2 c0 0 358 3 (fun b4 => hz_ldp w2 b4 10 358 20 (fun b5 => hz_sta w2 b5 c1 v0.1 (fun w6 => hz_ldp w6 c0 0 358 3 (fun b7 => hz_ldp w6 b7 7 358 20 (fun b8 => hz_ldp w6 c0 0 358 3 (fun b9 => hz_ldp w6 b9 7 358 20 (fun b10 => hz_lda w6 b10 c1 (fun v11 => hz_sta w6 b8 c1 (if (v0.1 - 1) < v11 then (v0.1 - 1) else v11) (fun w12 => hz_gd (hz_isb 1) (some (1, w12))))))))))) else hz_b (f_X5_fail c0 3 w2) (fun v14 w13 => hz_gd (hz_isb v14) (some (v14, w13)))))) else (if v0.1 = 0 then hz_b (f_X5_readLevel c0 c1 v0.1 v0.2) (fun v16 w15 => (if v16 = 0 then hz_gd (hz_isb 0) (some (0, w15)) else hz_let (v0.1 + Int32.ofInt 1) (fun v17 => lp_X5_readLevels_2 c0 c1 N (v17, w15)))) else hz_ldp v0.2 c0 3 358 8 (fun b18 => hz_b (f_X7_isAtWord b18 6 v0.2) (fun v20 w19 => (if v20 = 0 then hz_ldp w19 c0 3 358 8 (fun b21 => hz_b (f_X7_isAtWord b21 6 w19) (fun v23 w22 => (if v23 = 0 then hz_ldp w22 c0 0 358 3 (fun b24 => hz_ldp w22 b24 10 358 20 (fun b25 => hz_sta w22 b25 c1 v0.1 (fun w26 => hz_ldp w26 c0 0 358 3 (fun b27 => hz_ldp w26 b27 7 358 20 (fun b28 => hz_ldp w26 c0 0 358 3 (fun b29 => hz_ldp w26 b29 7 358 20 (fun b30 => hz_lda w26 b30 c1 (fun v31 => hz_sta w26 b28 c1 (if (v0.1 - 1) < v31 then (v0.1 - 1) else v31) (fun w32 => hz_gd (hz_isb 1) (some (1, w32))))))))))) else hz_b (f_X5_fail c0 3 w22) (fun v34 w33 => hz_gd (hz_isb v34) (some (v34, w33)))))) else hz_b (f_X5_readLevel c0 c1 v0.1 w19) (fun v36 w35 => (if v36 = 0 then hz_gd (hz_isb 0) (some (0, w35)) else hz_let (v0.1 + Int32.ofInt 1) (fun v37 => lp_X5_readLevels_2 c0 c1 N (v37, w35)))))))))
def f_X5_readLevels (a0 : Nat) (x1 : Int32) (w : MW) : Option (Int32 × MW) :=
  hz_gd (hz_g 358 a0 6) (lp_X5_readLevels_2 a0 x1 3000 (0, w))
set_option maxHeartbeats 4000000 in
set_option maxRecDepth 100000 in
theorem ct_X5_readLevels {l : Launch} (hl : l.stackTraces = false) {B : Bt} {a0 : Nat} {x1 : Int32} {w : MW} {r : Int32 × MW} (h : f_X5_readLevels a0 x1 w = some r) : hz_Met l B false 358 358 yX5_readLevels cX5_readLevels 3 (Option.some FieldType.boolean) 12 0 0 [.ref (B.1 + a0), .int x1] w (some (.int r.1)) r.2 := by
  refine hz_ofJ (rv := (fun r : Int32 × MW => some (.int r.1))) (wo := (fun r : Int32 × MW => r.2)) (own := RX5) (ini := false) hl (by decide) rfl (Or.inr rfl) (Nat.le_of_ble_eq_true rfl) rfl ?_ h
  intro p e s m args below meth c
  unfold f_X5_readLevels
  refine hz_gdr (fun ga0 => ?_)
  refine hz_iconst (pc' := 1) (v := 0) dX5_readLevels_0 rfl (by decide) ?_
  refine hz_istore_n (pc' := 2) (L' := [(2, .int 0), (0, .ref (B.1 + a0)), (1, .int x1)]) dX5_readLevels_1 rfl rfl (by decide) rfl ?_
  refine hz_loc [1, 2, 0] rfl (hz_loopJ (lp := lp_X5_readLevels_2 a0 x1) (Lh := fun v1 : Int32 × MW => [(0, .ref (B.1 + a0)), (1, .int x1), (2, .int v1.1)]) (wh := fun v1 : Int32 × MW => v1.2) (fun _ => rfl) (fun Nv1 ihv1 v1 => ?_) 3000 (0, w))
  rw [lp_X5_readLevels_2]
  refine hz_iload_n (pc' := 3) (j := 2) dX5_readLevels_2 rfl rfl rfl ?_
  refine hz_iconst (pc' := 4) (v := 5) dX5_readLevels_3 rfl (by decide) ?_
  refine hz_icmpge (pc' := 7) (tgt := 40) dX5_readLevels_4 (by decide) rfl ?_ ?_
  · refine hz_aload_n (pc' := 41) (j := 0) dX5_readLevels_40 rfl rfl rfl ?_
    refine hz_gP (pc' := 44) (c' := 8) fl_X5_23.r ga0 rfl dX5_readLevels_41 rfl (fun b2 gb2 => ?_)
    refine hz_ldcS (pc' := 46) (i := 6) dX5_readLevels_44 rfl rfl ?_
    refine hz_cVi (pc' := 49) (av := [.ref (B.2.2.2.1 6)]) (rest := []) vl_X5_56 (fun x w' h => ct_X7_isAtWord hl h) gb2 rfl rfl (Nat.le_of_ble_eq_true rfl) (by decide) (by decide) rfl dX5_readLevels_46 rfl (fun v4 w3 => ?_)
    refine hz_ifeq (pc' := 52) (tgt := 58) dX5_readLevels_49 (by decide) rfl ?_ ?_
    · refine hz_aload_n (pc' := 59) (j := 0) dX5_readLevels_58 rfl rfl rfl ?_
      refine hz_gP (pc' := 62) (c' := 3) fl_X5_12.r ga0 rfl dX5_readLevels_59 rfl (fun b5 gb5 => ?_)
      refine hz_gP (pc' := 65) (c' := 20) fl_X5_132 gb5 rfl dX5_readLevels_62 rfl (fun b6 gb6 => ?_)
      refine hz_iload_n (pc' := 66) (j := 1) dX5_readLevels_65 rfl rfl rfl ?_
      refine hz_iload_n (pc' := 67) (j := 2) dX5_readLevels_66 rfl rfl rfl ?_
      refine hz_iast (pc' := 68) gb6 dX5_readLevels_67 rfl (fun w7 => ?_)
      refine hz_aload_n (pc' := 69) (j := 0) dX5_readLevels_68 rfl rfl rfl ?_
      refine hz_gP (pc' := 72) (c' := 3) fl_X5_12.r ga0 rfl dX5_readLevels_69 rfl (fun b8 gb8 => ?_)
      refine hz_gP (pc' := 75) (c' := 20) fl_X5_107 gb8 rfl dX5_readLevels_72 rfl (fun b9 gb9 => ?_)
      refine hz_iload_n (pc' := 76) (j := 1) dX5_readLevels_75 rfl rfl rfl ?_
      refine hz_aload_n (pc' := 77) (j := 0) dX5_readLevels_76 rfl rfl rfl ?_
      refine hz_gP (pc' := 80) (c' := 3) fl_X5_12.r ga0 rfl dX5_readLevels_77 rfl (fun b10 gb10 => ?_)
      refine hz_gP (pc' := 83) (c' := 20) fl_X5_107 gb10 rfl dX5_readLevels_80 rfl (fun b11 gb11 => ?_)
      refine hz_iload_n (pc' := 84) (j := 1) dX5_readLevels_83 rfl rfl rfl ?_
      refine hz_iald (pc' := 85) gb11 dX5_readLevels_84 rfl (fun v12 => ?_)
      refine hz_iload_n (pc' := 86) (j := 2) dX5_readLevels_85 rfl rfl rfl ?_
      refine hz_iconst (pc' := 87) (v := 1) dX5_readLevels_86 rfl (by decide) ?_
      refine hz_isub (pc' := 88) dX5_readLevels_87 rfl ?_
      refine hz_mmin (pc' := 91) hq_533 hq_422 hq_17 hq_423 ⟨Nat.le_of_ble_eq_true rfl, Nat.le_of_ble_eq_true rfl⟩ (by decide) dX5_readLevels_88 rfl ?_
      refine hz_iast (pc' := 92) gb9 dX5_readLevels_91 rfl (fun w13 => ?_)
      refine hz_iconst (pc' := 93) (v := 1) dX5_readLevels_92 rfl (by decide) ?_
      exact hz_retz dX5_readLevels_93 rfl (by decide)
    · refine hz_aload_n (pc' := 53) (j := 0) dX5_readLevels_52 rfl rfl rfl ?_
      refine hz_iconst (pc' := 54) (v := 3) dX5_readLevels_53 rfl (by decide) ?_
      refine hz_cVi (pc' := 57) (av := [.int 3]) (rest := []) vl_X5_60 (fun x w' h => ct_X5_fail hl h) ga0 rfl rfl (Nat.le_of_ble_eq_true rfl) (by decide) (by decide) rfl dX5_readLevels_54 rfl (fun v15 w14 => ?_)
      exact hz_retz dX5_readLevels_57 rfl (by decide)
  · refine hz_iload_n (pc' := 8) (j := 2) dX5_readLevels_7 rfl rfl rfl ?_
    refine hz_ifeq (pc' := 11) (tgt := 23) dX5_readLevels_8 (by decide) rfl ?_ ?_
    · refine hz_aload_n (pc' := 24) (j := 0) dX5_readLevels_23 rfl rfl rfl ?_
      refine hz_iload_n (pc' := 25) (j := 1) dX5_readLevels_24 rfl rfl rfl ?_
      refine hz_iload_n (pc' := 26) (j := 2) dX5_readLevels_25 rfl rfl rfl ?_
      refine hz_cVi (pc' := 29) (av := [.int x1, .int v1.1]) (rest := []) vl_X5_129 (fun x w' h => ct_X5_readLevel hl h) ga0 rfl rfl (Nat.le_of_ble_eq_true rfl) (by decide) (by decide) rfl dX5_readLevels_26 rfl (fun v17 w16 => ?_)
      refine hz_ifne (pc' := 32) (tgt := 34) dX5_readLevels_29 (by decide) rfl ?_ ?_
      · refine hz_iincN (pc' := 37) (j := 2) (fun v18 => [(2, .int v18), (0, .ref (B.1 + a0)), (1, .int x1)]) dX5_readLevels_34 rfl rfl (by decide) (fun _ => rfl) (fun v18 => ?_)
        refine hz_goto (tgt := 2) dX5_readLevels_37 (by decide) ?_
        exact hz_loc [1, 2, 0] rfl (ihv1 (v18, w16))
      · refine hz_iconst (pc' := 33) (v := 0) dX5_readLevels_32 rfl (by decide) ?_
        exact hz_retz dX5_readLevels_33 rfl (by decide)
    · refine hz_aload_n (pc' := 12) (j := 0) dX5_readLevels_11 rfl rfl rfl ?_
      refine hz_gP (pc' := 15) (c' := 8) fl_X5_23.r ga0 rfl dX5_readLevels_12 rfl (fun b19 gb19 => ?_)
      refine hz_ldcS (pc' := 17) (i := 6) dX5_readLevels_15 rfl rfl ?_
      refine hz_cVi (pc' := 20) (av := [.ref (B.2.2.2.1 6)]) (rest := []) vl_X5_56 (fun x w' h => ct_X7_isAtWord hl h) gb19 rfl rfl (Nat.le_of_ble_eq_true rfl) (by decide) (by decide) rfl dX5_readLevels_17 rfl (fun v21 w20 => ?_)
      refine hz_ifeq (pc' := 23) (tgt := 40) dX5_readLevels_20 (by decide) rfl ?_ ?_
      · refine hz_aload_n (pc' := 41) (j := 0) dX5_readLevels_40 rfl rfl rfl ?_
        refine hz_gP (pc' := 44) (c' := 8) fl_X5_23.r ga0 rfl dX5_readLevels_41 rfl (fun b22 gb22 => ?_)
        refine hz_ldcS (pc' := 46) (i := 6) dX5_readLevels_44 rfl rfl ?_
        refine hz_cVi (pc' := 49) (av := [.ref (B.2.2.2.1 6)]) (rest := []) vl_X5_56 (fun x w' h => ct_X7_isAtWord hl h) gb22 rfl rfl (Nat.le_of_ble_eq_true rfl) (by decide) (by decide) rfl dX5_readLevels_46 rfl (fun v24 w23 => ?_)
        refine hz_ifeq (pc' := 52) (tgt := 58) dX5_readLevels_49 (by decide) rfl ?_ ?_
        · refine hz_aload_n (pc' := 59) (j := 0) dX5_readLevels_58 rfl rfl rfl ?_
          refine hz_gP (pc' := 62) (c' := 3) fl_X5_12.r ga0 rfl dX5_readLevels_59 rfl (fun b25 gb25 => ?_)
          refine hz_gP (pc' := 65) (c' := 20) fl_X5_132 gb25 rfl dX5_readLevels_62 rfl (fun b26 gb26 => ?_)
          refine hz_iload_n (pc' := 66) (j := 1) dX5_readLevels_65 rfl rfl rfl ?_
          refine hz_iload_n (pc' := 67) (j := 2) dX5_readLevels_66 rfl rfl rfl ?_
          refine hz_iast (pc' := 68) gb26 dX5_readLevels_67 rfl (fun w27 => ?_)
          refine hz_aload_n (pc' := 69) (j := 0) dX5_readLevels_68 rfl rfl rfl ?_
          refine hz_gP (pc' := 72) (c' := 3) fl_X5_12.r ga0 rfl dX5_readLevels_69 rfl (fun b28 gb28 => ?_)
          refine hz_gP (pc' := 75) (c' := 20) fl_X5_107 gb28 rfl dX5_readLevels_72 rfl (fun b29 gb29 => ?_)
          refine hz_iload_n (pc' := 76) (j := 1) dX5_readLevels_75 rfl rfl rfl ?_
          refine hz_aload_n (pc' := 77) (j := 0) dX5_readLevels_76 rfl rfl rfl ?_
          refine hz_gP (pc' := 80) (c' := 3) fl_X5_12.r ga0 rfl dX5_readLevels_77 rfl (fun b30 gb30 => ?_)
          refine hz_gP (pc' := 83) (c' := 20) fl_X5_107 gb30 rfl dX5_readLevels_80 rfl (fun b31 gb31 => ?_)
          refine hz_iload_n (pc' := 84) (j := 1) dX5_readLevels_83 rfl rfl rfl ?_
          refine hz_iald (pc' := 85) gb31 dX5_readLevels_84 rfl (fun v32 => ?_)
          refine hz_iload_n (pc' := 86) (j := 2) dX5_readLevels_85 rfl rfl rfl ?_
          refine hz_iconst (pc' := 87) (v := 1) dX5_readLevels_86 rfl (by decide) ?_
          refine hz_isub (pc' := 88) dX5_readLevels_87 rfl ?_
          refine hz_mmin (pc' := 91) hq_533 hq_422 hq_17 hq_423 ⟨Nat.le_of_ble_eq_true rfl, Nat.le_of_ble_eq_true rfl⟩ (by decide) dX5_readLevels_88 rfl ?_
          refine hz_iast (pc' := 92) gb29 dX5_readLevels_91 rfl (fun w33 => ?_)
          refine hz_iconst (pc' := 93) (v := 1) dX5_readLevels_92 rfl (by decide) ?_
          exact hz_retz dX5_readLevels_93 rfl (by decide)
        · refine hz_aload_n (pc' := 53) (j := 0) dX5_readLevels_52 rfl rfl rfl ?_
          refine hz_iconst (pc' := 54) (v := 3) dX5_readLevels_53 rfl (by decide) ?_
          refine hz_cVi (pc' := 57) (av := [.int 3]) (rest := []) vl_X5_60 (fun x w' h => ct_X5_fail hl h) ga0 rfl rfl (Nat.le_of_ble_eq_true rfl) (by decide) (by decide) rfl dX5_readLevels_54 rfl (fun v35 w34 => ?_)
          exact hz_retz dX5_readLevels_57 rfl (by decide)
      · refine hz_aload_n (pc' := 24) (j := 0) dX5_readLevels_23 rfl rfl rfl ?_
        refine hz_iload_n (pc' := 25) (j := 1) dX5_readLevels_24 rfl rfl rfl ?_
        refine hz_iload_n (pc' := 26) (j := 2) dX5_readLevels_25 rfl rfl rfl ?_
        refine hz_cVi (pc' := 29) (av := [.int x1, .int v1.1]) (rest := []) vl_X5_129 (fun x w' h => ct_X5_readLevel hl h) ga0 rfl rfl (Nat.le_of_ble_eq_true rfl) (by decide) (by decide) rfl dX5_readLevels_26 rfl (fun v37 w36 => ?_)
        refine hz_ifne (pc' := 32) (tgt := 34) dX5_readLevels_29 (by decide) rfl ?_ ?_
        · refine hz_iincN (pc' := 37) (j := 2) (fun v38 => [(2, .int v38), (0, .ref (B.1 + a0)), (1, .int x1)]) dX5_readLevels_34 rfl rfl (by decide) (fun _ => rfl) (fun v38 => ?_)
          refine hz_goto (tgt := 2) dX5_readLevels_37 (by decide) ?_
          exact hz_loc [1, 2, 0] rfl (ihv1 (v38, w36))
        · refine hz_iconst (pc' := 33) (v := 0) dX5_readLevels_32 rfl (by decide) ?_
          exact hz_retz dX5_readLevels_33 rfl (by decide)
def f_X5_readSystem (a0 : Nat) (w : MW) : Option (Int32 × MW) :=
  hz_gd (hz_g 358 a0 6) (hz_b (f_X5_acceptWord a0 1 w) (fun v2 w1 => (if v2 = 0 then hz_gd (hz_isb 0) (some (0, w1)) else hz_b (f_X5_acceptNumber a0 0 9999 w1) (fun v4 w3 => (if v4 = 0 then hz_gd (hz_isb 0) (some (0, w3)) else hz_ldp w3 a0 0 358 3 (fun b5 => hz_let (hz_pn w3 b5 0 (w3.1 a0 4)) (fun w6 => hz_b (f_X5_acceptSemicolon a0 w6) (fun v8 w7 => hz_gd (hz_isb v8) (some (v8, w7))))))))))
set_option maxHeartbeats 4000000 in
set_option maxRecDepth 100000 in
theorem ct_X5_readSystem {l : Launch} (hl : l.stackTraces = false) {B : Bt} {a0 : Nat} {w : MW} {r : Int32 × MW} (h : f_X5_readSystem a0 w = some r) : hz_Met l B false 358 358 yX5_readSystem cX5_readSystem 1 (Option.some FieldType.boolean) 11 0 0 [.ref (B.1 + a0)] w (some (.int r.1)) r.2 := by
  refine hz_ofJ (rv := (fun r : Int32 × MW => some (.int r.1))) (wo := (fun r : Int32 × MW => r.2)) (own := RX5) (ini := false) hl (by decide) rfl (Or.inr rfl) (Nat.le_of_ble_eq_true rfl) rfl ?_ h
  intro p e s m args below meth c
  unfold f_X5_readSystem
  refine hz_gdr (fun ga0 => ?_)
  refine hz_aload_n (pc' := 1) (j := 0) dX5_readSystem_0 rfl rfl rfl ?_
  refine hz_ldcS (pc' := 3) (i := 1) dX5_readSystem_1 rfl rfl ?_
  refine hz_cVi (pc' := 6) (av := [.ref (B.2.2.2.1 1)]) (rest := []) vl_X5_65 (fun x w' h => ct_X5_acceptWord hl h) ga0 rfl rfl (Nat.le_of_ble_eq_true rfl) (by decide) (by decide) rfl dX5_readSystem_3 rfl (fun v2 w1 => ?_)
  refine hz_ifeq (pc' := 9) (tgt := 20) dX5_readSystem_6 (by decide) rfl ?_ ?_
  · refine hz_iconst (pc' := 21) (v := 0) dX5_readSystem_20 rfl (by decide) ?_
    exact hz_retz dX5_readSystem_21 rfl (by decide)
  · refine hz_aload_n (pc' := 10) (j := 0) dX5_readSystem_9 rfl rfl rfl ?_
    refine hz_iconst (pc' := 11) (v := 0) dX5_readSystem_10 rfl (by decide) ?_
    refine hz_sipush (pc' := 14) (v := 9999) dX5_readSystem_11 rfl (by decide) ?_
    refine hz_cVi (pc' := 17) (av := [.int 0, .int 9999]) (rest := []) vl_X5_68 (fun x w' h => ct_X5_acceptNumber hl h) ga0 rfl rfl (Nat.le_of_ble_eq_true rfl) (by decide) (by decide) rfl dX5_readSystem_14 rfl (fun v4 w3 => ?_)
    refine hz_ifne (pc' := 20) (tgt := 22) dX5_readSystem_17 (by decide) rfl ?_ ?_
    · refine hz_aload_n (pc' := 23) (j := 0) dX5_readSystem_22 rfl rfl rfl ?_
      refine hz_gP (pc' := 26) (c' := 3) fl_X5_12.r ga0 rfl dX5_readSystem_23 rfl (fun b5 gb5 => ?_)
      refine hz_aload_n (pc' := 27) (j := 0) dX5_readSystem_26 rfl rfl rfl ?_
      refine hz_gI (pc' := 30) fl_X5_72.r ga0 rfl dX5_readSystem_27 rfl ?_
      refine hz_putI (pc' := 33) fl_X5_75 gb5 rfl dX5_readSystem_30 rfl (fun w6 => ?_)
      refine hz_aload_n (pc' := 34) (j := 0) dX5_readSystem_33 rfl rfl rfl ?_
      refine hz_cVi (pc' := 37) (av := []) (rest := []) vl_X5_78 (fun x w' h => ct_X5_acceptSemicolon hl h) ga0 rfl rfl (Nat.le_of_ble_eq_true rfl) (by decide) (by decide) rfl dX5_readSystem_34 rfl (fun v8 w7 => ?_)
      exact hz_retz dX5_readSystem_37 rfl (by decide)
    · refine hz_iconst (pc' := 21) (v := 0) dX5_readSystem_20 rfl (by decide) ?_
      exact hz_retz dX5_readSystem_21 rfl (by decide)
def lp_X5_parseText_28 (c0 : Nat) : Nat → (Int32 × MW) → Option (Int32 × MW)
  | 0, _ => none
  | N + 1, v0 => (if 4 ≤ v0.1 then hz_ldp v0.2 c0 3 358 8 (fun b7 => hz_b (f_X7_isAtWord b7 0 v0.2) (fun v9 w8 => Option.bind ((if v9 = 0 then some 1 else some 3)) (fun q10 : Int32 => hz_b (f_X5_fail c0 q10 w8) (fun v12 w11 => hz_gd (hz_isb v12) (some (v12, w11)))))) else hz_b (f_X5_readDomain c0 v0.1 v0.2) (fun v14 w13 => (if v14 = 0 then hz_gd (hz_isb 0) (some (0, w13)) else hz_b (f_X5_readLevels c0 v0.1 w13) (fun v16 w15 => (if v16 = 0 then hz_gd (hz_isb 0) (some (0, w15)) else hz_ldp w15 c0 0 358 3 (fun b17 => hz_let (hz_pn w15 b17 1 (v0.1 + 1)) (fun w18 => hz_ldp w18 c0 3 358 8 (fun b19 => (if (w18.1 b19 1) = 0 then hz_gd (hz_isb 1) (some (1, w18)) else hz_let (v0.1 + Int32.ofInt 1) (fun v20 => lp_X5_parseText_28 c0 N (v20, w18)))))))))))
def f_X5_parseText (a0 : Nat) (w : MW) : Option (Int32 × MW) :=
  hz_gd (hz_g 358 a0 6) (hz_let (hz_pn w a0 1 0) (fun w1 => hz_let (hz_pn w1 a0 2 (-1)) (fun w2 => hz_ldp w2 a0 3 358 8 (fun b3 => hz_bv (f_X7_readFirst b3 w2) (fun w4 => hz_b (f_X5_readSystem a0 w4) (fun v6 w5 => (if v6 = 0 then hz_gd (hz_isb 0) (some (0, w5)) else lp_X5_parseText_28 a0 3000 (0, w5))))))))
set_option maxHeartbeats 4000000 in
set_option maxRecDepth 100000 in
theorem ct_X5_parseText {l : Launch} (hl : l.stackTraces = false) {B : Bt} {a0 : Nat} {w : MW} {r : Int32 × MW} (h : f_X5_parseText a0 w = some r) : hz_Met l B false 358 358 yX5_parseText cX5_parseText 2 (Option.some FieldType.boolean) 13 0 0 [.ref (B.1 + a0)] w (some (.int r.1)) r.2 := by
  refine hz_ofJ (rv := (fun r : Int32 × MW => some (.int r.1))) (wo := (fun r : Int32 × MW => r.2)) (own := RX5) (ini := false) hl (by decide) rfl (Or.inr rfl) (Nat.le_of_ble_eq_true rfl) rfl ?_ h
  intro p e s m args below meth c
  unfold f_X5_parseText
  refine hz_gdr (fun ga0 => ?_)
  refine hz_aload_n (pc' := 1) (j := 0) dX5_parseText_0 rfl rfl rfl ?_
  refine hz_iconst (pc' := 2) (v := 0) dX5_parseText_1 rfl (by decide) ?_
  refine hz_putI (pc' := 5) fl_X5_27 ga0 rfl dX5_parseText_2 rfl (fun w1 => ?_)
  refine hz_aload_n (pc' := 6) (j := 0) dX5_parseText_5 rfl rfl rfl ?_
  refine hz_iconst (pc' := 7) (v := (-1)) dX5_parseText_6 rfl (by decide) ?_
  refine hz_putI (pc' := 10) fl_X5_31 ga0 rfl dX5_parseText_7 rfl (fun w2 => ?_)
  refine hz_aload_n (pc' := 11) (j := 0) dX5_parseText_10 rfl rfl rfl ?_
  refine hz_gP (pc' := 14) (c' := 8) fl_X5_23.r ga0 rfl dX5_parseText_11 rfl (fun b3 gb3 => ?_)
  refine hz_cVv (pc' := 17) (av := []) (rest := []) vl_X5_34 (fun w' h => ct_X7_readFirst hl h) gb3 rfl rfl (Nat.le_of_ble_eq_true rfl) (by decide) (by decide) rfl dX5_parseText_14 rfl (fun w4 => ?_)
  refine hz_aload_n (pc' := 18) (j := 0) dX5_parseText_17 rfl rfl rfl ?_
  refine hz_cVi (pc' := 21) (av := []) (rest := []) vl_X5_37 (fun x w' h => ct_X5_readSystem hl h) ga0 rfl rfl (Nat.le_of_ble_eq_true rfl) (by decide) (by decide) rfl dX5_parseText_18 rfl (fun v6 w5 => ?_)
  refine hz_ifne (pc' := 24) (tgt := 26) dX5_parseText_21 (by decide) rfl ?_ ?_
  · refine hz_iconst (pc' := 27) (v := 0) dX5_parseText_26 rfl (by decide) ?_
    refine hz_istore_n (pc' := 28) (L' := [(1, .int 0), (0, .ref (B.1 + a0))]) dX5_parseText_27 rfl rfl (by decide) rfl ?_
    refine hz_loc [1, 0] rfl (hz_loopJ (lp := lp_X5_parseText_28 a0) (Lh := fun v7 : Int32 × MW => [(0, .ref (B.1 + a0)), (1, .int v7.1)]) (wh := fun v7 : Int32 × MW => v7.2) (fun _ => rfl) (fun Nv7 ihv7 v7 => ?_) 3000 (0, w5))
    rw [lp_X5_parseText_28]
    refine hz_iload_n (pc' := 29) (j := 1) dX5_parseText_28 rfl rfl rfl ?_
    refine hz_iconst (pc' := 30) (v := 4) dX5_parseText_29 rfl (by decide) ?_
    refine hz_icmpge (pc' := 33) (tgt := 79) dX5_parseText_30 (by decide) rfl ?_ ?_
    · refine hz_aload_n (pc' := 80) (j := 0) dX5_parseText_79 rfl rfl rfl ?_
      refine hz_aload_n (pc' := 81) (j := 0) dX5_parseText_80 rfl rfl rfl ?_
      refine hz_gP (pc' := 84) (c' := 8) fl_X5_23.r ga0 rfl dX5_parseText_81 rfl (fun b8 gb8 => ?_)
      refine hz_ldcS (pc' := 86) (i := 0) dX5_parseText_84 rfl rfl ?_
      refine hz_cVi (pc' := 89) (av := [.ref (B.2.2.2.1 0)]) (rest := [.ref (B.1 + a0)]) vl_X5_56 (fun x w' h => ct_X7_isAtWord hl h) gb8 rfl rfl (Nat.le_of_ble_eq_true rfl) (by decide) (by decide) rfl dX5_parseText_86 rfl (fun v10 w9 => ?_)
      refine hz_bindJ (pcJ := 97) (LJ := fun q11 : Int32 => []) (stJ := fun q11 : Int32 => [.int q11, .ref (B.1 + a0)]) (kJ := 0) (slJ := 0) (nJ := 358) (wJ := fun q11 : Int32 => w9) (fun q11 => ?_) (fun hq11 => ?_)
      · refine hz_cVi (pc' := 100) (av := [.int q11]) (rest := []) vl_X5_60 (fun x w' h => ct_X5_fail hl h) ga0 rfl rfl (Nat.le_of_ble_eq_true rfl) (by decide) (by decide) rfl dX5_parseText_97 rfl (fun v13 w12 => ?_)
        exact hz_retz dX5_parseText_100 rfl (by decide)
      · refine hz_ifeq (pc' := 92) (tgt := 96) dX5_parseText_89 (by decide) rfl ?_ ?_
        · refine hz_iconst (pc' := 97) (v := 1) dX5_parseText_96 rfl (by decide) ?_
          exact hz_loc [] rfl (hq11 1)
        · refine hz_iconst (pc' := 93) (v := 3) dX5_parseText_92 rfl (by decide) ?_
          refine hz_goto (tgt := 97) dX5_parseText_93 (by decide) ?_
          exact hz_loc [] rfl (hq11 3)
    · refine hz_aload_n (pc' := 34) (j := 0) dX5_parseText_33 rfl rfl rfl ?_
      refine hz_iload_n (pc' := 35) (j := 1) dX5_parseText_34 rfl rfl rfl ?_
      refine hz_cVi (pc' := 38) (av := [.int v7.1]) (rest := []) vl_X5_41 (fun x w' h => ct_X5_readDomain hl h) ga0 rfl rfl (Nat.le_of_ble_eq_true rfl) (by decide) (by decide) rfl dX5_parseText_35 rfl (fun v15 w14 => ?_)
      refine hz_ifeq (pc' := 41) (tgt := 49) dX5_parseText_38 (by decide) rfl ?_ ?_
      · refine hz_iconst (pc' := 50) (v := 0) dX5_parseText_49 rfl (by decide) ?_
        exact hz_retz dX5_parseText_50 rfl (by decide)
      · refine hz_aload_n (pc' := 42) (j := 0) dX5_parseText_41 rfl rfl rfl ?_
        refine hz_iload_n (pc' := 43) (j := 1) dX5_parseText_42 rfl rfl rfl ?_
        refine hz_cVi (pc' := 46) (av := [.int v7.1]) (rest := []) vl_X5_45 (fun x w' h => ct_X5_readLevels hl h) ga0 rfl rfl (Nat.le_of_ble_eq_true rfl) (by decide) (by decide) rfl dX5_parseText_43 rfl (fun v17 w16 => ?_)
        refine hz_ifne (pc' := 49) (tgt := 51) dX5_parseText_46 (by decide) rfl ?_ ?_
        · refine hz_aload_n (pc' := 52) (j := 0) dX5_parseText_51 rfl rfl rfl ?_
          refine hz_gP (pc' := 55) (c' := 3) fl_X5_12.r ga0 rfl dX5_parseText_52 rfl (fun b18 gb18 => ?_)
          refine hz_iload_n (pc' := 56) (j := 1) dX5_parseText_55 rfl rfl rfl ?_
          refine hz_iconst (pc' := 57) (v := 1) dX5_parseText_56 rfl (by decide) ?_
          refine hz_iadd (pc' := 58) dX5_parseText_57 rfl ?_
          refine hz_putI (pc' := 61) fl_X5_48 gb18 rfl dX5_parseText_58 rfl (fun w19 => ?_)
          refine hz_aload_n (pc' := 62) (j := 0) dX5_parseText_61 rfl rfl rfl ?_
          refine hz_gP (pc' := 65) (c' := 8) fl_X5_23.r ga0 rfl dX5_parseText_62 rfl (fun b20 gb20 => ?_)
          refine hz_gI (pc' := 68) fl_X5_51.r gb20 rfl dX5_parseText_65 rfl ?_
          refine hz_ifne (pc' := 71) (tgt := 73) dX5_parseText_68 (by decide) rfl ?_ ?_
          · refine hz_iincN (pc' := 76) (j := 1) (fun v21 => [(1, .int v21), (0, .ref (B.1 + a0))]) dX5_parseText_73 rfl rfl (by decide) (fun _ => rfl) (fun v21 => ?_)
            refine hz_goto (tgt := 28) dX5_parseText_76 (by decide) ?_
            exact hz_loc [1, 0] rfl (ihv7 (v21, w19))
          · refine hz_iconst (pc' := 72) (v := 1) dX5_parseText_71 rfl (by decide) ?_
            exact hz_retz dX5_parseText_72 rfl (by decide)
        · refine hz_iconst (pc' := 50) (v := 0) dX5_parseText_49 rfl (by decide) ?_
          exact hz_retz dX5_parseText_50 rfl (by decide)
  · refine hz_iconst (pc' := 25) (v := 0) dX5_parseText_24 rfl (by decide) ?_
    exact hz_retz dX5_parseText_25 rfl (by decide)
def f_X6_init (a0 : Nat) (n0 : Nat) (w : MW) : Option (MW) :=
  hz_gd (hz_g n0 a0 7) (hz_gd (hz_ga n0 20 501) (hz_let (hz_fr w n0) (fun w1 => hz_let (hz_pp w1 a0 0 (some n0)) (fun w4 => some w4))))
set_option maxHeartbeats 4000000 in
set_option maxRecDepth 100000 in
theorem ct_X6_init {l : Launch} (hl : l.stackTraces = false) {B : Bt} {a0 : Nat} {n0 : Nat} {w : MW} {r : MW} (h : f_X6_init a0 n0 w = some r) : hz_Met l B true n0 (n0 + 1) yX6_init cX6_init 1 (Option.none : Option FieldType) 2 1 501 [.ref (B.1 + a0)] w none r := by
  refine hz_ofJ (rv := (fun _ : MW => none)) (wo := (fun r : MW => r)) (own := RX6) (ini := true) hl (by decide) rfl (Or.inl rfl) (Nat.le_of_ble_eq_true rfl) rfl ?_ h
  intro p e s m args below meth c
  unfold f_X6_init
  refine hz_gdr (fun ga0 => ?_)
  refine hz_aload_n (pc' := 1) (j := 0) dX6_init_0 rfl rfl rfl ?_
  refine hz_objinit (pc' := 4) hq_361 hq_32 hq_33 ⟨Nat.le_of_ble_eq_true rfl, Nat.le_of_ble_eq_true rfl⟩ dX6_init_1 rfl ?_
  refine hz_aload_n (pc' := 5) (j := 0) dX6_init_4 rfl rfl rfl ?_
  refine hz_sipush (pc' := 8) (v := 501) dX6_init_5 rfl (by decide) ?_
  refine hz_newai (pc' := 10) (N := 501) hq_136 rfl (by decide) (by decide) (by decide) ⟨by omega, by omega⟩ dX6_init_8 rfl (fun w1 g2 => ?_)
  have g3 := hz_g_up (n' := n0 + 1) ga0 (by omega)
  refine hz_putP (pc' := 13) fl_X6_9 rfl g3 rfl rfl rfl dX6_init_10 rfl (fun w4 => ?_)
  exact hz_retv dX6_init_13 rfl ⟨by omega, by omega⟩
def lp_X6_addTick_48 (c0 : Nat) (c1 : Nat) (c4 : Int32) (c5 : Int32) (c6 : Int32) (c7 : Int32) (cw : MW) : Nat → (Int32 × Int32) → Option (Int32)
  | 0, _ => none
  | N + 1, v0 => (if c6 ≤ v0.2 then some v0.1 else hz_ldp cw c1 11 358 20 (fun b10 => hz_lda cw b10 v0.2 (fun v11 => hz_let (if 0 < (c7 - v11) then (c7 - v11) else 0) (fun v12 => hz_ldp cw c0 0 358 20 (fun b13 => hz_lda cw b13 v12 (fun v14 => hz_ldp cw c1 12 358 20 (fun b15 => hz_lda cw b15 v0.2 (fun v16 => hz_let (if (v14 + v16) < v0.1 then (v14 + v16) else v0.1) (fun v17 => hz_let (v0.2 + Int32.ofInt 1) (fun v18 => lp_X6_addTick_48 c0 c1 c4 c5 c6 c7 cw N (v17, v18)))))))))))
def lp_X6_addTick_27 (c0 : Nat) (c1 : Nat) (c4 : Int32) (c5 : Int32) (c6 : Int32) : Nat → (Int32 × MW) → Option (MW)
  | 0, _ => none
  | N + 1, v0 => (if v0.1 < 0 then some v0.2 else hz_ldp v0.2 c0 0 358 20 (fun b7 => hz_lda v0.2 b7 v0.1 (fun v8 => hz_let (v8 + c4) (fun v9 => Option.bind (lp_X6_addTick_48 c0 c1 c4 c5 c6 v0.1 v0.2 3000 (v9, c5)) (fun q11 : Int32 => hz_ldp v0.2 c0 0 358 20 (fun b12 => hz_sta v0.2 b12 v0.1 (if 1000000000 < q11 then 1000000000 else q11) (fun w13 => hz_let (v0.1 + Int32.ofInt (-1)) (fun v14 => lp_X6_addTick_27 c0 c1 c4 c5 c6 N (v14, w13)))))))))
def f_X6_addTick (a0 : Nat) (a1 : Nat) (x2 : Int32) (x3 : Int32) (w : MW) : Option (MW) :=
  hz_gd (hz_g 358 a0 7) (hz_gd (hz_g 358 a1 3) (hz_ldp w a1 6 358 20 (fun b1 => hz_lda w b1 x2 (fun v2 => hz_let (x2 * 5) (fun v3 => hz_ldp w a1 10 358 20 (fun b4 => hz_lda w b4 x2 (fun v5 => hz_let (v3 + v5) (fun v6 => Option.bind (lp_X6_addTick_27 a0 a1 v2 v3 v6 3000 (x3, w)) (fun q8 : MW => some q8)))))))))
set_option maxHeartbeats 4000000 in
set_option maxRecDepth 100000 in
theorem ct_X6_addTick {l : Launch} (hl : l.stackTraces = false) {B : Bt} {a0 : Nat} {a1 : Nat} {x2 : Int32} {x3 : Int32} {w : MW} {r : MW} (h : f_X6_addTick a0 a1 x2 x3 w = some r) : hz_Met l B false 358 358 yX6_addTick cX6_addTick 11 (Option.none : Option FieldType) 2 0 0 [.ref (B.1 + a0), .ref (B.1 + a1), .int x2, .int x3] w none r := by
  refine hz_ofJ (rv := (fun _ : MW => none)) (wo := (fun r : MW => r)) (own := RX6) (ini := false) hl (by decide) rfl (Or.inr rfl) (Nat.le_of_ble_eq_true rfl) rfl ?_ h
  intro p e s m args below meth c
  unfold f_X6_addTick
  refine hz_gdr (fun ga0 => ?_)
  refine hz_gdr (fun ga1 => ?_)
  refine hz_aload_n (pc' := 1) (j := 1) dX6_addTick_0 rfl rfl rfl ?_
  refine hz_gP (pc' := 4) (c' := 20) fl_X6_20 ga1 rfl dX6_addTick_1 rfl (fun b1 gb1 => ?_)
  refine hz_iload_n (pc' := 5) (j := 2) dX6_addTick_4 rfl rfl rfl ?_
  refine hz_iald (pc' := 6) gb1 dX6_addTick_5 rfl (fun v2 => ?_)
  refine hz_istore (pc' := 8) (L' := [(4, .int v2), (0, .ref (B.1 + a0)), (1, .ref (B.1 + a1)), (2, .int x2), (3, .int x3)]) dX6_addTick_6 rfl (by decide) rfl ?_
  refine hz_iload_n (pc' := 9) (j := 3) dX6_addTick_8 rfl rfl rfl ?_
  refine hz_iconst (pc' := 10) (v := 5) dX6_addTick_9 rfl (by decide) ?_
  refine hz_imul (pc' := 11) dX6_addTick_10 rfl ?_
  refine hz_nameI (fun v3 => ?_)
  refine hz_istore (pc' := 13) (L' := [(5, .int v3), (4, .int v2), (0, .ref (B.1 + a0)), (1, .ref (B.1 + a1)), (2, .int x2), (3, .int x3)]) dX6_addTick_11 rfl (by decide) rfl ?_
  refine hz_iload (pc' := 15) (j := 0) dX6_addTick_13 rfl rfl ?_
  refine hz_aload_n (pc' := 16) (j := 3) dX6_addTick_15 rfl rfl rfl ?_
  refine hz_gP (pc' := 19) (c' := 20) fl_X6_25 ga1 rfl dX6_addTick_16 rfl (fun b4 gb4 => ?_)
  refine hz_iload_n (pc' := 20) (j := 4) dX6_addTick_19 rfl rfl rfl ?_
  refine hz_iald (pc' := 21) gb4 dX6_addTick_20 rfl (fun v5 => ?_)
  refine hz_iadd (pc' := 22) dX6_addTick_21 rfl ?_
  refine hz_nameI (fun v6 => ?_)
  refine hz_istore (pc' := 24) (L' := [(6, .int v6), (5, .int v3), (4, .int v2), (0, .ref (B.1 + a0)), (1, .ref (B.1 + a1)), (2, .int x2), (3, .int x3)]) dX6_addTick_22 rfl (by decide) rfl ?_
  refine hz_iload_n (pc' := 25) (j := 6) dX6_addTick_24 rfl rfl rfl ?_
  refine hz_istore (pc' := 27) (L' := [(7, .int x3), (6, .int v6), (5, .int v3), (4, .int v2), (0, .ref (B.1 + a0)), (1, .ref (B.1 + a1)), (2, .int x2), (3, .int x3)]) dX6_addTick_25 rfl (by decide) rfl ?_
  refine hz_bindJ (pcJ := 119) (LJ := fun q8 : MW => []) (stJ := fun _ => []) (kJ := 0) (slJ := 0) (nJ := 358) (wJ := fun q8 : MW => q8) (fun q8 => ?_) (fun hq8 => ?_)
  · exact hz_retv dX6_addTick_119 rfl (by decide)
  · refine hz_loc [4, 5, 3, 2, 1, 0] rfl (hz_loopJ (lp := lp_X6_addTick_27 a0 a1 v2 v3 v6) (Lh := fun v7 : Int32 × MW => [(0, .ref (B.1 + a0)), (1, .ref (B.1 + a1)), (4, .int v2), (5, .int v3), (6, .int v6), (7, .int v7.1)]) (wh := fun v7 : Int32 × MW => v7.2) (fun _ => rfl) (fun Nv7 ihv7 v7 => ?_) 3000 (x3, w))
    rw [lp_X6_addTick_27]
    refine hz_iload (pc' := 29) (j := 5) dX6_addTick_27 rfl rfl ?_
    refine hz_iflt (pc' := 32) (tgt := 119) dX6_addTick_29 (by decide) rfl ?_ ?_
    · exact hz_loc [] rfl (hq8 v7.2)
    · refine hz_aload_n (pc' := 33) (j := 0) dX6_addTick_32 rfl rfl rfl ?_
      refine hz_gP (pc' := 36) (c' := 20) fl_X6_9.r ga0 rfl dX6_addTick_33 rfl (fun b9 gb9 => ?_)
      refine hz_iload (pc' := 38) (j := 5) dX6_addTick_36 rfl rfl ?_
      refine hz_iald (pc' := 39) gb9 dX6_addTick_38 rfl (fun v10 => ?_)
      refine hz_iload (pc' := 41) (j := 2) dX6_addTick_39 rfl rfl ?_
      refine hz_iadd (pc' := 42) dX6_addTick_41 rfl ?_
      refine hz_nameI (fun v11 => ?_)
      refine hz_istore (pc' := 44) (L' := [(8, .int v11), (0, .ref (B.1 + a0)), (1, .ref (B.1 + a1)), (4, .int v2), (5, .int v3), (6, .int v6), (7, .int v7.1)]) dX6_addTick_42 rfl (by decide) rfl ?_
      refine hz_iload (pc' := 46) (j := 4) dX6_addTick_44 rfl rfl ?_
      refine hz_istore (pc' := 48) (L' := [(9, .int v3), (8, .int v11), (0, .ref (B.1 + a0)), (1, .ref (B.1 + a1)), (4, .int v2), (5, .int v3), (6, .int v6), (7, .int v7.1)]) dX6_addTick_46 rfl (by decide) rfl ?_
      refine hz_bindJ (pcJ := 99) (LJ := fun q13 : Int32 => [(0, .ref (B.1 + a0)), (1, .ref (B.1 + a1)), (4, .int v2), (5, .int v3), (6, .int v6), (7, .int v7.1), (8, .int q13)]) (stJ := fun _ => []) (kJ := 0) (slJ := 0) (nJ := 358) (wJ := fun q13 : Int32 => v7.2) (fun q13 => ?_) (fun hq13 => ?_)
      · refine hz_aload_n (pc' := 100) (j := 0) dX6_addTick_99 rfl rfl rfl ?_
        refine hz_gP (pc' := 103) (c' := 20) fl_X6_9.r ga0 rfl dX6_addTick_100 rfl (fun b14 gb14 => ?_)
        refine hz_iload (pc' := 105) (j := 5) dX6_addTick_103 rfl rfl ?_
        refine hz_iload (pc' := 107) (j := 6) dX6_addTick_105 rfl rfl ?_
        refine hz_ldc (pc' := 109) (v := 1000000000) dX6_addTick_107 rfl hq_1155 ?_
        refine hz_mmin (pc' := 112) hq_1161 hq_422 hq_17 hq_423 ⟨Nat.le_of_ble_eq_true rfl, Nat.le_of_ble_eq_true rfl⟩ (by decide) dX6_addTick_109 rfl ?_
        refine hz_iast (pc' := 113) gb14 dX6_addTick_112 rfl (fun w15 => ?_)
        refine hz_iincN (pc' := 116) (j := 5) (fun v16 => [(7, .int v16), (0, .ref (B.1 + a0)), (1, .ref (B.1 + a1)), (4, .int v2), (5, .int v3), (6, .int v6), (8, .int q13)]) dX6_addTick_113 rfl rfl (by decide) (fun _ => rfl) (fun v16 => ?_)
        refine hz_goto (tgt := 27) dX6_addTick_116 (by decide) ?_
        exact hz_loc [1, 2, 3, 4, 5, 0] rfl (ihv7 (v16, w15))
      · refine hz_loc [2, 3, 4, 5, 6, 7, 1, 0] rfl (hz_loopJ (lp := lp_X6_addTick_48 a0 a1 v2 v3 v6 v7.1 v7.2) (Lh := fun v12 : Int32 × Int32 => [(0, .ref (B.1 + a0)), (1, .ref (B.1 + a1)), (4, .int v2), (5, .int v3), (6, .int v6), (7, .int v7.1), (8, .int v12.1), (9, .int v12.2)]) (wh := fun v12 : Int32 × Int32 => v7.2) (fun _ => rfl) (fun Nv12 ihv12 v12 => ?_) 3000 (v11, v3))
        rw [lp_X6_addTick_48]
        refine hz_iload (pc' := 50) (j := 7) dX6_addTick_48 rfl rfl ?_
        refine hz_iload (pc' := 52) (j := 4) dX6_addTick_50 rfl rfl ?_
        refine hz_icmpge (pc' := 55) (tgt := 99) dX6_addTick_52 (by decide) rfl ?_ ?_
        · exact hz_loc [0, 1, 2, 3, 4, 5, 6] rfl (hq13 v12.1)
        · refine hz_iconst (pc' := 56) (v := 0) dX6_addTick_55 rfl (by decide) ?_
          refine hz_iload (pc' := 58) (j := 5) dX6_addTick_56 rfl rfl ?_
          refine hz_aload_n (pc' := 59) (j := 1) dX6_addTick_58 rfl rfl rfl ?_
          refine hz_gP (pc' := 62) (c' := 20) fl_X6_28 ga1 rfl dX6_addTick_59 rfl (fun b17 gb17 => ?_)
          refine hz_iload (pc' := 64) (j := 7) dX6_addTick_62 rfl rfl ?_
          refine hz_iald (pc' := 65) gb17 dX6_addTick_64 rfl (fun v18 => ?_)
          refine hz_isub (pc' := 66) dX6_addTick_65 rfl ?_
          refine hz_mmax (pc' := 69) hq_1160 hq_824 hq_17 hq_825 ⟨Nat.le_of_ble_eq_true rfl, Nat.le_of_ble_eq_true rfl⟩ (by decide) dX6_addTick_66 rfl ?_
          refine hz_nameI (fun v19 => ?_)
          refine hz_istore (pc' := 71) (L' := [(10, .int v19), (0, .ref (B.1 + a0)), (1, .ref (B.1 + a1)), (4, .int v2), (5, .int v3), (6, .int v6), (7, .int v7.1), (8, .int v12.1), (9, .int v12.2)]) dX6_addTick_69 rfl (by decide) rfl ?_
          refine hz_iload (pc' := 73) (j := 7) dX6_addTick_71 rfl rfl ?_
          refine hz_aload_n (pc' := 74) (j := 1) dX6_addTick_73 rfl rfl rfl ?_
          refine hz_gP (pc' := 77) (c' := 20) fl_X6_9.r ga0 rfl dX6_addTick_74 rfl (fun b20 gb20 => ?_)
          refine hz_iload (pc' := 79) (j := 0) dX6_addTick_77 rfl rfl ?_
          refine hz_iald (pc' := 80) gb20 dX6_addTick_79 rfl (fun v21 => ?_)
          refine hz_aload_n (pc' := 81) (j := 2) dX6_addTick_80 rfl rfl rfl ?_
          refine hz_gP (pc' := 84) (c' := 20) fl_X6_37 ga1 rfl dX6_addTick_81 rfl (fun b22 gb22 => ?_)
          refine hz_iload (pc' := 86) (j := 8) dX6_addTick_84 rfl rfl ?_
          refine hz_iald (pc' := 87) gb22 dX6_addTick_86 rfl (fun v23 => ?_)
          refine hz_iadd (pc' := 88) dX6_addTick_87 rfl ?_
          refine hz_mmin (pc' := 91) hq_1161 hq_422 hq_17 hq_423 ⟨Nat.le_of_ble_eq_true rfl, Nat.le_of_ble_eq_true rfl⟩ (by decide) dX6_addTick_88 rfl ?_
          refine hz_nameI (fun v24 => ?_)
          refine hz_istore (pc' := 93) (L' := [(8, .int v24), (10, .int v19), (0, .ref (B.1 + a0)), (1, .ref (B.1 + a1)), (4, .int v2), (5, .int v3), (6, .int v6), (7, .int v7.1), (9, .int v12.2)]) dX6_addTick_91 rfl (by decide) rfl ?_
          refine hz_iincN (pc' := 96) (j := 8) (fun v25 => [(9, .int v25), (8, .int v24), (10, .int v19), (0, .ref (B.1 + a0)), (1, .ref (B.1 + a1)), (4, .int v2), (5, .int v3), (6, .int v6), (7, .int v7.1)]) dX6_addTick_93 rfl rfl (by decide) (fun _ => rfl) (fun v25 => ?_)
          refine hz_goto (tgt := 48) dX6_addTick_96 (by decide) ?_
          exact hz_loc [3, 4, 5, 6, 7, 8, 1, 0] rfl (ihv12 (v24, v25))
def lp_X6_leastEnergy_22 (c0 : Nat) (c1 : Nat) (c2 : Int32) (c3 : Int32) (c4 : Int32) : Nat → (Int32 × MW) → Option (MW)
  | 0, _ => none
  | N + 1, v0 => (if c3 < v0.1 then some v0.2 else hz_ldp v0.2 c0 0 358 20 (fun b4 => hz_sta v0.2 b4 v0.1 1000000000 (fun w5 => hz_let (v0.1 + Int32.ofInt 1) (fun v6 => lp_X6_leastEnergy_22 c0 c1 c2 c3 c4 N (v6, w5)))))
def lp_X6_leastEnergy_46 (c0 : Nat) (c1 : Nat) (c2 : Int32) (c3 : Int32) (c4 : Int32) : Nat → (Int32 × MW) → Option (MW)
  | 0, _ => none
  | N + 1, v0 => (if c4 ≤ v0.1 then some v0.2 else hz_bv (f_X6_addTick c0 c1 c2 c3 v0.2) (fun w6 => hz_let (v0.1 + Int32.ofInt 1) (fun v7 => lp_X6_leastEnergy_46 c0 c1 c2 c3 c4 N (v7, w6))))
def f_X6_leastEnergy (a0 : Nat) (a1 : Nat) (x2 : Int32) (x3 : Int32) (x4 : Int32) (w : MW) : Option (Int32 × MW) :=
  hz_gd (hz_g 358 a0 7) (hz_gd (hz_g 358 a1 3) (hz_ldp w a0 0 358 20 (fun b1 => (if x3 < (Int32.ofNat (hz_ln b1)) then hz_ldp w a0 0 358 20 (fun b2 => hz_sta w b2 0 0 (fun w3 => Option.bind (lp_X6_leastEnergy_22 a0 a1 x2 x3 x4 3000 (1, w3)) (fun q5 : MW => Option.bind (lp_X6_leastEnergy_46 a0 a1 x2 x3 x4 3000 (0, q5)) (fun q7 : MW => hz_ldp q7 a0 0 358 20 (fun b8 => hz_lda q7 b8 x3 (fun v9 => Option.bind ((if 1000000000 ≤ v9 then some (-2) else hz_ldp q7 a0 0 358 20 (fun b11 => hz_lda q7 b11 x3 (fun v12 => some v12)))) (fun q10 : Int32 => some (q10, q7)))))))) else some ((-2), w)))))
set_option maxHeartbeats 4000000 in
set_option maxRecDepth 100000 in
theorem ct_X6_leastEnergy {l : Launch} (hl : l.stackTraces = false) {B : Bt} {a0 : Nat} {a1 : Nat} {x2 : Int32} {x3 : Int32} {x4 : Int32} {w : MW} {r : Int32 × MW} (h : f_X6_leastEnergy a0 a1 x2 x3 x4 w = some r) : hz_Met l B false 358 358 yX6_leastEnergy cX6_leastEnergy 6 (Option.some FieldType.int) 3 0 0 [.ref (B.1 + a0), .ref (B.1 + a1), .int x2, .int x3, .int x4] w (some (.int r.1)) r.2 := by
  refine hz_ofJ (rv := (fun r : Int32 × MW => some (.int r.1))) (wo := (fun r : Int32 × MW => r.2)) (own := RX6) (ini := false) hl (by decide) rfl (Or.inr rfl) (Nat.le_of_ble_eq_true rfl) rfl ?_ h
  intro p e s m args below meth c
  unfold f_X6_leastEnergy
  refine hz_gdr (fun ga0 => ?_)
  refine hz_gdr (fun ga1 => ?_)
  refine hz_iload_n (pc' := 1) (j := 3) dX6_leastEnergy_0 rfl rfl rfl ?_
  refine hz_aload_n (pc' := 2) (j := 0) dX6_leastEnergy_1 rfl rfl rfl ?_
  refine hz_gP (pc' := 5) (c' := 20) fl_X6_9.r ga0 rfl dX6_leastEnergy_2 rfl (fun b1 gb1 => ?_)
  refine hz_aleni (pc' := 6) gb1 dX6_leastEnergy_5 rfl ?_
  refine hz_icmplt (pc' := 9) (tgt := 12) dX6_leastEnergy_6 (by decide) rfl ?_ ?_
  · refine hz_aload_n (pc' := 13) (j := 0) dX6_leastEnergy_12 rfl rfl rfl ?_
    refine hz_gP (pc' := 16) (c' := 20) fl_X6_9.r ga0 rfl dX6_leastEnergy_13 rfl (fun b2 gb2 => ?_)
    refine hz_iconst (pc' := 17) (v := 0) dX6_leastEnergy_16 rfl (by decide) ?_
    refine hz_iconst (pc' := 18) (v := 0) dX6_leastEnergy_17 rfl (by decide) ?_
    refine hz_iast (pc' := 19) gb2 dX6_leastEnergy_18 rfl (fun w3 => ?_)
    refine hz_iconst (pc' := 20) (v := 1) dX6_leastEnergy_19 rfl (by decide) ?_
    refine hz_istore (pc' := 22) (L' := [(5, .int 1), (0, .ref (B.1 + a0)), (1, .ref (B.1 + a1)), (2, .int x2), (3, .int x3), (4, .int x4)]) dX6_leastEnergy_20 rfl (by decide) rfl ?_
    refine hz_bindJ (pcJ := 43) (LJ := fun q5 : MW => [(0, .ref (B.1 + a0)), (1, .ref (B.1 + a1)), (2, .int x2), (3, .int x3), (4, .int x4)]) (stJ := fun _ => []) (kJ := 0) (slJ := 0) (nJ := 358) (wJ := fun q5 : MW => q5) (fun q5 => ?_) (fun hq5 => ?_)
    · refine hz_iconst (pc' := 44) (v := 0) dX6_leastEnergy_43 rfl (by decide) ?_
      refine hz_istore (pc' := 46) (L' := [(5, .int 0), (0, .ref (B.1 + a0)), (1, .ref (B.1 + a1)), (2, .int x2), (3, .int x3), (4, .int x4)]) dX6_leastEnergy_44 rfl (by decide) rfl ?_
      refine hz_bindJ (pcJ := 66) (LJ := fun q7 : MW => [(0, .ref (B.1 + a0)), (3, .int x3)]) (stJ := fun _ => []) (kJ := 0) (slJ := 0) (nJ := 358) (wJ := fun q7 : MW => q7) (fun q7 => ?_) (fun hq7 => ?_)
      · refine hz_aload_n (pc' := 67) (j := 0) dX6_leastEnergy_66 rfl rfl rfl ?_
        refine hz_gP (pc' := 70) (c' := 20) fl_X6_9.r ga0 rfl dX6_leastEnergy_67 rfl (fun b8 gb8 => ?_)
        refine hz_iload_n (pc' := 71) (j := 1) dX6_leastEnergy_70 rfl rfl rfl ?_
        refine hz_iald (pc' := 72) gb8 dX6_leastEnergy_71 rfl (fun v9 => ?_)
        refine hz_ldc (pc' := 74) (v := 1000000000) dX6_leastEnergy_72 rfl hq_1155 ?_
        refine hz_bindJ (pcJ := 88) (LJ := fun q10 : Int32 => []) (stJ := fun q10 : Int32 => [.int q10]) (kJ := 0) (slJ := 0) (nJ := 358) (wJ := fun q10 : Int32 => q7) (fun q10 => ?_) (fun hq10 => ?_)
        · exact hz_reti dX6_leastEnergy_88 rfl (by decide)
        · refine hz_icmpge (pc' := 77) (tgt := 86) dX6_leastEnergy_74 (by decide) rfl ?_ ?_
          · refine hz_bipush (pc' := 88) (v := (-2)) dX6_leastEnergy_86 rfl (by decide) ?_
            exact hz_loc [] rfl (hq10 (-2))
          · refine hz_aload_n (pc' := 78) (j := 0) dX6_leastEnergy_77 rfl rfl rfl ?_
            refine hz_gP (pc' := 81) (c' := 20) fl_X6_9.r ga0 rfl dX6_leastEnergy_78 rfl (fun b11 gb11 => ?_)
            refine hz_iload_n (pc' := 82) (j := 1) dX6_leastEnergy_81 rfl rfl rfl ?_
            refine hz_iald (pc' := 83) gb11 dX6_leastEnergy_82 rfl (fun v12 => ?_)
            refine hz_goto (tgt := 88) dX6_leastEnergy_83 (by decide) ?_
            exact hz_loc [] rfl (hq10 v12)
      · refine hz_loc [1, 2, 3, 4, 5, 0] rfl (hz_loopJ (lp := lp_X6_leastEnergy_46 a0 a1 x2 x3 x4) (Lh := fun v6 : Int32 × MW => [(0, .ref (B.1 + a0)), (1, .ref (B.1 + a1)), (2, .int x2), (3, .int x3), (4, .int x4), (5, .int v6.1)]) (wh := fun v6 : Int32 × MW => v6.2) (fun _ => rfl) (fun Nv6 ihv6 v6 => ?_) 3000 (0, q5))
        rw [lp_X6_leastEnergy_46]
        refine hz_iload (pc' := 48) (j := 5) dX6_leastEnergy_46 rfl rfl ?_
        refine hz_iload (pc' := 50) (j := 4) dX6_leastEnergy_48 rfl rfl ?_
        refine hz_icmpge (pc' := 53) (tgt := 66) dX6_leastEnergy_50 (by decide) rfl ?_ ?_
        · exact hz_loc [0, 3] rfl (hq7 v6.2)
        · refine hz_aload_n (pc' := 54) (j := 0) dX6_leastEnergy_53 rfl rfl rfl ?_
          refine hz_aload_n (pc' := 55) (j := 1) dX6_leastEnergy_54 rfl rfl rfl ?_
          refine hz_iload_n (pc' := 56) (j := 2) dX6_leastEnergy_55 rfl rfl rfl ?_
          refine hz_iload_n (pc' := 57) (j := 3) dX6_leastEnergy_56 rfl rfl rfl ?_
          refine hz_cVv (pc' := 60) (av := [.ref (B.1 + a1), .int x2, .int x3]) (rest := []) vl_X6_16 (fun w' h => ct_X6_addTick hl h) ga0 rfl rfl (Nat.le_of_ble_eq_true rfl) (by decide) (by decide) rfl dX6_leastEnergy_57 rfl (fun w13 => ?_)
          refine hz_iincN (pc' := 63) (j := 5) (fun v14 => [(5, .int v14), (0, .ref (B.1 + a0)), (1, .ref (B.1 + a1)), (2, .int x2), (3, .int x3), (4, .int x4)]) dX6_leastEnergy_60 rfl rfl (by decide) (fun _ => rfl) (fun v14 => ?_)
          refine hz_goto (tgt := 46) dX6_leastEnergy_63 (by decide) ?_
          exact hz_loc [1, 2, 3, 4, 5, 0] rfl (ihv6 (v14, w13))
    · refine hz_loc [1, 2, 3, 4, 5, 0] rfl (hz_loopJ (lp := lp_X6_leastEnergy_22 a0 a1 x2 x3 x4) (Lh := fun v4 : Int32 × MW => [(0, .ref (B.1 + a0)), (1, .ref (B.1 + a1)), (2, .int x2), (3, .int x3), (4, .int x4), (5, .int v4.1)]) (wh := fun v4 : Int32 × MW => v4.2) (fun _ => rfl) (fun Nv4 ihv4 v4 => ?_) 3000 (1, w3))
      rw [lp_X6_leastEnergy_22]
      refine hz_iload (pc' := 24) (j := 5) dX6_leastEnergy_22 rfl rfl ?_
      refine hz_iload_n (pc' := 25) (j := 3) dX6_leastEnergy_24 rfl rfl rfl ?_
      refine hz_icmpgt (pc' := 28) (tgt := 43) dX6_leastEnergy_25 (by decide) rfl ?_ ?_
      · exact hz_loc [0, 1, 2, 3, 4] rfl (hq5 v4.2)
      · refine hz_aload_n (pc' := 29) (j := 0) dX6_leastEnergy_28 rfl rfl rfl ?_
        refine hz_gP (pc' := 32) (c' := 20) fl_X6_9.r ga0 rfl dX6_leastEnergy_29 rfl (fun b15 gb15 => ?_)
        refine hz_iload (pc' := 34) (j := 5) dX6_leastEnergy_32 rfl rfl ?_
        refine hz_ldc (pc' := 36) (v := 1000000000) dX6_leastEnergy_34 rfl hq_1155 ?_
        refine hz_iast (pc' := 37) gb15 dX6_leastEnergy_36 rfl (fun w16 => ?_)
        refine hz_iincN (pc' := 40) (j := 5) (fun v17 => [(5, .int v17), (0, .ref (B.1 + a0)), (1, .ref (B.1 + a1)), (2, .int x2), (3, .int x3), (4, .int x4)]) dX6_leastEnergy_37 rfl rfl (by decide) (fun _ => rfl) (fun v17 => ?_)
        refine hz_goto (tgt := 22) dX6_leastEnergy_40 (by decide) ?_
        exact hz_loc [1, 2, 3, 4, 5, 0] rfl (ihv4 (v17, w16))
  · refine hz_bipush (pc' := 11) (v := (-2)) dX6_leastEnergy_9 rfl (by decide) ?_
    exact hz_reti dX6_leastEnergy_11 rfl (by decide)
def f_X8_init (a0 : Nat) (n0 : Nat) (w : MW) : Option (MW) :=
  hz_gd (hz_g n0 a0 9) (hz_gd (hz_ga n0 20 24) (hz_let (hz_fr w n0) (fun w1 => hz_let (hz_pp w1 a0 1 (some n0)) (fun w4 => hz_gd (hz_ga (n0 + 1) 20 24) (hz_let (hz_fr w4 (n0 + 1)) (fun w5 => hz_let (hz_pp w5 a0 2 (some (n0 + 1))) (fun w8 => some w8)))))))
set_option maxHeartbeats 4000000 in
set_option maxRecDepth 100000 in
theorem ct_X8_init {l : Launch} (hl : l.stackTraces = false) {B : Bt} {a0 : Nat} {n0 : Nat} {w : MW} {r : MW} (h : f_X8_init a0 n0 w = some r) : hz_Met l B true n0 (n0 + 2) yX8_init cX8_init 1 (Option.none : Option FieldType) 2 2 48 [.ref (B.1 + a0)] w none r := by
  refine hz_ofJ (rv := (fun _ : MW => none)) (wo := (fun r : MW => r)) (own := RX8) (ini := true) hl (by decide) rfl (Or.inl rfl) (Nat.le_of_ble_eq_true rfl) rfl ?_ h
  intro p e s m args below meth c
  unfold f_X8_init
  refine hz_gdr (fun ga0 => ?_)
  refine hz_aload_n (pc' := 1) (j := 0) dX8_init_0 rfl rfl rfl ?_
  refine hz_objinit (pc' := 4) hq_342 hq_32 hq_33 ⟨Nat.le_of_ble_eq_true rfl, Nat.le_of_ble_eq_true rfl⟩ dX8_init_1 rfl ?_
  refine hz_aload_n (pc' := 5) (j := 0) dX8_init_4 rfl rfl rfl ?_
  refine hz_bipush (pc' := 7) (v := 24) dX8_init_5 rfl (by decide) ?_
  refine hz_newai (pc' := 9) (N := 24) hq_136 rfl (by decide) (by decide) (by decide) ⟨by omega, by omega⟩ dX8_init_7 rfl (fun w1 g2 => ?_)
  have g3 := hz_g_up (n' := n0 + 1) ga0 (by omega)
  refine hz_putP (pc' := 12) fl_X8_9 rfl g3 rfl rfl rfl dX8_init_9 rfl (fun w4 => ?_)
  refine hz_aload_n (pc' := 13) (j := 0) dX8_init_12 rfl rfl rfl ?_
  refine hz_bipush (pc' := 15) (v := 24) dX8_init_13 rfl (by decide) ?_
  refine hz_newai (pc' := 17) (N := 24) hq_136 rfl (by decide) (by decide) (by decide) ⟨by omega, by omega⟩ dX8_init_15 rfl (fun w5 g6 => ?_)
  have g7 := hz_g_up (n' := n0 + 2) g3 (by omega)
  refine hz_putP (pc' := 20) fl_X8_15 rfl g7 rfl rfl rfl dX8_init_17 rfl (fun w8 => ?_)
  exact hz_retv dX8_init_20 rfl ⟨by omega, by omega⟩
def lp_X8_makeFor_18 (c0 : Nat) (c1 : Nat) (c3 : Nat) : Nat → (Int32 × MW) → Option (MW)
  | 0, _ => none
  | N + 1, v0 => (if v0.1 = 0 then some v0.2 else (if 24 ≤ (v0.2.1 c0 0) then some v0.2 else hz_b (f_X1_leastSlackEnd c3 v0.1 v0.2) (fun v6 w5 => hz_let (if v6 < (w5.1 c1 2) then (w5.1 c1 2) else v6) (fun v7 => hz_ldp w5 c0 1 358 20 (fun b8 => hz_sta w5 b8 (w5.1 c0 0) v7 (fun w9 => hz_ldp w9 c0 2 358 20 (fun b10 => hz_b (f_X1_releasedBy c3 v7 v0.1 w9) (fun v12 w11 => hz_sta w11 b10 (w9.1 c0 0) v12 (fun w13 => hz_ldp w13 c0 2 358 20 (fun b14 => hz_lda w13 b14 (w13.1 c0 0) (fun v15 => hz_let (v0.1 &&& (v15 ^^^ (-1))) (fun v16 => hz_let (hz_pn w13 c0 0 ((w13.1 c0 0) + 1)) (fun w17 => lp_X8_makeFor_18 c0 c1 c3 N (v16, w17))))))))))))))
def f_X8_makeFor (a0 : Nat) (a1 : Nat) (x2 : Int32) (w : MW) : Option (MW) :=
  hz_gd (hz_g 358 a0 9) (hz_gd (hz_g 358 a1 4) (hz_ldp w a1 1 358 2 (fun b1 => hz_ldp w b1 3 358 20 (fun b2 => hz_lda w b2 x2 (fun v3 => hz_let (hz_pn w a0 0 0) (fun w4 => Option.bind (lp_X8_makeFor_18 a0 a1 b1 3000 (v3, w4)) (fun q6 : MW => some q6)))))))
set_option maxHeartbeats 4000000 in
set_option maxRecDepth 100000 in
theorem ct_X8_makeFor {l : Launch} (hl : l.stackTraces = false) {B : Bt} {a0 : Nat} {a1 : Nat} {x2 : Int32} {w : MW} {r : MW} (h : f_X8_makeFor a0 a1 x2 w = some r) : hz_Met l B false 358 358 yX8_makeFor cX8_makeFor 6 (Option.none : Option FieldType) 4 0 0 [.ref (B.1 + a0), .ref (B.1 + a1), .int x2] w none r := by
  refine hz_ofJ (rv := (fun _ : MW => none)) (wo := (fun r : MW => r)) (own := RX8) (ini := false) hl (by decide) rfl (Or.inr rfl) (Nat.le_of_ble_eq_true rfl) rfl ?_ h
  intro p e s m args below meth c
  unfold f_X8_makeFor
  refine hz_gdr (fun ga0 => ?_)
  refine hz_gdr (fun ga1 => ?_)
  refine hz_aload_n (pc' := 1) (j := 1) dX8_makeFor_0 rfl rfl rfl ?_
  refine hz_gP (pc' := 4) (c' := 2) fl_X8_18 ga1 rfl dX8_makeFor_1 rfl (fun b1 gb1 => ?_)
  refine hz_astore_n (pc' := 5) (L' := [(3, .ref (B.1 + b1)), (0, .ref (B.1 + a0)), (1, .ref (B.1 + a1)), (2, .int x2)]) dX8_makeFor_4 rfl rfl (by decide) rfl ?_
  refine hz_aload_n (pc' := 6) (j := 0) dX8_makeFor_5 rfl rfl rfl ?_
  refine hz_gP (pc' := 9) (c' := 20) fl_X8_24 gb1 rfl dX8_makeFor_6 rfl (fun b2 gb2 => ?_)
  refine hz_iload_n (pc' := 10) (j := 3) dX8_makeFor_9 rfl rfl rfl ?_
  refine hz_iald (pc' := 11) gb2 dX8_makeFor_10 rfl (fun v3 => ?_)
  refine hz_istore (pc' := 13) (L' := [(4, .int v3), (3, .ref (B.1 + b1)), (0, .ref (B.1 + a0)), (1, .ref (B.1 + a1)), (2, .int x2)]) dX8_makeFor_11 rfl (by decide) rfl ?_
  refine hz_aload_n (pc' := 14) (j := 2) dX8_makeFor_13 rfl rfl rfl ?_
  refine hz_iconst (pc' := 15) (v := 0) dX8_makeFor_14 rfl (by decide) ?_
  refine hz_putI (pc' := 18) fl_X8_29 ga0 rfl dX8_makeFor_15 rfl (fun w4 => ?_)
  refine hz_bindJ (pcJ := 104) (LJ := fun q6 : MW => []) (stJ := fun _ => []) (kJ := 0) (slJ := 0) (nJ := 358) (wJ := fun q6 : MW => q6) (fun q6 => ?_) (fun hq6 => ?_)
  · exact hz_retv dX8_makeFor_104 rfl (by decide)
  · refine hz_loc [2, 3, 1, 0] rfl (hz_loopJ (lp := lp_X8_makeFor_18 a0 a1 b1) (Lh := fun v5 : Int32 × MW => [(0, .ref (B.1 + a0)), (1, .ref (B.1 + a1)), (3, .ref (B.1 + b1)), (4, .int v5.1)]) (wh := fun v5 : Int32 × MW => v5.2) (fun _ => rfl) (fun Nv5 ihv5 v5 => ?_) 3000 (v3, w4))
    rw [lp_X8_makeFor_18]
    refine hz_iload (pc' := 20) (j := 3) dX8_makeFor_18 rfl rfl ?_
    refine hz_ifeq (pc' := 23) (tgt := 104) dX8_makeFor_20 (by decide) rfl ?_ ?_
    · exact hz_loc [] rfl (hq6 v5.2)
    · refine hz_aload_n (pc' := 24) (j := 0) dX8_makeFor_23 rfl rfl rfl ?_
      refine hz_gI (pc' := 27) fl_X8_29.r ga0 rfl dX8_makeFor_24 rfl ?_
      refine hz_bipush (pc' := 29) (v := 24) dX8_makeFor_27 rfl (by decide) ?_
      refine hz_icmpge (pc' := 32) (tgt := 104) dX8_makeFor_29 (by decide) rfl ?_ ?_
      · exact hz_loc [] rfl (hq6 v5.2)
      · refine hz_aload_n (pc' := 33) (j := 2) dX8_makeFor_32 rfl rfl rfl ?_
        refine hz_iload (pc' := 35) (j := 3) dX8_makeFor_33 rfl rfl ?_
        refine hz_cVi (pc' := 38) (av := [.int v5.1]) (rest := []) vl_X8_33 (fun x w' h => ct_X1_leastSlackEnd hl h) gb1 rfl rfl (Nat.le_of_ble_eq_true rfl) (by decide) (by decide) rfl dX8_makeFor_35 rfl (fun v8 w7 => ?_)
        refine hz_aload_n (pc' := 39) (j := 1) dX8_makeFor_38 rfl rfl rfl ?_
        refine hz_gI (pc' := 42) fl_X8_37.r ga1 rfl dX8_makeFor_39 rfl ?_
        refine hz_mmax (pc' := 45) hq_1174 hq_824 hq_17 hq_825 ⟨Nat.le_of_ble_eq_true rfl, Nat.le_of_ble_eq_true rfl⟩ (by decide) dX8_makeFor_42 rfl ?_
        refine hz_nameI (fun v9 => ?_)
        refine hz_istore (pc' := 47) (L' := [(5, .int v9), (0, .ref (B.1 + a0)), (1, .ref (B.1 + a1)), (3, .ref (B.1 + b1)), (4, .int v5.1)]) dX8_makeFor_45 rfl (by decide) rfl ?_
        refine hz_aload_n (pc' := 48) (j := 1) dX8_makeFor_47 rfl rfl rfl ?_
        refine hz_gP (pc' := 51) (c' := 20) fl_X8_9.r ga0 rfl dX8_makeFor_48 rfl (fun b10 gb10 => ?_)
        refine hz_aload_n (pc' := 52) (j := 1) dX8_makeFor_51 rfl rfl rfl ?_
        refine hz_gI (pc' := 55) fl_X8_29.r ga0 rfl dX8_makeFor_52 rfl ?_
        refine hz_iload (pc' := 57) (j := 0) dX8_makeFor_55 rfl rfl ?_
        refine hz_iast (pc' := 58) gb10 dX8_makeFor_57 rfl (fun w11 => ?_)
        refine hz_aload_n (pc' := 59) (j := 1) dX8_makeFor_58 rfl rfl rfl ?_
        refine hz_gP (pc' := 62) (c' := 20) fl_X8_15.r ga0 rfl dX8_makeFor_59 rfl (fun b12 gb12 => ?_)
        refine hz_aload_n (pc' := 63) (j := 1) dX8_makeFor_62 rfl rfl rfl ?_
        refine hz_gI (pc' := 66) fl_X8_29.r ga0 rfl dX8_makeFor_63 rfl ?_
        refine hz_aload_n (pc' := 67) (j := 3) dX8_makeFor_66 rfl rfl rfl ?_
        refine hz_iload (pc' := 69) (j := 0) dX8_makeFor_67 rfl rfl ?_
        refine hz_iload (pc' := 71) (j := 4) dX8_makeFor_69 rfl rfl ?_
        refine hz_cVi (pc' := 74) (av := [.int v9, .int v5.1]) (rest := [.int (w11.1 a0 0), .ref (B.1 + b12)]) vl_X8_46 (fun x w' h => ct_X1_releasedBy hl h) gb1 rfl rfl (Nat.le_of_ble_eq_true rfl) (by decide) (by decide) rfl dX8_makeFor_71 rfl (fun v14 w13 => ?_)
        refine hz_iast (pc' := 75) gb12 dX8_makeFor_74 rfl (fun w15 => ?_)
        refine hz_iload (pc' := 77) (j := 4) dX8_makeFor_75 rfl rfl ?_
        refine hz_aload_n (pc' := 78) (j := 1) dX8_makeFor_77 rfl rfl rfl ?_
        refine hz_gP (pc' := 81) (c' := 20) fl_X8_15.r ga0 rfl dX8_makeFor_78 rfl (fun b16 gb16 => ?_)
        refine hz_aload_n (pc' := 82) (j := 1) dX8_makeFor_81 rfl rfl rfl ?_
        refine hz_gI (pc' := 85) fl_X8_29.r ga0 rfl dX8_makeFor_82 rfl ?_
        refine hz_iald (pc' := 86) gb16 dX8_makeFor_85 rfl (fun v17 => ?_)
        refine hz_iconst (pc' := 87) (v := (-1)) dX8_makeFor_86 rfl (by decide) ?_
        refine hz_ixor (pc' := 88) dX8_makeFor_87 rfl ?_
        refine hz_iand (pc' := 89) dX8_makeFor_88 rfl ?_
        refine hz_nameI (fun v18 => ?_)
        refine hz_istore (pc' := 91) (L' := [(4, .int v18), (5, .int v9), (0, .ref (B.1 + a0)), (1, .ref (B.1 + a1)), (3, .ref (B.1 + b1))]) dX8_makeFor_89 rfl (by decide) rfl ?_
        refine hz_aload_n (pc' := 92) (j := 2) dX8_makeFor_91 rfl rfl rfl ?_
        refine hz_dup (pc' := 93) dX8_makeFor_92 rfl rfl ?_
        refine hz_gI (pc' := 96) fl_X8_29.r ga0 rfl dX8_makeFor_93 rfl ?_
        refine hz_iconst (pc' := 97) (v := 1) dX8_makeFor_96 rfl (by decide) ?_
        refine hz_iadd (pc' := 98) dX8_makeFor_97 rfl ?_
        refine hz_putI (pc' := 101) fl_X8_29 ga0 rfl dX8_makeFor_98 rfl (fun w19 => ?_)
        refine hz_goto (tgt := 18) dX8_makeFor_101 (by decide) ?_
        exact hz_loc [2, 3, 4, 0] rfl (ihv5 (v18, w19))
