def f_X3_init (a0 : Nat) (a1 : Nat) (n0 : Nat) (w : MW) : Option (MW) :=
  hz_gd (hz_g n0 a0 4) (hz_gd (hz_g n0 a1 3) (hz_gd (hz_sh n0 == 2) (hz_let (hz_fr w n0) (fun w1 => hz_bv (f_X1_init n0 (n0 + 1) w1) (fun w5 => hz_let (hz_pp w5 a0 1 (some n0)) (fun w9 => hz_gd (hz_ga (n0 + 13) 20 4) (hz_let (hz_fr w9 (n0 + 13)) (fun w10 => hz_let (hz_pp w10 a0 4 (some (n0 + 13))) (fun w14 => hz_gd (hz_ga (n0 + 14) 20 4) (hz_let (hz_fr w14 (n0 + 14)) (fun w15 => hz_let (hz_pp w15 a0 5 (some (n0 + 14))) (fun w19 => hz_gd (hz_ga (n0 + 15) 20 4) (hz_let (hz_fr w19 (n0 + 15)) (fun w20 => hz_let (hz_pp w20 a0 6 (some (n0 + 15))) (fun w24 => hz_gd (hz_ga (n0 + 16) 20 4) (hz_let (hz_fr w24 (n0 + 16)) (fun w25 => hz_let (hz_pp w25 a0 7 (some (n0 + 16))) (fun w29 => hz_gd (hz_ga (n0 + 17) 20 4) (hz_let (hz_fr w29 (n0 + 17)) (fun w30 => hz_let (hz_pp w30 a0 8 (some (n0 + 17))) (fun w34 => hz_gd (hz_ga (n0 + 18) 20 4) (hz_let (hz_fr w34 (n0 + 18)) (fun w35 => hz_let (hz_pp w35 a0 9 (some (n0 + 18))) (fun w39 => hz_gd (hz_ga (n0 + 19) 20 4) (hz_let (hz_fr w39 (n0 + 19)) (fun w40 => hz_let (hz_pp w40 a0 10 (some (n0 + 19))) (fun w44 => hz_gd (hz_ga (n0 + 20) 20 4) (hz_let (hz_fr w44 (n0 + 20)) (fun w45 => hz_let (hz_pp w45 a0 11 (some (n0 + 20))) (fun w49 => hz_gd (hz_ga (n0 + 21) 20 4) (hz_let (hz_fr w49 (n0 + 21)) (fun w50 => hz_let (hz_pp w50 a0 12 (some (n0 + 21))) (fun w54 => hz_gd (hz_ga (n0 + 22) 20 4) (hz_let (hz_fr w54 (n0 + 22)) (fun w55 => hz_let (hz_pp w55 a0 13 (some (n0 + 22))) (fun w59 => hz_gd (hz_ga (n0 + 23) 20 16) (hz_let (hz_fr w59 (n0 + 23)) (fun w60 => hz_let (hz_pp w60 a0 14 (some (n0 + 23))) (fun w64 => hz_let (hz_pp w64 a0 0 (some a1)) (fun w65 => some w65))))))))))))))))))))))))))))))))))))))))
set_option maxHeartbeats 4000000 in
set_option maxRecDepth 100000 in
theorem ct_X3_init {l : Launch} (hl : l.stackTraces = false) {B : Bt} {a0 : Nat} {a1 : Nat} {n0 : Nat} {w : MW} {r : MW} (h : f_X3_init a0 a1 n0 w = some r) : hz_Met l B true n0 (n0 + 24) yX3_init cX3_init 2 (Option.none : Option FieldType) 3 24 287 [.ref (B.1 + a0), .ref (B.1 + a1)] w none r := by
  refine hz_ofJ (rv := (fun _ : MW => none)) (wo := (fun r : MW => r)) (own := RX3) (ini := true) hl (by decide) rfl (Or.inl rfl) (Nat.le_of_ble_eq_true rfl) rfl ?_ h
  intro p e s m args below meth c
  unfold f_X3_init
  refine hz_gdr (fun ga0 => ?_)
  refine hz_gdr (fun ga1 => ?_)
  refine hz_aload_n (pc' := 1) (j := 0) dX3_init_0 rfl rfl rfl ?_
  refine hz_objinit (pc' := 4) hq_184 hq_32 hq_33 ⟨Nat.le_of_ble_eq_true rfl, Nat.le_of_ble_eq_true rfl⟩ dX3_init_1 rfl ?_
  refine hz_aload_n (pc' := 5) (j := 0) dX3_init_4 rfl rfl rfl ?_
  refine hz_new (pc' := 8) (N := 15) cl_X3_9 rfl rfl ⟨by omega, by omega⟩ dX3_init_5 rfl (fun w1 g2 => ?_)
  have g3 := hz_g_up (n' := n0 + 1) ga0 (by omega)
  have g4 := hz_g_up (n' := n0 + 1) ga1 (by omega)
  refine hz_dup (pc' := 9) dX3_init_8 rfl rfl ?_
  refine hz_cIN (pc' := 12) (n' := n0 + 13) (av := []) (rest := [.ref (B.1 + n0), .ref (B.1 + a0)]) inl_X3_11 (fun w' h => ct_X1_init hl h) rfl rfl (Nat.le_of_ble_eq_true rfl) (by decide) ⟨by omega, by omega⟩ rfl (by omega) dX3_init_9 rfl (fun w5 => ?_)
  have g6 := hz_g_up (n' := n0 + 13) g3 (by omega)
  have g7 := hz_g_up (n' := n0 + 13) g4 (by omega)
  have g8 := hz_g_up (n' := n0 + 13) g2 (by omega)
  refine hz_putP (pc' := 15) fl_X3_12 rfl g6 rfl rfl rfl dX3_init_12 rfl (fun w9 => ?_)
  refine hz_aload_n (pc' := 16) (j := 0) dX3_init_15 rfl rfl rfl ?_
  refine hz_iconst (pc' := 17) (v := 4) dX3_init_16 rfl (by decide) ?_
  refine hz_newai (pc' := 19) (N := 4) hq_136 rfl (by decide) (by decide) (by decide) ⟨by omega, by omega⟩ dX3_init_17 rfl (fun w10 g11 => ?_)
  have g12 := hz_g_up (n' := n0 + 14) g6 (by omega)
  have g13 := hz_g_up (n' := n0 + 14) g7 (by omega)
  refine hz_putP (pc' := 22) fl_X3_18 rfl g12 rfl rfl rfl dX3_init_19 rfl (fun w14 => ?_)
  refine hz_aload_n (pc' := 23) (j := 0) dX3_init_22 rfl rfl rfl ?_
  refine hz_iconst (pc' := 24) (v := 4) dX3_init_23 rfl (by decide) ?_
  refine hz_newai (pc' := 26) (N := 4) hq_136 rfl (by decide) (by decide) (by decide) ⟨by omega, by omega⟩ dX3_init_24 rfl (fun w15 g16 => ?_)
  have g17 := hz_g_up (n' := n0 + 15) g12 (by omega)
  have g18 := hz_g_up (n' := n0 + 15) g13 (by omega)
  refine hz_putP (pc' := 29) fl_X3_22 rfl g17 rfl rfl rfl dX3_init_26 rfl (fun w19 => ?_)
  refine hz_aload_n (pc' := 30) (j := 0) dX3_init_29 rfl rfl rfl ?_
  refine hz_iconst (pc' := 31) (v := 4) dX3_init_30 rfl (by decide) ?_
  refine hz_newai (pc' := 33) (N := 4) hq_136 rfl (by decide) (by decide) (by decide) ⟨by omega, by omega⟩ dX3_init_31 rfl (fun w20 g21 => ?_)
  have g22 := hz_g_up (n' := n0 + 16) g17 (by omega)
  have g23 := hz_g_up (n' := n0 + 16) g18 (by omega)
  refine hz_putP (pc' := 36) fl_X3_25 rfl g22 rfl rfl rfl dX3_init_33 rfl (fun w24 => ?_)
  refine hz_aload_n (pc' := 37) (j := 0) dX3_init_36 rfl rfl rfl ?_
  refine hz_iconst (pc' := 38) (v := 4) dX3_init_37 rfl (by decide) ?_
  refine hz_newai (pc' := 40) (N := 4) hq_136 rfl (by decide) (by decide) (by decide) ⟨by omega, by omega⟩ dX3_init_38 rfl (fun w25 g26 => ?_)
  have g27 := hz_g_up (n' := n0 + 17) g22 (by omega)
  have g28 := hz_g_up (n' := n0 + 17) g23 (by omega)
  refine hz_putP (pc' := 43) fl_X3_28 rfl g27 rfl rfl rfl dX3_init_40 rfl (fun w29 => ?_)
  refine hz_aload_n (pc' := 44) (j := 0) dX3_init_43 rfl rfl rfl ?_
  refine hz_iconst (pc' := 45) (v := 4) dX3_init_44 rfl (by decide) ?_
  refine hz_newai (pc' := 47) (N := 4) hq_136 rfl (by decide) (by decide) (by decide) ⟨by omega, by omega⟩ dX3_init_45 rfl (fun w30 g31 => ?_)
  have g32 := hz_g_up (n' := n0 + 18) g27 (by omega)
  have g33 := hz_g_up (n' := n0 + 18) g28 (by omega)
  refine hz_putP (pc' := 50) fl_X3_31 rfl g32 rfl rfl rfl dX3_init_47 rfl (fun w34 => ?_)
  refine hz_aload_n (pc' := 51) (j := 0) dX3_init_50 rfl rfl rfl ?_
  refine hz_iconst (pc' := 52) (v := 4) dX3_init_51 rfl (by decide) ?_
  refine hz_newai (pc' := 54) (N := 4) hq_136 rfl (by decide) (by decide) (by decide) ⟨by omega, by omega⟩ dX3_init_52 rfl (fun w35 g36 => ?_)
  have g37 := hz_g_up (n' := n0 + 19) g32 (by omega)
  have g38 := hz_g_up (n' := n0 + 19) g33 (by omega)
  refine hz_putP (pc' := 57) fl_X3_34 rfl g37 rfl rfl rfl dX3_init_54 rfl (fun w39 => ?_)
  refine hz_aload_n (pc' := 58) (j := 0) dX3_init_57 rfl rfl rfl ?_
  refine hz_iconst (pc' := 59) (v := 4) dX3_init_58 rfl (by decide) ?_
  refine hz_newai (pc' := 61) (N := 4) hq_136 rfl (by decide) (by decide) (by decide) ⟨by omega, by omega⟩ dX3_init_59 rfl (fun w40 g41 => ?_)
  have g42 := hz_g_up (n' := n0 + 20) g37 (by omega)
  have g43 := hz_g_up (n' := n0 + 20) g38 (by omega)
  refine hz_putP (pc' := 64) fl_X3_37 rfl g42 rfl rfl rfl dX3_init_61 rfl (fun w44 => ?_)
  refine hz_aload_n (pc' := 65) (j := 0) dX3_init_64 rfl rfl rfl ?_
  refine hz_iconst (pc' := 66) (v := 4) dX3_init_65 rfl (by decide) ?_
  refine hz_newai (pc' := 68) (N := 4) hq_136 rfl (by decide) (by decide) (by decide) ⟨by omega, by omega⟩ dX3_init_66 rfl (fun w45 g46 => ?_)
  have g47 := hz_g_up (n' := n0 + 21) g42 (by omega)
  have g48 := hz_g_up (n' := n0 + 21) g43 (by omega)
  refine hz_putP (pc' := 71) fl_X3_40 rfl g47 rfl rfl rfl dX3_init_68 rfl (fun w49 => ?_)
  refine hz_aload_n (pc' := 72) (j := 0) dX3_init_71 rfl rfl rfl ?_
  refine hz_iconst (pc' := 73) (v := 4) dX3_init_72 rfl (by decide) ?_
  refine hz_newai (pc' := 75) (N := 4) hq_136 rfl (by decide) (by decide) (by decide) ⟨by omega, by omega⟩ dX3_init_73 rfl (fun w50 g51 => ?_)
  have g52 := hz_g_up (n' := n0 + 22) g47 (by omega)
  have g53 := hz_g_up (n' := n0 + 22) g48 (by omega)
  refine hz_putP (pc' := 78) fl_X3_43 rfl g52 rfl rfl rfl dX3_init_75 rfl (fun w54 => ?_)
  refine hz_aload_n (pc' := 79) (j := 0) dX3_init_78 rfl rfl rfl ?_
  refine hz_iconst (pc' := 80) (v := 4) dX3_init_79 rfl (by decide) ?_
  refine hz_newai (pc' := 82) (N := 4) hq_136 rfl (by decide) (by decide) (by decide) ⟨by omega, by omega⟩ dX3_init_80 rfl (fun w55 g56 => ?_)
  have g57 := hz_g_up (n' := n0 + 23) g52 (by omega)
  have g58 := hz_g_up (n' := n0 + 23) g53 (by omega)
  refine hz_putP (pc' := 85) fl_X3_46 rfl g57 rfl rfl rfl dX3_init_82 rfl (fun w59 => ?_)
  refine hz_aload_n (pc' := 86) (j := 0) dX3_init_85 rfl rfl rfl ?_
  refine hz_bipush (pc' := 88) (v := 16) dX3_init_86 rfl (by decide) ?_
  refine hz_newai (pc' := 90) (N := 16) hq_136 rfl (by decide) (by decide) (by decide) ⟨by omega, by omega⟩ dX3_init_88 rfl (fun w60 g61 => ?_)
  have g62 := hz_g_up (n' := n0 + 24) g57 (by omega)
  have g63 := hz_g_up (n' := n0 + 24) g58 (by omega)
  refine hz_putP (pc' := 93) fl_X3_49 rfl g62 rfl rfl rfl dX3_init_90 rfl (fun w64 => ?_)
  refine hz_aload_n (pc' := 94) (j := 0) dX3_init_93 rfl rfl rfl ?_
  refine hz_aload_n (pc' := 95) (j := 1) dX3_init_94 rfl rfl rfl ?_
  refine hz_putP (pc' := 98) fl_X3_52 rfl g62 rfl rfl rfl dX3_init_95 rfl (fun w65 => ?_)
  exact hz_retv dX3_init_98 rfl ⟨by omega, by omega⟩
def f_X0_init (a0 : Nat) (a1 : Nat) (n0 : Nat) (w : MW) : Option (MW) :=
  hz_gd (hz_g n0 a0 1) (hz_gd (hz_g n0 a1 3) (hz_gd (hz_ga n0 22 10) (hz_let (hz_fr w n0) (fun w1 => hz_let (hz_pp w1 a0 2 (some n0)) (fun w5 => hz_ldp w5 a0 2 (n0 + 1) 22 (fun b6 => (if (Int32.ofNat (hz_ln b6)) ≤ 0 then none else hz_ldp w5 a0 2 (n0 + 1) 22 (fun b7 => hz_gd (hz_sh (n0 + 1) == 4) (hz_let (hz_fr w5 (n0 + 1)) (fun w8 => hz_bv (f_X3_init (n0 + 1) a1 (n0 + 2) w8) (fun w13 => hz_stq w13 b7 0 (n0 + 1) (fun w18 => hz_let (0 + Int32.ofInt 1) (fun v19 => hz_ldp w18 a0 2 (n0 + 26) 22 (fun b20 => (if (Int32.ofNat (hz_ln b20)) ≤ v19 then none else hz_ldp w18 a0 2 (n0 + 26) 22 (fun b21 => hz_gd (hz_sh (n0 + 26) == 4) (hz_let (hz_fr w18 (n0 + 26)) (fun w22 => hz_bv (f_X3_init (n0 + 26) a1 (n0 + 27) w22) (fun w27 => hz_stq w27 b21 v19 (n0 + 26) (fun w32 => hz_let (v19 + Int32.ofInt 1) (fun v33 => hz_ldp w32 a0 2 (n0 + 51) 22 (fun b34 => (if (Int32.ofNat (hz_ln b34)) ≤ v33 then none else hz_ldp w32 a0 2 (n0 + 51) 22 (fun b35 => hz_gd (hz_sh (n0 + 51) == 4) (hz_let (hz_fr w32 (n0 + 51)) (fun w36 => hz_bv (f_X3_init (n0 + 51) a1 (n0 + 52) w36) (fun w41 => hz_stq w41 b35 v33 (n0 + 51) (fun w46 => hz_let (v33 + Int32.ofInt 1) (fun v47 => hz_ldp w46 a0 2 (n0 + 76) 22 (fun b48 => (if (Int32.ofNat (hz_ln b48)) ≤ v47 then none else hz_ldp w46 a0 2 (n0 + 76) 22 (fun b49 => hz_gd (hz_sh (n0 + 76) == 4) (hz_let (hz_fr w46 (n0 + 76)) (fun w50 => hz_bv (f_X3_init (n0 + 76) a1 (n0 + 77) w50) (fun w55 => hz_stq w55 b49 v47 (n0 + 76) (fun w60 => hz_let (v47 + Int32.ofInt 1) (fun v61 => hz_ldp w60 a0 2 (n0 + 101) 22 (fun b62 => (if (Int32.ofNat (hz_ln b62)) ≤ v61 then none else hz_ldp w60 a0 2 (n0 + 101) 22 (fun b63 => hz_gd (hz_sh (n0 + 101) == 4) (hz_let (hz_fr w60 (n0 + 101)) (fun w64 => hz_bv (f_X3_init (n0 + 101) a1 (n0 + 102) w64) (fun w69 => hz_stq w69 b63 v61 (n0 + 101) (fun w74 => hz_let (v61 + Int32.ofInt 1) (fun v75 => hz_ldp w74 a0 2 (n0 + 126) 22 (fun b76 => (if (Int32.ofNat (hz_ln b76)) ≤ v75 then none else hz_ldp w74 a0 2 (n0 + 126) 22 (fun b77 => hz_gd (hz_sh (n0 + 126) == 4) (hz_let (hz_fr w74 (n0 + 126)) (fun w78 => hz_bv (f_X3_init (n0 + 126) a1 (n0 + 127) w78) (fun w83 => hz_stq w83 b77 v75 (n0 + 126) (fun w88 => hz_let (v75 + Int32.ofInt 1) (fun v89 => hz_ldp w88 a0 2 (n0 + 151) 22 (fun b90 => (if (Int32.ofNat (hz_ln b90)) ≤ v89 then none else hz_ldp w88 a0 2 (n0 + 151) 22 (fun b91 => hz_gd (hz_sh (n0 + 151) == 4) (hz_let (hz_fr w88 (n0 + 151)) (fun w92 => hz_bv (f_X3_init (n0 + 151) a1 (n0 + 152) w92) (fun w97 => hz_stq w97 b91 v89 (n0 + 151) (fun w102 => hz_let (v89 + Int32.ofInt 1) (fun v103 => hz_ldp w102 a0 2 (n0 + 176) 22 (fun b104 => (if (Int32.ofNat (hz_ln b104)) ≤ v103 then none else hz_ldp w102 a0 2 (n0 + 176) 22 (fun b105 => hz_gd (hz_sh (n0 + 176) == 4) (hz_let (hz_fr w102 (n0 + 176)) (fun w106 => hz_bv (f_X3_init (n0 + 176) a1 (n0 + 177) w106) (fun w111 => hz_stq w111 b105 v103 (n0 + 176) (fun w116 => hz_let (v103 + Int32.ofInt 1) (fun v117 => hz_ldp w116 a0 2 (n0 + 201) 22 (fun b118 => (if (Int32.ofNat (hz_ln b118)) ≤ v117 then none else hz_ldp w116 a0 2 (n0 + 201) 22 (fun b119 => hz_gd (hz_sh (n0 + 201) == 4) (hz_let (hz_fr w116 (n0 + 201)) (fun w120 => hz_bv (f_X3_init (n0 + 201) a1 (n0 + 202) w120) (fun w125 => hz_stq w125 b119 v117 (n0 + 201) (fun w130 => hz_let (v117 + Int32.ofInt 1) (fun v131 => hz_ldp w130 a0 2 (n0 + 226) 22 (fun b132 => (if (Int32.ofNat (hz_ln b132)) ≤ v131 then none else hz_ldp w130 a0 2 (n0 + 226) 22 (fun b133 => hz_gd (hz_sh (n0 + 226) == 4) (hz_let (hz_fr w130 (n0 + 226)) (fun w134 => hz_bv (f_X3_init (n0 + 226) a1 (n0 + 227) w134) (fun w139 => hz_stq w139 b133 v131 (n0 + 226) (fun w144 => hz_let (v131 + Int32.ofInt 1) (fun v145 => hz_ldp w144 a0 2 (n0 + 251) 22 (fun b146 => (if (Int32.ofNat (hz_ln b146)) ≤ v145 then some w144 else none)))))))))))))))))))))))))))))))))))))))))))))))))))))))))))))))))))))))))))))))))))))))
set_option maxHeartbeats 4000000 in
set_option maxRecDepth 100000 in
theorem ct_X0_init {l : Launch} (hl : l.stackTraces = false) {B : Bt} {a0 : Nat} {a1 : Nat} {n0 : Nat} {w : MW} {r : MW} (h : f_X0_init a0 a1 n0 w = some r) : hz_Met l B true n0 (n0 + 251) yX0_init cX0_init 3 (Option.none : Option FieldType) 4 251 3030 [.ref (B.1 + a0), .ref (B.1 + a1)] w none r := by
  refine hz_ofJ (rv := (fun _ : MW => none)) (wo := (fun r : MW => r)) (own := RX0) (ini := true) hl (by decide) rfl (Or.inl rfl) (Nat.le_of_ble_eq_true rfl) rfl ?_ h
  intro p e s m args below meth c
  unfold f_X0_init
  refine hz_gdr (fun ga0 => ?_)
  refine hz_gdr (fun ga1 => ?_)
  refine hz_aload_n (pc' := 1) (j := 0) dX0_init_0 rfl rfl rfl ?_
  refine hz_objinit (pc' := 4) hq_322 hq_32 hq_33 ⟨Nat.le_of_ble_eq_true rfl, Nat.le_of_ble_eq_true rfl⟩ dX0_init_1 rfl ?_
  refine hz_aload_n (pc' := 5) (j := 0) dX0_init_4 rfl rfl rfl ?_
  refine hz_bipush (pc' := 7) (v := 10) dX0_init_5 rfl (by decide) ?_
  refine hz_newr (pc' := 10) (N := 10) hq_323 rfl (by decide) (by decide) (by decide) ⟨by omega, by omega⟩ dX0_init_7 rfl (fun w1 g2 => ?_)
  have g3 := hz_g_up (n' := n0 + 1) ga0 (by omega)
  have g4 := hz_g_up (n' := n0 + 1) ga1 (by omega)
  refine hz_putP (pc' := 13) fl_X0_11 rfl g3 rfl rfl rfl dX0_init_10 rfl (fun w5 => ?_)
  refine hz_iconst (pc' := 14) (v := 0) dX0_init_13 rfl (by decide) ?_
  refine hz_istore_n (pc' := 15) (L' := [(2, .int 0), (0, .ref (B.1 + a0)), (1, .ref (B.1 + a1))]) dX0_init_14 rfl rfl (by decide) rfl ?_
  refine hz_iload_n (pc' := 16) (j := 0) dX0_init_15 rfl rfl rfl ?_
  refine hz_aload_n (pc' := 17) (j := 1) dX0_init_16 rfl rfl rfl ?_
  refine hz_gP (pc' := 20) (c' := 22) fl_X0_11.r g3 rfl dX0_init_17 rfl (fun b6 gb6 => ?_)
  refine hz_alenr (pc' := 21) gb6 dX0_init_20 rfl ?_
  refine hz_icmpge (pc' := 24) (tgt := 44) dX0_init_21 (by decide) rfl ?_ ?_
  · exact hz_no rfl
  · refine hz_aload_n (pc' := 25) (j := 1) dX0_init_24 rfl rfl rfl ?_
    refine hz_gP (pc' := 28) (c' := 22) fl_X0_11.r g3 rfl dX0_init_25 rfl (fun b7 gb7 => ?_)
    refine hz_iload_n (pc' := 29) (j := 0) dX0_init_28 rfl rfl rfl ?_
    refine hz_new (pc' := 32) (N := 15) cl_X0_9 rfl rfl ⟨by omega, by omega⟩ dX0_init_29 rfl (fun w8 g9 => ?_)
    have g10 := hz_g_up (n' := n0 + 2) g3 (by omega)
    have g11 := hz_g_up (n' := n0 + 2) g4 (by omega)
    have g12 := hz_g_up (n' := n0 + 2) gb7 (by omega)
    refine hz_dup (pc' := 33) dX0_init_32 rfl rfl ?_
    refine hz_aload_n (pc' := 34) (j := 2) dX0_init_33 rfl rfl rfl ?_
    refine hz_cI (pc' := 37) (n' := n0 + 26) (av := [.ref (B.1 + a1)]) (rest := [.ref (B.1 + (n0 + 1)), .int 0, .ref (B.1 + b7)]) il_X0_17 (fun w' h => ct_X3_init hl h) rfl rfl (Nat.le_of_ble_eq_true rfl) (by decide) ⟨by omega, by omega⟩ rfl (by omega) dX0_init_34 rfl (fun w13 => ?_)
    have g14 := hz_g_up (n' := n0 + 26) g10 (by omega)
    have g15 := hz_g_up (n' := n0 + 26) g11 (by omega)
    have g16 := hz_g_up (n' := n0 + 26) g9 (by omega)
    have g17 := hz_g_up (n' := n0 + 26) g12 (by omega)
    refine hz_aast (pc' := 38) g17 g16 dX0_init_37 rfl (fun w18 => ?_)
    refine hz_iincN (pc' := 41) (j := 0) (fun v19 => [(2, .int v19), (0, .ref (B.1 + a0)), (1, .ref (B.1 + a1))]) dX0_init_38 rfl rfl (by decide) (fun _ => rfl) (fun v19 => ?_)
    refine hz_goto (tgt := 15) dX0_init_41 (by decide) ?_
    refine hz_iload_n (pc' := 16) (j := 0) dX0_init_15 rfl rfl rfl ?_
    refine hz_aload_n (pc' := 17) (j := 1) dX0_init_16 rfl rfl rfl ?_
    refine hz_gP (pc' := 20) (c' := 22) fl_X0_11.r g14 rfl dX0_init_17 rfl (fun b20 gb20 => ?_)
    refine hz_alenr (pc' := 21) gb20 dX0_init_20 rfl ?_
    refine hz_icmpge (pc' := 24) (tgt := 44) dX0_init_21 (by decide) rfl ?_ ?_
    · exact hz_no rfl
    · refine hz_aload_n (pc' := 25) (j := 1) dX0_init_24 rfl rfl rfl ?_
      refine hz_gP (pc' := 28) (c' := 22) fl_X0_11.r g14 rfl dX0_init_25 rfl (fun b21 gb21 => ?_)
      refine hz_iload_n (pc' := 29) (j := 0) dX0_init_28 rfl rfl rfl ?_
      refine hz_new (pc' := 32) (N := 15) cl_X0_9 rfl rfl ⟨by omega, by omega⟩ dX0_init_29 rfl (fun w22 g23 => ?_)
      have g24 := hz_g_up (n' := n0 + 27) g14 (by omega)
      have g25 := hz_g_up (n' := n0 + 27) g15 (by omega)
      have g26 := hz_g_up (n' := n0 + 27) gb21 (by omega)
      refine hz_dup (pc' := 33) dX0_init_32 rfl rfl ?_
      refine hz_aload_n (pc' := 34) (j := 2) dX0_init_33 rfl rfl rfl ?_
      refine hz_cI (pc' := 37) (n' := n0 + 51) (av := [.ref (B.1 + a1)]) (rest := [.ref (B.1 + (n0 + 26)), .int v19, .ref (B.1 + b21)]) il_X0_17 (fun w' h => ct_X3_init hl h) rfl rfl (Nat.le_of_ble_eq_true rfl) (by decide) ⟨by omega, by omega⟩ rfl (by omega) dX0_init_34 rfl (fun w27 => ?_)
      have g28 := hz_g_up (n' := n0 + 51) g24 (by omega)
      have g29 := hz_g_up (n' := n0 + 51) g25 (by omega)
      have g30 := hz_g_up (n' := n0 + 51) g23 (by omega)
      have g31 := hz_g_up (n' := n0 + 51) g26 (by omega)
      refine hz_aast (pc' := 38) g31 g30 dX0_init_37 rfl (fun w32 => ?_)
      refine hz_iincN (pc' := 41) (j := 0) (fun v33 => [(2, .int v33), (0, .ref (B.1 + a0)), (1, .ref (B.1 + a1))]) dX0_init_38 rfl rfl (by decide) (fun _ => rfl) (fun v33 => ?_)
      refine hz_goto (tgt := 15) dX0_init_41 (by decide) ?_
      refine hz_iload_n (pc' := 16) (j := 0) dX0_init_15 rfl rfl rfl ?_
      refine hz_aload_n (pc' := 17) (j := 1) dX0_init_16 rfl rfl rfl ?_
      refine hz_gP (pc' := 20) (c' := 22) fl_X0_11.r g28 rfl dX0_init_17 rfl (fun b34 gb34 => ?_)
      refine hz_alenr (pc' := 21) gb34 dX0_init_20 rfl ?_
      refine hz_icmpge (pc' := 24) (tgt := 44) dX0_init_21 (by decide) rfl ?_ ?_
      · exact hz_no rfl
      · refine hz_aload_n (pc' := 25) (j := 1) dX0_init_24 rfl rfl rfl ?_
        refine hz_gP (pc' := 28) (c' := 22) fl_X0_11.r g28 rfl dX0_init_25 rfl (fun b35 gb35 => ?_)
        refine hz_iload_n (pc' := 29) (j := 0) dX0_init_28 rfl rfl rfl ?_
        refine hz_new (pc' := 32) (N := 15) cl_X0_9 rfl rfl ⟨by omega, by omega⟩ dX0_init_29 rfl (fun w36 g37 => ?_)
        have g38 := hz_g_up (n' := n0 + 52) g28 (by omega)
        have g39 := hz_g_up (n' := n0 + 52) g29 (by omega)
        have g40 := hz_g_up (n' := n0 + 52) gb35 (by omega)
        refine hz_dup (pc' := 33) dX0_init_32 rfl rfl ?_
        refine hz_aload_n (pc' := 34) (j := 2) dX0_init_33 rfl rfl rfl ?_
        refine hz_cI (pc' := 37) (n' := n0 + 76) (av := [.ref (B.1 + a1)]) (rest := [.ref (B.1 + (n0 + 51)), .int v33, .ref (B.1 + b35)]) il_X0_17 (fun w' h => ct_X3_init hl h) rfl rfl (Nat.le_of_ble_eq_true rfl) (by decide) ⟨by omega, by omega⟩ rfl (by omega) dX0_init_34 rfl (fun w41 => ?_)
        have g42 := hz_g_up (n' := n0 + 76) g38 (by omega)
        have g43 := hz_g_up (n' := n0 + 76) g39 (by omega)
        have g44 := hz_g_up (n' := n0 + 76) g37 (by omega)
        have g45 := hz_g_up (n' := n0 + 76) g40 (by omega)
        refine hz_aast (pc' := 38) g45 g44 dX0_init_37 rfl (fun w46 => ?_)
        refine hz_iincN (pc' := 41) (j := 0) (fun v47 => [(2, .int v47), (0, .ref (B.1 + a0)), (1, .ref (B.1 + a1))]) dX0_init_38 rfl rfl (by decide) (fun _ => rfl) (fun v47 => ?_)
        refine hz_goto (tgt := 15) dX0_init_41 (by decide) ?_
        refine hz_iload_n (pc' := 16) (j := 0) dX0_init_15 rfl rfl rfl ?_
        refine hz_aload_n (pc' := 17) (j := 1) dX0_init_16 rfl rfl rfl ?_
        refine hz_gP (pc' := 20) (c' := 22) fl_X0_11.r g42 rfl dX0_init_17 rfl (fun b48 gb48 => ?_)
        refine hz_alenr (pc' := 21) gb48 dX0_init_20 rfl ?_
        refine hz_icmpge (pc' := 24) (tgt := 44) dX0_init_21 (by decide) rfl ?_ ?_
        · exact hz_no rfl
        · refine hz_aload_n (pc' := 25) (j := 1) dX0_init_24 rfl rfl rfl ?_
          refine hz_gP (pc' := 28) (c' := 22) fl_X0_11.r g42 rfl dX0_init_25 rfl (fun b49 gb49 => ?_)
          refine hz_iload_n (pc' := 29) (j := 0) dX0_init_28 rfl rfl rfl ?_
          refine hz_new (pc' := 32) (N := 15) cl_X0_9 rfl rfl ⟨by omega, by omega⟩ dX0_init_29 rfl (fun w50 g51 => ?_)
          have g52 := hz_g_up (n' := n0 + 77) g42 (by omega)
          have g53 := hz_g_up (n' := n0 + 77) g43 (by omega)
          have g54 := hz_g_up (n' := n0 + 77) gb49 (by omega)
          refine hz_dup (pc' := 33) dX0_init_32 rfl rfl ?_
          refine hz_aload_n (pc' := 34) (j := 2) dX0_init_33 rfl rfl rfl ?_
          refine hz_cI (pc' := 37) (n' := n0 + 101) (av := [.ref (B.1 + a1)]) (rest := [.ref (B.1 + (n0 + 76)), .int v47, .ref (B.1 + b49)]) il_X0_17 (fun w' h => ct_X3_init hl h) rfl rfl (Nat.le_of_ble_eq_true rfl) (by decide) ⟨by omega, by omega⟩ rfl (by omega) dX0_init_34 rfl (fun w55 => ?_)
          have g56 := hz_g_up (n' := n0 + 101) g52 (by omega)
          have g57 := hz_g_up (n' := n0 + 101) g53 (by omega)
          have g58 := hz_g_up (n' := n0 + 101) g51 (by omega)
          have g59 := hz_g_up (n' := n0 + 101) g54 (by omega)
          refine hz_aast (pc' := 38) g59 g58 dX0_init_37 rfl (fun w60 => ?_)
          refine hz_iincN (pc' := 41) (j := 0) (fun v61 => [(2, .int v61), (0, .ref (B.1 + a0)), (1, .ref (B.1 + a1))]) dX0_init_38 rfl rfl (by decide) (fun _ => rfl) (fun v61 => ?_)
          refine hz_goto (tgt := 15) dX0_init_41 (by decide) ?_
          refine hz_iload_n (pc' := 16) (j := 0) dX0_init_15 rfl rfl rfl ?_
          refine hz_aload_n (pc' := 17) (j := 1) dX0_init_16 rfl rfl rfl ?_
          refine hz_gP (pc' := 20) (c' := 22) fl_X0_11.r g56 rfl dX0_init_17 rfl (fun b62 gb62 => ?_)
          refine hz_alenr (pc' := 21) gb62 dX0_init_20 rfl ?_
          refine hz_icmpge (pc' := 24) (tgt := 44) dX0_init_21 (by decide) rfl ?_ ?_
          · exact hz_no rfl
          · refine hz_aload_n (pc' := 25) (j := 1) dX0_init_24 rfl rfl rfl ?_
            refine hz_gP (pc' := 28) (c' := 22) fl_X0_11.r g56 rfl dX0_init_25 rfl (fun b63 gb63 => ?_)
            refine hz_iload_n (pc' := 29) (j := 0) dX0_init_28 rfl rfl rfl ?_
            refine hz_new (pc' := 32) (N := 15) cl_X0_9 rfl rfl ⟨by omega, by omega⟩ dX0_init_29 rfl (fun w64 g65 => ?_)
            have g66 := hz_g_up (n' := n0 + 102) g56 (by omega)
            have g67 := hz_g_up (n' := n0 + 102) g57 (by omega)
            have g68 := hz_g_up (n' := n0 + 102) gb63 (by omega)
            refine hz_dup (pc' := 33) dX0_init_32 rfl rfl ?_
            refine hz_aload_n (pc' := 34) (j := 2) dX0_init_33 rfl rfl rfl ?_
            refine hz_cI (pc' := 37) (n' := n0 + 126) (av := [.ref (B.1 + a1)]) (rest := [.ref (B.1 + (n0 + 101)), .int v61, .ref (B.1 + b63)]) il_X0_17 (fun w' h => ct_X3_init hl h) rfl rfl (Nat.le_of_ble_eq_true rfl) (by decide) ⟨by omega, by omega⟩ rfl (by omega) dX0_init_34 rfl (fun w69 => ?_)
            have g70 := hz_g_up (n' := n0 + 126) g66 (by omega)
            have g71 := hz_g_up (n' := n0 + 126) g67 (by omega)
            have g72 := hz_g_up (n' := n0 + 126) g65 (by omega)
            have g73 := hz_g_up (n' := n0 + 126) g68 (by omega)
            refine hz_aast (pc' := 38) g73 g72 dX0_init_37 rfl (fun w74 => ?_)
            refine hz_iincN (pc' := 41) (j := 0) (fun v75 => [(2, .int v75), (0, .ref (B.1 + a0)), (1, .ref (B.1 + a1))]) dX0_init_38 rfl rfl (by decide) (fun _ => rfl) (fun v75 => ?_)
            refine hz_goto (tgt := 15) dX0_init_41 (by decide) ?_
            refine hz_iload_n (pc' := 16) (j := 0) dX0_init_15 rfl rfl rfl ?_
            refine hz_aload_n (pc' := 17) (j := 1) dX0_init_16 rfl rfl rfl ?_
            refine hz_gP (pc' := 20) (c' := 22) fl_X0_11.r g70 rfl dX0_init_17 rfl (fun b76 gb76 => ?_)
            refine hz_alenr (pc' := 21) gb76 dX0_init_20 rfl ?_
            refine hz_icmpge (pc' := 24) (tgt := 44) dX0_init_21 (by decide) rfl ?_ ?_
            · exact hz_no rfl
            · refine hz_aload_n (pc' := 25) (j := 1) dX0_init_24 rfl rfl rfl ?_
              refine hz_gP (pc' := 28) (c' := 22) fl_X0_11.r g70 rfl dX0_init_25 rfl (fun b77 gb77 => ?_)
              refine hz_iload_n (pc' := 29) (j := 0) dX0_init_28 rfl rfl rfl ?_
              refine hz_new (pc' := 32) (N := 15) cl_X0_9 rfl rfl ⟨by omega, by omega⟩ dX0_init_29 rfl (fun w78 g79 => ?_)
              have g80 := hz_g_up (n' := n0 + 127) g70 (by omega)
              have g81 := hz_g_up (n' := n0 + 127) g71 (by omega)
              have g82 := hz_g_up (n' := n0 + 127) gb77 (by omega)
              refine hz_dup (pc' := 33) dX0_init_32 rfl rfl ?_
              refine hz_aload_n (pc' := 34) (j := 2) dX0_init_33 rfl rfl rfl ?_
              refine hz_cI (pc' := 37) (n' := n0 + 151) (av := [.ref (B.1 + a1)]) (rest := [.ref (B.1 + (n0 + 126)), .int v75, .ref (B.1 + b77)]) il_X0_17 (fun w' h => ct_X3_init hl h) rfl rfl (Nat.le_of_ble_eq_true rfl) (by decide) ⟨by omega, by omega⟩ rfl (by omega) dX0_init_34 rfl (fun w83 => ?_)
              have g84 := hz_g_up (n' := n0 + 151) g80 (by omega)
              have g85 := hz_g_up (n' := n0 + 151) g81 (by omega)
              have g86 := hz_g_up (n' := n0 + 151) g79 (by omega)
              have g87 := hz_g_up (n' := n0 + 151) g82 (by omega)
              refine hz_aast (pc' := 38) g87 g86 dX0_init_37 rfl (fun w88 => ?_)
              refine hz_iincN (pc' := 41) (j := 0) (fun v89 => [(2, .int v89), (0, .ref (B.1 + a0)), (1, .ref (B.1 + a1))]) dX0_init_38 rfl rfl (by decide) (fun _ => rfl) (fun v89 => ?_)
              refine hz_goto (tgt := 15) dX0_init_41 (by decide) ?_
              refine hz_iload_n (pc' := 16) (j := 0) dX0_init_15 rfl rfl rfl ?_
              refine hz_aload_n (pc' := 17) (j := 1) dX0_init_16 rfl rfl rfl ?_
              refine hz_gP (pc' := 20) (c' := 22) fl_X0_11.r g84 rfl dX0_init_17 rfl (fun b90 gb90 => ?_)
              refine hz_alenr (pc' := 21) gb90 dX0_init_20 rfl ?_
              refine hz_icmpge (pc' := 24) (tgt := 44) dX0_init_21 (by decide) rfl ?_ ?_
              · exact hz_no rfl
              · refine hz_aload_n (pc' := 25) (j := 1) dX0_init_24 rfl rfl rfl ?_
                refine hz_gP (pc' := 28) (c' := 22) fl_X0_11.r g84 rfl dX0_init_25 rfl (fun b91 gb91 => ?_)
                refine hz_iload_n (pc' := 29) (j := 0) dX0_init_28 rfl rfl rfl ?_
                refine hz_new (pc' := 32) (N := 15) cl_X0_9 rfl rfl ⟨by omega, by omega⟩ dX0_init_29 rfl (fun w92 g93 => ?_)
                have g94 := hz_g_up (n' := n0 + 152) g84 (by omega)
                have g95 := hz_g_up (n' := n0 + 152) g85 (by omega)
                have g96 := hz_g_up (n' := n0 + 152) gb91 (by omega)
                refine hz_dup (pc' := 33) dX0_init_32 rfl rfl ?_
                refine hz_aload_n (pc' := 34) (j := 2) dX0_init_33 rfl rfl rfl ?_
                refine hz_cI (pc' := 37) (n' := n0 + 176) (av := [.ref (B.1 + a1)]) (rest := [.ref (B.1 + (n0 + 151)), .int v89, .ref (B.1 + b91)]) il_X0_17 (fun w' h => ct_X3_init hl h) rfl rfl (Nat.le_of_ble_eq_true rfl) (by decide) ⟨by omega, by omega⟩ rfl (by omega) dX0_init_34 rfl (fun w97 => ?_)
                have g98 := hz_g_up (n' := n0 + 176) g94 (by omega)
                have g99 := hz_g_up (n' := n0 + 176) g95 (by omega)
                have g100 := hz_g_up (n' := n0 + 176) g93 (by omega)
                have g101 := hz_g_up (n' := n0 + 176) g96 (by omega)
                refine hz_aast (pc' := 38) g101 g100 dX0_init_37 rfl (fun w102 => ?_)
                refine hz_iincN (pc' := 41) (j := 0) (fun v103 => [(2, .int v103), (0, .ref (B.1 + a0)), (1, .ref (B.1 + a1))]) dX0_init_38 rfl rfl (by decide) (fun _ => rfl) (fun v103 => ?_)
                refine hz_goto (tgt := 15) dX0_init_41 (by decide) ?_
                refine hz_iload_n (pc' := 16) (j := 0) dX0_init_15 rfl rfl rfl ?_
                refine hz_aload_n (pc' := 17) (j := 1) dX0_init_16 rfl rfl rfl ?_
                refine hz_gP (pc' := 20) (c' := 22) fl_X0_11.r g98 rfl dX0_init_17 rfl (fun b104 gb104 => ?_)
                refine hz_alenr (pc' := 21) gb104 dX0_init_20 rfl ?_
                refine hz_icmpge (pc' := 24) (tgt := 44) dX0_init_21 (by decide) rfl ?_ ?_
                · exact hz_no rfl
                · refine hz_aload_n (pc' := 25) (j := 1) dX0_init_24 rfl rfl rfl ?_
                  refine hz_gP (pc' := 28) (c' := 22) fl_X0_11.r g98 rfl dX0_init_25 rfl (fun b105 gb105 => ?_)
                  refine hz_iload_n (pc' := 29) (j := 0) dX0_init_28 rfl rfl rfl ?_
                  refine hz_new (pc' := 32) (N := 15) cl_X0_9 rfl rfl ⟨by omega, by omega⟩ dX0_init_29 rfl (fun w106 g107 => ?_)
                  have g108 := hz_g_up (n' := n0 + 177) g98 (by omega)
                  have g109 := hz_g_up (n' := n0 + 177) g99 (by omega)
                  have g110 := hz_g_up (n' := n0 + 177) gb105 (by omega)
                  refine hz_dup (pc' := 33) dX0_init_32 rfl rfl ?_
                  refine hz_aload_n (pc' := 34) (j := 2) dX0_init_33 rfl rfl rfl ?_
                  refine hz_cI (pc' := 37) (n' := n0 + 201) (av := [.ref (B.1 + a1)]) (rest := [.ref (B.1 + (n0 + 176)), .int v103, .ref (B.1 + b105)]) il_X0_17 (fun w' h => ct_X3_init hl h) rfl rfl (Nat.le_of_ble_eq_true rfl) (by decide) ⟨by omega, by omega⟩ rfl (by omega) dX0_init_34 rfl (fun w111 => ?_)
                  have g112 := hz_g_up (n' := n0 + 201) g108 (by omega)
                  have g113 := hz_g_up (n' := n0 + 201) g109 (by omega)
                  have g114 := hz_g_up (n' := n0 + 201) g107 (by omega)
                  have g115 := hz_g_up (n' := n0 + 201) g110 (by omega)
                  refine hz_aast (pc' := 38) g115 g114 dX0_init_37 rfl (fun w116 => ?_)
                  refine hz_iincN (pc' := 41) (j := 0) (fun v117 => [(2, .int v117), (0, .ref (B.1 + a0)), (1, .ref (B.1 + a1))]) dX0_init_38 rfl rfl (by decide) (fun _ => rfl) (fun v117 => ?_)
                  refine hz_goto (tgt := 15) dX0_init_41 (by decide) ?_
                  refine hz_iload_n (pc' := 16) (j := 0) dX0_init_15 rfl rfl rfl ?_
                  refine hz_aload_n (pc' := 17) (j := 1) dX0_init_16 rfl rfl rfl ?_
                  refine hz_gP (pc' := 20) (c' := 22) fl_X0_11.r g112 rfl dX0_init_17 rfl (fun b118 gb118 => ?_)
                  refine hz_alenr (pc' := 21) gb118 dX0_init_20 rfl ?_
                  refine hz_icmpge (pc' := 24) (tgt := 44) dX0_init_21 (by decide) rfl ?_ ?_
                  · exact hz_no rfl
                  · refine hz_aload_n (pc' := 25) (j := 1) dX0_init_24 rfl rfl rfl ?_
                    refine hz_gP (pc' := 28) (c' := 22) fl_X0_11.r g112 rfl dX0_init_25 rfl (fun b119 gb119 => ?_)
                    refine hz_iload_n (pc' := 29) (j := 0) dX0_init_28 rfl rfl rfl ?_
                    refine hz_new (pc' := 32) (N := 15) cl_X0_9 rfl rfl ⟨by omega, by omega⟩ dX0_init_29 rfl (fun w120 g121 => ?_)
                    have g122 := hz_g_up (n' := n0 + 202) g112 (by omega)
                    have g123 := hz_g_up (n' := n0 + 202) g113 (by omega)
                    have g124 := hz_g_up (n' := n0 + 202) gb119 (by omega)
                    refine hz_dup (pc' := 33) dX0_init_32 rfl rfl ?_
                    refine hz_aload_n (pc' := 34) (j := 2) dX0_init_33 rfl rfl rfl ?_
                    refine hz_cI (pc' := 37) (n' := n0 + 226) (av := [.ref (B.1 + a1)]) (rest := [.ref (B.1 + (n0 + 201)), .int v117, .ref (B.1 + b119)]) il_X0_17 (fun w' h => ct_X3_init hl h) rfl rfl (Nat.le_of_ble_eq_true rfl) (by decide) ⟨by omega, by omega⟩ rfl (by omega) dX0_init_34 rfl (fun w125 => ?_)
                    have g126 := hz_g_up (n' := n0 + 226) g122 (by omega)
                    have g127 := hz_g_up (n' := n0 + 226) g123 (by omega)
                    have g128 := hz_g_up (n' := n0 + 226) g121 (by omega)
                    have g129 := hz_g_up (n' := n0 + 226) g124 (by omega)
                    refine hz_aast (pc' := 38) g129 g128 dX0_init_37 rfl (fun w130 => ?_)
                    refine hz_iincN (pc' := 41) (j := 0) (fun v131 => [(2, .int v131), (0, .ref (B.1 + a0)), (1, .ref (B.1 + a1))]) dX0_init_38 rfl rfl (by decide) (fun _ => rfl) (fun v131 => ?_)
                    refine hz_goto (tgt := 15) dX0_init_41 (by decide) ?_
                    refine hz_iload_n (pc' := 16) (j := 0) dX0_init_15 rfl rfl rfl ?_
                    refine hz_aload_n (pc' := 17) (j := 1) dX0_init_16 rfl rfl rfl ?_
                    refine hz_gP (pc' := 20) (c' := 22) fl_X0_11.r g126 rfl dX0_init_17 rfl (fun b132 gb132 => ?_)
                    refine hz_alenr (pc' := 21) gb132 dX0_init_20 rfl ?_
                    refine hz_icmpge (pc' := 24) (tgt := 44) dX0_init_21 (by decide) rfl ?_ ?_
                    · exact hz_no rfl
                    · refine hz_aload_n (pc' := 25) (j := 1) dX0_init_24 rfl rfl rfl ?_
                      refine hz_gP (pc' := 28) (c' := 22) fl_X0_11.r g126 rfl dX0_init_25 rfl (fun b133 gb133 => ?_)
                      refine hz_iload_n (pc' := 29) (j := 0) dX0_init_28 rfl rfl rfl ?_
                      refine hz_new (pc' := 32) (N := 15) cl_X0_9 rfl rfl ⟨by omega, by omega⟩ dX0_init_29 rfl (fun w134 g135 => ?_)
                      have g136 := hz_g_up (n' := n0 + 227) g126 (by omega)
                      have g137 := hz_g_up (n' := n0 + 227) g127 (by omega)
                      have g138 := hz_g_up (n' := n0 + 227) gb133 (by omega)
                      refine hz_dup (pc' := 33) dX0_init_32 rfl rfl ?_
                      refine hz_aload_n (pc' := 34) (j := 2) dX0_init_33 rfl rfl rfl ?_
                      refine hz_cI (pc' := 37) (n' := n0 + 251) (av := [.ref (B.1 + a1)]) (rest := [.ref (B.1 + (n0 + 226)), .int v131, .ref (B.1 + b133)]) il_X0_17 (fun w' h => ct_X3_init hl h) rfl rfl (Nat.le_of_ble_eq_true rfl) (by decide) ⟨by omega, by omega⟩ rfl (by omega) dX0_init_34 rfl (fun w139 => ?_)
                      have g140 := hz_g_up (n' := n0 + 251) g136 (by omega)
                      have g141 := hz_g_up (n' := n0 + 251) g137 (by omega)
                      have g142 := hz_g_up (n' := n0 + 251) g135 (by omega)
                      have g143 := hz_g_up (n' := n0 + 251) g138 (by omega)
                      refine hz_aast (pc' := 38) g143 g142 dX0_init_37 rfl (fun w144 => ?_)
                      refine hz_iincN (pc' := 41) (j := 0) (fun v145 => [(2, .int v145), (0, .ref (B.1 + a0)), (1, .ref (B.1 + a1))]) dX0_init_38 rfl rfl (by decide) (fun _ => rfl) (fun v145 => ?_)
                      refine hz_goto (tgt := 15) dX0_init_41 (by decide) ?_
                      refine hz_iload_n (pc' := 16) (j := 0) dX0_init_15 rfl rfl rfl ?_
                      refine hz_aload_n (pc' := 17) (j := 1) dX0_init_16 rfl rfl rfl ?_
                      refine hz_gP (pc' := 20) (c' := 22) fl_X0_11.r g140 rfl dX0_init_17 rfl (fun b146 gb146 => ?_)
                      refine hz_alenr (pc' := 21) gb146 dX0_init_20 rfl ?_
                      refine hz_icmpge (pc' := 24) (tgt := 44) dX0_init_21 (by decide) rfl ?_ ?_
                      · exact hz_retv dX0_init_44 rfl ⟨by omega, by omega⟩
                      · exact hz_no rfl
def f_X3_copyFrom (a0 : Nat) (a1 : Nat) (w : MW) : Option (MW) :=
  hz_gd (hz_g 358 a0 4) (hz_gd (hz_g 358 a1 4) (hz_ldp w a0 1 358 2 (fun b1 => hz_ldp w a1 1 358 2 (fun b2 => hz_bv (f_X1_copyFrom b1 b2 w) (fun w3 => hz_let (hz_pn w3 a0 2 (w3.1 a1 2)) (fun w4 => hz_let (hz_pn w4 a0 3 (w4.1 a1 3)) (fun w5 => hz_ldp w5 a1 4 358 20 (fun b6 => hz_ldp w5 a0 4 358 20 (fun b7 => hz_bv (f_X9_copyRow b6 b7 w5) (fun w8 => hz_ldp w8 a1 5 358 20 (fun b9 => hz_ldp w8 a0 5 358 20 (fun b10 => hz_bv (f_X9_copyRow b9 b10 w8) (fun w11 => hz_ldp w11 a1 6 358 20 (fun b12 => hz_ldp w11 a0 6 358 20 (fun b13 => hz_bv (f_X9_copyRow b12 b13 w11) (fun w14 => hz_ldp w14 a1 7 358 20 (fun b15 => hz_ldp w14 a0 7 358 20 (fun b16 => hz_bv (f_X9_copyRow b15 b16 w14) (fun w17 => hz_ldp w17 a1 8 358 20 (fun b18 => hz_ldp w17 a0 8 358 20 (fun b19 => hz_bv (f_X9_copyRow b18 b19 w17) (fun w20 => hz_ldp w20 a1 9 358 20 (fun b21 => hz_ldp w20 a0 9 358 20 (fun b22 => hz_bv (f_X9_copyRow b21 b22 w20) (fun w23 => hz_ldp w23 a1 10 358 20 (fun b24 => hz_ldp w23 a0 10 358 20 (fun b25 => hz_bv (f_X9_copyRow b24 b25 w23) (fun w26 => hz_ldp w26 a1 11 358 20 (fun b27 => hz_ldp w26 a0 11 358 20 (fun b28 => hz_bv (f_X9_copyRow b27 b28 w26) (fun w29 => hz_ldp w29 a1 12 358 20 (fun b30 => hz_ldp w29 a0 12 358 20 (fun b31 => hz_bv (f_X9_copyRow b30 b31 w29) (fun w32 => hz_ldp w32 a1 13 358 20 (fun b33 => hz_ldp w32 a0 13 358 20 (fun b34 => hz_bv (f_X9_copyRow b33 b34 w32) (fun w35 => hz_ldp w35 a1 14 358 20 (fun b36 => hz_ldp w35 a0 14 358 20 (fun b37 => hz_bv (f_X9_copyRow b36 b37 w35) (fun w38 => some w38))))))))))))))))))))))))))))))))))))))))
set_option maxHeartbeats 4000000 in
set_option maxRecDepth 100000 in
theorem ct_X3_copyFrom {l : Launch} (hl : l.stackTraces = false) {B : Bt} {a0 : Nat} {a1 : Nat} {w : MW} {r : MW} (h : f_X3_copyFrom a0 a1 w = some r) : hz_Met l B false 358 358 yX3_copyFrom cX3_copyFrom 2 (Option.none : Option FieldType) 4 0 0 [.ref (B.1 + a0), .ref (B.1 + a1)] w none r := by
  refine hz_ofJ (rv := (fun _ : MW => none)) (wo := (fun r : MW => r)) (own := RX3) (ini := false) hl (by decide) rfl (Or.inr rfl) (Nat.le_of_ble_eq_true rfl) rfl ?_ h
  intro p e s m args below meth c
  unfold f_X3_copyFrom
  refine hz_gdr (fun ga0 => ?_)
  refine hz_gdr (fun ga1 => ?_)
  refine hz_aload_n (pc' := 1) (j := 0) dX3_copyFrom_0 rfl rfl rfl ?_
  refine hz_gP (pc' := 4) (c' := 2) fl_X3_12.r ga0 rfl dX3_copyFrom_1 rfl (fun b1 gb1 => ?_)
  refine hz_aload_n (pc' := 5) (j := 1) dX3_copyFrom_4 rfl rfl rfl ?_
  refine hz_gP (pc' := 8) (c' := 2) fl_X3_12.r ga1 rfl dX3_copyFrom_5 rfl (fun b2 gb2 => ?_)
  refine hz_cVv (pc' := 11) (av := [.ref (B.1 + b2)]) (rest := []) vl_X3_78 (fun w' h => ct_X1_copyFrom hl h) gb1 rfl rfl (Nat.le_of_ble_eq_true rfl) (by decide) (by decide) rfl dX3_copyFrom_8 rfl (fun w3 => ?_)
  refine hz_aload_n (pc' := 12) (j := 0) dX3_copyFrom_11 rfl rfl rfl ?_
  refine hz_aload_n (pc' := 13) (j := 1) dX3_copyFrom_12 rfl rfl rfl ?_
  refine hz_gI (pc' := 16) fl_X3_59.r ga1 rfl dX3_copyFrom_13 rfl ?_
  refine hz_putI (pc' := 19) fl_X3_59 ga0 rfl dX3_copyFrom_16 rfl (fun w4 => ?_)
  refine hz_aload_n (pc' := 20) (j := 0) dX3_copyFrom_19 rfl rfl rfl ?_
  refine hz_aload_n (pc' := 21) (j := 1) dX3_copyFrom_20 rfl rfl rfl ?_
  refine hz_gI (pc' := 24) fl_X3_68.r ga1 rfl dX3_copyFrom_21 rfl ?_
  refine hz_putI (pc' := 27) fl_X3_68 ga0 rfl dX3_copyFrom_24 rfl (fun w5 => ?_)
  refine hz_aload_n (pc' := 28) (j := 1) dX3_copyFrom_27 rfl rfl rfl ?_
  refine hz_gP (pc' := 31) (c' := 20) fl_X3_18.r ga1 rfl dX3_copyFrom_28 rfl (fun b6 gb6 => ?_)
  refine hz_aload_n (pc' := 32) (j := 0) dX3_copyFrom_31 rfl rfl rfl ?_
  refine hz_gP (pc' := 35) (c' := 20) fl_X3_18.r ga0 rfl dX3_copyFrom_32 rfl (fun b7 gb7 => ?_)
  refine hz_cSNv (pc' := 38) (av := [.ref (B.1 + b6), .ref (B.1 + b7)]) (rest := []) snl_X3_70 (fun w' h => ct_X9_copyRow hl h) rfl rfl (Nat.le_of_ble_eq_true rfl) (by decide) (by decide) rfl dX3_copyFrom_35 rfl (fun w8 => ?_)
  refine hz_aload_n (pc' := 39) (j := 1) dX3_copyFrom_38 rfl rfl rfl ?_
  refine hz_gP (pc' := 42) (c' := 20) fl_X3_22.r ga1 rfl dX3_copyFrom_39 rfl (fun b9 gb9 => ?_)
  refine hz_aload_n (pc' := 43) (j := 0) dX3_copyFrom_42 rfl rfl rfl ?_
  refine hz_gP (pc' := 46) (c' := 20) fl_X3_22.r ga0 rfl dX3_copyFrom_43 rfl (fun b10 gb10 => ?_)
  refine hz_cSNv (pc' := 49) (av := [.ref (B.1 + b9), .ref (B.1 + b10)]) (rest := []) snl_X3_70 (fun w' h => ct_X9_copyRow hl h) rfl rfl (Nat.le_of_ble_eq_true rfl) (by decide) (by decide) rfl dX3_copyFrom_46 rfl (fun w11 => ?_)
  refine hz_aload_n (pc' := 50) (j := 1) dX3_copyFrom_49 rfl rfl rfl ?_
  refine hz_gP (pc' := 53) (c' := 20) fl_X3_25.r ga1 rfl dX3_copyFrom_50 rfl (fun b12 gb12 => ?_)
  refine hz_aload_n (pc' := 54) (j := 0) dX3_copyFrom_53 rfl rfl rfl ?_
  refine hz_gP (pc' := 57) (c' := 20) fl_X3_25.r ga0 rfl dX3_copyFrom_54 rfl (fun b13 gb13 => ?_)
  refine hz_cSNv (pc' := 60) (av := [.ref (B.1 + b12), .ref (B.1 + b13)]) (rest := []) snl_X3_70 (fun w' h => ct_X9_copyRow hl h) rfl rfl (Nat.le_of_ble_eq_true rfl) (by decide) (by decide) rfl dX3_copyFrom_57 rfl (fun w14 => ?_)
  refine hz_aload_n (pc' := 61) (j := 1) dX3_copyFrom_60 rfl rfl rfl ?_
  refine hz_gP (pc' := 64) (c' := 20) fl_X3_28.r ga1 rfl dX3_copyFrom_61 rfl (fun b15 gb15 => ?_)
  refine hz_aload_n (pc' := 65) (j := 0) dX3_copyFrom_64 rfl rfl rfl ?_
  refine hz_gP (pc' := 68) (c' := 20) fl_X3_28.r ga0 rfl dX3_copyFrom_65 rfl (fun b16 gb16 => ?_)
  refine hz_cSNv (pc' := 71) (av := [.ref (B.1 + b15), .ref (B.1 + b16)]) (rest := []) snl_X3_70 (fun w' h => ct_X9_copyRow hl h) rfl rfl (Nat.le_of_ble_eq_true rfl) (by decide) (by decide) rfl dX3_copyFrom_68 rfl (fun w17 => ?_)
  refine hz_aload_n (pc' := 72) (j := 1) dX3_copyFrom_71 rfl rfl rfl ?_
  refine hz_gP (pc' := 75) (c' := 20) fl_X3_31.r ga1 rfl dX3_copyFrom_72 rfl (fun b18 gb18 => ?_)
  refine hz_aload_n (pc' := 76) (j := 0) dX3_copyFrom_75 rfl rfl rfl ?_
  refine hz_gP (pc' := 79) (c' := 20) fl_X3_31.r ga0 rfl dX3_copyFrom_76 rfl (fun b19 gb19 => ?_)
  refine hz_cSNv (pc' := 82) (av := [.ref (B.1 + b18), .ref (B.1 + b19)]) (rest := []) snl_X3_70 (fun w' h => ct_X9_copyRow hl h) rfl rfl (Nat.le_of_ble_eq_true rfl) (by decide) (by decide) rfl dX3_copyFrom_79 rfl (fun w20 => ?_)
  refine hz_aload_n (pc' := 83) (j := 1) dX3_copyFrom_82 rfl rfl rfl ?_
  refine hz_gP (pc' := 86) (c' := 20) fl_X3_34.r ga1 rfl dX3_copyFrom_83 rfl (fun b21 gb21 => ?_)
  refine hz_aload_n (pc' := 87) (j := 0) dX3_copyFrom_86 rfl rfl rfl ?_
  refine hz_gP (pc' := 90) (c' := 20) fl_X3_34.r ga0 rfl dX3_copyFrom_87 rfl (fun b22 gb22 => ?_)
  refine hz_cSNv (pc' := 93) (av := [.ref (B.1 + b21), .ref (B.1 + b22)]) (rest := []) snl_X3_70 (fun w' h => ct_X9_copyRow hl h) rfl rfl (Nat.le_of_ble_eq_true rfl) (by decide) (by decide) rfl dX3_copyFrom_90 rfl (fun w23 => ?_)
  refine hz_aload_n (pc' := 94) (j := 1) dX3_copyFrom_93 rfl rfl rfl ?_
  refine hz_gP (pc' := 97) (c' := 20) fl_X3_37.r ga1 rfl dX3_copyFrom_94 rfl (fun b24 gb24 => ?_)
  refine hz_aload_n (pc' := 98) (j := 0) dX3_copyFrom_97 rfl rfl rfl ?_
  refine hz_gP (pc' := 101) (c' := 20) fl_X3_37.r ga0 rfl dX3_copyFrom_98 rfl (fun b25 gb25 => ?_)
  refine hz_cSNv (pc' := 104) (av := [.ref (B.1 + b24), .ref (B.1 + b25)]) (rest := []) snl_X3_70 (fun w' h => ct_X9_copyRow hl h) rfl rfl (Nat.le_of_ble_eq_true rfl) (by decide) (by decide) rfl dX3_copyFrom_101 rfl (fun w26 => ?_)
  refine hz_aload_n (pc' := 105) (j := 1) dX3_copyFrom_104 rfl rfl rfl ?_
  refine hz_gP (pc' := 108) (c' := 20) fl_X3_40.r ga1 rfl dX3_copyFrom_105 rfl (fun b27 gb27 => ?_)
  refine hz_aload_n (pc' := 109) (j := 0) dX3_copyFrom_108 rfl rfl rfl ?_
  refine hz_gP (pc' := 112) (c' := 20) fl_X3_40.r ga0 rfl dX3_copyFrom_109 rfl (fun b28 gb28 => ?_)
  refine hz_cSNv (pc' := 115) (av := [.ref (B.1 + b27), .ref (B.1 + b28)]) (rest := []) snl_X3_70 (fun w' h => ct_X9_copyRow hl h) rfl rfl (Nat.le_of_ble_eq_true rfl) (by decide) (by decide) rfl dX3_copyFrom_112 rfl (fun w29 => ?_)
  refine hz_aload_n (pc' := 116) (j := 1) dX3_copyFrom_115 rfl rfl rfl ?_
  refine hz_gP (pc' := 119) (c' := 20) fl_X3_43.r ga1 rfl dX3_copyFrom_116 rfl (fun b30 gb30 => ?_)
  refine hz_aload_n (pc' := 120) (j := 0) dX3_copyFrom_119 rfl rfl rfl ?_
  refine hz_gP (pc' := 123) (c' := 20) fl_X3_43.r ga0 rfl dX3_copyFrom_120 rfl (fun b31 gb31 => ?_)
  refine hz_cSNv (pc' := 126) (av := [.ref (B.1 + b30), .ref (B.1 + b31)]) (rest := []) snl_X3_70 (fun w' h => ct_X9_copyRow hl h) rfl rfl (Nat.le_of_ble_eq_true rfl) (by decide) (by decide) rfl dX3_copyFrom_123 rfl (fun w32 => ?_)
  refine hz_aload_n (pc' := 127) (j := 1) dX3_copyFrom_126 rfl rfl rfl ?_
  refine hz_gP (pc' := 130) (c' := 20) fl_X3_46.r ga1 rfl dX3_copyFrom_127 rfl (fun b33 gb33 => ?_)
  refine hz_aload_n (pc' := 131) (j := 0) dX3_copyFrom_130 rfl rfl rfl ?_
  refine hz_gP (pc' := 134) (c' := 20) fl_X3_46.r ga0 rfl dX3_copyFrom_131 rfl (fun b34 gb34 => ?_)
  refine hz_cSNv (pc' := 137) (av := [.ref (B.1 + b33), .ref (B.1 + b34)]) (rest := []) snl_X3_70 (fun w' h => ct_X9_copyRow hl h) rfl rfl (Nat.le_of_ble_eq_true rfl) (by decide) (by decide) rfl dX3_copyFrom_134 rfl (fun w35 => ?_)
  refine hz_aload_n (pc' := 138) (j := 1) dX3_copyFrom_137 rfl rfl rfl ?_
  refine hz_gP (pc' := 141) (c' := 20) fl_X3_49.r ga1 rfl dX3_copyFrom_138 rfl (fun b36 gb36 => ?_)
  refine hz_aload_n (pc' := 142) (j := 0) dX3_copyFrom_141 rfl rfl rfl ?_
  refine hz_gP (pc' := 145) (c' := 20) fl_X3_49.r ga0 rfl dX3_copyFrom_142 rfl (fun b37 gb37 => ?_)
  refine hz_cSNv (pc' := 148) (av := [.ref (B.1 + b36), .ref (B.1 + b37)]) (rest := []) snl_X3_70 (fun w' h => ct_X9_copyRow hl h) rfl rfl (Nat.le_of_ble_eq_true rfl) (by decide) (by decide) rfl dX3_copyFrom_145 rfl (fun w38 => ?_)
  exact hz_retv dX3_copyFrom_148 rfl (by decide)
def f_X0_remember (a0 : Nat) (a1 : Nat) (w : MW) : Option (MW) :=
  hz_gd (hz_g 358 a0 1) (hz_gd (hz_g 358 a1 4) (hz_ldp w a0 2 358 22 (fun b1 => Option.bind ((if (Int32.ofNat (hz_ln b1)) ≤ ((w.1 a0 1) + 1) then some 0 else some ((w.1 a0 1) + 1))) (fun q2 : Int32 => hz_let (hz_pn w a0 1 q2) (fun w3 => hz_ldp w3 a0 2 358 22 (fun b4 => hz_ldq w3 b4 (w3.1 a0 1) 358 4 (fun b5 => hz_bv (f_X3_copyFrom b5 a1 w3) (fun w6 => hz_ldp w6 a0 2 358 22 (fun b7 => hz_let (hz_pn w6 a0 0 (if (Int32.ofNat (hz_ln b7)) < ((w6.1 a0 0) + 1) then (Int32.ofNat (hz_ln b7)) else ((w6.1 a0 0) + 1))) (fun w8 => some w8))))))))))
set_option maxHeartbeats 4000000 in
set_option maxRecDepth 100000 in
theorem ct_X0_remember {l : Launch} (hl : l.stackTraces = false) {B : Bt} {a0 : Nat} {a1 : Nat} {w : MW} {r : MW} (h : f_X0_remember a0 a1 w = some r) : hz_Met l B false 358 358 yX0_remember cX0_remember 3 (Option.none : Option FieldType) 5 0 0 [.ref (B.1 + a0), .ref (B.1 + a1)] w none r := by
  refine hz_ofJ (rv := (fun _ : MW => none)) (wo := (fun r : MW => r)) (own := RX0) (ini := false) hl (by decide) rfl (Or.inr rfl) (Nat.le_of_ble_eq_true rfl) rfl ?_ h
  intro p e s m args below meth c
  unfold f_X0_remember
  refine hz_gdr (fun ga0 => ?_)
  refine hz_gdr (fun ga1 => ?_)
  refine hz_aload_n (pc' := 1) (j := 0) dX0_remember_0 rfl rfl rfl ?_
  refine hz_aload_n (pc' := 2) (j := 0) dX0_remember_1 rfl rfl rfl ?_
  refine hz_gI (pc' := 5) fl_X0_24.r ga0 rfl dX0_remember_2 rfl ?_
  refine hz_iconst (pc' := 6) (v := 1) dX0_remember_5 rfl (by decide) ?_
  refine hz_iadd (pc' := 7) dX0_remember_6 rfl ?_
  refine hz_aload_n (pc' := 8) (j := 0) dX0_remember_7 rfl rfl rfl ?_
  refine hz_gP (pc' := 11) (c' := 22) fl_X0_11.r ga0 rfl dX0_remember_8 rfl (fun b1 gb1 => ?_)
  refine hz_alenr (pc' := 12) gb1 dX0_remember_11 rfl ?_
  refine hz_bindJ (pcJ := 25) (LJ := fun q2 : Int32 => [(0, .ref (B.1 + a0)), (1, .ref (B.1 + a1))]) (stJ := fun q2 : Int32 => [.int q2, .ref (B.1 + a0)]) (kJ := 0) (slJ := 0) (nJ := 358) (wJ := fun q2 : Int32 => w) (fun q2 => ?_) (fun hq2 => ?_)
  · refine hz_putI (pc' := 28) fl_X0_24 ga0 rfl dX0_remember_25 rfl (fun w3 => ?_)
    refine hz_aload_n (pc' := 29) (j := 0) dX0_remember_28 rfl rfl rfl ?_
    refine hz_gP (pc' := 32) (c' := 22) fl_X0_11.r ga0 rfl dX0_remember_29 rfl (fun b4 gb4 => ?_)
    refine hz_aload_n (pc' := 33) (j := 0) dX0_remember_32 rfl rfl rfl ?_
    refine hz_gI (pc' := 36) fl_X0_24.r ga0 rfl dX0_remember_33 rfl ?_
    refine hz_aald (pc' := 37) (c' := 4) gb4 dX0_remember_36 rfl (fun b5 gb5 => ?_)
    refine hz_astore_n (pc' := 38) (L' := [(2, .ref (B.1 + b5)), (0, .ref (B.1 + a0)), (1, .ref (B.1 + a1))]) dX0_remember_37 rfl rfl (by decide) rfl ?_
    refine hz_aload_n (pc' := 39) (j := 0) dX0_remember_38 rfl rfl rfl ?_
    refine hz_ifnull (pc' := 42) dX0_remember_39 rfl ?_
    refine hz_aload_n (pc' := 43) (j := 0) dX0_remember_42 rfl rfl rfl ?_
    refine hz_aload_n (pc' := 44) (j := 2) dX0_remember_43 rfl rfl rfl ?_
    refine hz_cVv (pc' := 47) (av := [.ref (B.1 + a1)]) (rest := []) vl_X0_27 (fun w' h => ct_X3_copyFrom hl h) gb5 rfl rfl (Nat.le_of_ble_eq_true rfl) (by decide) (by decide) rfl dX0_remember_44 rfl (fun w6 => ?_)
    refine hz_aload_n (pc' := 48) (j := 1) dX0_remember_47 rfl rfl rfl ?_
    refine hz_aload_n (pc' := 49) (j := 1) dX0_remember_48 rfl rfl rfl ?_
    refine hz_gI (pc' := 52) fl_X0_20.r ga0 rfl dX0_remember_49 rfl ?_
    refine hz_iconst (pc' := 53) (v := 1) dX0_remember_52 rfl (by decide) ?_
    refine hz_iadd (pc' := 54) dX0_remember_53 rfl ?_
    refine hz_aload_n (pc' := 55) (j := 1) dX0_remember_54 rfl rfl rfl ?_
    refine hz_gP (pc' := 58) (c' := 22) fl_X0_11.r ga0 rfl dX0_remember_55 rfl (fun b7 gb7 => ?_)
    refine hz_alenr (pc' := 59) gb7 dX0_remember_58 rfl ?_
    refine hz_mmin (pc' := 62) hq_698 hq_422 hq_17 hq_423 ⟨Nat.le_of_ble_eq_true rfl, Nat.le_of_ble_eq_true rfl⟩ (by decide) dX0_remember_59 rfl ?_
    refine hz_putI (pc' := 65) fl_X0_20 ga0 rfl dX0_remember_62 rfl (fun w8 => ?_)
    exact hz_retv dX0_remember_65 rfl (by decide)
  · refine hz_icmpge (pc' := 15) (tgt := 24) dX0_remember_12 (by decide) rfl ?_ ?_
    · refine hz_iconst (pc' := 25) (v := 0) dX0_remember_24 rfl (by decide) ?_
      exact hz_loc [0, 1] rfl (hq2 0)
    · refine hz_aload_n (pc' := 16) (j := 0) dX0_remember_15 rfl rfl rfl ?_
      refine hz_gI (pc' := 19) fl_X0_24.r ga0 rfl dX0_remember_16 rfl ?_
      refine hz_iconst (pc' := 20) (v := 1) dX0_remember_19 rfl (by decide) ?_
      refine hz_iadd (pc' := 21) dX0_remember_20 rfl ?_
      refine hz_goto (tgt := 25) dX0_remember_21 (by decide) ?_
      exact hz_loc [0, 1] rfl (hq2 ((w.1 a0 1) + 1))
def f_X0_takeBackInto (a0 : Nat) (a1 : Nat) (w : MW) : Option (MW) :=
  hz_gd (hz_g 358 a0 1) (hz_gd (hz_g 358 a1 4) (hz_ldp w a0 2 358 22 (fun b1 => hz_ldq w b1 (w.1 a0 1) 358 4 (fun b2 => Option.bind ((if (w.1 a0 0) ≤ 0 then some w else hz_bv (f_X3_copyFrom a1 b2 w) (fun w4 => Option.bind ((if (w4.1 a0 1) ≤ 0 then hz_ldp w4 a0 2 358 22 (fun b8 => some ((Int32.ofNat (hz_ln b8)) - 1)) else some ((w4.1 a0 1) - 1))) (fun q5 : Int32 => hz_let (hz_pn w4 a0 1 q5) (fun w6 => hz_let (hz_pn w6 a0 0 ((w6.1 a0 0) - 1)) (fun w7 => some w7)))))) (fun q3 : MW => some q3)))))
set_option maxHeartbeats 4000000 in
set_option maxRecDepth 100000 in
theorem ct_X0_takeBackInto {l : Launch} (hl : l.stackTraces = false) {B : Bt} {a0 : Nat} {a1 : Nat} {w : MW} {r : MW} (h : f_X0_takeBackInto a0 a1 w = some r) : hz_Met l B false 358 358 yX0_takeBackInto cX0_takeBackInto 3 (Option.none : Option FieldType) 5 0 0 [.ref (B.1 + a0), .ref (B.1 + a1)] w none r := by
  refine hz_ofJ (rv := (fun _ : MW => none)) (wo := (fun r : MW => r)) (own := RX0) (ini := false) hl (by decide) rfl (Or.inr rfl) (Nat.le_of_ble_eq_true rfl) rfl ?_ h
  intro p e s m args below meth c
  unfold f_X0_takeBackInto
  refine hz_gdr (fun ga0 => ?_)
  refine hz_gdr (fun ga1 => ?_)
  refine hz_aload_n (pc' := 1) (j := 0) dX0_takeBackInto_0 rfl rfl rfl ?_
  refine hz_gP (pc' := 4) (c' := 22) fl_X0_11.r ga0 rfl dX0_takeBackInto_1 rfl (fun b1 gb1 => ?_)
  refine hz_aload_n (pc' := 5) (j := 0) dX0_takeBackInto_4 rfl rfl rfl ?_
  refine hz_gI (pc' := 8) fl_X0_24.r ga0 rfl dX0_takeBackInto_5 rfl ?_
  refine hz_aald (pc' := 9) (c' := 4) gb1 dX0_takeBackInto_8 rfl (fun b2 gb2 => ?_)
  refine hz_astore_n (pc' := 10) (L' := [(2, .ref (B.1 + b2)), (0, .ref (B.1 + a0)), (1, .ref (B.1 + a1))]) dX0_takeBackInto_9 rfl rfl (by decide) rfl ?_
  refine hz_aload_n (pc' := 11) (j := 0) dX0_takeBackInto_10 rfl rfl rfl ?_
  refine hz_ifnull (pc' := 14) dX0_takeBackInto_11 rfl ?_
  refine hz_aload_n (pc' := 15) (j := 1) dX0_takeBackInto_14 rfl rfl rfl ?_
  refine hz_gI (pc' := 18) fl_X0_20.r ga0 rfl dX0_takeBackInto_15 rfl ?_
  refine hz_bindJ (pcJ := 63) (LJ := fun q3 : MW => []) (stJ := fun q3 : MW => []) (kJ := 0) (slJ := 0) (nJ := 358) (wJ := fun q3 : MW => q3) (fun q3 => ?_) (fun hq3 => ?_)
  · exact hz_retv dX0_takeBackInto_63 rfl (by decide)
  · refine hz_ifle (pc' := 21) (tgt := 63) dX0_takeBackInto_18 (by decide) rfl ?_ ?_
    · exact hz_loc [] rfl (hq3 w)
    · refine hz_aload_n (pc' := 22) (j := 2) dX0_takeBackInto_21 rfl rfl rfl ?_
      refine hz_aload_n (pc' := 23) (j := 0) dX0_takeBackInto_22 rfl rfl rfl ?_
      refine hz_cVv (pc' := 26) (av := [.ref (B.1 + b2)]) (rest := []) vl_X0_27 (fun w' h => ct_X3_copyFrom hl h) ga1 rfl rfl (Nat.le_of_ble_eq_true rfl) (by decide) (by decide) rfl dX0_takeBackInto_23 rfl (fun w4 => ?_)
      refine hz_aload_n (pc' := 27) (j := 1) dX0_takeBackInto_26 rfl rfl rfl ?_
      refine hz_aload_n (pc' := 28) (j := 1) dX0_takeBackInto_27 rfl rfl rfl ?_
      refine hz_gI (pc' := 31) fl_X0_24.r ga0 rfl dX0_takeBackInto_28 rfl ?_
      refine hz_bindJ (pcJ := 50) (LJ := fun q5 : Int32 => [(0, .ref (B.1 + a0))]) (stJ := fun q5 : Int32 => [.int q5, .ref (B.1 + a0)]) (kJ := 0) (slJ := 0) (nJ := 358) (wJ := fun q5 : Int32 => w4) (fun q5 => ?_) (fun hq5 => ?_)
      · refine hz_putI (pc' := 53) fl_X0_24 ga0 rfl dX0_takeBackInto_50 rfl (fun w6 => ?_)
        refine hz_aload_n (pc' := 54) (j := 0) dX0_takeBackInto_53 rfl rfl rfl ?_
        refine hz_dup (pc' := 55) dX0_takeBackInto_54 rfl rfl ?_
        refine hz_gI (pc' := 58) fl_X0_20.r ga0 rfl dX0_takeBackInto_55 rfl ?_
        refine hz_iconst (pc' := 59) (v := 1) dX0_takeBackInto_58 rfl (by decide) ?_
        refine hz_isub (pc' := 60) dX0_takeBackInto_59 rfl ?_
        refine hz_putI (pc' := 63) fl_X0_20 ga0 rfl dX0_takeBackInto_60 rfl (fun w7 => ?_)
        exact hz_loc [] rfl (hq3 w7)
      · refine hz_ifle (pc' := 34) (tgt := 43) dX0_takeBackInto_31 (by decide) rfl ?_ ?_
        · refine hz_aload_n (pc' := 44) (j := 1) dX0_takeBackInto_43 rfl rfl rfl ?_
          refine hz_gP (pc' := 47) (c' := 22) fl_X0_11.r ga0 rfl dX0_takeBackInto_44 rfl (fun b8 gb8 => ?_)
          refine hz_alenr (pc' := 48) gb8 dX0_takeBackInto_47 rfl ?_
          refine hz_iconst (pc' := 49) (v := 1) dX0_takeBackInto_48 rfl (by decide) ?_
          refine hz_isub (pc' := 50) dX0_takeBackInto_49 rfl ?_
          exact hz_loc [1] rfl (hq5 ((Int32.ofNat (hz_ln b8)) - 1))
        · refine hz_aload_n (pc' := 35) (j := 1) dX0_takeBackInto_34 rfl rfl rfl ?_
          refine hz_gI (pc' := 38) fl_X0_24.r ga0 rfl dX0_takeBackInto_35 rfl ?_
          refine hz_iconst (pc' := 39) (v := 1) dX0_takeBackInto_38 rfl (by decide) ?_
          refine hz_isub (pc' := 40) dX0_takeBackInto_39 rfl ?_
          refine hz_goto (tgt := 50) dX0_takeBackInto_40 (by decide) ?_
          exact hz_loc [1] rfl (hq5 ((w4.1 a0 1) - 1))
def lp_X3_reset_67 (c0 : Nat) : Nat → (Int32 × MW) → Option (MW)
  | 0, _ => none
  | N + 1, v0 => (if 4 ≤ v0.1 then some v0.2 else hz_ldp v0.2 c0 6 358 20 (fun b18 => hz_ldp v0.2 c0 0 358 3 (fun b19 => hz_sta v0.2 b18 v0.1 (v0.2.1 b19 0) (fun w20 => hz_ldp w20 c0 7 358 20 (fun b21 => hz_sta w20 b21 v0.1 0 (fun w22 => hz_ldp w22 c0 8 358 20 (fun b23 => hz_sta w22 b23 v0.1 0 (fun w24 => hz_ldp w24 c0 10 358 20 (fun b25 => hz_sta w24 b25 v0.1 0 (fun w26 => hz_ldp w26 c0 11 358 20 (fun b27 => hz_sta w26 b27 v0.1 0 (fun w28 => hz_ldp w28 c0 12 358 20 (fun b29 => hz_sta w28 b29 v0.1 0 (fun w30 => hz_ldp w30 c0 13 358 20 (fun b31 => hz_sta w30 b31 v0.1 0 (fun w32 => hz_let (v0.1 + Int32.ofInt 1) (fun v33 => lp_X3_reset_67 c0 N (v33, w32))))))))))))))))))
def lp_X3_reset_135 (c0 : Nat) : Nat → (Int32 × MW) → Option (MW)
  | 0, _ => none
  | N + 1, v0 => hz_ldp v0.2 c0 14 358 20 (fun b20 => (if (Int32.ofNat (hz_ln b20)) ≤ v0.1 then some v0.2 else hz_ldp v0.2 c0 14 358 20 (fun b21 => hz_sta v0.2 b21 v0.1 (-2) (fun w22 => hz_let (v0.1 + Int32.ofInt 1) (fun v23 => lp_X3_reset_135 c0 N (v23, w22))))))
def f_X3_reset (a0 : Nat) (w : MW) : Option (MW) :=
  hz_gd (hz_g 358 a0 4) (hz_ldp w a0 1 358 2 (fun b1 => hz_bv (f_X1_reset b1 w) (fun w2 => hz_let (hz_pn w2 a0 2 0) (fun w3 => hz_ldp w3 a0 0 358 3 (fun b4 => hz_let (hz_pn w3 a0 3 (w3.1 b4 0)) (fun w5 => hz_ldp w5 a0 0 358 3 (fun b6 => hz_ldp w5 b6 3 358 20 (fun b7 => hz_ldp w5 a0 4 358 20 (fun b8 => hz_bv (f_X9_copyRow b7 b8 w5) (fun w9 => hz_ldp w9 a0 0 358 3 (fun b10 => hz_ldp w9 b10 9 358 20 (fun b11 => hz_ldp w9 a0 5 358 20 (fun b12 => hz_bv (f_X9_copyRow b11 b12 w9) (fun w13 => hz_ldp w13 a0 0 358 3 (fun b14 => hz_ldp w13 b14 8 358 20 (fun b15 => hz_ldp w13 a0 9 358 20 (fun b16 => hz_bv (f_X9_copyRow b15 b16 w13) (fun w17 => Option.bind (lp_X3_reset_67 a0 3000 (0, w17)) (fun q19 : MW => Option.bind (lp_X3_reset_135 a0 3000 (0, q19)) (fun q21 : MW => some q21))))))))))))))))))))
set_option maxHeartbeats 4000000 in
set_option maxRecDepth 100000 in
theorem ct_X3_reset {l : Launch} (hl : l.stackTraces = false) {B : Bt} {a0 : Nat} {w : MW} {r : MW} (h : f_X3_reset a0 w = some r) : hz_Met l B false 358 358 yX3_reset cX3_reset 2 (Option.none : Option FieldType) 3 0 0 [.ref (B.1 + a0)] w none r := by
  refine hz_ofJ (rv := (fun _ : MW => none)) (wo := (fun r : MW => r)) (own := RX3) (ini := false) hl (by decide) rfl (Or.inr rfl) (Nat.le_of_ble_eq_true rfl) rfl ?_ h
  intro p e s m args below meth c
  unfold f_X3_reset
  refine hz_gdr (fun ga0 => ?_)
  refine hz_aload_n (pc' := 1) (j := 0) dX3_reset_0 rfl rfl rfl ?_
  refine hz_gP (pc' := 4) (c' := 2) fl_X3_12.r ga0 rfl dX3_reset_1 rfl (fun b1 gb1 => ?_)
  refine hz_cVv (pc' := 7) (av := []) (rest := []) vl_X3_56 (fun w' h => ct_X1_reset hl h) gb1 rfl rfl (Nat.le_of_ble_eq_true rfl) (by decide) (by decide) rfl dX3_reset_4 rfl (fun w2 => ?_)
  refine hz_aload_n (pc' := 8) (j := 0) dX3_reset_7 rfl rfl rfl ?_
  refine hz_iconst (pc' := 9) (v := 0) dX3_reset_8 rfl (by decide) ?_
  refine hz_putI (pc' := 12) fl_X3_59 ga0 rfl dX3_reset_9 rfl (fun w3 => ?_)
  refine hz_aload_n (pc' := 13) (j := 0) dX3_reset_12 rfl rfl rfl ?_
  refine hz_aload_n (pc' := 14) (j := 0) dX3_reset_13 rfl rfl rfl ?_
  refine hz_gP (pc' := 17) (c' := 3) fl_X3_52.r ga0 rfl dX3_reset_14 rfl (fun b4 gb4 => ?_)
  refine hz_gI (pc' := 20) fl_X3_63.r gb4 rfl dX3_reset_17 rfl ?_
  refine hz_putI (pc' := 23) fl_X3_68 ga0 rfl dX3_reset_20 rfl (fun w5 => ?_)
  refine hz_aload_n (pc' := 24) (j := 0) dX3_reset_23 rfl rfl rfl ?_
  refine hz_gP (pc' := 27) (c' := 3) fl_X3_52.r ga0 rfl dX3_reset_24 rfl (fun b6 gb6 => ?_)
  refine hz_gP (pc' := 30) (c' := 20) fl_X3_69 gb6 rfl dX3_reset_27 rfl (fun b7 gb7 => ?_)
  refine hz_aload_n (pc' := 31) (j := 0) dX3_reset_30 rfl rfl rfl ?_
  refine hz_gP (pc' := 34) (c' := 20) fl_X3_18.r ga0 rfl dX3_reset_31 rfl (fun b8 gb8 => ?_)
  refine hz_cSNv (pc' := 37) (av := [.ref (B.1 + b7), .ref (B.1 + b8)]) (rest := []) snl_X3_70 (fun w' h => ct_X9_copyRow hl h) rfl rfl (Nat.le_of_ble_eq_true rfl) (by decide) (by decide) rfl dX3_reset_34 rfl (fun w9 => ?_)
  refine hz_aload_n (pc' := 38) (j := 0) dX3_reset_37 rfl rfl rfl ?_
  refine hz_gP (pc' := 41) (c' := 3) fl_X3_52.r ga0 rfl dX3_reset_38 rfl (fun b10 gb10 => ?_)
  refine hz_gP (pc' := 44) (c' := 20) fl_X3_74 gb10 rfl dX3_reset_41 rfl (fun b11 gb11 => ?_)
  refine hz_aload_n (pc' := 45) (j := 0) dX3_reset_44 rfl rfl rfl ?_
  refine hz_gP (pc' := 48) (c' := 20) fl_X3_22.r ga0 rfl dX3_reset_45 rfl (fun b12 gb12 => ?_)
  refine hz_cSNv (pc' := 51) (av := [.ref (B.1 + b11), .ref (B.1 + b12)]) (rest := []) snl_X3_70 (fun w' h => ct_X9_copyRow hl h) rfl rfl (Nat.le_of_ble_eq_true rfl) (by decide) (by decide) rfl dX3_reset_48 rfl (fun w13 => ?_)
  refine hz_aload_n (pc' := 52) (j := 0) dX3_reset_51 rfl rfl rfl ?_
  refine hz_gP (pc' := 55) (c' := 3) fl_X3_52.r ga0 rfl dX3_reset_52 rfl (fun b14 gb14 => ?_)
  refine hz_gP (pc' := 58) (c' := 20) fl_X3_75 gb14 rfl dX3_reset_55 rfl (fun b15 gb15 => ?_)
  refine hz_aload_n (pc' := 59) (j := 0) dX3_reset_58 rfl rfl rfl ?_
  refine hz_gP (pc' := 62) (c' := 20) fl_X3_34.r ga0 rfl dX3_reset_59 rfl (fun b16 gb16 => ?_)
  refine hz_cSNv (pc' := 65) (av := [.ref (B.1 + b15), .ref (B.1 + b16)]) (rest := []) snl_X3_70 (fun w' h => ct_X9_copyRow hl h) rfl rfl (Nat.le_of_ble_eq_true rfl) (by decide) (by decide) rfl dX3_reset_62 rfl (fun w17 => ?_)
  refine hz_iconst (pc' := 66) (v := 0) dX3_reset_65 rfl (by decide) ?_
  refine hz_istore_n (pc' := 67) (L' := [(1, .int 0), (0, .ref (B.1 + a0))]) dX3_reset_66 rfl rfl (by decide) rfl ?_
  refine hz_bindJ (pcJ := 133) (LJ := fun q19 : MW => [(0, .ref (B.1 + a0))]) (stJ := fun _ => []) (kJ := 0) (slJ := 0) (nJ := 358) (wJ := fun q19 : MW => q19) (fun q19 => ?_) (fun hq19 => ?_)
  · refine hz_iconst (pc' := 134) (v := 0) dX3_reset_133 rfl (by decide) ?_
    refine hz_istore_n (pc' := 135) (L' := [(1, .int 0), (0, .ref (B.1 + a0))]) dX3_reset_134 rfl rfl (by decide) rfl ?_
    refine hz_bindJ (pcJ := 158) (LJ := fun q21 : MW => []) (stJ := fun _ => []) (kJ := 0) (slJ := 0) (nJ := 358) (wJ := fun q21 : MW => q21) (fun q21 => ?_) (fun hq21 => ?_)
    · exact hz_retv dX3_reset_158 rfl (by decide)
    · refine hz_loc [1, 0] rfl (hz_loopJ (lp := lp_X3_reset_135 a0) (Lh := fun v20 : Int32 × MW => [(0, .ref (B.1 + a0)), (1, .int v20.1)]) (wh := fun v20 : Int32 × MW => v20.2) (fun _ => rfl) (fun Nv20 ihv20 v20 => ?_) 3000 (0, q19))
      rw [lp_X3_reset_135]
      refine hz_iload_n (pc' := 136) (j := 1) dX3_reset_135 rfl rfl rfl ?_
      refine hz_aload_n (pc' := 137) (j := 0) dX3_reset_136 rfl rfl rfl ?_
      refine hz_gP (pc' := 140) (c' := 20) fl_X3_49.r ga0 rfl dX3_reset_137 rfl (fun b22 gb22 => ?_)
      refine hz_aleni (pc' := 141) gb22 dX3_reset_140 rfl ?_
      refine hz_icmpge (pc' := 144) (tgt := 158) dX3_reset_141 (by decide) rfl ?_ ?_
      · exact hz_loc [] rfl (hq21 v20.2)
      · refine hz_aload_n (pc' := 145) (j := 0) dX3_reset_144 rfl rfl rfl ?_
        refine hz_gP (pc' := 148) (c' := 20) fl_X3_49.r ga0 rfl dX3_reset_145 rfl (fun b23 gb23 => ?_)
        refine hz_iload_n (pc' := 149) (j := 1) dX3_reset_148 rfl rfl rfl ?_
        refine hz_bipush (pc' := 151) (v := (-2)) dX3_reset_149 rfl (by decide) ?_
        refine hz_iast (pc' := 152) gb23 dX3_reset_151 rfl (fun w24 => ?_)
        refine hz_iincN (pc' := 155) (j := 1) (fun v25 => [(1, .int v25), (0, .ref (B.1 + a0))]) dX3_reset_152 rfl rfl (by decide) (fun _ => rfl) (fun v25 => ?_)
        refine hz_goto (tgt := 135) dX3_reset_155 (by decide) ?_
        exact hz_loc [1, 0] rfl (ihv20 (v25, w24))
  · refine hz_loc [1, 0] rfl (hz_loopJ (lp := lp_X3_reset_67 a0) (Lh := fun v18 : Int32 × MW => [(0, .ref (B.1 + a0)), (1, .int v18.1)]) (wh := fun v18 : Int32 × MW => v18.2) (fun _ => rfl) (fun Nv18 ihv18 v18 => ?_) 3000 (0, w17))
    rw [lp_X3_reset_67]
    refine hz_iload_n (pc' := 68) (j := 1) dX3_reset_67 rfl rfl rfl ?_
    refine hz_iconst (pc' := 69) (v := 4) dX3_reset_68 rfl (by decide) ?_
    refine hz_icmpge (pc' := 72) (tgt := 133) dX3_reset_69 (by decide) rfl ?_ ?_
    · exact hz_loc [0] rfl (hq19 v18.2)
    · refine hz_aload_n (pc' := 73) (j := 0) dX3_reset_72 rfl rfl rfl ?_
      refine hz_gP (pc' := 76) (c' := 20) fl_X3_25.r ga0 rfl dX3_reset_73 rfl (fun b26 gb26 => ?_)
      refine hz_iload_n (pc' := 77) (j := 1) dX3_reset_76 rfl rfl rfl ?_
      refine hz_aload_n (pc' := 78) (j := 0) dX3_reset_77 rfl rfl rfl ?_
      refine hz_gP (pc' := 81) (c' := 3) fl_X3_52.r ga0 rfl dX3_reset_78 rfl (fun b27 gb27 => ?_)
      refine hz_gI (pc' := 84) fl_X3_63.r gb27 rfl dX3_reset_81 rfl ?_
      refine hz_iast (pc' := 85) gb26 dX3_reset_84 rfl (fun w28 => ?_)
      refine hz_aload_n (pc' := 86) (j := 0) dX3_reset_85 rfl rfl rfl ?_
      refine hz_gP (pc' := 89) (c' := 20) fl_X3_28.r ga0 rfl dX3_reset_86 rfl (fun b29 gb29 => ?_)
      refine hz_iload_n (pc' := 90) (j := 1) dX3_reset_89 rfl rfl rfl ?_
      refine hz_iconst (pc' := 91) (v := 0) dX3_reset_90 rfl (by decide) ?_
      refine hz_iast (pc' := 92) gb29 dX3_reset_91 rfl (fun w30 => ?_)
      refine hz_aload_n (pc' := 93) (j := 0) dX3_reset_92 rfl rfl rfl ?_
      refine hz_gP (pc' := 96) (c' := 20) fl_X3_31.r ga0 rfl dX3_reset_93 rfl (fun b31 gb31 => ?_)
      refine hz_iload_n (pc' := 97) (j := 1) dX3_reset_96 rfl rfl rfl ?_
      refine hz_iconst (pc' := 98) (v := 0) dX3_reset_97 rfl (by decide) ?_
      refine hz_iast (pc' := 99) gb31 dX3_reset_98 rfl (fun w32 => ?_)
      refine hz_aload_n (pc' := 100) (j := 0) dX3_reset_99 rfl rfl rfl ?_
      refine hz_gP (pc' := 103) (c' := 20) fl_X3_37.r ga0 rfl dX3_reset_100 rfl (fun b33 gb33 => ?_)
      refine hz_iload_n (pc' := 104) (j := 1) dX3_reset_103 rfl rfl rfl ?_
      refine hz_iconst (pc' := 105) (v := 0) dX3_reset_104 rfl (by decide) ?_
      refine hz_iast (pc' := 106) gb33 dX3_reset_105 rfl (fun w34 => ?_)
      refine hz_aload_n (pc' := 107) (j := 0) dX3_reset_106 rfl rfl rfl ?_
      refine hz_gP (pc' := 110) (c' := 20) fl_X3_40.r ga0 rfl dX3_reset_107 rfl (fun b35 gb35 => ?_)
      refine hz_iload_n (pc' := 111) (j := 1) dX3_reset_110 rfl rfl rfl ?_
      refine hz_iconst (pc' := 112) (v := 0) dX3_reset_111 rfl (by decide) ?_
      refine hz_iast (pc' := 113) gb35 dX3_reset_112 rfl (fun w36 => ?_)
      refine hz_aload_n (pc' := 114) (j := 0) dX3_reset_113 rfl rfl rfl ?_
      refine hz_gP (pc' := 117) (c' := 20) fl_X3_43.r ga0 rfl dX3_reset_114 rfl (fun b37 gb37 => ?_)
      refine hz_iload_n (pc' := 118) (j := 1) dX3_reset_117 rfl rfl rfl ?_
      refine hz_iconst (pc' := 119) (v := 0) dX3_reset_118 rfl (by decide) ?_
      refine hz_iast (pc' := 120) gb37 dX3_reset_119 rfl (fun w38 => ?_)
      refine hz_aload_n (pc' := 121) (j := 0) dX3_reset_120 rfl rfl rfl ?_
      refine hz_gP (pc' := 124) (c' := 20) fl_X3_46.r ga0 rfl dX3_reset_121 rfl (fun b39 gb39 => ?_)
      refine hz_iload_n (pc' := 125) (j := 1) dX3_reset_124 rfl rfl rfl ?_
      refine hz_iconst (pc' := 126) (v := 0) dX3_reset_125 rfl (by decide) ?_
      refine hz_iast (pc' := 127) gb39 dX3_reset_126 rfl (fun w40 => ?_)
      refine hz_iincN (pc' := 130) (j := 1) (fun v41 => [(1, .int v41), (0, .ref (B.1 + a0))]) dX3_reset_127 rfl rfl (by decide) (fun _ => rfl) (fun v41 => ?_)
      refine hz_goto (tgt := 67) dX3_reset_130 (by decide) ?_
      exact hz_loc [1, 0] rfl (ihv18 (v41, w40))
def lp_X3_cancel_10 (c0 : Nat) (c1 : Int32) : Nat → (Int32 × MW) → Option (MW)
  | 0, _ => none
  | N + 1, v0 => hz_ldp v0.2 c0 14 358 20 (fun b3 => (if (Int32.ofNat (hz_ln b3)) ≤ v0.1 then some v0.2 else hz_ldp v0.2 c0 14 358 20 (fun b4 => hz_lda v0.2 b4 v0.1 (fun v5 => Option.bind ((if v5 = c1 then hz_ldp v0.2 c0 14 358 20 (fun b8 => hz_sta v0.2 b8 v0.1 (-2) (fun w9 => some w9)) else some v0.2)) (fun q6 : MW => hz_let (v0.1 + Int32.ofInt 1) (fun v7 => lp_X3_cancel_10 c0 c1 N (v7, q6)))))))
def f_X3_cancel (a0 : Nat) (x1 : Int32) (w : MW) : Option (MW) :=
  hz_gd (hz_g 358 a0 4) (hz_ldp w a0 1 358 2 (fun b1 => hz_bv (f_X1_cancel b1 x1 w) (fun w2 => Option.bind (lp_X3_cancel_10 a0 x1 3000 (0, w2)) (fun q4 : MW => some q4))))
set_option maxHeartbeats 4000000 in
set_option maxRecDepth 100000 in
theorem ct_X3_cancel {l : Launch} (hl : l.stackTraces = false) {B : Bt} {a0 : Nat} {x1 : Int32} {w : MW} {r : MW} (h : f_X3_cancel a0 x1 w = some r) : hz_Met l B false 358 358 yX3_cancel cX3_cancel 3 (Option.none : Option FieldType) 4 0 0 [.ref (B.1 + a0), .int x1] w none r := by
  refine hz_ofJ (rv := (fun _ : MW => none)) (wo := (fun r : MW => r)) (own := RX3) (ini := false) hl (by decide) rfl (Or.inr rfl) (Nat.le_of_ble_eq_true rfl) rfl ?_ h
  intro p e s m args below meth c
  unfold f_X3_cancel
  refine hz_gdr (fun ga0 => ?_)
  refine hz_aload_n (pc' := 1) (j := 0) dX3_cancel_0 rfl rfl rfl ?_
  refine hz_gP (pc' := 4) (c' := 2) fl_X3_12.r ga0 rfl dX3_cancel_1 rfl (fun b1 gb1 => ?_)
  refine hz_iload_n (pc' := 5) (j := 1) dX3_cancel_4 rfl rfl rfl ?_
  refine hz_cVv (pc' := 8) (av := [.int x1]) (rest := []) vl_X3_82 (fun w' h => ct_X1_cancel hl h) gb1 rfl rfl (Nat.le_of_ble_eq_true rfl) (by decide) (by decide) rfl dX3_cancel_5 rfl (fun w2 => ?_)
  refine hz_iconst (pc' := 9) (v := 0) dX3_cancel_8 rfl (by decide) ?_
  refine hz_istore_n (pc' := 10) (L' := [(2, .int 0), (0, .ref (B.1 + a0)), (1, .int x1)]) dX3_cancel_9 rfl rfl (by decide) rfl ?_
  refine hz_bindJ (pcJ := 43) (LJ := fun q4 : MW => []) (stJ := fun _ => []) (kJ := 0) (slJ := 0) (nJ := 358) (wJ := fun q4 : MW => q4) (fun q4 => ?_) (fun hq4 => ?_)
  · exact hz_retv dX3_cancel_43 rfl (by decide)
  · refine hz_loc [1, 2, 0] rfl (hz_loopJ (lp := lp_X3_cancel_10 a0 x1) (Lh := fun v3 : Int32 × MW => [(0, .ref (B.1 + a0)), (1, .int x1), (2, .int v3.1)]) (wh := fun v3 : Int32 × MW => v3.2) (fun _ => rfl) (fun Nv3 ihv3 v3 => ?_) 3000 (0, w2))
    rw [lp_X3_cancel_10]
    refine hz_iload_n (pc' := 11) (j := 2) dX3_cancel_10 rfl rfl rfl ?_
    refine hz_aload_n (pc' := 12) (j := 0) dX3_cancel_11 rfl rfl rfl ?_
    refine hz_gP (pc' := 15) (c' := 20) fl_X3_49.r ga0 rfl dX3_cancel_12 rfl (fun b5 gb5 => ?_)
    refine hz_aleni (pc' := 16) gb5 dX3_cancel_15 rfl ?_
    refine hz_icmpge (pc' := 19) (tgt := 43) dX3_cancel_16 (by decide) rfl ?_ ?_
    · exact hz_loc [] rfl (hq4 v3.2)
    · refine hz_aload_n (pc' := 20) (j := 0) dX3_cancel_19 rfl rfl rfl ?_
      refine hz_gP (pc' := 23) (c' := 20) fl_X3_49.r ga0 rfl dX3_cancel_20 rfl (fun b6 gb6 => ?_)
      refine hz_iload_n (pc' := 24) (j := 2) dX3_cancel_23 rfl rfl rfl ?_
      refine hz_iald (pc' := 25) gb6 dX3_cancel_24 rfl (fun v7 => ?_)
      refine hz_iload_n (pc' := 26) (j := 1) dX3_cancel_25 rfl rfl rfl ?_
      refine hz_bindJ (pcJ := 37) (LJ := fun q8 : MW => [(0, .ref (B.1 + a0)), (1, .int x1), (2, .int v3.1)]) (stJ := fun q8 : MW => []) (kJ := 0) (slJ := 0) (nJ := 358) (wJ := fun q8 : MW => q8) (fun q8 => ?_) (fun hq8 => ?_)
      · refine hz_iincN (pc' := 40) (j := 2) (fun v9 => [(2, .int v9), (0, .ref (B.1 + a0)), (1, .int x1)]) dX3_cancel_37 rfl rfl (by decide) (fun _ => rfl) (fun v9 => ?_)
        refine hz_goto (tgt := 10) dX3_cancel_40 (by decide) ?_
        exact hz_loc [1, 2, 0] rfl (ihv3 (v9, q8))
      · refine hz_icmpne (pc' := 29) (tgt := 37) dX3_cancel_26 (by decide) rfl ?_ ?_
        · exact hz_loc [0, 1, 2] rfl (hq8 v3.2)
        · refine hz_aload_n (pc' := 30) (j := 0) dX3_cancel_29 rfl rfl rfl ?_
          refine hz_gP (pc' := 33) (c' := 20) fl_X3_49.r ga0 rfl dX3_cancel_30 rfl (fun b10 gb10 => ?_)
          refine hz_iload_n (pc' := 34) (j := 2) dX3_cancel_33 rfl rfl rfl ?_
          refine hz_bipush (pc' := 36) (v := (-2)) dX3_cancel_34 rfl (by decide) ?_
          refine hz_iast (pc' := 37) gb10 dX3_cancel_36 rfl (fun w11 => ?_)
          exact hz_loc [0, 1, 2] rfl (hq8 w11)
def lp_X3_energySum_4 (c0 : Nat) (cw : MW) : Nat → (Int64 × Int32) → Option (Int64)
  | 0, _ => none
  | N + 1, v0 => hz_ldp cw c0 0 358 3 (fun b1 => (if (cw.1 b1 1) ≤ v0.2 then some v0.1 else hz_ldp cw c0 8 358 20 (fun b2 => hz_lda cw b2 v0.2 (fun v3 => hz_let (v0.1 + (Int32.toInt64 v3)) (fun v4 => hz_let (v0.2 + Int32.ofInt 1) (fun v5 => lp_X3_energySum_4 c0 cw N (v4, v5)))))))
def f_X3_energySum (a0 : Nat) (w : MW) : Option (Int64 × MW) :=
  hz_gd (hz_g 358 a0 4) (Option.bind (lp_X3_energySum_4 a0 w 3000 (0, 0)) (fun q2 : Int64 => some (q2, w)))
set_option maxHeartbeats 4000000 in
set_option maxRecDepth 100000 in
theorem ct_X3_energySum {l : Launch} (hl : l.stackTraces = false) {B : Bt} {a0 : Nat} {w : MW} {r : Int64 × MW} (h : f_X3_energySum a0 w = some r) : hz_Met l B false 358 358 yX3_energySum cX3_energySum 4 (Option.some FieldType.long) 2 0 0 [.ref (B.1 + a0)] w (some (.long r.1)) r.2 := by
  refine hz_ofJ (rv := (fun r : Int64 × MW => some (.long r.1))) (wo := (fun r : Int64 × MW => r.2)) (own := RX3) (ini := false) hl (by decide) rfl (Or.inr rfl) (Nat.le_of_ble_eq_true rfl) rfl ?_ h
  intro p e s m args below meth c
  unfold f_X3_energySum
  refine hz_gdr (fun ga0 => ?_)
  refine hz_lconst (pc' := 1) (v := 0) dX3_energySum_0 rfl (by decide) ?_
  refine hz_lstore_n (pc' := 2) (L' := [(1, .long 0), (0, .ref (B.1 + a0))]) dX3_energySum_1 rfl rfl (by decide) rfl ?_
  refine hz_iconst (pc' := 3) (v := 0) dX3_energySum_2 rfl (by decide) ?_
  refine hz_istore_n (pc' := 4) (L' := [(3, .int 0), (1, .long 0), (0, .ref (B.1 + a0))]) dX3_energySum_3 rfl rfl (by decide) rfl ?_
  refine hz_bindJ (pcJ := 31) (LJ := fun q2 : Int64 => [(1, .long q2)]) (stJ := fun _ => []) (kJ := 0) (slJ := 0) (nJ := 358) (wJ := fun q2 : Int64 => w) (fun q2 => ?_) (fun hq2 => ?_)
  · refine hz_lload_n (pc' := 32) (j := 0) dX3_energySum_31 rfl rfl rfl ?_
    exact hz_retl dX3_energySum_32 rfl (by decide)
  · refine hz_loc [2, 1, 0] rfl (hz_loopJ (lp := lp_X3_energySum_4 a0 w) (Lh := fun v1 : Int64 × Int32 => [(0, .ref (B.1 + a0)), (1, .long v1.1), (3, .int v1.2)]) (wh := fun v1 : Int64 × Int32 => w) (fun _ => rfl) (fun Nv1 ihv1 v1 => ?_) 3000 (0, 0))
    rw [lp_X3_energySum_4]
    refine hz_iload_n (pc' := 5) (j := 2) dX3_energySum_4 rfl rfl rfl ?_
    refine hz_aload_n (pc' := 6) (j := 0) dX3_energySum_5 rfl rfl rfl ?_
    refine hz_gP (pc' := 9) (c' := 3) fl_X3_52.r ga0 rfl dX3_energySum_6 rfl (fun b3 gb3 => ?_)
    refine hz_gI (pc' := 12) fl_X3_86.r gb3 rfl dX3_energySum_9 rfl ?_
    refine hz_icmpge (pc' := 15) (tgt := 31) dX3_energySum_12 (by decide) rfl ?_ ?_
    · exact hz_loc [1] rfl (hq2 v1.1)
    · refine hz_lload_n (pc' := 16) (j := 1) dX3_energySum_15 rfl rfl rfl ?_
      refine hz_aload_n (pc' := 17) (j := 0) dX3_energySum_16 rfl rfl rfl ?_
      refine hz_gP (pc' := 20) (c' := 20) fl_X3_31.r ga0 rfl dX3_energySum_17 rfl (fun b4 gb4 => ?_)
      refine hz_iload_n (pc' := 21) (j := 2) dX3_energySum_20 rfl rfl rfl ?_
      refine hz_iald (pc' := 22) gb4 dX3_energySum_21 rfl (fun v5 => ?_)
      refine hz_i2l (pc' := 23) dX3_energySum_22 rfl ?_
      refine hz_ladd (pc' := 24) dX3_energySum_23 rfl ?_
      refine hz_nameL (fun v6 => ?_)
      refine hz_lstore_n (pc' := 25) (L' := [(1, .long v6), (0, .ref (B.1 + a0)), (3, .int v1.2)]) dX3_energySum_24 rfl rfl (by decide) rfl ?_
      refine hz_iincN (pc' := 28) (j := 2) (fun v7 => [(3, .int v7), (1, .long v6), (0, .ref (B.1 + a0))]) dX3_energySum_25 rfl rfl (by decide) (fun _ => rfl) (fun v7 => ?_)
      refine hz_goto (tgt := 4) dX3_energySum_28 (by decide) ?_
      exact hz_loc [2, 1, 0] rfl (ihv1 (v6, v7))
def lp_X3_throttleRank_19 (c0 : Nat) (c1 : Int32) (c2 : Int32) (cw : MW) : Nat → (Int32 × Int32) → Option (Int32)
  | 0, _ => none
  | N + 1, v0 => hz_ldp cw c0 0 358 3 (fun b6 => (if (cw.1 b6 1) ≤ v0.2 then some v0.1 else hz_ldp cw c0 4 358 20 (fun b7 => hz_lda cw b7 v0.2 (fun v8 => hz_ldp cw c0 6 358 20 (fun b9 => hz_lda cw b9 v0.2 (fun v10 => hz_let (v8 - v10) (fun v11 => Option.bind ((if v11 < c2 then hz_let (v0.1 + Int32.ofInt 1) (fun v14 => some v14) else (if v11 = c2 then (if c1 ≤ v0.2 then some v0.1 else hz_let (v0.1 + Int32.ofInt 1) (fun v15 => some v15)) else some v0.1))) (fun q12 : Int32 => hz_let (v0.2 + Int32.ofInt 1) (fun v13 => lp_X3_throttleRank_19 c0 c1 c2 cw N (q12, v13))))))))))
def f_X3_throttleRank (a0 : Nat) (x1 : Int32) (w : MW) : Option (Int32 × MW) :=
  hz_gd (hz_g 358 a0 4) (hz_ldp w a0 4 358 20 (fun b1 => hz_lda w b1 x1 (fun v2 => hz_ldp w a0 6 358 20 (fun b3 => hz_lda w b3 x1 (fun v4 => hz_let (v2 - v4) (fun v5 => Option.bind (lp_X3_throttleRank_19 a0 x1 v5 w 3000 (0, 0)) (fun q7 : Int32 => some (q7, w))))))))
set_option maxHeartbeats 4000000 in
set_option maxRecDepth 100000 in
theorem ct_X3_throttleRank {l : Launch} (hl : l.stackTraces = false) {B : Bt} {a0 : Nat} {x1 : Int32} {w : MW} {r : Int32 × MW} (h : f_X3_throttleRank a0 x1 w = some r) : hz_Met l B false 358 358 yX3_throttleRank cX3_throttleRank 6 (Option.some FieldType.int) 2 0 0 [.ref (B.1 + a0), .int x1] w (some (.int r.1)) r.2 := by
  refine hz_ofJ (rv := (fun r : Int32 × MW => some (.int r.1))) (wo := (fun r : Int32 × MW => r.2)) (own := RX3) (ini := false) hl (by decide) rfl (Or.inr rfl) (Nat.le_of_ble_eq_true rfl) rfl ?_ h
  intro p e s m args below meth c
  unfold f_X3_throttleRank
  refine hz_gdr (fun ga0 => ?_)
  refine hz_aload_n (pc' := 1) (j := 0) dX3_throttleRank_0 rfl rfl rfl ?_
  refine hz_gP (pc' := 4) (c' := 20) fl_X3_18.r ga0 rfl dX3_throttleRank_1 rfl (fun b1 gb1 => ?_)
  refine hz_iload_n (pc' := 5) (j := 1) dX3_throttleRank_4 rfl rfl rfl ?_
  refine hz_iald (pc' := 6) gb1 dX3_throttleRank_5 rfl (fun v2 => ?_)
  refine hz_aload_n (pc' := 7) (j := 0) dX3_throttleRank_6 rfl rfl rfl ?_
  refine hz_gP (pc' := 10) (c' := 20) fl_X3_25.r ga0 rfl dX3_throttleRank_7 rfl (fun b3 gb3 => ?_)
  refine hz_iload_n (pc' := 11) (j := 1) dX3_throttleRank_10 rfl rfl rfl ?_
  refine hz_iald (pc' := 12) gb3 dX3_throttleRank_11 rfl (fun v4 => ?_)
  refine hz_isub (pc' := 13) dX3_throttleRank_12 rfl ?_
  refine hz_nameI (fun v5 => ?_)
  refine hz_istore_n (pc' := 14) (L' := [(2, .int v5), (0, .ref (B.1 + a0)), (1, .int x1)]) dX3_throttleRank_13 rfl rfl (by decide) rfl ?_
  refine hz_iconst (pc' := 15) (v := 0) dX3_throttleRank_14 rfl (by decide) ?_
  refine hz_istore_n (pc' := 16) (L' := [(3, .int 0), (2, .int v5), (0, .ref (B.1 + a0)), (1, .int x1)]) dX3_throttleRank_15 rfl rfl (by decide) rfl ?_
  refine hz_iconst (pc' := 17) (v := 0) dX3_throttleRank_16 rfl (by decide) ?_
  refine hz_istore (pc' := 19) (L' := [(4, .int 0), (3, .int 0), (2, .int v5), (0, .ref (B.1 + a0)), (1, .int x1)]) dX3_throttleRank_17 rfl (by decide) rfl ?_
  refine hz_bindJ (pcJ := 75) (LJ := fun q7 : Int32 => [(3, .int q7)]) (stJ := fun _ => []) (kJ := 0) (slJ := 0) (nJ := 358) (wJ := fun q7 : Int32 => w) (fun q7 => ?_) (fun hq7 => ?_)
  · refine hz_iload_n (pc' := 76) (j := 0) dX3_throttleRank_75 rfl rfl rfl ?_
    exact hz_reti dX3_throttleRank_76 rfl (by decide)
  · refine hz_loc [3, 4, 2, 1, 0] rfl (hz_loopJ (lp := lp_X3_throttleRank_19 a0 x1 v5 w) (Lh := fun v6 : Int32 × Int32 => [(0, .ref (B.1 + a0)), (1, .int x1), (2, .int v5), (3, .int v6.1), (4, .int v6.2)]) (wh := fun v6 : Int32 × Int32 => w) (fun _ => rfl) (fun Nv6 ihv6 v6 => ?_) 3000 (0, 0))
    rw [lp_X3_throttleRank_19]
    refine hz_iload (pc' := 21) (j := 4) dX3_throttleRank_19 rfl rfl ?_
    refine hz_aload_n (pc' := 22) (j := 0) dX3_throttleRank_21 rfl rfl rfl ?_
    refine hz_gP (pc' := 25) (c' := 3) fl_X3_52.r ga0 rfl dX3_throttleRank_22 rfl (fun b8 gb8 => ?_)
    refine hz_gI (pc' := 28) fl_X3_86.r gb8 rfl dX3_throttleRank_25 rfl ?_
    refine hz_icmpge (pc' := 31) (tgt := 75) dX3_throttleRank_28 (by decide) rfl ?_ ?_
    · exact hz_loc [3] rfl (hq7 v6.1)
    · refine hz_aload_n (pc' := 32) (j := 0) dX3_throttleRank_31 rfl rfl rfl ?_
      refine hz_gP (pc' := 35) (c' := 20) fl_X3_18.r ga0 rfl dX3_throttleRank_32 rfl (fun b9 gb9 => ?_)
      refine hz_iload (pc' := 37) (j := 4) dX3_throttleRank_35 rfl rfl ?_
      refine hz_iald (pc' := 38) gb9 dX3_throttleRank_37 rfl (fun v10 => ?_)
      refine hz_aload_n (pc' := 39) (j := 0) dX3_throttleRank_38 rfl rfl rfl ?_
      refine hz_gP (pc' := 42) (c' := 20) fl_X3_25.r ga0 rfl dX3_throttleRank_39 rfl (fun b11 gb11 => ?_)
      refine hz_iload (pc' := 44) (j := 4) dX3_throttleRank_42 rfl rfl ?_
      refine hz_iald (pc' := 45) gb11 dX3_throttleRank_44 rfl (fun v12 => ?_)
      refine hz_isub (pc' := 46) dX3_throttleRank_45 rfl ?_
      refine hz_nameI (fun v13 => ?_)
      refine hz_istore (pc' := 48) (L' := [(5, .int v13), (0, .ref (B.1 + a0)), (1, .int x1), (2, .int v5), (3, .int v6.1), (4, .int v6.2)]) dX3_throttleRank_46 rfl (by decide) rfl ?_
      refine hz_iload (pc' := 50) (j := 0) dX3_throttleRank_48 rfl rfl ?_
      refine hz_iload_n (pc' := 51) (j := 3) dX3_throttleRank_50 rfl rfl rfl ?_
      refine hz_bindJ (pcJ := 69) (LJ := fun q14 : Int32 => [(0, .ref (B.1 + a0)), (1, .int x1), (2, .int v5), (3, .int q14), (4, .int v6.2)]) (stJ := fun q14 : Int32 => []) (kJ := 0) (slJ := 0) (nJ := 358) (wJ := fun q14 : Int32 => w) (fun q14 => ?_) (fun hq14 => ?_)
      · refine hz_iincN (pc' := 72) (j := 4) (fun v15 => [(4, .int v15), (0, .ref (B.1 + a0)), (1, .int x1), (2, .int v5), (3, .int q14)]) dX3_throttleRank_69 rfl rfl (by decide) (fun _ => rfl) (fun v15 => ?_)
        refine hz_goto (tgt := 19) dX3_throttleRank_72 (by decide) ?_
        exact hz_loc [1, 2, 3, 4, 0] rfl (ihv6 (q14, v15))
      · refine hz_icmplt (pc' := 54) (tgt := 66) dX3_throttleRank_51 (by decide) rfl ?_ ?_
        · refine hz_iincN (pc' := 69) (j := 4) (fun v16 => [(3, .int v16), (5, .int v13), (0, .ref (B.1 + a0)), (1, .int x1), (2, .int v5), (4, .int v6.2)]) dX3_throttleRank_66 rfl rfl (by decide) (fun _ => rfl) (fun v16 => ?_)
          exact hz_loc [2, 3, 4, 0, 5] rfl (hq14 v16)
        · refine hz_iload (pc' := 56) (j := 0) dX3_throttleRank_54 rfl rfl ?_
          refine hz_iload_n (pc' := 57) (j := 3) dX3_throttleRank_56 rfl rfl rfl ?_
          refine hz_icmpne (pc' := 60) (tgt := 69) dX3_throttleRank_57 (by decide) rfl ?_ ?_
          · exact hz_loc [1, 2, 3, 4, 5] rfl (hq14 v6.1)
          · refine hz_iload (pc' := 62) (j := 5) dX3_throttleRank_60 rfl rfl ?_
            refine hz_iload_n (pc' := 63) (j := 2) dX3_throttleRank_62 rfl rfl rfl ?_
            refine hz_icmpge (pc' := 66) (tgt := 69) dX3_throttleRank_63 (by decide) rfl ?_ ?_
            · exact hz_loc [1, 2, 3, 4, 5] rfl (hq14 v6.1)
            · refine hz_iincN (pc' := 69) (j := 4) (fun v17 => [(3, .int v17), (5, .int v13), (0, .ref (B.1 + a0)), (1, .int x1), (2, .int v5), (4, .int v6.2)]) dX3_throttleRank_66 rfl rfl (by decide) (fun _ => rfl) (fun v17 => ?_)
              exact hz_loc [2, 3, 4, 0, 5] rfl (hq14 v17)
def f_X3_powerAt (a0 : Nat) (x1 : Int32) (x2 : Int32) (x3 : Int32) (w : MW) : Option (Int32 × MW) :=
  hz_gd (hz_g 358 a0 4) (hz_ldp w a0 0 358 3 (fun b1 => hz_ldp w b1 2 358 20 (fun b2 => hz_lda w b2 x1 (fun v3 => hz_let (v3 - x3) (fun v4 => hz_ldp w a0 0 358 3 (fun b5 => hz_ldp w b5 12 358 20 (fun b6 => hz_lda w b6 ((x1 * 5) + x2) (fun v7 => hz_ldp w a0 0 358 3 (fun b8 => hz_ldp w b8 6 358 20 (fun b9 => hz_lda w b9 x1 (fun v10 => some (((x3 * v7) + (v4 * v10)), w))))))))))))
set_option maxHeartbeats 4000000 in
set_option maxRecDepth 100000 in
theorem ct_X3_powerAt {l : Launch} (hl : l.stackTraces = false) {B : Bt} {a0 : Nat} {x1 : Int32} {x2 : Int32} {x3 : Int32} {w : MW} {r : Int32 × MW} (h : f_X3_powerAt a0 x1 x2 x3 w = some r) : hz_Met l B false 358 358 yX3_powerAt cX3_powerAt 5 (Option.some FieldType.int) 2 0 0 [.ref (B.1 + a0), .int x1, .int x2, .int x3] w (some (.int r.1)) r.2 := by
  refine hz_ofJ (rv := (fun r : Int32 × MW => some (.int r.1))) (wo := (fun r : Int32 × MW => r.2)) (own := RX3) (ini := false) hl (by decide) rfl (Or.inr rfl) (Nat.le_of_ble_eq_true rfl) rfl ?_ h
  intro p e s m args below meth c
  unfold f_X3_powerAt
  refine hz_gdr (fun ga0 => ?_)
  refine hz_aload_n (pc' := 1) (j := 0) dX3_powerAt_0 rfl rfl rfl ?_
  refine hz_gP (pc' := 4) (c' := 3) fl_X3_52.r ga0 rfl dX3_powerAt_1 rfl (fun b1 gb1 => ?_)
  refine hz_gP (pc' := 7) (c' := 20) fl_X3_114 gb1 rfl dX3_powerAt_4 rfl (fun b2 gb2 => ?_)
  refine hz_iload_n (pc' := 8) (j := 1) dX3_powerAt_7 rfl rfl rfl ?_
  refine hz_iald (pc' := 9) gb2 dX3_powerAt_8 rfl (fun v3 => ?_)
  refine hz_iload_n (pc' := 10) (j := 3) dX3_powerAt_9 rfl rfl rfl ?_
  refine hz_isub (pc' := 11) dX3_powerAt_10 rfl ?_
  refine hz_nameI (fun v4 => ?_)
  refine hz_istore (pc' := 13) (L' := [(4, .int v4), (0, .ref (B.1 + a0)), (1, .int x1), (2, .int x2), (3, .int x3)]) dX3_powerAt_11 rfl (by decide) rfl ?_
  refine hz_iload_n (pc' := 14) (j := 4) dX3_powerAt_13 rfl rfl rfl ?_
  refine hz_aload_n (pc' := 15) (j := 1) dX3_powerAt_14 rfl rfl rfl ?_
  refine hz_gP (pc' := 18) (c' := 3) fl_X3_52.r ga0 rfl dX3_powerAt_15 rfl (fun b5 gb5 => ?_)
  refine hz_gP (pc' := 21) (c' := 20) fl_X3_198 gb5 rfl dX3_powerAt_18 rfl (fun b6 gb6 => ?_)
  refine hz_iload_n (pc' := 22) (j := 2) dX3_powerAt_21 rfl rfl rfl ?_
  refine hz_iconst (pc' := 23) (v := 5) dX3_powerAt_22 rfl (by decide) ?_
  refine hz_imul (pc' := 24) dX3_powerAt_23 rfl ?_
  refine hz_iload_n (pc' := 25) (j := 3) dX3_powerAt_24 rfl rfl rfl ?_
  refine hz_iadd (pc' := 26) dX3_powerAt_25 rfl ?_
  refine hz_iald (pc' := 27) gb6 dX3_powerAt_26 rfl (fun v7 => ?_)
  refine hz_imul (pc' := 28) dX3_powerAt_27 rfl ?_
  refine hz_iload (pc' := 30) (j := 0) dX3_powerAt_28 rfl rfl ?_
  refine hz_aload_n (pc' := 31) (j := 1) dX3_powerAt_30 rfl rfl rfl ?_
  refine hz_gP (pc' := 34) (c' := 3) fl_X3_52.r ga0 rfl dX3_powerAt_31 rfl (fun b8 gb8 => ?_)
  refine hz_gP (pc' := 37) (c' := 20) fl_X3_201 gb8 rfl dX3_powerAt_34 rfl (fun b9 gb9 => ?_)
  refine hz_iload_n (pc' := 38) (j := 2) dX3_powerAt_37 rfl rfl rfl ?_
  refine hz_iald (pc' := 39) gb9 dX3_powerAt_38 rfl (fun v10 => ?_)
  refine hz_imul (pc' := 40) dX3_powerAt_39 rfl ?_
  refine hz_iadd (pc' := 41) dX3_powerAt_40 rfl ?_
  exact hz_reti dX3_powerAt_41 rfl (by decide)
def f_X3_temperatureAfter (a0 : Nat) (x1 : Int32) (x2 : Int32) (w : MW) : Option (Int32 × MW) :=
  hz_gd (hz_g 358 a0 4) (hz_ldp w a0 6 358 20 (fun b1 => hz_lda w b1 x1 (fun v2 => hz_let (Int32.toInt64 v2) (fun v3 => hz_ldp w a0 0 358 3 (fun b4 => hz_ldp w b4 4 358 20 (fun b5 => hz_lda w b5 x1 (fun v6 => hz_cldiv ((Int32.toInt64 v6) * (Int32.toInt64 x2)) 100 (fun v7 => hz_ldp w a0 0 358 3 (fun b8 => hz_ldp w b8 5 358 20 (fun b9 => hz_lda w b9 x1 (fun v10 => hz_cldiv ((v3 - (Int32.toInt64 (w.1 a0 3))) * (Int32.toInt64 v10)) 1000 (fun v11 => some ((Int64.toInt32 ((v3 + v7) - v11)), w)))))))))))))
set_option maxHeartbeats 4000000 in
set_option maxRecDepth 100000 in
theorem ct_X3_temperatureAfter {l : Launch} (hl : l.stackTraces = false) {B : Bt} {a0 : Nat} {x1 : Int32} {x2 : Int32} {w : MW} {r : Int32 × MW} (h : f_X3_temperatureAfter a0 x1 x2 w = some r) : hz_Met l B false 358 358 yX3_temperatureAfter cX3_temperatureAfter 9 (Option.some FieldType.int) 2 0 0 [.ref (B.1 + a0), .int x1, .int x2] w (some (.int r.1)) r.2 := by
  refine hz_ofJ (rv := (fun r : Int32 × MW => some (.int r.1))) (wo := (fun r : Int32 × MW => r.2)) (own := RX3) (ini := false) hl (by decide) rfl (Or.inr rfl) (Nat.le_of_ble_eq_true rfl) rfl ?_ h
  intro p e s m args below meth c
  unfold f_X3_temperatureAfter
  refine hz_gdr (fun ga0 => ?_)
  refine hz_aload_n (pc' := 1) (j := 0) dX3_temperatureAfter_0 rfl rfl rfl ?_
  refine hz_gP (pc' := 4) (c' := 20) fl_X3_25.r ga0 rfl dX3_temperatureAfter_1 rfl (fun b1 gb1 => ?_)
  refine hz_iload_n (pc' := 5) (j := 1) dX3_temperatureAfter_4 rfl rfl rfl ?_
  refine hz_iald (pc' := 6) gb1 dX3_temperatureAfter_5 rfl (fun v2 => ?_)
  refine hz_i2l (pc' := 7) dX3_temperatureAfter_6 rfl ?_
  refine hz_nameL (fun v3 => ?_)
  refine hz_lstore_n (pc' := 8) (L' := [(3, .long v3), (0, .ref (B.1 + a0)), (1, .int x1), (2, .int x2)]) dX3_temperatureAfter_7 rfl rfl (by decide) rfl ?_
  refine hz_aload_n (pc' := 9) (j := 1) dX3_temperatureAfter_8 rfl rfl rfl ?_
  refine hz_gP (pc' := 12) (c' := 3) fl_X3_52.r ga0 rfl dX3_temperatureAfter_9 rfl (fun b4 gb4 => ?_)
  refine hz_gP (pc' := 15) (c' := 20) fl_X3_204 gb4 rfl dX3_temperatureAfter_12 rfl (fun b5 gb5 => ?_)
  refine hz_iload_n (pc' := 16) (j := 2) dX3_temperatureAfter_15 rfl rfl rfl ?_
  refine hz_iald (pc' := 17) gb5 dX3_temperatureAfter_16 rfl (fun v6 => ?_)
  refine hz_i2l (pc' := 18) dX3_temperatureAfter_17 rfl ?_
  refine hz_iload_n (pc' := 19) (j := 3) dX3_temperatureAfter_18 rfl rfl rfl ?_
  refine hz_i2l (pc' := 20) dX3_temperatureAfter_19 rfl ?_
  refine hz_lmul (pc' := 21) dX3_temperatureAfter_20 rfl ?_
  refine hz_ldc2 (pc' := 24) (v := 100) dX3_temperatureAfter_21 rfl hq_851 ?_
  refine hz_ldiv (pc' := 25) dX3_temperatureAfter_24 rfl (fun v7 => ?_)
  refine hz_lstore (pc' := 27) (L' := [(5, .long v7), (3, .long v3), (0, .ref (B.1 + a0)), (1, .int x1), (2, .int x2)]) dX3_temperatureAfter_25 rfl (by decide) rfl ?_
  refine hz_lload_n (pc' := 28) (j := 1) dX3_temperatureAfter_27 rfl rfl rfl ?_
  refine hz_aload_n (pc' := 29) (j := 2) dX3_temperatureAfter_28 rfl rfl rfl ?_
  refine hz_gI (pc' := 32) fl_X3_68.r ga0 rfl dX3_temperatureAfter_29 rfl ?_
  refine hz_i2l (pc' := 33) dX3_temperatureAfter_32 rfl ?_
  refine hz_lsub (pc' := 34) dX3_temperatureAfter_33 rfl ?_
  refine hz_aload_n (pc' := 35) (j := 2) dX3_temperatureAfter_34 rfl rfl rfl ?_
  refine hz_gP (pc' := 38) (c' := 3) fl_X3_52.r ga0 rfl dX3_temperatureAfter_35 rfl (fun b8 gb8 => ?_)
  refine hz_gP (pc' := 41) (c' := 20) fl_X3_209 gb8 rfl dX3_temperatureAfter_38 rfl (fun b9 gb9 => ?_)
  refine hz_iload_n (pc' := 42) (j := 3) dX3_temperatureAfter_41 rfl rfl rfl ?_
  refine hz_iald (pc' := 43) gb9 dX3_temperatureAfter_42 rfl (fun v10 => ?_)
  refine hz_i2l (pc' := 44) dX3_temperatureAfter_43 rfl ?_
  refine hz_lmul (pc' := 45) dX3_temperatureAfter_44 rfl ?_
  refine hz_ldc2 (pc' := 48) (v := 1000) dX3_temperatureAfter_45 rfl hq_852 ?_
  refine hz_ldiv (pc' := 49) dX3_temperatureAfter_48 rfl (fun v11 => ?_)
  refine hz_lstore (pc' := 51) (L' := [(7, .long v11), (5, .long v7), (3, .long v3), (0, .ref (B.1 + a0)), (1, .int x1), (2, .int x2)]) dX3_temperatureAfter_49 rfl (by decide) rfl ?_
  refine hz_lload_n (pc' := 52) (j := 2) dX3_temperatureAfter_51 rfl rfl rfl ?_
  refine hz_lload (pc' := 54) (j := 1) dX3_temperatureAfter_52 rfl rfl ?_
  refine hz_ladd (pc' := 55) dX3_temperatureAfter_54 rfl ?_
  refine hz_lload (pc' := 57) (j := 0) dX3_temperatureAfter_55 rfl rfl ?_
  refine hz_lsub (pc' := 58) dX3_temperatureAfter_57 rfl ?_
  refine hz_l2i (pc' := 59) dX3_temperatureAfter_58 rfl ?_
  exact hz_reti dX3_temperatureAfter_59 rfl (by decide)
def f_X3_isTooHot (a0 : Nat) (x1 : Int32) (x2 : Int32) (w : MW) : Option (Int32 × MW) :=
  hz_gd (hz_g 358 a0 4) (hz_ldp w a0 13 358 20 (fun b1 => hz_lda w b1 x1 (fun v2 => hz_b (f_X3_powerAt a0 x1 x2 v2 w) (fun v4 w3 => hz_b (f_X3_temperatureAfter a0 x1 v4 w3) (fun v6 w5 => hz_ldp w5 a0 4 358 20 (fun b7 => hz_lda w5 b7 x1 (fun v8 => Option.bind ((if v6 ≤ v8 then some 0 else some 1)) (fun q9 : Int32 => hz_gd (hz_isb q9) (some (q9, w5))))))))))
set_option maxHeartbeats 4000000 in
set_option maxRecDepth 100000 in
theorem ct_X3_isTooHot {l : Launch} (hl : l.stackTraces = false) {B : Bt} {a0 : Nat} {x1 : Int32} {x2 : Int32} {w : MW} {r : Int32 × MW} (h : f_X3_isTooHot a0 x1 x2 w = some r) : hz_Met l B false 358 358 yX3_isTooHot cX3_isTooHot 4 (Option.some FieldType.boolean) 3 0 0 [.ref (B.1 + a0), .int x1, .int x2] w (some (.int r.1)) r.2 := by
  refine hz_ofJ (rv := (fun r : Int32 × MW => some (.int r.1))) (wo := (fun r : Int32 × MW => r.2)) (own := RX3) (ini := false) hl (by decide) rfl (Or.inr rfl) (Nat.le_of_ble_eq_true rfl) rfl ?_ h
  intro p e s m args below meth c
  unfold f_X3_isTooHot
  refine hz_gdr (fun ga0 => ?_)
  refine hz_aload_n (pc' := 1) (j := 0) dX3_isTooHot_0 rfl rfl rfl ?_
  refine hz_iload_n (pc' := 2) (j := 1) dX3_isTooHot_1 rfl rfl rfl ?_
  refine hz_iload_n (pc' := 3) (j := 2) dX3_isTooHot_2 rfl rfl rfl ?_
  refine hz_aload_n (pc' := 4) (j := 0) dX3_isTooHot_3 rfl rfl rfl ?_
  refine hz_gP (pc' := 7) (c' := 20) fl_X3_46.r ga0 rfl dX3_isTooHot_4 rfl (fun b1 gb1 => ?_)
  refine hz_iload_n (pc' := 8) (j := 1) dX3_isTooHot_7 rfl rfl rfl ?_
  refine hz_iald (pc' := 9) gb1 dX3_isTooHot_8 rfl (fun v2 => ?_)
  refine hz_cVi (pc' := 12) (av := [.int x1, .int x2, .int v2]) (rest := []) vl_X3_149 (fun x w' h => ct_X3_powerAt hl h) ga0 rfl rfl (Nat.le_of_ble_eq_true rfl) (by decide) (by decide) rfl dX3_isTooHot_9 rfl (fun v4 w3 => ?_)
  refine hz_istore_n (pc' := 13) (L' := [(3, .int v4), (0, .ref (B.1 + a0)), (1, .int x1), (2, .int x2)]) dX3_isTooHot_12 rfl rfl (by decide) rfl ?_
  refine hz_aload_n (pc' := 14) (j := 1) dX3_isTooHot_13 rfl rfl rfl ?_
  refine hz_iload_n (pc' := 15) (j := 2) dX3_isTooHot_14 rfl rfl rfl ?_
  refine hz_iload_n (pc' := 16) (j := 0) dX3_isTooHot_15 rfl rfl rfl ?_
  refine hz_cVi (pc' := 19) (av := [.int x1, .int v4]) (rest := []) vl_X3_159 (fun x w' h => ct_X3_temperatureAfter hl h) ga0 rfl rfl (Nat.le_of_ble_eq_true rfl) (by decide) (by decide) rfl dX3_isTooHot_16 rfl (fun v6 w5 => ?_)
  refine hz_aload_n (pc' := 20) (j := 1) dX3_isTooHot_19 rfl rfl rfl ?_
  refine hz_gP (pc' := 23) (c' := 20) fl_X3_18.r ga0 rfl dX3_isTooHot_20 rfl (fun b7 gb7 => ?_)
  refine hz_iload_n (pc' := 24) (j := 2) dX3_isTooHot_23 rfl rfl rfl ?_
  refine hz_iald (pc' := 25) gb7 dX3_isTooHot_24 rfl (fun v8 => ?_)
  refine hz_bindJ (pcJ := 33) (LJ := fun q9 : Int32 => []) (stJ := fun q9 : Int32 => [.int q9]) (kJ := 0) (slJ := 0) (nJ := 358) (wJ := fun q9 : Int32 => w5) (fun q9 => ?_) (fun hq9 => ?_)
  · exact hz_retz dX3_isTooHot_33 rfl (by decide)
  · refine hz_icmple (pc' := 28) (tgt := 32) dX3_isTooHot_25 (by decide) rfl ?_ ?_
    · refine hz_iconst (pc' := 33) (v := 0) dX3_isTooHot_32 rfl (by decide) ?_
      exact hz_loc [] rfl (hq9 0)
    · refine hz_iconst (pc' := 29) (v := 1) dX3_isTooHot_28 rfl (by decide) ?_
      refine hz_goto (tgt := 33) dX3_isTooHot_29 (by decide) ?_
      exact hz_loc [] rfl (hq9 1)
def lp_X3_coolLevel_2 (c0 : Nat) (c1 : Int32) : Nat → (Int32 × MW) → Option (Int32 × MW)
  | 0, _ => none
  | N + 1, v0 => (if v0.1 ≤ 0 then some (v0.1, v0.2) else hz_b (f_X3_isTooHot c0 c1 v0.1 v0.2) (fun v2 w1 => (if v2 = 0 then some (v0.1, w1) else hz_let (v0.1 + Int32.ofInt (-1)) (fun v3 => lp_X3_coolLevel_2 c0 c1 N (v3, w1)))))
def f_X3_coolLevel (a0 : Nat) (x1 : Int32) (x2 : Int32) (w : MW) : Option (Int32 × MW) :=
  hz_gd (hz_g 358 a0 4) (Option.bind (lp_X3_coolLevel_2 a0 x1 3000 (x2, w)) (fun q2 : Int32 × MW => some (q2.1, q2.2)))
set_option maxHeartbeats 4000000 in
set_option maxRecDepth 100000 in
theorem ct_X3_coolLevel {l : Launch} (hl : l.stackTraces = false) {B : Bt} {a0 : Nat} {x1 : Int32} {x2 : Int32} {w : MW} {r : Int32 × MW} (h : f_X3_coolLevel a0 x1 x2 w = some r) : hz_Met l B false 358 358 yX3_coolLevel cX3_coolLevel 4 (Option.some FieldType.int) 4 0 0 [.ref (B.1 + a0), .int x1, .int x2] w (some (.int r.1)) r.2 := by
  refine hz_ofJ (rv := (fun r : Int32 × MW => some (.int r.1))) (wo := (fun r : Int32 × MW => r.2)) (own := RX3) (ini := false) hl (by decide) rfl (Or.inr rfl) (Nat.le_of_ble_eq_true rfl) rfl ?_ h
  intro p e s m args below meth c
  unfold f_X3_coolLevel
  refine hz_gdr (fun ga0 => ?_)
  refine hz_iload_n (pc' := 1) (j := 2) dX3_coolLevel_0 rfl rfl rfl ?_
  refine hz_istore_n (pc' := 2) (L' := [(3, .int x2), (0, .ref (B.1 + a0)), (1, .int x1), (2, .int x2)]) dX3_coolLevel_1 rfl rfl (by decide) rfl ?_
  refine hz_bindJ (pcJ := 21) (LJ := fun q2 : Int32 × MW => [(3, .int q2.1)]) (stJ := fun _ => []) (kJ := 0) (slJ := 0) (nJ := 358) (wJ := fun q2 : Int32 × MW => q2.2) (fun q2 => ?_) (fun hq2 => ?_)
  · refine hz_iload_n (pc' := 22) (j := 0) dX3_coolLevel_21 rfl rfl rfl ?_
    exact hz_reti dX3_coolLevel_22 rfl (by decide)
  · refine hz_loc [1, 2, 0] rfl (hz_loopJ (lp := lp_X3_coolLevel_2 a0 x1) (Lh := fun v1 : Int32 × MW => [(0, .ref (B.1 + a0)), (1, .int x1), (3, .int v1.1)]) (wh := fun v1 : Int32 × MW => v1.2) (fun _ => rfl) (fun Nv1 ihv1 v1 => ?_) 3000 (x2, w))
    rw [lp_X3_coolLevel_2]
    refine hz_iload_n (pc' := 3) (j := 2) dX3_coolLevel_2 rfl rfl rfl ?_
    refine hz_ifle (pc' := 6) (tgt := 21) dX3_coolLevel_3 (by decide) rfl ?_ ?_
    · exact hz_loc [2] rfl (hq2 (v1.1, v1.2))
    · refine hz_aload_n (pc' := 7) (j := 0) dX3_coolLevel_6 rfl rfl rfl ?_
      refine hz_iload_n (pc' := 8) (j := 1) dX3_coolLevel_7 rfl rfl rfl ?_
      refine hz_iload_n (pc' := 9) (j := 2) dX3_coolLevel_8 rfl rfl rfl ?_
      refine hz_cVi (pc' := 12) (av := [.int x1, .int v1.1]) (rest := []) vl_X3_145 (fun x w' h => ct_X3_isTooHot hl h) ga0 rfl rfl (Nat.le_of_ble_eq_true rfl) (by decide) (by decide) rfl dX3_coolLevel_9 rfl (fun v4 w3 => ?_)
      refine hz_ifeq (pc' := 15) (tgt := 21) dX3_coolLevel_12 (by decide) rfl ?_ ?_
      · exact hz_loc [2] rfl (hq2 (v1.1, w3))
      · refine hz_iincN (pc' := 18) (j := 2) (fun v5 => [(3, .int v5), (0, .ref (B.1 + a0)), (1, .int x1)]) dX3_coolLevel_15 rfl rfl (by decide) (fun _ => rfl) (fun v5 => ?_)
        refine hz_goto (tgt := 2) dX3_coolLevel_18 (by decide) ?_
        exact hz_loc [1, 2, 0] rfl (ihv1 (v5, w3))
def f_X3_countCredit (a0 : Nat) (x1 : Int32) (x2 : Int32) (w : MW) : Option (MW) :=
  hz_gd (hz_g 358 a0 4) (Option.bind ((if x2 = 0 then hz_ldp w a0 9 358 20 (fun b2 => hz_lda w b2 x1 (fun v3 => hz_ldp w a0 0 358 3 (fun b4 => hz_ldp w b4 8 358 20 (fun b5 => hz_lda w b5 x1 (fun v6 => (if v6 ≤ v3 then some w else hz_ldp w a0 9 358 20 (fun b7 => hz_lda w b7 x1 (fun v8 => hz_sta w b7 x1 (v8 + 1) (fun w9 => some w9))))))))) else hz_ldp w a0 9 358 20 (fun b10 => hz_lda w b10 x1 (fun v11 => hz_sta w b10 x1 (v11 - 1) (fun w12 => some w12))))) (fun q1 : MW => some q1))
set_option maxHeartbeats 4000000 in
set_option maxRecDepth 100000 in
theorem ct_X3_countCredit {l : Launch} (hl : l.stackTraces = false) {B : Bt} {a0 : Nat} {x1 : Int32} {x2 : Int32} {w : MW} {r : MW} (h : f_X3_countCredit a0 x1 x2 w = some r) : hz_Met l B false 358 358 yX3_countCredit cX3_countCredit 3 (Option.none : Option FieldType) 2 0 0 [.ref (B.1 + a0), .int x1, .int x2] w none r := by
  refine hz_ofJ (rv := (fun _ : MW => none)) (wo := (fun r : MW => r)) (own := RX3) (ini := false) hl (by decide) rfl (Or.inr rfl) (Nat.le_of_ble_eq_true rfl) rfl ?_ h
  intro p e s m args below meth c
  unfold f_X3_countCredit
  refine hz_gdr (fun ga0 => ?_)
  refine hz_iload_n (pc' := 1) (j := 2) dX3_countCredit_0 rfl rfl rfl ?_
  refine hz_bindJ (pcJ := 45) (LJ := fun q1 : MW => []) (stJ := fun q1 : MW => []) (kJ := 0) (slJ := 0) (nJ := 358) (wJ := fun q1 : MW => q1) (fun q1 => ?_) (fun hq1 => ?_)
  · exact hz_retv dX3_countCredit_45 rfl (by decide)
  · refine hz_ifeq (pc' := 4) (tgt := 17) dX3_countCredit_1 (by decide) rfl ?_ ?_
    · refine hz_aload_n (pc' := 18) (j := 0) dX3_countCredit_17 rfl rfl rfl ?_
      refine hz_gP (pc' := 21) (c' := 20) fl_X3_34.r ga0 rfl dX3_countCredit_18 rfl (fun b2 gb2 => ?_)
      refine hz_iload_n (pc' := 22) (j := 1) dX3_countCredit_21 rfl rfl rfl ?_
      refine hz_iald (pc' := 23) gb2 dX3_countCredit_22 rfl (fun v3 => ?_)
      refine hz_aload_n (pc' := 24) (j := 0) dX3_countCredit_23 rfl rfl rfl ?_
      refine hz_gP (pc' := 27) (c' := 3) fl_X3_52.r ga0 rfl dX3_countCredit_24 rfl (fun b4 gb4 => ?_)
      refine hz_gP (pc' := 30) (c' := 20) fl_X3_75 gb4 rfl dX3_countCredit_27 rfl (fun b5 gb5 => ?_)
      refine hz_iload_n (pc' := 31) (j := 1) dX3_countCredit_30 rfl rfl rfl ?_
      refine hz_iald (pc' := 32) gb5 dX3_countCredit_31 rfl (fun v6 => ?_)
      refine hz_icmpge (pc' := 35) (tgt := 45) dX3_countCredit_32 (by decide) rfl ?_ ?_
      · exact hz_loc [] rfl (hq1 w)
      · refine hz_aload_n (pc' := 36) (j := 0) dX3_countCredit_35 rfl rfl rfl ?_
        refine hz_gP (pc' := 39) (c' := 20) fl_X3_34.r ga0 rfl dX3_countCredit_36 rfl (fun b7 gb7 => ?_)
        refine hz_iload_n (pc' := 40) (j := 1) dX3_countCredit_39 rfl rfl rfl ?_
        refine hz_dup2 (pc' := 41) dX3_countCredit_40 rfl rfl rfl ?_
        refine hz_iald (pc' := 42) gb7 dX3_countCredit_41 rfl (fun v8 => ?_)
        refine hz_iconst (pc' := 43) (v := 1) dX3_countCredit_42 rfl (by decide) ?_
        refine hz_iadd (pc' := 44) dX3_countCredit_43 rfl ?_
        refine hz_iast (pc' := 45) gb7 dX3_countCredit_44 rfl (fun w9 => ?_)
        exact hz_loc [] rfl (hq1 w9)
    · refine hz_aload_n (pc' := 5) (j := 0) dX3_countCredit_4 rfl rfl rfl ?_
      refine hz_gP (pc' := 8) (c' := 20) fl_X3_34.r ga0 rfl dX3_countCredit_5 rfl (fun b10 gb10 => ?_)
      refine hz_iload_n (pc' := 9) (j := 1) dX3_countCredit_8 rfl rfl rfl ?_
      refine hz_dup2 (pc' := 10) dX3_countCredit_9 rfl rfl rfl ?_
      refine hz_iald (pc' := 11) gb10 dX3_countCredit_10 rfl (fun v11 => ?_)
      refine hz_iconst (pc' := 12) (v := 1) dX3_countCredit_11 rfl (by decide) ?_
      refine hz_isub (pc' := 13) dX3_countCredit_12 rfl ?_
      refine hz_iast (pc' := 14) gb10 dX3_countCredit_13 rfl (fun w12 => ?_)
      refine hz_goto (tgt := 45) dX3_countCredit_14 (by decide) ?_
      exact hz_loc [] rfl (hq1 w12)
def f_X3_creditedLevel (a0 : Nat) (x1 : Int32) (x2 : Int32) (w : MW) : Option (Int32 × MW) :=
  hz_gd (hz_g 358 a0 4) (hz_ldp w a0 13 358 20 (fun b1 => hz_lda w b1 x1 (fun v2 => Option.bind ((if v2 ≤ 0 then some 0 else hz_ldp w a0 9 358 20 (fun b8 => hz_lda w b8 x1 (fun v9 => (if v9 = 0 then some 1 else some 0))))) (fun q3 : Int32 => Option.bind ((if q3 = 0 then some x2 else hz_ldp w a0 0 358 3 (fun b5 => hz_ldp w b5 7 358 20 (fun b6 => hz_lda w b6 x1 (fun v7 => some (if v7 < x2 then v7 else x2)))))) (fun q4 : Int32 => some (q4, w))))))
set_option maxHeartbeats 4000000 in
set_option maxRecDepth 100000 in
theorem ct_X3_creditedLevel {l : Launch} (hl : l.stackTraces = false) {B : Bt} {a0 : Nat} {x1 : Int32} {x2 : Int32} {w : MW} {r : Int32 × MW} (h : f_X3_creditedLevel a0 x1 x2 w = some r) : hz_Met l B false 358 358 yX3_creditedLevel cX3_creditedLevel 4 (Option.some FieldType.int) 2 0 0 [.ref (B.1 + a0), .int x1, .int x2] w (some (.int r.1)) r.2 := by
  refine hz_ofJ (rv := (fun r : Int32 × MW => some (.int r.1))) (wo := (fun r : Int32 × MW => r.2)) (own := RX3) (ini := false) hl (by decide) rfl (Or.inr rfl) (Nat.le_of_ble_eq_true rfl) rfl ?_ h
  intro p e s m args below meth c
  unfold f_X3_creditedLevel
  refine hz_gdr (fun ga0 => ?_)
  refine hz_aload_n (pc' := 1) (j := 0) dX3_creditedLevel_0 rfl rfl rfl ?_
  refine hz_gP (pc' := 4) (c' := 20) fl_X3_46.r ga0 rfl dX3_creditedLevel_1 rfl (fun b1 gb1 => ?_)
  refine hz_iload_n (pc' := 5) (j := 1) dX3_creditedLevel_4 rfl rfl rfl ?_
  refine hz_iald (pc' := 6) gb1 dX3_creditedLevel_5 rfl (fun v2 => ?_)
  refine hz_bindJ (pcJ := 23) (LJ := fun q3 : Int32 => [(0, .ref (B.1 + a0)), (1, .int x1), (2, .int x2)]) (stJ := fun q3 : Int32 => [.int q3]) (kJ := 0) (slJ := 0) (nJ := 358) (wJ := fun q3 : Int32 => w) (fun q3 => ?_) (fun hq3 => ?_)
  · refine hz_istore_n (pc' := 24) (L' := [(3, .int q3), (0, .ref (B.1 + a0)), (1, .int x1), (2, .int x2)]) dX3_creditedLevel_23 rfl rfl (by decide) rfl ?_
    refine hz_iload_n (pc' := 25) (j := 0) dX3_creditedLevel_24 rfl rfl rfl ?_
    refine hz_bindJ (pcJ := 45) (LJ := fun q4 : Int32 => []) (stJ := fun q4 : Int32 => [.int q4]) (kJ := 0) (slJ := 0) (nJ := 358) (wJ := fun q4 : Int32 => w) (fun q4 => ?_) (fun hq4 => ?_)
    · exact hz_reti dX3_creditedLevel_45 rfl (by decide)
    · refine hz_ifeq (pc' := 28) (tgt := 44) dX3_creditedLevel_25 (by decide) rfl ?_ ?_
      · refine hz_iload_n (pc' := 45) (j := 3) dX3_creditedLevel_44 rfl rfl rfl ?_
        exact hz_loc [] rfl (hq4 x2)
      · refine hz_iload_n (pc' := 29) (j := 3) dX3_creditedLevel_28 rfl rfl rfl ?_
        refine hz_aload_n (pc' := 30) (j := 1) dX3_creditedLevel_29 rfl rfl rfl ?_
        refine hz_gP (pc' := 33) (c' := 3) fl_X3_52.r ga0 rfl dX3_creditedLevel_30 rfl (fun b5 gb5 => ?_)
        refine hz_gP (pc' := 36) (c' := 20) fl_X3_153 gb5 rfl dX3_creditedLevel_33 rfl (fun b6 gb6 => ?_)
        refine hz_iload_n (pc' := 37) (j := 2) dX3_creditedLevel_36 rfl rfl rfl ?_
        refine hz_iald (pc' := 38) gb6 dX3_creditedLevel_37 rfl (fun v7 => ?_)
        refine hz_mmin (pc' := 41) hq_834 hq_422 hq_17 hq_423 ⟨Nat.le_of_ble_eq_true rfl, Nat.le_of_ble_eq_true rfl⟩ (by decide) dX3_creditedLevel_38 rfl ?_
        refine hz_goto (tgt := 45) dX3_creditedLevel_41 (by decide) ?_
        exact hz_loc [] rfl (hq4 (if v7 < x2 then v7 else x2))
  · refine hz_ifle (pc' := 9) (tgt := 22) dX3_creditedLevel_6 (by decide) rfl ?_ ?_
    · refine hz_iconst (pc' := 23) (v := 0) dX3_creditedLevel_22 rfl (by decide) ?_
      exact hz_loc [0, 1, 2] rfl (hq3 0)
    · refine hz_aload_n (pc' := 10) (j := 0) dX3_creditedLevel_9 rfl rfl rfl ?_
      refine hz_gP (pc' := 13) (c' := 20) fl_X3_34.r ga0 rfl dX3_creditedLevel_10 rfl (fun b8 gb8 => ?_)
      refine hz_iload_n (pc' := 14) (j := 1) dX3_creditedLevel_13 rfl rfl rfl ?_
      refine hz_iald (pc' := 15) gb8 dX3_creditedLevel_14 rfl (fun v9 => ?_)
      refine hz_ifne (pc' := 18) (tgt := 22) dX3_creditedLevel_15 (by decide) rfl ?_ ?_
      · refine hz_iconst (pc' := 23) (v := 0) dX3_creditedLevel_22 rfl (by decide) ?_
        exact hz_loc [0, 1, 2] rfl (hq3 0)
      · refine hz_iconst (pc' := 19) (v := 1) dX3_creditedLevel_18 rfl (by decide) ?_
        refine hz_goto (tgt := 23) dX3_creditedLevel_19 (by decide) ?_
        exact hz_loc [0, 1, 2] rfl (hq3 1)
def lp_X3_greatestRequirement_4 (c0 : Nat) (c1 : Int32) : Nat → (Int32 × Int32 × MW) → Option (Int32 × MW)
  | 0, _ => none
  | N + 1, v0 => hz_ldp v0.2.2 c0 0 358 3 (fun b1 => hz_ldp v0.2.2 b1 2 358 20 (fun b2 => hz_lda v0.2.2 b2 c1 (fun v3 => (if v3 ≤ v0.2.1 then some (v0.1, v0.2.2) else hz_ldp v0.2.2 c0 14 358 20 (fun b4 => hz_lda v0.2.2 b4 ((c1 * 4) + v0.2.1) (fun v5 => hz_ldp v0.2.2 c0 1 358 2 (fun b6 => hz_b (f_X1_has b6 v5 v0.2.2) (fun v8 w7 => Option.bind ((if v8 = 0 then some (v0.1, w7) else hz_ldp w7 c0 1 358 2 (fun b11 => hz_ldp w7 b11 11 358 20 (fun b12 => hz_lda w7 b12 v5 (fun v13 => hz_ldp w7 c0 1 358 2 (fun b14 => hz_ldp w7 b14 10 358 20 (fun b15 => hz_lda w7 b15 v5 (fun v16 => hz_b (f_X9_dividedUp v13 (v16 - (w7.1 c0 2)) w7) (fun v18 w17 => hz_let (if v0.1 < v18 then v18 else v0.1) (fun v19 => some (v19, w17))))))))))) (fun q9 : Int32 × MW => hz_let (v0.2.1 + Int32.ofInt 1) (fun v10 => lp_X3_greatestRequirement_4 c0 c1 N (q9.1, v10, q9.2)))))))))))
def f_X3_greatestRequirement (a0 : Nat) (x1 : Int32) (w : MW) : Option (Int32 × MW) :=
  hz_gd (hz_g 358 a0 4) (Option.bind (lp_X3_greatestRequirement_4 a0 x1 3000 (0, 0, w)) (fun q2 : Int32 × MW => some (q2.1, q2.2)))
set_option maxHeartbeats 4000000 in
set_option maxRecDepth 100000 in
theorem ct_X3_greatestRequirement {l : Launch} (hl : l.stackTraces = false) {B : Bt} {a0 : Nat} {x1 : Int32} {w : MW} {r : Int32 × MW} (h : f_X3_greatestRequirement a0 x1 w = some r) : hz_Met l B false 358 358 yX3_greatestRequirement cX3_greatestRequirement 6 (Option.some FieldType.int) 3 0 0 [.ref (B.1 + a0), .int x1] w (some (.int r.1)) r.2 := by
  refine hz_ofJ (rv := (fun r : Int32 × MW => some (.int r.1))) (wo := (fun r : Int32 × MW => r.2)) (own := RX3) (ini := false) hl (by decide) rfl (Or.inr rfl) (Nat.le_of_ble_eq_true rfl) rfl ?_ h
  intro p e s m args below meth c
  unfold f_X3_greatestRequirement
  refine hz_gdr (fun ga0 => ?_)
  refine hz_iconst (pc' := 1) (v := 0) dX3_greatestRequirement_0 rfl (by decide) ?_
  refine hz_istore_n (pc' := 2) (L' := [(2, .int 0), (0, .ref (B.1 + a0)), (1, .int x1)]) dX3_greatestRequirement_1 rfl rfl (by decide) rfl ?_
  refine hz_iconst (pc' := 3) (v := 0) dX3_greatestRequirement_2 rfl (by decide) ?_
  refine hz_istore_n (pc' := 4) (L' := [(3, .int 0), (2, .int 0), (0, .ref (B.1 + a0)), (1, .int x1)]) dX3_greatestRequirement_3 rfl rfl (by decide) rfl ?_
  refine hz_bindJ (pcJ := 84) (LJ := fun q2 : Int32 × MW => [(2, .int q2.1)]) (stJ := fun _ => []) (kJ := 0) (slJ := 0) (nJ := 358) (wJ := fun q2 : Int32 × MW => q2.2) (fun q2 => ?_) (fun hq2 => ?_)
  · refine hz_iload_n (pc' := 85) (j := 0) dX3_greatestRequirement_84 rfl rfl rfl ?_
    exact hz_reti dX3_greatestRequirement_85 rfl (by decide)
  · refine hz_loc [2, 3, 1, 0] rfl (hz_loopJ (lp := lp_X3_greatestRequirement_4 a0 x1) (Lh := fun v1 : Int32 × Int32 × MW => [(0, .ref (B.1 + a0)), (1, .int x1), (2, .int v1.1), (3, .int v1.2.1)]) (wh := fun v1 : Int32 × Int32 × MW => v1.2.2) (fun _ => rfl) (fun Nv1 ihv1 v1 => ?_) 3000 (0, 0, w))
    rw [lp_X3_greatestRequirement_4]
    refine hz_iload_n (pc' := 5) (j := 3) dX3_greatestRequirement_4 rfl rfl rfl ?_
    refine hz_aload_n (pc' := 6) (j := 0) dX3_greatestRequirement_5 rfl rfl rfl ?_
    refine hz_gP (pc' := 9) (c' := 3) fl_X3_52.r ga0 rfl dX3_greatestRequirement_6 rfl (fun b3 gb3 => ?_)
    refine hz_gP (pc' := 12) (c' := 20) fl_X3_114 gb3 rfl dX3_greatestRequirement_9 rfl (fun b4 gb4 => ?_)
    refine hz_iload_n (pc' := 13) (j := 1) dX3_greatestRequirement_12 rfl rfl rfl ?_
    refine hz_iald (pc' := 14) gb4 dX3_greatestRequirement_13 rfl (fun v5 => ?_)
    refine hz_icmpge (pc' := 17) (tgt := 84) dX3_greatestRequirement_14 (by decide) rfl ?_ ?_
    · exact hz_loc [2] rfl (hq2 (v1.1, v1.2.2))
    · refine hz_aload_n (pc' := 18) (j := 0) dX3_greatestRequirement_17 rfl rfl rfl ?_
      refine hz_gP (pc' := 21) (c' := 20) fl_X3_49.r ga0 rfl dX3_greatestRequirement_18 rfl (fun b6 gb6 => ?_)
      refine hz_iload_n (pc' := 22) (j := 1) dX3_greatestRequirement_21 rfl rfl rfl ?_
      refine hz_iconst (pc' := 23) (v := 4) dX3_greatestRequirement_22 rfl (by decide) ?_
      refine hz_imul (pc' := 24) dX3_greatestRequirement_23 rfl ?_
      refine hz_iload_n (pc' := 25) (j := 3) dX3_greatestRequirement_24 rfl rfl rfl ?_
      refine hz_iadd (pc' := 26) dX3_greatestRequirement_25 rfl ?_
      refine hz_iald (pc' := 27) gb6 dX3_greatestRequirement_26 rfl (fun v7 => ?_)
      refine hz_istore (pc' := 29) (L' := [(4, .int v7), (0, .ref (B.1 + a0)), (1, .int x1), (2, .int v1.1), (3, .int v1.2.1)]) dX3_greatestRequirement_27 rfl (by decide) rfl ?_
      refine hz_aload_n (pc' := 30) (j := 1) dX3_greatestRequirement_29 rfl rfl rfl ?_
      refine hz_gP (pc' := 33) (c' := 2) fl_X3_12.r ga0 rfl dX3_greatestRequirement_30 rfl (fun b8 gb8 => ?_)
      refine hz_iload (pc' := 35) (j := 0) dX3_greatestRequirement_33 rfl rfl ?_
      refine hz_cVi (pc' := 38) (av := [.int v7]) (rest := []) vl_X3_177 (fun x w' h => ct_X1_has hl h) gb8 rfl rfl (Nat.le_of_ble_eq_true rfl) (by decide) (by decide) rfl dX3_greatestRequirement_35 rfl (fun v10 w9 => ?_)
      refine hz_bindJ (pcJ := 78) (LJ := fun q11 : Int32 × MW => [(0, .ref (B.1 + a0)), (1, .int x1), (2, .int q11.1), (3, .int v1.2.1)]) (stJ := fun q11 : Int32 × MW => []) (kJ := 0) (slJ := 0) (nJ := 358) (wJ := fun q11 : Int32 × MW => q11.2) (fun q11 => ?_) (fun hq11 => ?_)
      · refine hz_iincN (pc' := 81) (j := 3) (fun v12 => [(3, .int v12), (0, .ref (B.1 + a0)), (1, .int x1), (2, .int q11.1)]) dX3_greatestRequirement_78 rfl rfl (by decide) (fun _ => rfl) (fun v12 => ?_)
        refine hz_goto (tgt := 4) dX3_greatestRequirement_81 (by decide) ?_
        exact hz_loc [1, 2, 3, 0] rfl (ihv1 (q11.1, v12, q11.2))
      · refine hz_ifeq (pc' := 41) (tgt := 78) dX3_greatestRequirement_38 (by decide) rfl ?_ ?_
        · exact hz_loc [1, 2, 3, 4] rfl (hq11 (v1.1, w9))
        · refine hz_aload_n (pc' := 42) (j := 1) dX3_greatestRequirement_41 rfl rfl rfl ?_
          refine hz_gP (pc' := 45) (c' := 2) fl_X3_12.r ga0 rfl dX3_greatestRequirement_42 rfl (fun b13 gb13 => ?_)
          refine hz_gP (pc' := 48) (c' := 20) fl_X3_181 gb13 rfl dX3_greatestRequirement_45 rfl (fun b14 gb14 => ?_)
          refine hz_iload (pc' := 50) (j := 0) dX3_greatestRequirement_48 rfl rfl ?_
          refine hz_iald (pc' := 51) gb14 dX3_greatestRequirement_50 rfl (fun v15 => ?_)
          refine hz_aload_n (pc' := 52) (j := 1) dX3_greatestRequirement_51 rfl rfl rfl ?_
          refine hz_gP (pc' := 55) (c' := 2) fl_X3_12.r ga0 rfl dX3_greatestRequirement_52 rfl (fun b16 gb16 => ?_)
          refine hz_gP (pc' := 58) (c' := 20) fl_X3_184 gb16 rfl dX3_greatestRequirement_55 rfl (fun b17 gb17 => ?_)
          refine hz_iload (pc' := 60) (j := 0) dX3_greatestRequirement_58 rfl rfl ?_
          refine hz_iald (pc' := 61) gb17 dX3_greatestRequirement_60 rfl (fun v18 => ?_)
          refine hz_aload_n (pc' := 62) (j := 1) dX3_greatestRequirement_61 rfl rfl rfl ?_
          refine hz_gI (pc' := 65) fl_X3_59.r ga0 rfl dX3_greatestRequirement_62 rfl ?_
          refine hz_isub (pc' := 66) dX3_greatestRequirement_65 rfl ?_
          refine hz_cSNi (pc' := 69) (av := [.int v15, .int (v18 - (w9.1 a0 2))]) (rest := []) snl_X3_187 (fun x w' h => ct_X9_dividedUp hl h) rfl rfl (Nat.le_of_ble_eq_true rfl) (by decide) (by decide) rfl dX3_greatestRequirement_66 rfl (fun v20 w19 => ?_)
          refine hz_istore (pc' := 71) (L' := [(5, .int v20), (4, .int v7), (0, .ref (B.1 + a0)), (1, .int x1), (2, .int v1.1), (3, .int v1.2.1)]) dX3_greatestRequirement_69 rfl (by decide) rfl ?_
          refine hz_iload_n (pc' := 72) (j := 4) dX3_greatestRequirement_71 rfl rfl rfl ?_
          refine hz_iload (pc' := 74) (j := 0) dX3_greatestRequirement_72 rfl rfl ?_
          refine hz_mmax (pc' := 77) hq_823 hq_824 hq_17 hq_825 ⟨Nat.le_of_ble_eq_true rfl, Nat.le_of_ble_eq_true rfl⟩ (by decide) dX3_greatestRequirement_74 rfl ?_
          refine hz_nameI (fun v21 => ?_)
          refine hz_istore_n (pc' := 78) (L' := [(2, .int v21), (5, .int v20), (4, .int v7), (0, .ref (B.1 + a0)), (1, .int x1), (3, .int v1.2.1)]) dX3_greatestRequirement_77 rfl rfl (by decide) rfl ?_
          exact hz_loc [3, 4, 0, 5] rfl (hq11 (v21, w19))
def lp_X3_levelFor_2 (c0 : Nat) (c1 : Int32) (c2 : Int32) (cw : MW) : Nat → Int32 → Option (Int32)
  | 0, _ => none
  | N + 1, v0 => hz_ldp cw c0 0 358 3 (fun b1 => hz_ldp cw b1 10 358 20 (fun b2 => hz_lda cw b2 c1 (fun v3 => (if (v3 - 1) ≤ v0 then some v0 else hz_ldp cw c0 0 358 3 (fun b4 => hz_ldp cw b4 11 358 20 (fun b5 => hz_lda cw b5 ((c1 * 5) + v0) (fun v6 => (if c2 ≤ v6 then some v0 else hz_let (v0 + Int32.ofInt 1) (fun v7 => lp_X3_levelFor_2 c0 c1 c2 cw N v7)))))))))
def f_X3_levelFor (a0 : Nat) (x1 : Int32) (x2 : Int32) (w : MW) : Option (Int32 × MW) :=
  hz_gd (hz_g 358 a0 4) (Option.bind (lp_X3_levelFor_2 a0 x1 x2 w 3000 0) (fun q2 : Int32 => some (q2, w)))
set_option maxHeartbeats 4000000 in
set_option maxRecDepth 100000 in
theorem ct_X3_levelFor {l : Launch} (hl : l.stackTraces = false) {B : Bt} {a0 : Nat} {x1 : Int32} {x2 : Int32} {w : MW} {r : Int32 × MW} (h : f_X3_levelFor a0 x1 x2 w = some r) : hz_Met l B false 358 358 yX3_levelFor cX3_levelFor 4 (Option.some FieldType.int) 2 0 0 [.ref (B.1 + a0), .int x1, .int x2] w (some (.int r.1)) r.2 := by
  refine hz_ofJ (rv := (fun r : Int32 × MW => some (.int r.1))) (wo := (fun r : Int32 × MW => r.2)) (own := RX3) (ini := false) hl (by decide) rfl (Or.inr rfl) (Nat.le_of_ble_eq_true rfl) rfl ?_ h
  intro p e s m args below meth c
  unfold f_X3_levelFor
  refine hz_gdr (fun ga0 => ?_)
  refine hz_iconst (pc' := 1) (v := 0) dX3_levelFor_0 rfl (by decide) ?_
  refine hz_istore_n (pc' := 2) (L' := [(3, .int 0), (0, .ref (B.1 + a0)), (1, .int x1), (2, .int x2)]) dX3_levelFor_1 rfl rfl (by decide) rfl ?_
  refine hz_bindJ (pcJ := 40) (LJ := fun q2 : Int32 => [(3, .int q2)]) (stJ := fun _ => []) (kJ := 0) (slJ := 0) (nJ := 358) (wJ := fun q2 : Int32 => w) (fun q2 => ?_) (fun hq2 => ?_)
  · refine hz_iload_n (pc' := 41) (j := 0) dX3_levelFor_40 rfl rfl rfl ?_
    exact hz_reti dX3_levelFor_41 rfl (by decide)
  · refine hz_loc [1, 2, 3, 0] rfl (hz_loopJ (lp := lp_X3_levelFor_2 a0 x1 x2 w) (Lh := fun v1 : Int32 => [(0, .ref (B.1 + a0)), (1, .int x1), (2, .int x2), (3, .int v1)]) (wh := fun v1 : Int32 => w) (fun _ => rfl) (fun Nv1 ihv1 v1 => ?_) 3000 0)
    rw [lp_X3_levelFor_2]
    refine hz_iload_n (pc' := 3) (j := 3) dX3_levelFor_2 rfl rfl rfl ?_
    refine hz_aload_n (pc' := 4) (j := 0) dX3_levelFor_3 rfl rfl rfl ?_
    refine hz_gP (pc' := 7) (c' := 3) fl_X3_52.r ga0 rfl dX3_levelFor_4 rfl (fun b3 gb3 => ?_)
    refine hz_gP (pc' := 10) (c' := 20) fl_X3_168 gb3 rfl dX3_levelFor_7 rfl (fun b4 gb4 => ?_)
    refine hz_iload_n (pc' := 11) (j := 1) dX3_levelFor_10 rfl rfl rfl ?_
    refine hz_iald (pc' := 12) gb4 dX3_levelFor_11 rfl (fun v5 => ?_)
    refine hz_iconst (pc' := 13) (v := 1) dX3_levelFor_12 rfl (by decide) ?_
    refine hz_isub (pc' := 14) dX3_levelFor_13 rfl ?_
    refine hz_icmpge (pc' := 17) (tgt := 40) dX3_levelFor_14 (by decide) rfl ?_ ?_
    · exact hz_loc [3] rfl (hq2 v1)
    · refine hz_aload_n (pc' := 18) (j := 0) dX3_levelFor_17 rfl rfl rfl ?_
      refine hz_gP (pc' := 21) (c' := 3) fl_X3_52.r ga0 rfl dX3_levelFor_18 rfl (fun b6 gb6 => ?_)
      refine hz_gP (pc' := 24) (c' := 20) fl_X3_162 gb6 rfl dX3_levelFor_21 rfl (fun b7 gb7 => ?_)
      refine hz_iload_n (pc' := 25) (j := 1) dX3_levelFor_24 rfl rfl rfl ?_
      refine hz_iconst (pc' := 26) (v := 5) dX3_levelFor_25 rfl (by decide) ?_
      refine hz_imul (pc' := 27) dX3_levelFor_26 rfl ?_
      refine hz_iload_n (pc' := 28) (j := 3) dX3_levelFor_27 rfl rfl rfl ?_
      refine hz_iadd (pc' := 29) dX3_levelFor_28 rfl ?_
      refine hz_iald (pc' := 30) gb7 dX3_levelFor_29 rfl (fun v8 => ?_)
      refine hz_iload_n (pc' := 31) (j := 2) dX3_levelFor_30 rfl rfl rfl ?_
      refine hz_icmpge (pc' := 34) (tgt := 40) dX3_levelFor_31 (by decide) rfl ?_ ?_
      · exact hz_loc [3] rfl (hq2 v1)
      · refine hz_iincN (pc' := 37) (j := 3) (fun v9 => [(3, .int v9), (0, .ref (B.1 + a0)), (1, .int x1), (2, .int x2)]) dX3_levelFor_34 rfl rfl (by decide) (fun _ => rfl) (fun v9 => ?_)
        refine hz_goto (tgt := 2) dX3_levelFor_37 (by decide) ?_
        exact hz_loc [1, 2, 3, 0] rfl (ihv1 v9)
def f_X3_suggestedLevel (a0 : Nat) (x1 : Int32) (w : MW) : Option (Int32 × MW) :=
  hz_gd (hz_g 358 a0 4) (hz_ldp w a0 13 358 20 (fun b1 => hz_lda w b1 x1 (fun v2 => Option.bind ((if v2 ≤ 0 then some 0 else some 1)) (fun q3 : Int32 => hz_ldp w a0 0 358 3 (fun b4 => hz_ldp w b4 10 358 20 (fun b5 => hz_lda w b5 x1 (fun v6 => hz_let (v6 - 1) (fun v7 => hz_ldp w a0 5 358 20 (fun b8 => hz_lda w b8 x1 (fun v9 => (if v9 = 0 then some (v7, w) else (if v9 = 1 then some (0, w) else (if v9 = 2 then Option.bind ((if q3 = 0 then some (0, w) else hz_b (f_X3_greatestRequirement a0 x1 w) (fun v14 w13 => hz_b (f_X3_levelFor a0 x1 v14 w13) (fun v16 w15 => some (v16, w15))))) (fun q12 : Int32 × MW => some (q12.1, q12.2)) else (if v9 = 3 then Option.bind ((if q3 = 0 then some 0 else some v7)) (fun q18 : Int32 => some (q18, w)) else some (0, w)))))))))))))))
set_option maxHeartbeats 4000000 in
set_option maxRecDepth 100000 in
theorem ct_X3_suggestedLevel {l : Launch} (hl : l.stackTraces = false) {B : Bt} {a0 : Nat} {x1 : Int32} {w : MW} {r : Int32 × MW} (h : f_X3_suggestedLevel a0 x1 w = some r) : hz_Met l B false 358 358 yX3_suggestedLevel cX3_suggestedLevel 4 (Option.some FieldType.int) 4 0 0 [.ref (B.1 + a0), .int x1] w (some (.int r.1)) r.2 := by
  refine hz_ofJ (rv := (fun r : Int32 × MW => some (.int r.1))) (wo := (fun r : Int32 × MW => r.2)) (own := RX3) (ini := false) hl (by decide) rfl (Or.inr rfl) (Nat.le_of_ble_eq_true rfl) rfl ?_ h
  intro p e s m args below meth c
  unfold f_X3_suggestedLevel
  refine hz_gdr (fun ga0 => ?_)
  refine hz_aload_n (pc' := 1) (j := 0) dX3_suggestedLevel_0 rfl rfl rfl ?_
  refine hz_gP (pc' := 4) (c' := 20) fl_X3_46.r ga0 rfl dX3_suggestedLevel_1 rfl (fun b1 gb1 => ?_)
  refine hz_iload_n (pc' := 5) (j := 1) dX3_suggestedLevel_4 rfl rfl rfl ?_
  refine hz_iald (pc' := 6) gb1 dX3_suggestedLevel_5 rfl (fun v2 => ?_)
  refine hz_bindJ (pcJ := 14) (LJ := fun q3 : Int32 => [(0, .ref (B.1 + a0)), (1, .int x1)]) (stJ := fun q3 : Int32 => [.int q3]) (kJ := 0) (slJ := 0) (nJ := 358) (wJ := fun q3 : Int32 => w) (fun q3 => ?_) (fun hq3 => ?_)
  · refine hz_istore_n (pc' := 15) (L' := [(2, .int q3), (0, .ref (B.1 + a0)), (1, .int x1)]) dX3_suggestedLevel_14 rfl rfl (by decide) rfl ?_
    refine hz_aload_n (pc' := 16) (j := 1) dX3_suggestedLevel_15 rfl rfl rfl ?_
    refine hz_gP (pc' := 19) (c' := 3) fl_X3_52.r ga0 rfl dX3_suggestedLevel_16 rfl (fun b4 gb4 => ?_)
    refine hz_gP (pc' := 22) (c' := 20) fl_X3_168 gb4 rfl dX3_suggestedLevel_19 rfl (fun b5 gb5 => ?_)
    refine hz_iload_n (pc' := 23) (j := 2) dX3_suggestedLevel_22 rfl rfl rfl ?_
    refine hz_iald (pc' := 24) gb5 dX3_suggestedLevel_23 rfl (fun v6 => ?_)
    refine hz_iconst (pc' := 25) (v := 1) dX3_suggestedLevel_24 rfl (by decide) ?_
    refine hz_isub (pc' := 26) dX3_suggestedLevel_25 rfl ?_
    refine hz_nameI (fun v7 => ?_)
    refine hz_istore_n (pc' := 27) (L' := [(3, .int v7), (2, .int q3), (0, .ref (B.1 + a0)), (1, .int x1)]) dX3_suggestedLevel_26 rfl rfl (by decide) rfl ?_
    refine hz_aload_n (pc' := 28) (j := 2) dX3_suggestedLevel_27 rfl rfl rfl ?_
    refine hz_gP (pc' := 31) (c' := 20) fl_X3_22.r ga0 rfl dX3_suggestedLevel_28 rfl (fun b8 gb8 => ?_)
    refine hz_iload_n (pc' := 32) (j := 3) dX3_suggestedLevel_31 rfl rfl rfl ?_
    refine hz_iald (pc' := 33) gb8 dX3_suggestedLevel_32 rfl (fun v9 => ?_)
    refine hz_swIn (v := 0) (off := 31) (tgt := 64) dX3_suggestedLevel_33 (by decide) (by decide) (by decide +kernel) (by decide) ?_ (fun hs10 => ?_)
    · refine hz_iload_n (pc' := 65) (j := 0) dX3_suggestedLevel_64 rfl rfl rfl ?_
      exact hz_reti dX3_suggestedLevel_65 rfl (by decide)
    refine hz_swIn (v := 1) (off := 62) (tgt := 95) dX3_suggestedLevel_33 (by decide) (by decide) (by decide +kernel) (by decide) ?_ (fun hs11 => ?_)
    · refine hz_iconst (pc' := 96) (v := 0) dX3_suggestedLevel_95 rfl (by decide) ?_
      exact hz_reti dX3_suggestedLevel_96 rfl (by decide)
    refine hz_swIn (v := 2) (off := 33) (tgt := 66) dX3_suggestedLevel_33 (by decide) (by decide) (by decide +kernel) (by decide) ?_ (fun hs17 => ?_)
    · refine hz_iload_n (pc' := 67) (j := 1) dX3_suggestedLevel_66 rfl rfl rfl ?_
      refine hz_bindJ (pcJ := 84) (LJ := fun q12 : Int32 × MW => []) (stJ := fun q12 : Int32 × MW => [.int q12.1]) (kJ := 0) (slJ := 0) (nJ := 358) (wJ := fun q12 : Int32 × MW => q12.2) (fun q12 => ?_) (fun hq12 => ?_)
      · exact hz_reti dX3_suggestedLevel_84 rfl (by decide)
      · refine hz_ifeq (pc' := 70) (tgt := 83) dX3_suggestedLevel_67 (by decide) rfl ?_ ?_
        · refine hz_iconst (pc' := 84) (v := 0) dX3_suggestedLevel_83 rfl (by decide) ?_
          exact hz_loc [] rfl (hq12 (0, w))
        · refine hz_aload_n (pc' := 71) (j := 2) dX3_suggestedLevel_70 rfl rfl rfl ?_
          refine hz_iload_n (pc' := 72) (j := 3) dX3_suggestedLevel_71 rfl rfl rfl ?_
          refine hz_aload_n (pc' := 73) (j := 2) dX3_suggestedLevel_72 rfl rfl rfl ?_
          refine hz_iload_n (pc' := 74) (j := 3) dX3_suggestedLevel_73 rfl rfl rfl ?_
          refine hz_cVi (pc' := 77) (av := [.int x1]) (rest := [.int x1, .ref (B.1 + a0)]) vl_X3_171 (fun x w' h => ct_X3_greatestRequirement hl h) ga0 rfl rfl (Nat.le_of_ble_eq_true rfl) (by decide) (by decide) rfl dX3_suggestedLevel_74 rfl (fun v14 w13 => ?_)
          refine hz_cVi (pc' := 80) (av := [.int x1, .int v14]) (rest := []) vl_X3_174 (fun x w' h => ct_X3_levelFor hl h) ga0 rfl rfl (Nat.le_of_ble_eq_true rfl) (by decide) (by decide) rfl dX3_suggestedLevel_77 rfl (fun v16 w15 => ?_)
          refine hz_goto (tgt := 84) dX3_suggestedLevel_80 (by decide) ?_
          exact hz_loc [] rfl (hq12 (v16, w15))
    refine hz_swIn (v := 3) (off := 52) (tgt := 85) dX3_suggestedLevel_33 (by decide) (by decide) (by decide +kernel) (by decide) ?_ (fun hs19 => ?_)
    · refine hz_iload_n (pc' := 86) (j := 1) dX3_suggestedLevel_85 rfl rfl rfl ?_
      refine hz_bindJ (pcJ := 94) (LJ := fun q18 : Int32 => []) (stJ := fun q18 : Int32 => [.int q18]) (kJ := 0) (slJ := 0) (nJ := 358) (wJ := fun q18 : Int32 => w) (fun q18 => ?_) (fun hq18 => ?_)
      · exact hz_reti dX3_suggestedLevel_94 rfl (by decide)
      · refine hz_ifeq (pc' := 89) (tgt := 93) dX3_suggestedLevel_86 (by decide) rfl ?_ ?_
        · refine hz_iconst (pc' := 94) (v := 0) dX3_suggestedLevel_93 rfl (by decide) ?_
          exact hz_loc [] rfl (hq18 0)
        · refine hz_iload_n (pc' := 90) (j := 0) dX3_suggestedLevel_89 rfl rfl rfl ?_
          refine hz_goto (tgt := 94) dX3_suggestedLevel_90 (by decide) ?_
          exact hz_loc [] rfl (hq18 v7)
    refine hz_swOut (tgt := 95) dX3_suggestedLevel_33 (by have z0 := lv_neT (a := 0) hs10 (by decide); have z1 := lv_neT (a := 1) hs11 (by decide); have z2 := lv_neT (a := 2) hs17 (by decide); have z3 := lv_neT (a := 3) hs19 (by decide); omega) (by decide) ?_
    refine hz_iconst (pc' := 96) (v := 0) dX3_suggestedLevel_95 rfl (by decide) ?_
    exact hz_reti dX3_suggestedLevel_96 rfl (by decide)
  · refine hz_ifle (pc' := 9) (tgt := 13) dX3_suggestedLevel_6 (by decide) rfl ?_ ?_
    · refine hz_iconst (pc' := 14) (v := 0) dX3_suggestedLevel_13 rfl (by decide) ?_
      exact hz_loc [0, 1] rfl (hq3 0)
    · refine hz_iconst (pc' := 10) (v := 1) dX3_suggestedLevel_9 rfl (by decide) ?_
      refine hz_goto (tgt := 14) dX3_suggestedLevel_10 (by decide) ?_
      exact hz_loc [0, 1] rfl (hq3 1)
def lp_X3_workOnJobs_5 (c0 : Nat) (c1 : Int32) (c2 : Int32) : Nat → (Int32 × Int32 × MW) → Option (Int32 × MW)
  | 0, _ => none
  | N + 1, v0 => hz_ldp v0.2.2 c0 0 358 3 (fun b1 => hz_ldp v0.2.2 b1 2 358 20 (fun b2 => hz_lda v0.2.2 b2 c1 (fun v3 => (if v3 ≤ v0.2.1 then some (v0.1, v0.2.2) else hz_let ((c1 * 4) + v0.2.1) (fun v4 => hz_ldp v0.2.2 c0 14 358 20 (fun b5 => hz_lda v0.2.2 b5 v4 (fun v6 => hz_ldp v0.2.2 c0 1 358 2 (fun b7 => hz_b (f_X1_has b7 v6 v0.2.2) (fun v9 w8 => Option.bind ((if v9 = 0 then some (v0.1, w8) else hz_ldp w8 c0 1 358 2 (fun b12 => hz_ldp w8 b12 11 358 20 (fun b13 => hz_lda w8 b13 v6 (fun v14 => hz_sta w8 b13 v6 (v14 - c2) (fun w15 => hz_ldp w15 c0 1 358 2 (fun b16 => hz_ldp w15 b16 11 358 20 (fun b17 => hz_lda w15 b17 v6 (fun v18 => (if 0 < v18 then some (v0.1, w15) else hz_ldp w15 c0 1 358 2 (fun b19 => hz_bv (f_X1_finish b19 v6 ((w15.1 c0 2) + 1) w15) (fun w20 => hz_ldp w20 c0 14 358 20 (fun b21 => hz_sta w20 b21 v4 (-2) (fun w22 => hz_let (v0.1 + Int32.ofInt 1) (fun v23 => some (v23, w22)))))))))))))))) (fun q10 : Int32 × MW => hz_let (v0.2.1 + Int32.ofInt 1) (fun v11 => lp_X3_workOnJobs_5 c0 c1 c2 N (q10.1, v11, q10.2))))))))))))
def f_X3_workOnJobs (a0 : Nat) (x1 : Int32) (x2 : Int32) (w : MW) : Option (Int32 × MW) :=
  hz_gd (hz_g 358 a0 4) (Option.bind (lp_X3_workOnJobs_5 a0 x1 x2 3000 (0, 0, w)) (fun q2 : Int32 × MW => some (q2.1, q2.2)))
set_option maxHeartbeats 4000000 in
set_option maxRecDepth 100000 in
theorem ct_X3_workOnJobs {l : Launch} (hl : l.stackTraces = false) {B : Bt} {a0 : Nat} {x1 : Int32} {x2 : Int32} {w : MW} {r : Int32 × MW} (h : f_X3_workOnJobs a0 x1 x2 w = some r) : hz_Met l B false 358 358 yX3_workOnJobs cX3_workOnJobs 7 (Option.some FieldType.int) 4 0 0 [.ref (B.1 + a0), .int x1, .int x2] w (some (.int r.1)) r.2 := by
  refine hz_ofJ (rv := (fun r : Int32 × MW => some (.int r.1))) (wo := (fun r : Int32 × MW => r.2)) (own := RX3) (ini := false) hl (by decide) rfl (Or.inr rfl) (Nat.le_of_ble_eq_true rfl) rfl ?_ h
  intro p e s m args below meth c
  unfold f_X3_workOnJobs
  refine hz_gdr (fun ga0 => ?_)
  refine hz_iconst (pc' := 1) (v := 0) dX3_workOnJobs_0 rfl (by decide) ?_
  refine hz_istore_n (pc' := 2) (L' := [(3, .int 0), (0, .ref (B.1 + a0)), (1, .int x1), (2, .int x2)]) dX3_workOnJobs_1 rfl rfl (by decide) rfl ?_
  refine hz_iconst (pc' := 3) (v := 0) dX3_workOnJobs_2 rfl (by decide) ?_
  refine hz_istore (pc' := 5) (L' := [(4, .int 0), (3, .int 0), (0, .ref (B.1 + a0)), (1, .int x1), (2, .int x2)]) dX3_workOnJobs_3 rfl (by decide) rfl ?_
  refine hz_bindJ (pcJ := 108) (LJ := fun q2 : Int32 × MW => [(3, .int q2.1)]) (stJ := fun _ => []) (kJ := 0) (slJ := 0) (nJ := 358) (wJ := fun q2 : Int32 × MW => q2.2) (fun q2 => ?_) (fun hq2 => ?_)
  · refine hz_iload_n (pc' := 109) (j := 0) dX3_workOnJobs_108 rfl rfl rfl ?_
    exact hz_reti dX3_workOnJobs_109 rfl (by decide)
  · refine hz_loc [2, 3, 4, 1, 0] rfl (hz_loopJ (lp := lp_X3_workOnJobs_5 a0 x1 x2) (Lh := fun v1 : Int32 × Int32 × MW => [(0, .ref (B.1 + a0)), (1, .int x1), (2, .int x2), (3, .int v1.1), (4, .int v1.2.1)]) (wh := fun v1 : Int32 × Int32 × MW => v1.2.2) (fun _ => rfl) (fun Nv1 ihv1 v1 => ?_) 3000 (0, 0, w))
    rw [lp_X3_workOnJobs_5]
    refine hz_iload (pc' := 7) (j := 4) dX3_workOnJobs_5 rfl rfl ?_
    refine hz_aload_n (pc' := 8) (j := 0) dX3_workOnJobs_7 rfl rfl rfl ?_
    refine hz_gP (pc' := 11) (c' := 3) fl_X3_52.r ga0 rfl dX3_workOnJobs_8 rfl (fun b3 gb3 => ?_)
    refine hz_gP (pc' := 14) (c' := 20) fl_X3_114 gb3 rfl dX3_workOnJobs_11 rfl (fun b4 gb4 => ?_)
    refine hz_iload_n (pc' := 15) (j := 1) dX3_workOnJobs_14 rfl rfl rfl ?_
    refine hz_iald (pc' := 16) gb4 dX3_workOnJobs_15 rfl (fun v5 => ?_)
    refine hz_icmpge (pc' := 19) (tgt := 108) dX3_workOnJobs_16 (by decide) rfl ?_ ?_
    · exact hz_loc [3] rfl (hq2 (v1.1, v1.2.2))
    · refine hz_iload_n (pc' := 20) (j := 1) dX3_workOnJobs_19 rfl rfl rfl ?_
      refine hz_iconst (pc' := 21) (v := 4) dX3_workOnJobs_20 rfl (by decide) ?_
      refine hz_imul (pc' := 22) dX3_workOnJobs_21 rfl ?_
      refine hz_iload (pc' := 24) (j := 4) dX3_workOnJobs_22 rfl rfl ?_
      refine hz_iadd (pc' := 25) dX3_workOnJobs_24 rfl ?_
      refine hz_nameI (fun v6 => ?_)
      refine hz_istore (pc' := 27) (L' := [(5, .int v6), (0, .ref (B.1 + a0)), (1, .int x1), (2, .int x2), (3, .int v1.1), (4, .int v1.2.1)]) dX3_workOnJobs_25 rfl (by decide) rfl ?_
      refine hz_aload_n (pc' := 28) (j := 1) dX3_workOnJobs_27 rfl rfl rfl ?_
      refine hz_gP (pc' := 31) (c' := 20) fl_X3_49.r ga0 rfl dX3_workOnJobs_28 rfl (fun b7 gb7 => ?_)
      refine hz_iload (pc' := 33) (j := 0) dX3_workOnJobs_31 rfl rfl ?_
      refine hz_iald (pc' := 34) gb7 dX3_workOnJobs_33 rfl (fun v8 => ?_)
      refine hz_istore (pc' := 36) (L' := [(6, .int v8), (5, .int v6), (0, .ref (B.1 + a0)), (1, .int x1), (2, .int x2), (3, .int v1.1), (4, .int v1.2.1)]) dX3_workOnJobs_34 rfl (by decide) rfl ?_
      refine hz_aload_n (pc' := 37) (j := 2) dX3_workOnJobs_36 rfl rfl rfl ?_
      refine hz_gP (pc' := 40) (c' := 2) fl_X3_12.r ga0 rfl dX3_workOnJobs_37 rfl (fun b9 gb9 => ?_)
      refine hz_iload (pc' := 42) (j := 0) dX3_workOnJobs_40 rfl rfl ?_
      refine hz_cVi (pc' := 45) (av := [.int v8]) (rest := []) vl_X3_177 (fun x w' h => ct_X1_has hl h) gb9 rfl rfl (Nat.le_of_ble_eq_true rfl) (by decide) (by decide) rfl dX3_workOnJobs_42 rfl (fun v11 w10 => ?_)
      refine hz_bindJ (pcJ := 102) (LJ := fun q12 : Int32 × MW => [(0, .ref (B.1 + a0)), (1, .int x1), (2, .int x2), (3, .int q12.1), (4, .int v1.2.1)]) (stJ := fun q12 : Int32 × MW => []) (kJ := 0) (slJ := 0) (nJ := 358) (wJ := fun q12 : Int32 × MW => q12.2) (fun q12 => ?_) (fun hq12 => ?_)
      · refine hz_iincN (pc' := 105) (j := 4) (fun v13 => [(4, .int v13), (0, .ref (B.1 + a0)), (1, .int x1), (2, .int x2), (3, .int q12.1)]) dX3_workOnJobs_102 rfl rfl (by decide) (fun _ => rfl) (fun v13 => ?_)
        refine hz_goto (tgt := 5) dX3_workOnJobs_105 (by decide) ?_
        exact hz_loc [1, 2, 3, 4, 0] rfl (ihv1 (q12.1, v13, q12.2))
      · refine hz_ifeq (pc' := 48) (tgt := 102) dX3_workOnJobs_45 (by decide) rfl ?_ ?_
        · exact hz_loc [2, 3, 4, 5, 6] rfl (hq12 (v1.1, w10))
        · refine hz_aload_n (pc' := 49) (j := 2) dX3_workOnJobs_48 rfl rfl rfl ?_
          refine hz_gP (pc' := 52) (c' := 2) fl_X3_12.r ga0 rfl dX3_workOnJobs_49 rfl (fun b14 gb14 => ?_)
          refine hz_gP (pc' := 55) (c' := 20) fl_X3_181 gb14 rfl dX3_workOnJobs_52 rfl (fun b15 gb15 => ?_)
          refine hz_iload (pc' := 57) (j := 0) dX3_workOnJobs_55 rfl rfl ?_
          refine hz_dup2 (pc' := 58) dX3_workOnJobs_57 rfl rfl rfl ?_
          refine hz_iald (pc' := 59) gb15 dX3_workOnJobs_58 rfl (fun v16 => ?_)
          refine hz_iload_n (pc' := 60) (j := 4) dX3_workOnJobs_59 rfl rfl rfl ?_
          refine hz_isub (pc' := 61) dX3_workOnJobs_60 rfl ?_
          refine hz_iast (pc' := 62) gb15 dX3_workOnJobs_61 rfl (fun w17 => ?_)
          refine hz_aload_n (pc' := 63) (j := 2) dX3_workOnJobs_62 rfl rfl rfl ?_
          refine hz_gP (pc' := 66) (c' := 2) fl_X3_12.r ga0 rfl dX3_workOnJobs_63 rfl (fun b18 gb18 => ?_)
          refine hz_gP (pc' := 69) (c' := 20) fl_X3_181 gb18 rfl dX3_workOnJobs_66 rfl (fun b19 gb19 => ?_)
          refine hz_iload (pc' := 71) (j := 0) dX3_workOnJobs_69 rfl rfl ?_
          refine hz_iald (pc' := 72) gb19 dX3_workOnJobs_71 rfl (fun v20 => ?_)
          refine hz_ifgt (pc' := 75) (tgt := 102) dX3_workOnJobs_72 (by decide) rfl ?_ ?_
          · exact hz_loc [2, 3, 4, 5, 6] rfl (hq12 (v1.1, w17))
          · refine hz_aload_n (pc' := 76) (j := 2) dX3_workOnJobs_75 rfl rfl rfl ?_
            refine hz_gP (pc' := 79) (c' := 2) fl_X3_12.r ga0 rfl dX3_workOnJobs_76 rfl (fun b21 gb21 => ?_)
            refine hz_iload (pc' := 81) (j := 0) dX3_workOnJobs_79 rfl rfl ?_
            refine hz_aload_n (pc' := 82) (j := 2) dX3_workOnJobs_81 rfl rfl rfl ?_
            refine hz_gI (pc' := 85) fl_X3_59.r ga0 rfl dX3_workOnJobs_82 rfl ?_
            refine hz_iconst (pc' := 86) (v := 1) dX3_workOnJobs_85 rfl (by decide) ?_
            refine hz_iadd (pc' := 87) dX3_workOnJobs_86 rfl ?_
            refine hz_cVv (pc' := 90) (av := [.int v8, .int ((w17.1 a0 2) + 1)]) (rest := []) vl_X3_214 (fun w' h => ct_X1_finish hl h) gb21 rfl rfl (Nat.le_of_ble_eq_true rfl) (by decide) (by decide) rfl dX3_workOnJobs_87 rfl (fun w22 => ?_)
            refine hz_aload_n (pc' := 91) (j := 2) dX3_workOnJobs_90 rfl rfl rfl ?_
            refine hz_gP (pc' := 94) (c' := 20) fl_X3_49.r ga0 rfl dX3_workOnJobs_91 rfl (fun b23 gb23 => ?_)
            refine hz_iload (pc' := 96) (j := 1) dX3_workOnJobs_94 rfl rfl ?_
            refine hz_bipush (pc' := 98) (v := (-2)) dX3_workOnJobs_96 rfl (by decide) ?_
            refine hz_iast (pc' := 99) gb23 dX3_workOnJobs_98 rfl (fun w24 => ?_)
            refine hz_iincN (pc' := 102) (j := 5) (fun v25 => [(3, .int v25), (6, .int v8), (5, .int v6), (0, .ref (B.1 + a0)), (1, .int x1), (2, .int x2), (4, .int v1.2.1)]) dX3_workOnJobs_99 rfl rfl (by decide) (fun _ => rfl) (fun v25 => ?_)
            exact hz_loc [3, 4, 5, 0, 6] rfl (hq12 (v25, w24))
def f_X3_runDomain (a0 : Nat) (x1 : Int32) (w : MW) : Option (Int32 × MW) :=
  hz_gd (hz_g 358 a0 4) (hz_ldp w a0 13 358 20 (fun b1 => hz_lda w b1 x1 (fun v2 => Option.bind ((if v2 ≤ 0 then some 0 else some 1)) (fun q3 : Int32 => hz_b (f_X3_suggestedLevel a0 x1 w) (fun v5 w4 => hz_b (f_X3_creditedLevel a0 x1 v5 w4) (fun v7 w6 => Option.bind ((if q3 = 0 then some (v7, w6) else hz_b (f_X3_coolLevel a0 x1 v7 w6) (fun v46 w45 => some (v46, w45)))) (fun q8 : Int32 × MW => Option.bind ((if q3 = 0 then some (0, q8.2) else (if q8.1 = 0 then hz_b (f_X3_isTooHot a0 x1 0 q8.2) (fun v44 w43 => (if v44 = 0 then some (0, w43) else some (1, w43))) else some (0, q8.2)))) (fun q9 : Int32 × MW => Option.bind ((if v7 ≤ q8.1 then some q9.2 else hz_ldp q9.2 a0 10 358 20 (fun b40 => hz_lda q9.2 b40 x1 (fun v41 => hz_sta q9.2 b40 x1 (v41 + 1) (fun w42 => some w42))))) (fun q10 : MW => Option.bind ((if q9.1 = 0 then some q10 else hz_ldp q10 a0 11 358 20 (fun b37 => hz_lda q10 b37 x1 (fun v38 => hz_sta q10 b37 x1 (v38 + 1) (fun w39 => some w39))))) (fun q11 : MW => hz_ldp q11 a0 7 358 20 (fun b12 => hz_sta q11 b12 x1 q8.1 (fun w13 => Option.bind ((if q9.1 = 0 then hz_ldp w13 a0 13 358 20 (fun b35 => hz_lda w13 b35 x1 (fun v36 => some v36)) else some 0)) (fun q14 : Int32 => hz_b (f_X3_powerAt a0 x1 q8.1 q14 w13) (fun v16 w15 => hz_ldp w15 a0 8 358 20 (fun b17 => hz_lda w15 b17 x1 (fun v18 => hz_sta w15 b17 x1 (v18 + v16) (fun w19 => Option.bind ((if q3 = 0 then some 0 else (if q9.1 = 0 then hz_ldp w19 a0 0 358 3 (fun b32 => hz_ldp w19 b32 7 358 20 (fun b33 => hz_lda w19 b33 x1 (fun v34 => (if q8.1 ≤ v34 then some 0 else some 1)))) else some 0))) (fun q20 : Int32 => hz_bv (f_X3_countCredit a0 x1 q20 w19) (fun w21 => hz_ldp w21 a0 6 358 20 (fun b22 => hz_b (f_X3_temperatureAfter a0 x1 v16 w21) (fun v24 w23 => hz_sta w23 b22 x1 v24 (fun w25 => Option.bind ((if q9.1 = 0 then hz_ldp w25 a0 0 358 3 (fun b27 => hz_ldp w25 b27 11 358 20 (fun b28 => hz_lda w25 b28 ((x1 * 5) + q8.1) (fun v29 => hz_b (f_X3_workOnJobs a0 x1 v29 w25) (fun v31 w30 => some (v31, w30))))) else some (0, w25))) (fun q26 : Int32 × MW => some (q26.1, q26.2))))))))))))))))))))))))
set_option maxHeartbeats 4000000 in
set_option maxRecDepth 100000 in
theorem ct_X3_runDomain {l : Launch} (hl : l.stackTraces = false) {B : Bt} {a0 : Nat} {x1 : Int32} {w : MW} {r : Int32 × MW} (h : f_X3_runDomain a0 x1 w = some r) : hz_Met l B false 358 358 yX3_runDomain cX3_runDomain 7 (Option.some FieldType.int) 5 0 0 [.ref (B.1 + a0), .int x1] w (some (.int r.1)) r.2 := by
  refine hz_ofJ (rv := (fun r : Int32 × MW => some (.int r.1))) (wo := (fun r : Int32 × MW => r.2)) (own := RX3) (ini := false) hl (by decide) rfl (Or.inr rfl) (Nat.le_of_ble_eq_true rfl) rfl ?_ h
  intro p e s m args below meth c
  unfold f_X3_runDomain
  refine hz_gdr (fun ga0 => ?_)
  refine hz_aload_n (pc' := 1) (j := 0) dX3_runDomain_0 rfl rfl rfl ?_
  refine hz_gP (pc' := 4) (c' := 20) fl_X3_46.r ga0 rfl dX3_runDomain_1 rfl (fun b1 gb1 => ?_)
  refine hz_iload_n (pc' := 5) (j := 1) dX3_runDomain_4 rfl rfl rfl ?_
  refine hz_iald (pc' := 6) gb1 dX3_runDomain_5 rfl (fun v2 => ?_)
  refine hz_bindJ (pcJ := 14) (LJ := fun q3 : Int32 => [(0, .ref (B.1 + a0)), (1, .int x1)]) (stJ := fun q3 : Int32 => [.int q3]) (kJ := 0) (slJ := 0) (nJ := 358) (wJ := fun q3 : Int32 => w) (fun q3 => ?_) (fun hq3 => ?_)
  · refine hz_istore_n (pc' := 15) (L' := [(2, .int q3), (0, .ref (B.1 + a0)), (1, .int x1)]) dX3_runDomain_14 rfl rfl (by decide) rfl ?_
    refine hz_aload_n (pc' := 16) (j := 1) dX3_runDomain_15 rfl rfl rfl ?_
    refine hz_iload_n (pc' := 17) (j := 2) dX3_runDomain_16 rfl rfl rfl ?_
    refine hz_aload_n (pc' := 18) (j := 1) dX3_runDomain_17 rfl rfl rfl ?_
    refine hz_iload_n (pc' := 19) (j := 2) dX3_runDomain_18 rfl rfl rfl ?_
    refine hz_cVi (pc' := 22) (av := [.int x1]) (rest := [.int x1, .ref (B.1 + a0)]) vl_X3_136 (fun x w' h => ct_X3_suggestedLevel hl h) ga0 rfl rfl (Nat.le_of_ble_eq_true rfl) (by decide) (by decide) rfl dX3_runDomain_19 rfl (fun v5 w4 => ?_)
    refine hz_cVi (pc' := 25) (av := [.int x1, .int v5]) (rest := []) vl_X3_139 (fun x w' h => ct_X3_creditedLevel hl h) ga0 rfl rfl (Nat.le_of_ble_eq_true rfl) (by decide) (by decide) rfl dX3_runDomain_22 rfl (fun v7 w6 => ?_)
    refine hz_istore_n (pc' := 26) (L' := [(3, .int v7), (2, .int q3), (0, .ref (B.1 + a0)), (1, .int x1)]) dX3_runDomain_25 rfl rfl (by decide) rfl ?_
    refine hz_iload_n (pc' := 27) (j := 1) dX3_runDomain_26 rfl rfl rfl ?_
    refine hz_bindJ (pcJ := 40) (LJ := fun q8 : Int32 × MW => [(0, .ref (B.1 + a0)), (1, .int x1), (2, .int q3), (3, .int v7)]) (stJ := fun q8 : Int32 × MW => [.int q8.1]) (kJ := 0) (slJ := 0) (nJ := 358) (wJ := fun q8 : Int32 × MW => q8.2) (fun q8 => ?_) (fun hq8 => ?_)
    · refine hz_istore (pc' := 42) (L' := [(4, .int q8.1), (0, .ref (B.1 + a0)), (1, .int x1), (2, .int q3), (3, .int v7)]) dX3_runDomain_40 rfl (by decide) rfl ?_
      refine hz_iload_n (pc' := 43) (j := 3) dX3_runDomain_42 rfl rfl rfl ?_
      refine hz_bindJ (pcJ := 65) (LJ := fun q9 : Int32 × MW => [(0, .ref (B.1 + a0)), (1, .int x1), (2, .int q3), (3, .int v7), (4, .int q8.1)]) (stJ := fun q9 : Int32 × MW => [.int q9.1]) (kJ := 0) (slJ := 0) (nJ := 358) (wJ := fun q9 : Int32 × MW => q9.2) (fun q9 => ?_) (fun hq9 => ?_)
      · refine hz_istore (pc' := 67) (L' := [(5, .int q9.1), (0, .ref (B.1 + a0)), (1, .int x1), (2, .int q3), (3, .int v7), (4, .int q8.1)]) dX3_runDomain_65 rfl (by decide) rfl ?_
        refine hz_iload (pc' := 69) (j := 5) dX3_runDomain_67 rfl rfl ?_
        refine hz_iload_n (pc' := 70) (j := 4) dX3_runDomain_69 rfl rfl rfl ?_
        refine hz_bindJ (pcJ := 83) (LJ := fun q10 : MW => [(0, .ref (B.1 + a0)), (1, .int x1), (2, .int q3), (4, .int q8.1), (5, .int q9.1)]) (stJ := fun q10 : MW => []) (kJ := 0) (slJ := 0) (nJ := 358) (wJ := fun q10 : MW => q10) (fun q10 => ?_) (fun hq10 => ?_)
        · refine hz_iload (pc' := 85) (j := 4) dX3_runDomain_83 rfl rfl ?_
          refine hz_bindJ (pcJ := 98) (LJ := fun q11 : MW => [(0, .ref (B.1 + a0)), (1, .int x1), (2, .int q3), (4, .int q8.1), (5, .int q9.1)]) (stJ := fun q11 : MW => []) (kJ := 0) (slJ := 0) (nJ := 358) (wJ := fun q11 : MW => q11) (fun q11 => ?_) (fun hq11 => ?_)
          · refine hz_aload_n (pc' := 99) (j := 0) dX3_runDomain_98 rfl rfl rfl ?_
            refine hz_gP (pc' := 102) (c' := 20) fl_X3_28.r ga0 rfl dX3_runDomain_99 rfl (fun b12 gb12 => ?_)
            refine hz_iload_n (pc' := 103) (j := 1) dX3_runDomain_102 rfl rfl rfl ?_
            refine hz_iload (pc' := 105) (j := 3) dX3_runDomain_103 rfl rfl ?_
            refine hz_iast (pc' := 106) gb12 dX3_runDomain_105 rfl (fun w13 => ?_)
            refine hz_aload_n (pc' := 107) (j := 0) dX3_runDomain_106 rfl rfl rfl ?_
            refine hz_iload_n (pc' := 108) (j := 1) dX3_runDomain_107 rfl rfl rfl ?_
            refine hz_iload (pc' := 110) (j := 3) dX3_runDomain_108 rfl rfl ?_
            refine hz_iload (pc' := 112) (j := 4) dX3_runDomain_110 rfl rfl ?_
            refine hz_bindJ (pcJ := 125) (LJ := fun q14 : Int32 => [(0, .ref (B.1 + a0)), (1, .int x1), (2, .int q3), (4, .int q8.1), (5, .int q9.1)]) (stJ := fun q14 : Int32 => [.int q14, .int q8.1, .int x1, .ref (B.1 + a0)]) (kJ := 0) (slJ := 0) (nJ := 358) (wJ := fun q14 : Int32 => w13) (fun q14 => ?_) (fun hq14 => ?_)
            · refine hz_cVi (pc' := 128) (av := [.int x1, .int q8.1, .int q14]) (rest := []) vl_X3_149 (fun x w' h => ct_X3_powerAt hl h) ga0 rfl rfl (Nat.le_of_ble_eq_true rfl) (by decide) (by decide) rfl dX3_runDomain_125 rfl (fun v16 w15 => ?_)
              refine hz_istore (pc' := 130) (L' := [(6, .int v16), (0, .ref (B.1 + a0)), (1, .int x1), (2, .int q3), (4, .int q8.1), (5, .int q9.1)]) dX3_runDomain_128 rfl (by decide) rfl ?_
              refine hz_aload_n (pc' := 131) (j := 1) dX3_runDomain_130 rfl rfl rfl ?_
              refine hz_gP (pc' := 134) (c' := 20) fl_X3_31.r ga0 rfl dX3_runDomain_131 rfl (fun b17 gb17 => ?_)
              refine hz_iload_n (pc' := 135) (j := 2) dX3_runDomain_134 rfl rfl rfl ?_
              refine hz_dup2 (pc' := 136) dX3_runDomain_135 rfl rfl rfl ?_
              refine hz_iald (pc' := 137) gb17 dX3_runDomain_136 rfl (fun v18 => ?_)
              refine hz_iload (pc' := 139) (j := 0) dX3_runDomain_137 rfl rfl ?_
              refine hz_iadd (pc' := 140) dX3_runDomain_139 rfl ?_
              refine hz_iast (pc' := 141) gb17 dX3_runDomain_140 rfl (fun w19 => ?_)
              refine hz_aload_n (pc' := 142) (j := 1) dX3_runDomain_141 rfl rfl rfl ?_
              refine hz_iload_n (pc' := 143) (j := 2) dX3_runDomain_142 rfl rfl rfl ?_
              refine hz_iload_n (pc' := 144) (j := 3) dX3_runDomain_143 rfl rfl rfl ?_
              refine hz_bindJ (pcJ := 171) (LJ := fun q20 : Int32 => [(0, .ref (B.1 + a0)), (1, .int x1), (4, .int q8.1), (5, .int q9.1), (6, .int v16)]) (stJ := fun q20 : Int32 => [.int q20, .int x1, .ref (B.1 + a0)]) (kJ := 0) (slJ := 0) (nJ := 358) (wJ := fun q20 : Int32 => w19) (fun q20 => ?_) (fun hq20 => ?_)
              · refine hz_cVv (pc' := 174) (av := [.int x1, .int q20]) (rest := []) vl_X3_156 (fun w' h => ct_X3_countCredit hl h) ga0 rfl rfl (Nat.le_of_ble_eq_true rfl) (by decide) (by decide) rfl dX3_runDomain_171 rfl (fun w21 => ?_)
                refine hz_aload_n (pc' := 175) (j := 0) dX3_runDomain_174 rfl rfl rfl ?_
                refine hz_gP (pc' := 178) (c' := 20) fl_X3_25.r ga0 rfl dX3_runDomain_175 rfl (fun b22 gb22 => ?_)
                refine hz_iload_n (pc' := 179) (j := 1) dX3_runDomain_178 rfl rfl rfl ?_
                refine hz_aload_n (pc' := 180) (j := 0) dX3_runDomain_179 rfl rfl rfl ?_
                refine hz_iload_n (pc' := 181) (j := 1) dX3_runDomain_180 rfl rfl rfl ?_
                refine hz_iload (pc' := 183) (j := 4) dX3_runDomain_181 rfl rfl ?_
                refine hz_cVi (pc' := 186) (av := [.int x1, .int v16]) (rest := [.int x1, .ref (B.1 + b22)]) vl_X3_159 (fun x w' h => ct_X3_temperatureAfter hl h) ga0 rfl rfl (Nat.le_of_ble_eq_true rfl) (by decide) (by decide) rfl dX3_runDomain_183 rfl (fun v24 w23 => ?_)
                refine hz_iast (pc' := 187) gb22 dX3_runDomain_186 rfl (fun w25 => ?_)
                refine hz_iload (pc' := 189) (j := 3) dX3_runDomain_187 rfl rfl ?_
                refine hz_bindJ (pcJ := 215) (LJ := fun q26 : Int32 × MW => []) (stJ := fun q26 : Int32 × MW => [.int q26.1]) (kJ := 0) (slJ := 0) (nJ := 358) (wJ := fun q26 : Int32 × MW => q26.2) (fun q26 => ?_) (fun hq26 => ?_)
                · exact hz_reti dX3_runDomain_215 rfl (by decide)
                · refine hz_ifeq (pc' := 192) (tgt := 196) dX3_runDomain_189 (by decide) rfl ?_ ?_
                  · refine hz_aload_n (pc' := 197) (j := 0) dX3_runDomain_196 rfl rfl rfl ?_
                    refine hz_iload_n (pc' := 198) (j := 1) dX3_runDomain_197 rfl rfl rfl ?_
                    refine hz_aload_n (pc' := 199) (j := 0) dX3_runDomain_198 rfl rfl rfl ?_
                    refine hz_gP (pc' := 202) (c' := 3) fl_X3_52.r ga0 rfl dX3_runDomain_199 rfl (fun b27 gb27 => ?_)
                    refine hz_gP (pc' := 205) (c' := 20) fl_X3_162 gb27 rfl dX3_runDomain_202 rfl (fun b28 gb28 => ?_)
                    refine hz_iload_n (pc' := 206) (j := 1) dX3_runDomain_205 rfl rfl rfl ?_
                    refine hz_iconst (pc' := 207) (v := 5) dX3_runDomain_206 rfl (by decide) ?_
                    refine hz_imul (pc' := 208) dX3_runDomain_207 rfl ?_
                    refine hz_iload (pc' := 210) (j := 2) dX3_runDomain_208 rfl rfl ?_
                    refine hz_iadd (pc' := 211) dX3_runDomain_210 rfl ?_
                    refine hz_iald (pc' := 212) gb28 dX3_runDomain_211 rfl (fun v29 => ?_)
                    refine hz_cVi (pc' := 215) (av := [.int x1, .int v29]) (rest := []) vl_X3_165 (fun x w' h => ct_X3_workOnJobs hl h) ga0 rfl rfl (Nat.le_of_ble_eq_true rfl) (by decide) (by decide) rfl dX3_runDomain_212 rfl (fun v31 w30 => ?_)
                    exact hz_loc [] rfl (hq26 (v31, w30))
                  · refine hz_iconst (pc' := 193) (v := 0) dX3_runDomain_192 rfl (by decide) ?_
                    refine hz_goto (tgt := 215) dX3_runDomain_193 (by decide) ?_
                    exact hz_loc [] rfl (hq26 (0, w25))
              · refine hz_ifeq (pc' := 147) (tgt := 170) dX3_runDomain_144 (by decide) rfl ?_ ?_
                · refine hz_iconst (pc' := 171) (v := 0) dX3_runDomain_170 rfl (by decide) ?_
                  exact hz_loc [1, 2, 4, 5, 0] rfl (hq20 0)
                · refine hz_iload (pc' := 149) (j := 5) dX3_runDomain_147 rfl rfl ?_
                  refine hz_ifne (pc' := 152) (tgt := 170) dX3_runDomain_149 (by decide) rfl ?_ ?_
                  · refine hz_iconst (pc' := 171) (v := 0) dX3_runDomain_170 rfl (by decide) ?_
                    exact hz_loc [1, 2, 4, 5, 0] rfl (hq20 0)
                  · refine hz_iload (pc' := 154) (j := 4) dX3_runDomain_152 rfl rfl ?_
                    refine hz_aload_n (pc' := 155) (j := 1) dX3_runDomain_154 rfl rfl rfl ?_
                    refine hz_gP (pc' := 158) (c' := 3) fl_X3_52.r ga0 rfl dX3_runDomain_155 rfl (fun b32 gb32 => ?_)
                    refine hz_gP (pc' := 161) (c' := 20) fl_X3_153 gb32 rfl dX3_runDomain_158 rfl (fun b33 gb33 => ?_)
                    refine hz_iload_n (pc' := 162) (j := 2) dX3_runDomain_161 rfl rfl rfl ?_
                    refine hz_iald (pc' := 163) gb33 dX3_runDomain_162 rfl (fun v34 => ?_)
                    refine hz_icmple (pc' := 166) (tgt := 170) dX3_runDomain_163 (by decide) rfl ?_ ?_
                    · refine hz_iconst (pc' := 171) (v := 0) dX3_runDomain_170 rfl (by decide) ?_
                      exact hz_loc [1, 2, 4, 5, 0] rfl (hq20 0)
                    · refine hz_iconst (pc' := 167) (v := 1) dX3_runDomain_166 rfl (by decide) ?_
                      refine hz_goto (tgt := 171) dX3_runDomain_167 (by decide) ?_
                      exact hz_loc [1, 2, 4, 5, 0] rfl (hq20 1)
            · refine hz_ifeq (pc' := 115) (tgt := 119) dX3_runDomain_112 (by decide) rfl ?_ ?_
              · refine hz_aload_n (pc' := 120) (j := 0) dX3_runDomain_119 rfl rfl rfl ?_
                refine hz_gP (pc' := 123) (c' := 20) fl_X3_46.r ga0 rfl dX3_runDomain_120 rfl (fun b35 gb35 => ?_)
                refine hz_iload_n (pc' := 124) (j := 1) dX3_runDomain_123 rfl rfl rfl ?_
                refine hz_iald (pc' := 125) gb35 dX3_runDomain_124 rfl (fun v36 => ?_)
                exact hz_loc [0, 1, 2, 3, 4] rfl (hq14 v36)
              · refine hz_iconst (pc' := 116) (v := 0) dX3_runDomain_115 rfl (by decide) ?_
                refine hz_goto (tgt := 125) dX3_runDomain_116 (by decide) ?_
                exact hz_loc [0, 1, 2, 3, 4] rfl (hq14 0)
          · refine hz_ifeq (pc' := 88) (tgt := 98) dX3_runDomain_85 (by decide) rfl ?_ ?_
            · exact hz_loc [0, 1, 2, 3, 4] rfl (hq11 q10)
            · refine hz_aload_n (pc' := 89) (j := 0) dX3_runDomain_88 rfl rfl rfl ?_
              refine hz_gP (pc' := 92) (c' := 20) fl_X3_40.r ga0 rfl dX3_runDomain_89 rfl (fun b37 gb37 => ?_)
              refine hz_iload_n (pc' := 93) (j := 1) dX3_runDomain_92 rfl rfl rfl ?_
              refine hz_dup2 (pc' := 94) dX3_runDomain_93 rfl rfl rfl ?_
              refine hz_iald (pc' := 95) gb37 dX3_runDomain_94 rfl (fun v38 => ?_)
              refine hz_iconst (pc' := 96) (v := 1) dX3_runDomain_95 rfl (by decide) ?_
              refine hz_iadd (pc' := 97) dX3_runDomain_96 rfl ?_
              refine hz_iast (pc' := 98) gb37 dX3_runDomain_97 rfl (fun w39 => ?_)
              exact hz_loc [0, 1, 2, 3, 4] rfl (hq11 w39)
        · refine hz_icmpge (pc' := 73) (tgt := 83) dX3_runDomain_70 (by decide) rfl ?_ ?_
          · exact hz_loc [1, 2, 3, 5, 0] rfl (hq10 q9.2)
          · refine hz_aload_n (pc' := 74) (j := 1) dX3_runDomain_73 rfl rfl rfl ?_
            refine hz_gP (pc' := 77) (c' := 20) fl_X3_37.r ga0 rfl dX3_runDomain_74 rfl (fun b40 gb40 => ?_)
            refine hz_iload_n (pc' := 78) (j := 2) dX3_runDomain_77 rfl rfl rfl ?_
            refine hz_dup2 (pc' := 79) dX3_runDomain_78 rfl rfl rfl ?_
            refine hz_iald (pc' := 80) gb40 dX3_runDomain_79 rfl (fun v41 => ?_)
            refine hz_iconst (pc' := 81) (v := 1) dX3_runDomain_80 rfl (by decide) ?_
            refine hz_iadd (pc' := 82) dX3_runDomain_81 rfl ?_
            refine hz_iast (pc' := 83) gb40 dX3_runDomain_82 rfl (fun w42 => ?_)
            exact hz_loc [1, 2, 3, 5, 0] rfl (hq10 w42)
      · refine hz_ifeq (pc' := 46) (tgt := 64) dX3_runDomain_43 (by decide) rfl ?_ ?_
        · refine hz_iconst (pc' := 65) (v := 0) dX3_runDomain_64 rfl (by decide) ?_
          exact hz_loc [1, 2, 3, 4, 0] rfl (hq9 (0, q8.2))
        · refine hz_iload (pc' := 48) (j := 0) dX3_runDomain_46 rfl rfl ?_
          refine hz_ifne (pc' := 51) (tgt := 64) dX3_runDomain_48 (by decide) rfl ?_ ?_
          · refine hz_iconst (pc' := 65) (v := 0) dX3_runDomain_64 rfl (by decide) ?_
            exact hz_loc [1, 2, 3, 4, 0] rfl (hq9 (0, q8.2))
          · refine hz_aload_n (pc' := 52) (j := 1) dX3_runDomain_51 rfl rfl rfl ?_
            refine hz_iload_n (pc' := 53) (j := 2) dX3_runDomain_52 rfl rfl rfl ?_
            refine hz_iconst (pc' := 54) (v := 0) dX3_runDomain_53 rfl (by decide) ?_
            refine hz_cVi (pc' := 57) (av := [.int x1, .int 0]) (rest := []) vl_X3_145 (fun x w' h => ct_X3_isTooHot hl h) ga0 rfl rfl (Nat.le_of_ble_eq_true rfl) (by decide) (by decide) rfl dX3_runDomain_54 rfl (fun v44 w43 => ?_)
            refine hz_ifeq (pc' := 60) (tgt := 64) dX3_runDomain_57 (by decide) rfl ?_ ?_
            · refine hz_iconst (pc' := 65) (v := 0) dX3_runDomain_64 rfl (by decide) ?_
              exact hz_loc [1, 2, 3, 4, 0] rfl (hq9 (0, w43))
            · refine hz_iconst (pc' := 61) (v := 1) dX3_runDomain_60 rfl (by decide) ?_
              refine hz_goto (tgt := 65) dX3_runDomain_61 (by decide) ?_
              exact hz_loc [1, 2, 3, 4, 0] rfl (hq9 (1, w43))
    · refine hz_ifeq (pc' := 30) (tgt := 39) dX3_runDomain_27 (by decide) rfl ?_ ?_
      · refine hz_iload_n (pc' := 40) (j := 0) dX3_runDomain_39 rfl rfl rfl ?_
        exact hz_loc [2, 3, 1, 0] rfl (hq8 (v7, w6))
      · refine hz_aload_n (pc' := 31) (j := 2) dX3_runDomain_30 rfl rfl rfl ?_
        refine hz_iload_n (pc' := 32) (j := 3) dX3_runDomain_31 rfl rfl rfl ?_
        refine hz_iload_n (pc' := 33) (j := 0) dX3_runDomain_32 rfl rfl rfl ?_
        refine hz_cVi (pc' := 36) (av := [.int x1, .int v7]) (rest := []) vl_X3_142 (fun x w' h => ct_X3_coolLevel hl h) ga0 rfl rfl (Nat.le_of_ble_eq_true rfl) (by decide) (by decide) rfl dX3_runDomain_33 rfl (fun v46 w45 => ?_)
        refine hz_goto (tgt := 40) dX3_runDomain_36 (by decide) ?_
        exact hz_loc [2, 3, 1, 0] rfl (hq8 (v46, w45))
  · refine hz_ifle (pc' := 9) (tgt := 13) dX3_runDomain_6 (by decide) rfl ?_ ?_
    · refine hz_iconst (pc' := 14) (v := 0) dX3_runDomain_13 rfl (by decide) ?_
      exact hz_loc [0, 1] rfl (hq3 0)
    · refine hz_iconst (pc' := 10) (v := 1) dX3_runDomain_9 rfl (by decide) ?_
      refine hz_goto (tgt := 14) dX3_runDomain_10 (by decide) ?_
      exact hz_loc [0, 1] rfl (hq3 1)
def lp_X3_assignJobs_2 (c0 : Nat) (c1 : Int32) : Nat → (Int32 × MW) → Option (MW)
  | 0, _ => none
  | N + 1, v0 => hz_ldp v0.2 c0 0 358 3 (fun b1 => hz_ldp v0.2 b1 2 358 20 (fun b2 => hz_lda v0.2 b2 c1 (fun v3 => (if v3 ≤ v0.1 then some v0.2 else hz_ldp v0.2 c0 1 358 2 (fun b4 => hz_ldp v0.2 b4 4 358 20 (fun b5 => hz_lda v0.2 b5 c1 (fun v6 => (if v6 = 0 then some v0.2 else hz_let ((c1 * 4) + v0.1) (fun v7 => hz_ldp v0.2 c0 14 358 20 (fun b8 => hz_lda v0.2 b8 v7 (fun v9 => Option.bind ((if v9 = (-2) then hz_ldp v0.2 c0 1 358 2 (fun b12 => hz_ldp v0.2 c0 1 358 2 (fun b13 => hz_ldp v0.2 b13 4 358 20 (fun b14 => hz_lda v0.2 b14 c1 (fun v15 => hz_b (f_X1_firstByDeadline b12 v15 v0.2) (fun v17 w16 => hz_ldp w16 c0 1 358 2 (fun b18 => hz_ldp w16 b18 4 358 20 (fun b19 => hz_ldp w16 c0 1 358 2 (fun b20 => hz_ldp w16 b20 4 358 20 (fun b21 => hz_lda w16 b21 c1 (fun v22 => hz_b (f_X9_without v22 v17 w16) (fun v24 w23 => hz_sta w23 b19 c1 v24 (fun w25 => hz_ldp w25 c0 14 358 20 (fun b26 => hz_sta w25 b26 v7 v17 (fun w27 => some w27)))))))))))))) else some v0.2)) (fun q10 : MW => hz_let (v0.1 + Int32.ofInt 1) (fun v11 => lp_X3_assignJobs_2 c0 c1 N (v11, q10))))))))))))))
def f_X3_assignJobs (a0 : Nat) (x1 : Int32) (w : MW) : Option (MW) :=
  hz_gd (hz_g 358 a0 4) (Option.bind (lp_X3_assignJobs_2 a0 x1 3000 (0, w)) (fun q2 : MW => some q2))
set_option maxHeartbeats 4000000 in
set_option maxRecDepth 100000 in
theorem ct_X3_assignJobs {l : Launch} (hl : l.stackTraces = false) {B : Bt} {a0 : Nat} {x1 : Int32} {w : MW} {r : MW} (h : f_X3_assignJobs a0 x1 w = some r) : hz_Met l B false 358 358 yX3_assignJobs cX3_assignJobs 5 (Option.none : Option FieldType) 4 0 0 [.ref (B.1 + a0), .int x1] w none r := by
  refine hz_ofJ (rv := (fun _ : MW => none)) (wo := (fun r : MW => r)) (own := RX3) (ini := false) hl (by decide) rfl (Or.inr rfl) (Nat.le_of_ble_eq_true rfl) rfl ?_ h
  intro p e s m args below meth c
  unfold f_X3_assignJobs
  refine hz_gdr (fun ga0 => ?_)
  refine hz_iconst (pc' := 1) (v := 0) dX3_assignJobs_0 rfl (by decide) ?_
  refine hz_istore_n (pc' := 2) (L' := [(2, .int 0), (0, .ref (B.1 + a0)), (1, .int x1)]) dX3_assignJobs_1 rfl rfl (by decide) rfl ?_
  refine hz_bindJ (pcJ := 99) (LJ := fun q2 : MW => []) (stJ := fun _ => []) (kJ := 0) (slJ := 0) (nJ := 358) (wJ := fun q2 : MW => q2) (fun q2 => ?_) (fun hq2 => ?_)
  · exact hz_retv dX3_assignJobs_99 rfl (by decide)
  · refine hz_loc [1, 2, 0] rfl (hz_loopJ (lp := lp_X3_assignJobs_2 a0 x1) (Lh := fun v1 : Int32 × MW => [(0, .ref (B.1 + a0)), (1, .int x1), (2, .int v1.1)]) (wh := fun v1 : Int32 × MW => v1.2) (fun _ => rfl) (fun Nv1 ihv1 v1 => ?_) 3000 (0, w))
    rw [lp_X3_assignJobs_2]
    refine hz_iload_n (pc' := 3) (j := 2) dX3_assignJobs_2 rfl rfl rfl ?_
    refine hz_aload_n (pc' := 4) (j := 0) dX3_assignJobs_3 rfl rfl rfl ?_
    refine hz_gP (pc' := 7) (c' := 3) fl_X3_52.r ga0 rfl dX3_assignJobs_4 rfl (fun b3 gb3 => ?_)
    refine hz_gP (pc' := 10) (c' := 20) fl_X3_114 gb3 rfl dX3_assignJobs_7 rfl (fun b4 gb4 => ?_)
    refine hz_iload_n (pc' := 11) (j := 1) dX3_assignJobs_10 rfl rfl rfl ?_
    refine hz_iald (pc' := 12) gb4 dX3_assignJobs_11 rfl (fun v5 => ?_)
    refine hz_icmpge (pc' := 15) (tgt := 99) dX3_assignJobs_12 (by decide) rfl ?_ ?_
    · exact hz_loc [] rfl (hq2 v1.2)
    · refine hz_aload_n (pc' := 16) (j := 0) dX3_assignJobs_15 rfl rfl rfl ?_
      refine hz_gP (pc' := 19) (c' := 2) fl_X3_12.r ga0 rfl dX3_assignJobs_16 rfl (fun b6 gb6 => ?_)
      refine hz_gP (pc' := 22) (c' := 20) fl_X3_127 gb6 rfl dX3_assignJobs_19 rfl (fun b7 gb7 => ?_)
      refine hz_iload_n (pc' := 23) (j := 1) dX3_assignJobs_22 rfl rfl rfl ?_
      refine hz_iald (pc' := 24) gb7 dX3_assignJobs_23 rfl (fun v8 => ?_)
      refine hz_ifeq (pc' := 27) (tgt := 99) dX3_assignJobs_24 (by decide) rfl ?_ ?_
      · exact hz_loc [] rfl (hq2 v1.2)
      · refine hz_iload_n (pc' := 28) (j := 1) dX3_assignJobs_27 rfl rfl rfl ?_
        refine hz_iconst (pc' := 29) (v := 4) dX3_assignJobs_28 rfl (by decide) ?_
        refine hz_imul (pc' := 30) dX3_assignJobs_29 rfl ?_
        refine hz_iload_n (pc' := 31) (j := 2) dX3_assignJobs_30 rfl rfl rfl ?_
        refine hz_iadd (pc' := 32) dX3_assignJobs_31 rfl ?_
        refine hz_nameI (fun v9 => ?_)
        refine hz_istore_n (pc' := 33) (L' := [(3, .int v9), (0, .ref (B.1 + a0)), (1, .int x1), (2, .int v1.1)]) dX3_assignJobs_32 rfl rfl (by decide) rfl ?_
        refine hz_aload_n (pc' := 34) (j := 1) dX3_assignJobs_33 rfl rfl rfl ?_
        refine hz_gP (pc' := 37) (c' := 20) fl_X3_49.r ga0 rfl dX3_assignJobs_34 rfl (fun b10 gb10 => ?_)
        refine hz_iload_n (pc' := 38) (j := 0) dX3_assignJobs_37 rfl rfl rfl ?_
        refine hz_iald (pc' := 39) gb10 dX3_assignJobs_38 rfl (fun v11 => ?_)
        refine hz_bipush (pc' := 41) (v := (-2)) dX3_assignJobs_39 rfl (by decide) ?_
        refine hz_bindJ (pcJ := 93) (LJ := fun q12 : MW => [(0, .ref (B.1 + a0)), (1, .int x1), (2, .int v1.1)]) (stJ := fun q12 : MW => []) (kJ := 0) (slJ := 0) (nJ := 358) (wJ := fun q12 : MW => q12) (fun q12 => ?_) (fun hq12 => ?_)
        · refine hz_iincN (pc' := 96) (j := 2) (fun v13 => [(2, .int v13), (0, .ref (B.1 + a0)), (1, .int x1)]) dX3_assignJobs_93 rfl rfl (by decide) (fun _ => rfl) (fun v13 => ?_)
          refine hz_goto (tgt := 2) dX3_assignJobs_96 (by decide) ?_
          exact hz_loc [1, 2, 0] rfl (ihv1 (v13, q12))
        · refine hz_icmpne (pc' := 44) (tgt := 93) dX3_assignJobs_41 (by decide) rfl ?_ ?_
          · exact hz_loc [1, 2, 3] rfl (hq12 v1.2)
          · refine hz_aload_n (pc' := 45) (j := 1) dX3_assignJobs_44 rfl rfl rfl ?_
            refine hz_gP (pc' := 48) (c' := 2) fl_X3_12.r ga0 rfl dX3_assignJobs_45 rfl (fun b14 gb14 => ?_)
            refine hz_aload_n (pc' := 49) (j := 1) dX3_assignJobs_48 rfl rfl rfl ?_
            refine hz_gP (pc' := 52) (c' := 2) fl_X3_12.r ga0 rfl dX3_assignJobs_49 rfl (fun b15 gb15 => ?_)
            refine hz_gP (pc' := 55) (c' := 20) fl_X3_127 gb15 rfl dX3_assignJobs_52 rfl (fun b16 gb16 => ?_)
            refine hz_iload_n (pc' := 56) (j := 2) dX3_assignJobs_55 rfl rfl rfl ?_
            refine hz_iald (pc' := 57) gb16 dX3_assignJobs_56 rfl (fun v17 => ?_)
            refine hz_cVi (pc' := 60) (av := [.int v17]) (rest := []) vl_X3_130 (fun x w' h => ct_X1_firstByDeadline hl h) gb14 rfl rfl (Nat.le_of_ble_eq_true rfl) (by decide) (by decide) rfl dX3_assignJobs_57 rfl (fun v19 w18 => ?_)
            refine hz_istore (pc' := 62) (L' := [(4, .int v19), (3, .int v9), (0, .ref (B.1 + a0)), (1, .int x1), (2, .int v1.1)]) dX3_assignJobs_60 rfl (by decide) rfl ?_
            refine hz_aload_n (pc' := 63) (j := 2) dX3_assignJobs_62 rfl rfl rfl ?_
            refine hz_gP (pc' := 66) (c' := 2) fl_X3_12.r ga0 rfl dX3_assignJobs_63 rfl (fun b20 gb20 => ?_)
            refine hz_gP (pc' := 69) (c' := 20) fl_X3_127 gb20 rfl dX3_assignJobs_66 rfl (fun b21 gb21 => ?_)
            refine hz_iload_n (pc' := 70) (j := 3) dX3_assignJobs_69 rfl rfl rfl ?_
            refine hz_aload_n (pc' := 71) (j := 2) dX3_assignJobs_70 rfl rfl rfl ?_
            refine hz_gP (pc' := 74) (c' := 2) fl_X3_12.r ga0 rfl dX3_assignJobs_71 rfl (fun b22 gb22 => ?_)
            refine hz_gP (pc' := 77) (c' := 20) fl_X3_127 gb22 rfl dX3_assignJobs_74 rfl (fun b23 gb23 => ?_)
            refine hz_iload_n (pc' := 78) (j := 3) dX3_assignJobs_77 rfl rfl rfl ?_
            refine hz_iald (pc' := 79) gb23 dX3_assignJobs_78 rfl (fun v24 => ?_)
            refine hz_iload (pc' := 81) (j := 0) dX3_assignJobs_79 rfl rfl ?_
            refine hz_cSNi (pc' := 84) (av := [.int v24, .int v19]) (rest := [.int x1, .ref (B.1 + b21)]) snl_X3_133 (fun x w' h => ct_X9_without hl h) rfl rfl (Nat.le_of_ble_eq_true rfl) (by decide) (by decide) rfl dX3_assignJobs_81 rfl (fun v26 w25 => ?_)
            refine hz_iast (pc' := 85) gb21 dX3_assignJobs_84 rfl (fun w27 => ?_)
            refine hz_aload_n (pc' := 86) (j := 2) dX3_assignJobs_85 rfl rfl rfl ?_
            refine hz_gP (pc' := 89) (c' := 20) fl_X3_49.r ga0 rfl dX3_assignJobs_86 rfl (fun b28 gb28 => ?_)
            refine hz_iload_n (pc' := 90) (j := 1) dX3_assignJobs_89 rfl rfl rfl ?_
            refine hz_iload (pc' := 92) (j := 0) dX3_assignJobs_90 rfl rfl ?_
            refine hz_iast (pc' := 93) gb28 dX3_assignJobs_92 rfl (fun w29 => ?_)
            exact hz_loc [2, 3, 4] rfl (hq12 w29)
def lp_X3_countBusyCores_4 (c0 : Nat) (c1 : Int32) (cw : MW) : Nat → (Int32 × Int32) → Option (Int32)
  | 0, _ => none
  | N + 1, v0 => hz_ldp cw c0 0 358 3 (fun b1 => hz_ldp cw b1 2 358 20 (fun b2 => hz_lda cw b2 c1 (fun v3 => (if v3 ≤ v0.2 then some v0.1 else hz_ldp cw c0 14 358 20 (fun b4 => hz_lda cw b4 ((c1 * 4) + v0.2) (fun v5 => Option.bind ((if v5 = (-2) then some v0.1 else hz_let (v0.1 + Int32.ofInt 1) (fun v8 => some v8))) (fun q6 : Int32 => hz_let (v0.2 + Int32.ofInt 1) (fun v7 => lp_X3_countBusyCores_4 c0 c1 cw N (q6, v7)))))))))
def f_X3_countBusyCores (a0 : Nat) (x1 : Int32) (w : MW) : Option (Int32 × MW) :=
  hz_gd (hz_g 358 a0 4) (Option.bind (lp_X3_countBusyCores_4 a0 x1 w 3000 (0, 0)) (fun q2 : Int32 => some (q2, w)))
set_option maxHeartbeats 4000000 in
set_option maxRecDepth 100000 in
theorem ct_X3_countBusyCores {l : Launch} (hl : l.stackTraces = false) {B : Bt} {a0 : Nat} {x1 : Int32} {w : MW} {r : Int32 × MW} (h : f_X3_countBusyCores a0 x1 w = some r) : hz_Met l B false 358 358 yX3_countBusyCores cX3_countBusyCores 4 (Option.some FieldType.int) 2 0 0 [.ref (B.1 + a0), .int x1] w (some (.int r.1)) r.2 := by
  refine hz_ofJ (rv := (fun r : Int32 × MW => some (.int r.1))) (wo := (fun r : Int32 × MW => r.2)) (own := RX3) (ini := false) hl (by decide) rfl (Or.inr rfl) (Nat.le_of_ble_eq_true rfl) rfl ?_ h
  intro p e s m args below meth c
  unfold f_X3_countBusyCores
  refine hz_gdr (fun ga0 => ?_)
  refine hz_iconst (pc' := 1) (v := 0) dX3_countBusyCores_0 rfl (by decide) ?_
  refine hz_istore_n (pc' := 2) (L' := [(2, .int 0), (0, .ref (B.1 + a0)), (1, .int x1)]) dX3_countBusyCores_1 rfl rfl (by decide) rfl ?_
  refine hz_iconst (pc' := 3) (v := 0) dX3_countBusyCores_2 rfl (by decide) ?_
  refine hz_istore_n (pc' := 4) (L' := [(3, .int 0), (2, .int 0), (0, .ref (B.1 + a0)), (1, .int x1)]) dX3_countBusyCores_3 rfl rfl (by decide) rfl ?_
  refine hz_bindJ (pcJ := 41) (LJ := fun q2 : Int32 => [(2, .int q2)]) (stJ := fun _ => []) (kJ := 0) (slJ := 0) (nJ := 358) (wJ := fun q2 : Int32 => w) (fun q2 => ?_) (fun hq2 => ?_)
  · refine hz_iload_n (pc' := 42) (j := 0) dX3_countBusyCores_41 rfl rfl rfl ?_
    exact hz_reti dX3_countBusyCores_42 rfl (by decide)
  · refine hz_loc [2, 3, 1, 0] rfl (hz_loopJ (lp := lp_X3_countBusyCores_4 a0 x1 w) (Lh := fun v1 : Int32 × Int32 => [(0, .ref (B.1 + a0)), (1, .int x1), (2, .int v1.1), (3, .int v1.2)]) (wh := fun v1 : Int32 × Int32 => w) (fun _ => rfl) (fun Nv1 ihv1 v1 => ?_) 3000 (0, 0))
    rw [lp_X3_countBusyCores_4]
    refine hz_iload_n (pc' := 5) (j := 3) dX3_countBusyCores_4 rfl rfl rfl ?_
    refine hz_aload_n (pc' := 6) (j := 0) dX3_countBusyCores_5 rfl rfl rfl ?_
    refine hz_gP (pc' := 9) (c' := 3) fl_X3_52.r ga0 rfl dX3_countBusyCores_6 rfl (fun b3 gb3 => ?_)
    refine hz_gP (pc' := 12) (c' := 20) fl_X3_114 gb3 rfl dX3_countBusyCores_9 rfl (fun b4 gb4 => ?_)
    refine hz_iload_n (pc' := 13) (j := 1) dX3_countBusyCores_12 rfl rfl rfl ?_
    refine hz_iald (pc' := 14) gb4 dX3_countBusyCores_13 rfl (fun v5 => ?_)
    refine hz_icmpge (pc' := 17) (tgt := 41) dX3_countBusyCores_14 (by decide) rfl ?_ ?_
    · exact hz_loc [2] rfl (hq2 v1.1)
    · refine hz_aload_n (pc' := 18) (j := 0) dX3_countBusyCores_17 rfl rfl rfl ?_
      refine hz_gP (pc' := 21) (c' := 20) fl_X3_49.r ga0 rfl dX3_countBusyCores_18 rfl (fun b6 gb6 => ?_)
      refine hz_iload_n (pc' := 22) (j := 1) dX3_countBusyCores_21 rfl rfl rfl ?_
      refine hz_iconst (pc' := 23) (v := 4) dX3_countBusyCores_22 rfl (by decide) ?_
      refine hz_imul (pc' := 24) dX3_countBusyCores_23 rfl ?_
      refine hz_iload_n (pc' := 25) (j := 3) dX3_countBusyCores_24 rfl rfl rfl ?_
      refine hz_iadd (pc' := 26) dX3_countBusyCores_25 rfl ?_
      refine hz_iald (pc' := 27) gb6 dX3_countBusyCores_26 rfl (fun v7 => ?_)
      refine hz_bipush (pc' := 29) (v := (-2)) dX3_countBusyCores_27 rfl (by decide) ?_
      refine hz_bindJ (pcJ := 35) (LJ := fun q8 : Int32 => [(0, .ref (B.1 + a0)), (1, .int x1), (2, .int q8), (3, .int v1.2)]) (stJ := fun q8 : Int32 => []) (kJ := 0) (slJ := 0) (nJ := 358) (wJ := fun q8 : Int32 => w) (fun q8 => ?_) (fun hq8 => ?_)
      · refine hz_iincN (pc' := 38) (j := 3) (fun v9 => [(3, .int v9), (0, .ref (B.1 + a0)), (1, .int x1), (2, .int q8)]) dX3_countBusyCores_35 rfl rfl (by decide) (fun _ => rfl) (fun v9 => ?_)
        refine hz_goto (tgt := 4) dX3_countBusyCores_38 (by decide) ?_
        exact hz_loc [1, 2, 3, 0] rfl (ihv1 (q8, v9))
      · refine hz_icmpeq (pc' := 32) (tgt := 35) dX3_countBusyCores_29 (by decide) rfl ?_ ?_
        · exact hz_loc [0, 1, 2, 3] rfl (hq8 v1.1)
        · refine hz_iincN (pc' := 35) (j := 2) (fun v10 => [(2, .int v10), (0, .ref (B.1 + a0)), (1, .int x1), (3, .int v1.2)]) dX3_countBusyCores_32 rfl rfl (by decide) (fun _ => rfl) (fun v10 => ?_)
          exact hz_loc [1, 2, 0, 3] rfl (hq8 v10)
def f_X3_releaseJobs (a0 : Nat) (x1 : Int32) (x2 : Int32) (w : MW) : Option (MW) :=
  hz_gd (hz_g 358 a0 4) (hz_ldp w a0 1 358 2 (fun b1 => hz_ldp w b1 3 358 20 (fun b2 => hz_lda w b2 x1 (fun v3 => Option.bind ((if v3 = 0 then some w else (if x2 = 0 then hz_ldp w a0 1 358 2 (fun b15 => hz_b (f_X1_leastSlackEnd b15 v3 w) (fun v17 w16 => (if (w16.1 a0 2) < v17 then some w16 else hz_ldp w16 a0 1 358 2 (fun b18 => hz_b (f_X1_releasedBy b18 (w16.1 a0 2) v3 w16) (fun v20 w19 => hz_ldp w19 a0 1 358 2 (fun b21 => hz_ldp w19 b21 3 358 20 (fun b22 => hz_sta w19 b22 x1 (v3 &&& (v20 ^^^ (-1))) (fun w23 => hz_ldp w23 a0 1 358 2 (fun b24 => hz_ldp w23 b24 4 358 20 (fun b25 => hz_lda w23 b25 x1 (fun v26 => hz_sta w23 b25 x1 (v26 ||| v20) (fun w27 => some w27)))))))))))) else hz_ldp w a0 1 358 2 (fun b5 => hz_b (f_X1_releasedBy b5 (w.1 a0 2) v3 w) (fun v7 w6 => hz_ldp w6 a0 1 358 2 (fun b8 => hz_ldp w6 b8 3 358 20 (fun b9 => hz_sta w6 b9 x1 (v3 &&& (v7 ^^^ (-1))) (fun w10 => hz_ldp w10 a0 1 358 2 (fun b11 => hz_ldp w10 b11 4 358 20 (fun b12 => hz_lda w10 b12 x1 (fun v13 => hz_sta w10 b12 x1 (v13 ||| v7) (fun w14 => some w14)))))))))))) (fun q4 : MW => some q4)))))
set_option maxHeartbeats 4000000 in
set_option maxRecDepth 100000 in
theorem ct_X3_releaseJobs {l : Launch} (hl : l.stackTraces = false) {B : Bt} {a0 : Nat} {x1 : Int32} {x2 : Int32} {w : MW} {r : MW} (h : f_X3_releaseJobs a0 x1 x2 w = some r) : hz_Met l B false 358 358 yX3_releaseJobs cX3_releaseJobs 5 (Option.none : Option FieldType) 4 0 0 [.ref (B.1 + a0), .int x1, .int x2] w none r := by
  refine hz_ofJ (rv := (fun _ : MW => none)) (wo := (fun r : MW => r)) (own := RX3) (ini := false) hl (by decide) rfl (Or.inr rfl) (Nat.le_of_ble_eq_true rfl) rfl ?_ h
  intro p e s m args below meth c
  unfold f_X3_releaseJobs
  refine hz_gdr (fun ga0 => ?_)
  refine hz_aload_n (pc' := 1) (j := 0) dX3_releaseJobs_0 rfl rfl rfl ?_
  refine hz_gP (pc' := 4) (c' := 2) fl_X3_12.r ga0 rfl dX3_releaseJobs_1 rfl (fun b1 gb1 => ?_)
  refine hz_gP (pc' := 7) (c' := 20) fl_X3_117 gb1 rfl dX3_releaseJobs_4 rfl (fun b2 gb2 => ?_)
  refine hz_iload_n (pc' := 8) (j := 1) dX3_releaseJobs_7 rfl rfl rfl ?_
  refine hz_iald (pc' := 9) gb2 dX3_releaseJobs_8 rfl (fun v3 => ?_)
  refine hz_istore_n (pc' := 10) (L' := [(3, .int v3), (0, .ref (B.1 + a0)), (1, .int x1), (2, .int x2)]) dX3_releaseJobs_9 rfl rfl (by decide) rfl ?_
  refine hz_iload_n (pc' := 11) (j := 0) dX3_releaseJobs_10 rfl rfl rfl ?_
  refine hz_bindJ (pcJ := 76) (LJ := fun q4 : MW => []) (stJ := fun q4 : MW => []) (kJ := 0) (slJ := 0) (nJ := 358) (wJ := fun q4 : MW => q4) (fun q4 => ?_) (fun hq4 => ?_)
  · exact hz_retv dX3_releaseJobs_76 rfl (by decide)
  · refine hz_ifeq (pc' := 14) (tgt := 76) dX3_releaseJobs_11 (by decide) rfl ?_ ?_
    · exact hz_loc [] rfl (hq4 w)
    · refine hz_iload_n (pc' := 15) (j := 3) dX3_releaseJobs_14 rfl rfl rfl ?_
      refine hz_ifne (pc' := 18) (tgt := 33) dX3_releaseJobs_15 (by decide) rfl ?_ ?_
      · refine hz_aload_n (pc' := 34) (j := 1) dX3_releaseJobs_33 rfl rfl rfl ?_
        refine hz_gP (pc' := 37) (c' := 2) fl_X3_12.r ga0 rfl dX3_releaseJobs_34 rfl (fun b5 gb5 => ?_)
        refine hz_aload_n (pc' := 38) (j := 1) dX3_releaseJobs_37 rfl rfl rfl ?_
        refine hz_gI (pc' := 41) fl_X3_59.r ga0 rfl dX3_releaseJobs_38 rfl ?_
        refine hz_iload_n (pc' := 42) (j := 0) dX3_releaseJobs_41 rfl rfl rfl ?_
        refine hz_cVi (pc' := 45) (av := [.int (w.1 a0 2), .int v3]) (rest := []) vl_X3_123 (fun x w' h => ct_X1_releasedBy hl h) gb5 rfl rfl (Nat.le_of_ble_eq_true rfl) (by decide) (by decide) rfl dX3_releaseJobs_42 rfl (fun v7 w6 => ?_)
        refine hz_istore (pc' := 47) (L' := [(4, .int v7), (3, .int v3), (0, .ref (B.1 + a0)), (1, .int x1), (2, .int x2)]) dX3_releaseJobs_45 rfl (by decide) rfl ?_
        refine hz_aload_n (pc' := 48) (j := 2) dX3_releaseJobs_47 rfl rfl rfl ?_
        refine hz_gP (pc' := 51) (c' := 2) fl_X3_12.r ga0 rfl dX3_releaseJobs_48 rfl (fun b8 gb8 => ?_)
        refine hz_gP (pc' := 54) (c' := 20) fl_X3_117 gb8 rfl dX3_releaseJobs_51 rfl (fun b9 gb9 => ?_)
        refine hz_iload_n (pc' := 55) (j := 3) dX3_releaseJobs_54 rfl rfl rfl ?_
        refine hz_iload_n (pc' := 56) (j := 1) dX3_releaseJobs_55 rfl rfl rfl ?_
        refine hz_iload (pc' := 58) (j := 0) dX3_releaseJobs_56 rfl rfl ?_
        refine hz_iconst (pc' := 59) (v := (-1)) dX3_releaseJobs_58 rfl (by decide) ?_
        refine hz_ixor (pc' := 60) dX3_releaseJobs_59 rfl ?_
        refine hz_iand (pc' := 61) dX3_releaseJobs_60 rfl ?_
        refine hz_iast (pc' := 62) gb9 dX3_releaseJobs_61 rfl (fun w10 => ?_)
        refine hz_aload_n (pc' := 63) (j := 2) dX3_releaseJobs_62 rfl rfl rfl ?_
        refine hz_gP (pc' := 66) (c' := 2) fl_X3_12.r ga0 rfl dX3_releaseJobs_63 rfl (fun b11 gb11 => ?_)
        refine hz_gP (pc' := 69) (c' := 20) fl_X3_127 gb11 rfl dX3_releaseJobs_66 rfl (fun b12 gb12 => ?_)
        refine hz_iload_n (pc' := 70) (j := 3) dX3_releaseJobs_69 rfl rfl rfl ?_
        refine hz_dup2 (pc' := 71) dX3_releaseJobs_70 rfl rfl rfl ?_
        refine hz_iald (pc' := 72) gb12 dX3_releaseJobs_71 rfl (fun v13 => ?_)
        refine hz_iload (pc' := 74) (j := 0) dX3_releaseJobs_72 rfl rfl ?_
        refine hz_ior (pc' := 75) dX3_releaseJobs_74 rfl ?_
        refine hz_iast (pc' := 76) gb12 dX3_releaseJobs_75 rfl (fun w14 => ?_)
        exact hz_loc [] rfl (hq4 w14)
      · refine hz_aload_n (pc' := 19) (j := 1) dX3_releaseJobs_18 rfl rfl rfl ?_
        refine hz_gP (pc' := 22) (c' := 2) fl_X3_12.r ga0 rfl dX3_releaseJobs_19 rfl (fun b15 gb15 => ?_)
        refine hz_iload_n (pc' := 23) (j := 0) dX3_releaseJobs_22 rfl rfl rfl ?_
        refine hz_cVi (pc' := 26) (av := [.int v3]) (rest := []) vl_X3_120 (fun x w' h => ct_X1_leastSlackEnd hl h) gb15 rfl rfl (Nat.le_of_ble_eq_true rfl) (by decide) (by decide) rfl dX3_releaseJobs_23 rfl (fun v17 w16 => ?_)
        refine hz_aload_n (pc' := 27) (j := 1) dX3_releaseJobs_26 rfl rfl rfl ?_
        refine hz_gI (pc' := 30) fl_X3_59.r ga0 rfl dX3_releaseJobs_27 rfl ?_
        refine hz_icmpgt (pc' := 33) (tgt := 76) dX3_releaseJobs_30 (by decide) rfl ?_ ?_
        · exact hz_loc [] rfl (hq4 w16)
        · refine hz_aload_n (pc' := 34) (j := 1) dX3_releaseJobs_33 rfl rfl rfl ?_
          refine hz_gP (pc' := 37) (c' := 2) fl_X3_12.r ga0 rfl dX3_releaseJobs_34 rfl (fun b18 gb18 => ?_)
          refine hz_aload_n (pc' := 38) (j := 1) dX3_releaseJobs_37 rfl rfl rfl ?_
          refine hz_gI (pc' := 41) fl_X3_59.r ga0 rfl dX3_releaseJobs_38 rfl ?_
          refine hz_iload_n (pc' := 42) (j := 0) dX3_releaseJobs_41 rfl rfl rfl ?_
          refine hz_cVi (pc' := 45) (av := [.int (w16.1 a0 2), .int v3]) (rest := []) vl_X3_123 (fun x w' h => ct_X1_releasedBy hl h) gb18 rfl rfl (Nat.le_of_ble_eq_true rfl) (by decide) (by decide) rfl dX3_releaseJobs_42 rfl (fun v20 w19 => ?_)
          refine hz_istore (pc' := 47) (L' := [(4, .int v20), (3, .int v3), (0, .ref (B.1 + a0)), (1, .int x1), (2, .int x2)]) dX3_releaseJobs_45 rfl (by decide) rfl ?_
          refine hz_aload_n (pc' := 48) (j := 2) dX3_releaseJobs_47 rfl rfl rfl ?_
          refine hz_gP (pc' := 51) (c' := 2) fl_X3_12.r ga0 rfl dX3_releaseJobs_48 rfl (fun b21 gb21 => ?_)
          refine hz_gP (pc' := 54) (c' := 20) fl_X3_117 gb21 rfl dX3_releaseJobs_51 rfl (fun b22 gb22 => ?_)
          refine hz_iload_n (pc' := 55) (j := 3) dX3_releaseJobs_54 rfl rfl rfl ?_
          refine hz_iload_n (pc' := 56) (j := 1) dX3_releaseJobs_55 rfl rfl rfl ?_
          refine hz_iload (pc' := 58) (j := 0) dX3_releaseJobs_56 rfl rfl ?_
          refine hz_iconst (pc' := 59) (v := (-1)) dX3_releaseJobs_58 rfl (by decide) ?_
          refine hz_ixor (pc' := 60) dX3_releaseJobs_59 rfl ?_
          refine hz_iand (pc' := 61) dX3_releaseJobs_60 rfl ?_
          refine hz_iast (pc' := 62) gb22 dX3_releaseJobs_61 rfl (fun w23 => ?_)
          refine hz_aload_n (pc' := 63) (j := 2) dX3_releaseJobs_62 rfl rfl rfl ?_
          refine hz_gP (pc' := 66) (c' := 2) fl_X3_12.r ga0 rfl dX3_releaseJobs_63 rfl (fun b24 gb24 => ?_)
          refine hz_gP (pc' := 69) (c' := 20) fl_X3_127 gb24 rfl dX3_releaseJobs_66 rfl (fun b25 gb25 => ?_)
          refine hz_iload_n (pc' := 70) (j := 3) dX3_releaseJobs_69 rfl rfl rfl ?_
          refine hz_dup2 (pc' := 71) dX3_releaseJobs_70 rfl rfl rfl ?_
          refine hz_iald (pc' := 72) gb25 dX3_releaseJobs_71 rfl (fun v26 => ?_)
          refine hz_iload (pc' := 74) (j := 0) dX3_releaseJobs_72 rfl rfl ?_
          refine hz_ior (pc' := 75) dX3_releaseJobs_74 rfl ?_
          refine hz_iast (pc' := 76) gb25 dX3_releaseJobs_75 rfl (fun w27 => ?_)
          exact hz_loc [] rfl (hq4 w27)
def f_X3_startJobs (a0 : Nat) (x1 : Int32) (w : MW) : Option (MW) :=
  hz_gd (hz_g 358 a0 4) (hz_b (f_X3_countBusyCores a0 x1 w) (fun v2 w1 => Option.bind ((if v2 ≤ 0 then some 0 else some 1)) (fun q3 : Int32 => hz_bv (f_X3_releaseJobs a0 x1 q3 w1) (fun w4 => hz_bv (f_X3_assignJobs a0 x1 w4) (fun w5 => hz_ldp w5 a0 13 358 20 (fun b6 => hz_b (f_X3_countBusyCores a0 x1 w5) (fun v8 w7 => hz_sta w7 b6 x1 v8 (fun w9 => Option.bind ((if q3 = 0 then hz_ldp w9 a0 13 358 20 (fun b11 => hz_lda w9 b11 x1 (fun v12 => (if v12 ≤ 0 then some w9 else hz_ldp w9 a0 12 358 20 (fun b13 => hz_lda w9 b13 x1 (fun v14 => hz_sta w9 b13 x1 (v14 + 1) (fun w15 => some w15)))))) else some w9)) (fun q10 : MW => some q10)))))))))
set_option maxHeartbeats 4000000 in
set_option maxRecDepth 100000 in
theorem ct_X3_startJobs {l : Launch} (hl : l.stackTraces = false) {B : Bt} {a0 : Nat} {x1 : Int32} {w : MW} {r : MW} (h : f_X3_startJobs a0 x1 w = some r) : hz_Met l B false 358 358 yX3_startJobs cX3_startJobs 3 (Option.none : Option FieldType) 5 0 0 [.ref (B.1 + a0), .int x1] w none r := by
  refine hz_ofJ (rv := (fun _ : MW => none)) (wo := (fun r : MW => r)) (own := RX3) (ini := false) hl (by decide) rfl (Or.inr rfl) (Nat.le_of_ble_eq_true rfl) rfl ?_ h
  intro p e s m args below meth c
  unfold f_X3_startJobs
  refine hz_gdr (fun ga0 => ?_)
  refine hz_aload_n (pc' := 1) (j := 0) dX3_startJobs_0 rfl rfl rfl ?_
  refine hz_iload_n (pc' := 2) (j := 1) dX3_startJobs_1 rfl rfl rfl ?_
  refine hz_cVi (pc' := 5) (av := [.int x1]) (rest := []) vl_X3_104 (fun x w' h => ct_X3_countBusyCores hl h) ga0 rfl rfl (Nat.le_of_ble_eq_true rfl) (by decide) (by decide) rfl dX3_startJobs_2 rfl (fun v2 w1 => ?_)
  refine hz_bindJ (pcJ := 13) (LJ := fun q3 : Int32 => [(0, .ref (B.1 + a0)), (1, .int x1)]) (stJ := fun q3 : Int32 => [.int q3]) (kJ := 0) (slJ := 0) (nJ := 358) (wJ := fun q3 : Int32 => w1) (fun q3 => ?_) (fun hq3 => ?_)
  · refine hz_istore_n (pc' := 14) (L' := [(2, .int q3), (0, .ref (B.1 + a0)), (1, .int x1)]) dX3_startJobs_13 rfl rfl (by decide) rfl ?_
    refine hz_aload_n (pc' := 15) (j := 1) dX3_startJobs_14 rfl rfl rfl ?_
    refine hz_iload_n (pc' := 16) (j := 2) dX3_startJobs_15 rfl rfl rfl ?_
    refine hz_iload_n (pc' := 17) (j := 0) dX3_startJobs_16 rfl rfl rfl ?_
    refine hz_cVv (pc' := 20) (av := [.int x1, .int q3]) (rest := []) vl_X3_107 (fun w' h => ct_X3_releaseJobs hl h) ga0 rfl rfl (Nat.le_of_ble_eq_true rfl) (by decide) (by decide) rfl dX3_startJobs_17 rfl (fun w4 => ?_)
    refine hz_aload_n (pc' := 21) (j := 1) dX3_startJobs_20 rfl rfl rfl ?_
    refine hz_iload_n (pc' := 22) (j := 2) dX3_startJobs_21 rfl rfl rfl ?_
    refine hz_cVv (pc' := 25) (av := [.int x1]) (rest := []) vl_X3_111 (fun w' h => ct_X3_assignJobs hl h) ga0 rfl rfl (Nat.le_of_ble_eq_true rfl) (by decide) (by decide) rfl dX3_startJobs_22 rfl (fun w5 => ?_)
    refine hz_aload_n (pc' := 26) (j := 1) dX3_startJobs_25 rfl rfl rfl ?_
    refine hz_gP (pc' := 29) (c' := 20) fl_X3_46.r ga0 rfl dX3_startJobs_26 rfl (fun b6 gb6 => ?_)
    refine hz_iload_n (pc' := 30) (j := 2) dX3_startJobs_29 rfl rfl rfl ?_
    refine hz_aload_n (pc' := 31) (j := 1) dX3_startJobs_30 rfl rfl rfl ?_
    refine hz_iload_n (pc' := 32) (j := 2) dX3_startJobs_31 rfl rfl rfl ?_
    refine hz_cVi (pc' := 35) (av := [.int x1]) (rest := [.int x1, .ref (B.1 + b6)]) vl_X3_104 (fun x w' h => ct_X3_countBusyCores hl h) ga0 rfl rfl (Nat.le_of_ble_eq_true rfl) (by decide) (by decide) rfl dX3_startJobs_32 rfl (fun v8 w7 => ?_)
    refine hz_iast (pc' := 36) gb6 dX3_startJobs_35 rfl (fun w9 => ?_)
    refine hz_iload_n (pc' := 37) (j := 0) dX3_startJobs_36 rfl rfl rfl ?_
    refine hz_bindJ (pcJ := 59) (LJ := fun q10 : MW => []) (stJ := fun q10 : MW => []) (kJ := 0) (slJ := 0) (nJ := 358) (wJ := fun q10 : MW => q10) (fun q10 => ?_) (fun hq10 => ?_)
    · exact hz_retv dX3_startJobs_59 rfl (by decide)
    · refine hz_ifne (pc' := 40) (tgt := 59) dX3_startJobs_37 (by decide) rfl ?_ ?_
      · exact hz_loc [] rfl (hq10 w9)
      · refine hz_aload_n (pc' := 41) (j := 1) dX3_startJobs_40 rfl rfl rfl ?_
        refine hz_gP (pc' := 44) (c' := 20) fl_X3_46.r ga0 rfl dX3_startJobs_41 rfl (fun b11 gb11 => ?_)
        refine hz_iload_n (pc' := 45) (j := 2) dX3_startJobs_44 rfl rfl rfl ?_
        refine hz_iald (pc' := 46) gb11 dX3_startJobs_45 rfl (fun v12 => ?_)
        refine hz_ifle (pc' := 49) (tgt := 59) dX3_startJobs_46 (by decide) rfl ?_ ?_
        · exact hz_loc [] rfl (hq10 w9)
        · refine hz_aload_n (pc' := 50) (j := 1) dX3_startJobs_49 rfl rfl rfl ?_
          refine hz_gP (pc' := 53) (c' := 20) fl_X3_43.r ga0 rfl dX3_startJobs_50 rfl (fun b13 gb13 => ?_)
          refine hz_iload_n (pc' := 54) (j := 2) dX3_startJobs_53 rfl rfl rfl ?_
          refine hz_dup2 (pc' := 55) dX3_startJobs_54 rfl rfl rfl ?_
          refine hz_iald (pc' := 56) gb13 dX3_startJobs_55 rfl (fun v14 => ?_)
          refine hz_iconst (pc' := 57) (v := 1) dX3_startJobs_56 rfl (by decide) ?_
          refine hz_iadd (pc' := 58) dX3_startJobs_57 rfl ?_
          refine hz_iast (pc' := 59) gb13 dX3_startJobs_58 rfl (fun w15 => ?_)
          exact hz_loc [] rfl (hq10 w15)
  · refine hz_ifle (pc' := 8) (tgt := 12) dX3_startJobs_5 (by decide) rfl ?_ ?_
    · refine hz_iconst (pc' := 13) (v := 0) dX3_startJobs_12 rfl (by decide) ?_
      exact hz_loc [0, 1] rfl (hq3 0)
    · refine hz_iconst (pc' := 9) (v := 1) dX3_startJobs_8 rfl (by decide) ?_
      refine hz_goto (tgt := 13) dX3_startJobs_9 (by decide) ?_
      exact hz_loc [0, 1] rfl (hq3 1)
def lp_X3_passTick_4 (c0 : Nat) : Nat → (Int32 × Int32 × MW) → Option (Int32 × MW)
  | 0, _ => none
  | N + 1, v0 => hz_ldp v0.2.2 c0 0 358 3 (fun b1 => (if (v0.2.2.1 b1 1) ≤ v0.2.1 then some (v0.1, v0.2.2) else hz_bv (f_X3_startJobs c0 v0.2.1 v0.2.2) (fun w2 => hz_b (f_X3_runDomain c0 v0.2.1 w2) (fun v4 w3 => hz_let (v0.1 + v4) (fun v5 => hz_let (v0.2.1 + Int32.ofInt 1) (fun v6 => lp_X3_passTick_4 c0 N (v5, v6, w3)))))))
def f_X3_passTick (a0 : Nat) (w : MW) : Option (Int32 × MW) :=
  hz_gd (hz_g 358 a0 4) (Option.bind (lp_X3_passTick_4 a0 3000 (0, 0, w)) (fun q2 : Int32 × MW => hz_let (hz_pn q2.2 a0 2 ((q2.2.1 a0 2) + 1)) (fun w3 => some (q2.1, w3))))
set_option maxHeartbeats 4000000 in
set_option maxRecDepth 100000 in
theorem ct_X3_passTick {l : Launch} (hl : l.stackTraces = false) {B : Bt} {a0 : Nat} {w : MW} {r : Int32 × MW} (h : f_X3_passTick a0 w = some r) : hz_Met l B false 358 358 yX3_passTick cX3_passTick 3 (Option.some FieldType.int) 6 0 0 [.ref (B.1 + a0)] w (some (.int r.1)) r.2 := by
  refine hz_ofJ (rv := (fun r : Int32 × MW => some (.int r.1))) (wo := (fun r : Int32 × MW => r.2)) (own := RX3) (ini := false) hl (by decide) rfl (Or.inr rfl) (Nat.le_of_ble_eq_true rfl) rfl ?_ h
  intro p e s m args below meth c
  unfold f_X3_passTick
  refine hz_gdr (fun ga0 => ?_)
  refine hz_iconst (pc' := 1) (v := 0) dX3_passTick_0 rfl (by decide) ?_
  refine hz_istore_n (pc' := 2) (L' := [(1, .int 0), (0, .ref (B.1 + a0))]) dX3_passTick_1 rfl rfl (by decide) rfl ?_
  refine hz_iconst (pc' := 3) (v := 0) dX3_passTick_2 rfl (by decide) ?_
  refine hz_istore_n (pc' := 4) (L' := [(2, .int 0), (1, .int 0), (0, .ref (B.1 + a0))]) dX3_passTick_3 rfl rfl (by decide) rfl ?_
  refine hz_bindJ (pcJ := 34) (LJ := fun q2 : Int32 × MW => [(0, .ref (B.1 + a0)), (1, .int q2.1)]) (stJ := fun _ => []) (kJ := 0) (slJ := 0) (nJ := 358) (wJ := fun q2 : Int32 × MW => q2.2) (fun q2 => ?_) (fun hq2 => ?_)
  · refine hz_aload_n (pc' := 35) (j := 0) dX3_passTick_34 rfl rfl rfl ?_
    refine hz_dup (pc' := 36) dX3_passTick_35 rfl rfl ?_
    refine hz_gI (pc' := 39) fl_X3_59.r ga0 rfl dX3_passTick_36 rfl ?_
    refine hz_iconst (pc' := 40) (v := 1) dX3_passTick_39 rfl (by decide) ?_
    refine hz_iadd (pc' := 41) dX3_passTick_40 rfl ?_
    refine hz_putI (pc' := 44) fl_X3_59 ga0 rfl dX3_passTick_41 rfl (fun w3 => ?_)
    refine hz_iload_n (pc' := 45) (j := 1) dX3_passTick_44 rfl rfl rfl ?_
    exact hz_reti dX3_passTick_45 rfl (by decide)
  · refine hz_loc [2, 1, 0] rfl (hz_loopJ (lp := lp_X3_passTick_4 a0) (Lh := fun v1 : Int32 × Int32 × MW => [(0, .ref (B.1 + a0)), (1, .int v1.1), (2, .int v1.2.1)]) (wh := fun v1 : Int32 × Int32 × MW => v1.2.2) (fun _ => rfl) (fun Nv1 ihv1 v1 => ?_) 3000 (0, 0, w))
    rw [lp_X3_passTick_4]
    refine hz_iload_n (pc' := 5) (j := 2) dX3_passTick_4 rfl rfl rfl ?_
    refine hz_aload_n (pc' := 6) (j := 0) dX3_passTick_5 rfl rfl rfl ?_
    refine hz_gP (pc' := 9) (c' := 3) fl_X3_52.r ga0 rfl dX3_passTick_6 rfl (fun b4 gb4 => ?_)
    refine hz_gI (pc' := 12) fl_X3_86.r gb4 rfl dX3_passTick_9 rfl ?_
    refine hz_icmpge (pc' := 15) (tgt := 34) dX3_passTick_12 (by decide) rfl ?_ ?_
    · exact hz_loc [0, 1] rfl (hq2 (v1.1, v1.2.2))
    · refine hz_aload_n (pc' := 16) (j := 0) dX3_passTick_15 rfl rfl rfl ?_
      refine hz_iload_n (pc' := 17) (j := 2) dX3_passTick_16 rfl rfl rfl ?_
      refine hz_cVv (pc' := 20) (av := [.int v1.2.1]) (rest := []) vl_X3_97 (fun w' h => ct_X3_startJobs hl h) ga0 rfl rfl (Nat.le_of_ble_eq_true rfl) (by decide) (by decide) rfl dX3_passTick_17 rfl (fun w5 => ?_)
      refine hz_iload_n (pc' := 21) (j := 1) dX3_passTick_20 rfl rfl rfl ?_
      refine hz_aload_n (pc' := 22) (j := 0) dX3_passTick_21 rfl rfl rfl ?_
      refine hz_iload_n (pc' := 23) (j := 2) dX3_passTick_22 rfl rfl rfl ?_
      refine hz_cVi (pc' := 26) (av := [.int v1.2.1]) (rest := [.int v1.1]) vl_X3_100 (fun x w' h => ct_X3_runDomain hl h) ga0 rfl rfl (Nat.le_of_ble_eq_true rfl) (by decide) (by decide) rfl dX3_passTick_23 rfl (fun v7 w6 => ?_)
      refine hz_iadd (pc' := 27) dX3_passTick_26 rfl ?_
      refine hz_nameI (fun v8 => ?_)
      refine hz_istore_n (pc' := 28) (L' := [(1, .int v8), (0, .ref (B.1 + a0)), (2, .int v1.2.1)]) dX3_passTick_27 rfl rfl (by decide) rfl ?_
      refine hz_iincN (pc' := 31) (j := 2) (fun v9 => [(2, .int v9), (1, .int v8), (0, .ref (B.1 + a0))]) dX3_passTick_28 rfl rfl (by decide) (fun _ => rfl) (fun v9 => ?_)
      refine hz_goto (tgt := 4) dX3_passTick_31 (by decide) ?_
      exact hz_loc [2, 1, 0] rfl (ihv1 (v8, v9, w6))
def lp_X3_passTicksUntilOver_2 (c0 : Nat) : Nat → (Int32 × MW) → Option (MW)
  | 0, _ => none
  | N + 1, v0 => (if 1000 ≤ v0.1 then some v0.2 else hz_ldp v0.2 c0 1 358 2 (fun b1 => hz_b (f_X1_areOver b1 v0.2) (fun v3 w2 => (if v3 = 0 then hz_b (f_X3_passTick c0 w2) (fun v5 w4 => hz_let (v0.1 + Int32.ofInt 1) (fun v6 => lp_X3_passTicksUntilOver_2 c0 N (v6, w4))) else some w2))))
def f_X3_passTicksUntilOver (a0 : Nat) (w : MW) : Option (MW) :=
  hz_gd (hz_g 358 a0 4) (Option.bind (lp_X3_passTicksUntilOver_2 a0 3000 (0, w)) (fun q2 : MW => some q2))
set_option maxHeartbeats 4000000 in
set_option maxRecDepth 100000 in
theorem ct_X3_passTicksUntilOver {l : Launch} (hl : l.stackTraces = false) {B : Bt} {a0 : Nat} {w : MW} {r : MW} (h : f_X3_passTicksUntilOver a0 w = some r) : hz_Met l B false 358 358 yX3_passTicksUntilOver cX3_passTicksUntilOver 2 (Option.none : Option FieldType) 7 0 0 [.ref (B.1 + a0)] w none r := by
  refine hz_ofJ (rv := (fun _ : MW => none)) (wo := (fun r : MW => r)) (own := RX3) (ini := false) hl (by decide) rfl (Or.inr rfl) (Nat.le_of_ble_eq_true rfl) rfl ?_ h
  intro p e s m args below meth c
  unfold f_X3_passTicksUntilOver
  refine hz_gdr (fun ga0 => ?_)
  refine hz_iconst (pc' := 1) (v := 0) dX3_passTicksUntilOver_0 rfl (by decide) ?_
  refine hz_istore_n (pc' := 2) (L' := [(1, .int 0), (0, .ref (B.1 + a0))]) dX3_passTicksUntilOver_1 rfl rfl (by decide) rfl ?_
  refine hz_bindJ (pcJ := 30) (LJ := fun q2 : MW => []) (stJ := fun _ => []) (kJ := 0) (slJ := 0) (nJ := 358) (wJ := fun q2 : MW => q2) (fun q2 => ?_) (fun hq2 => ?_)
  · exact hz_retv dX3_passTicksUntilOver_30 rfl (by decide)
  · refine hz_loc [1, 0] rfl (hz_loopJ (lp := lp_X3_passTicksUntilOver_2 a0) (Lh := fun v1 : Int32 × MW => [(0, .ref (B.1 + a0)), (1, .int v1.1)]) (wh := fun v1 : Int32 × MW => v1.2) (fun _ => rfl) (fun Nv1 ihv1 v1 => ?_) 3000 (0, w))
    rw [lp_X3_passTicksUntilOver_2]
    refine hz_iload_n (pc' := 3) (j := 1) dX3_passTicksUntilOver_2 rfl rfl rfl ?_
    refine hz_sipush (pc' := 6) (v := 1000) dX3_passTicksUntilOver_3 rfl (by decide) ?_
    refine hz_icmpge (pc' := 9) (tgt := 30) dX3_passTicksUntilOver_6 (by decide) rfl ?_ ?_
    · exact hz_loc [] rfl (hq2 v1.2)
    · refine hz_aload_n (pc' := 10) (j := 0) dX3_passTicksUntilOver_9 rfl rfl rfl ?_
      refine hz_gP (pc' := 13) (c' := 2) fl_X3_12.r ga0 rfl dX3_passTicksUntilOver_10 rfl (fun b3 gb3 => ?_)
      refine hz_cVi (pc' := 16) (av := []) (rest := []) vl_X3_89 (fun x w' h => ct_X1_areOver hl h) gb3 rfl rfl (Nat.le_of_ble_eq_true rfl) (by decide) (by decide) rfl dX3_passTicksUntilOver_13 rfl (fun v5 w4 => ?_)
      refine hz_ifne (pc' := 19) (tgt := 30) dX3_passTicksUntilOver_16 (by decide) rfl ?_ ?_
      · exact hz_loc [] rfl (hq2 w4)
      · refine hz_aload_n (pc' := 20) (j := 0) dX3_passTicksUntilOver_19 rfl rfl rfl ?_
        refine hz_cVi (pc' := 23) (av := []) (rest := []) vl_X3_93 (fun x w' h => ct_X3_passTick hl h) ga0 rfl rfl (Nat.le_of_ble_eq_true rfl) (by decide) (by decide) rfl dX3_passTicksUntilOver_20 rfl (fun v7 w6 => ?_)
        refine hz_pop (pc' := 24) dX3_passTicksUntilOver_23 rfl rfl ?_
        refine hz_iincN (pc' := 27) (j := 1) (fun v8 => [(1, .int v8), (0, .ref (B.1 + a0))]) dX3_passTicksUntilOver_24 rfl rfl (by decide) (fun _ => rfl) (fun v8 => ?_)
        refine hz_goto (tgt := 2) dX3_passTicksUntilOver_27 (by decide) ?_
        exact hz_loc [1, 0] rfl (ihv1 (v8, w6))
def f_X9_init (a0 : Nat) (n0 : Nat) (w : MW) : Option (MW) :=
  hz_gd (hz_g n0 a0 10) (hz_gd (hz_sh n0 == 5) (hz_let (hz_fr w n0) (fun w1 => hz_bv (f_X4_init n0 (n0 + 1) w1) (fun w4 => hz_let (hz_pp w4 a0 0 (some n0)) (fun w7 => hz_gd (hz_sh (n0 + 2) == 6) (hz_let (hz_fr w7 (n0 + 2)) (fun w8 => hz_ldp w8 a0 0 (n0 + 3) 5 (fun b11 => hz_bv (f_X5_init (n0 + 2) b11 (n0 + 3) w8) (fun w12 => hz_let (hz_pp w12 a0 1 (some (n0 + 2))) (fun w15 => hz_gd (hz_sh (n0 + 16) == 3) (hz_let (hz_fr w15 (n0 + 16)) (fun w16 => hz_bv (f_X2_init (n0 + 16) (n0 + 17) w16) (fun w19 => hz_let (hz_pp w19 a0 2 (some (n0 + 16))) (fun w22 => hz_gd (hz_sh (n0 + 28) == 4) (hz_let (hz_fr w22 (n0 + 28)) (fun w23 => hz_ldp w23 a0 2 (n0 + 29) 3 (fun b26 => hz_bv (f_X3_init (n0 + 28) b26 (n0 + 29) w23) (fun w27 => hz_let (hz_pp w27 a0 3 (some (n0 + 28))) (fun w30 => hz_gd (hz_sh (n0 + 53) == 4) (hz_let (hz_fr w30 (n0 + 53)) (fun w31 => hz_ldp w31 a0 2 (n0 + 54) 3 (fun b34 => hz_bv (f_X3_init (n0 + 53) b34 (n0 + 54) w31) (fun w35 => hz_let (hz_pp w35 a0 4 (some (n0 + 53))) (fun w38 => hz_gd (hz_sh (n0 + 78) == 1) (hz_let (hz_fr w38 (n0 + 78)) (fun w39 => hz_ldp w39 a0 2 (n0 + 79) 3 (fun b42 => hz_bv (f_X0_init (n0 + 78) b42 (n0 + 79) w39) (fun w43 => hz_let (hz_pp w43 a0 5 (some (n0 + 78))) (fun w46 => hz_gd (hz_sh (n0 + 330) == 9) (hz_let (hz_fr w46 (n0 + 330)) (fun w47 => hz_bv (f_X8_init (n0 + 330) (n0 + 331) w47) (fun w50 => hz_let (hz_pp w50 a0 6 (some (n0 + 330))) (fun w53 => hz_gd (hz_sh (n0 + 333) == 7) (hz_let (hz_fr w53 (n0 + 333)) (fun w54 => hz_bv (f_X6_init (n0 + 333) (n0 + 334) w54) (fun w57 => hz_let (hz_pp w57 a0 7 (some (n0 + 333))) (fun w60 => hz_gd (hz_isb 0) (hz_let (hz_pn w60 a0 8 0) (fun w61 => hz_let (hz_pn w61 a0 9 (-1)) (fun w62 => some w62))))))))))))))))))))))))))))))))))))))))
set_option maxHeartbeats 4000000 in
set_option maxRecDepth 100000 in
theorem ct_X9_init {l : Launch} (hl : l.stackTraces = false) {B : Bt} {a0 : Nat} {n0 : Nat} {w : MW} {r : MW} (h : f_X9_init a0 n0 w = some r) : hz_Met l B true n0 (n0 + 335) yX9_init cX9_init 1 (Option.none : Option FieldType) 5 335 4879 [.ref (B.1 + a0)] w none r := by
  refine hz_ofJ (rv := (fun _ : MW => none)) (wo := (fun r : MW => r)) (own := RX9) (ini := true) hl (by decide) rfl (Or.inl rfl) (Nat.le_of_ble_eq_true rfl) rfl ?_ h
  intro p e s m args below meth c
  unfold f_X9_init
  refine hz_gdr (fun ga0 => ?_)
  refine hz_aload_n (pc' := 1) (j := 0) dX9_init_0 rfl rfl rfl ?_
  refine hz_objinit (pc' := 4) hq_31 hq_32 hq_33 ⟨Nat.le_of_ble_eq_true rfl, Nat.le_of_ble_eq_true rfl⟩ dX9_init_1 rfl ?_
  refine hz_aload_n (pc' := 5) (j := 0) dX9_init_4 rfl rfl rfl ?_
  refine hz_new (pc' := 8) (N := 2) cl_X9_7 rfl rfl ⟨by omega, by omega⟩ dX9_init_5 rfl (fun w1 g2 => ?_)
  have g3 := hz_g_up (n' := n0 + 1) ga0 (by omega)
  refine hz_dup (pc' := 9) dX9_init_8 rfl rfl ?_
  refine hz_cIN (pc' := 12) (n' := n0 + 2) (av := []) (rest := [.ref (B.1 + n0), .ref (B.1 + a0)]) inl_X9_9 (fun w' h => ct_X4_init hl h) rfl rfl (Nat.le_of_ble_eq_true rfl) (by decide) ⟨by omega, by omega⟩ rfl (by omega) dX9_init_9 rfl (fun w4 => ?_)
  have g5 := hz_g_up (n' := n0 + 2) g3 (by omega)
  have g6 := hz_g_up (n' := n0 + 2) g2 (by omega)
  refine hz_putP (pc' := 15) fl_X9_10 rfl g5 rfl rfl rfl dX9_init_12 rfl (fun w7 => ?_)
  refine hz_aload_n (pc' := 16) (j := 0) dX9_init_15 rfl rfl rfl ?_
  refine hz_new (pc' := 19) (N := 5) cl_X9_16 rfl rfl ⟨by omega, by omega⟩ dX9_init_16 rfl (fun w8 g9 => ?_)
  have g10 := hz_g_up (n' := n0 + 3) g5 (by omega)
  refine hz_dup (pc' := 20) dX9_init_19 rfl rfl ?_
  refine hz_aload_n (pc' := 21) (j := 0) dX9_init_20 rfl rfl rfl ?_
  refine hz_gP (pc' := 24) (c' := 5) fl_X9_10.r g10 rfl dX9_init_21 rfl (fun b11 gb11 => ?_)
  refine hz_cI (pc' := 27) (n' := n0 + 16) (av := [.ref (B.1 + b11)]) (rest := [.ref (B.1 + (n0 + 2)), .ref (B.1 + a0)]) il_X9_18 (fun w' h => ct_X5_init hl h) rfl rfl (Nat.le_of_ble_eq_true rfl) (by decide) ⟨by omega, by omega⟩ rfl (by omega) dX9_init_24 rfl (fun w12 => ?_)
  have g13 := hz_g_up (n' := n0 + 16) g10 (by omega)
  have g14 := hz_g_up (n' := n0 + 16) g9 (by omega)
  refine hz_putP (pc' := 30) fl_X9_21 rfl g13 rfl rfl rfl dX9_init_27 rfl (fun w15 => ?_)
  refine hz_aload_n (pc' := 31) (j := 0) dX9_init_30 rfl rfl rfl ?_
  refine hz_new (pc' := 34) (N := 13) cl_X9_25 rfl rfl ⟨by omega, by omega⟩ dX9_init_31 rfl (fun w16 g17 => ?_)
  have g18 := hz_g_up (n' := n0 + 17) g13 (by omega)
  refine hz_dup (pc' := 35) dX9_init_34 rfl rfl ?_
  refine hz_cIN (pc' := 38) (n' := n0 + 28) (av := []) (rest := [.ref (B.1 + (n0 + 16)), .ref (B.1 + a0)]) inl_X9_27 (fun w' h => ct_X2_init hl h) rfl rfl (Nat.le_of_ble_eq_true rfl) (by decide) ⟨by omega, by omega⟩ rfl (by omega) dX9_init_35 rfl (fun w19 => ?_)
  have g20 := hz_g_up (n' := n0 + 28) g18 (by omega)
  have g21 := hz_g_up (n' := n0 + 28) g17 (by omega)
  refine hz_putP (pc' := 41) fl_X9_28 rfl g20 rfl rfl rfl dX9_init_38 rfl (fun w22 => ?_)
  refine hz_aload_n (pc' := 42) (j := 0) dX9_init_41 rfl rfl rfl ?_
  refine hz_new (pc' := 45) (N := 15) cl_X9_32 rfl rfl ⟨by omega, by omega⟩ dX9_init_42 rfl (fun w23 g24 => ?_)
  have g25 := hz_g_up (n' := n0 + 29) g20 (by omega)
  refine hz_dup (pc' := 46) dX9_init_45 rfl rfl ?_
  refine hz_aload_n (pc' := 47) (j := 0) dX9_init_46 rfl rfl rfl ?_
  refine hz_gP (pc' := 50) (c' := 3) fl_X9_28.r g25 rfl dX9_init_47 rfl (fun b26 gb26 => ?_)
  refine hz_cI (pc' := 53) (n' := n0 + 53) (av := [.ref (B.1 + b26)]) (rest := [.ref (B.1 + (n0 + 28)), .ref (B.1 + a0)]) il_X9_34 (fun w' h => ct_X3_init hl h) rfl rfl (Nat.le_of_ble_eq_true rfl) (by decide) ⟨by omega, by omega⟩ rfl (by omega) dX9_init_50 rfl (fun w27 => ?_)
  have g28 := hz_g_up (n' := n0 + 53) g25 (by omega)
  have g29 := hz_g_up (n' := n0 + 53) g24 (by omega)
  refine hz_putP (pc' := 56) fl_X9_37 rfl g28 rfl rfl rfl dX9_init_53 rfl (fun w30 => ?_)
  refine hz_aload_n (pc' := 57) (j := 0) dX9_init_56 rfl rfl rfl ?_
  refine hz_new (pc' := 60) (N := 15) cl_X9_32 rfl rfl ⟨by omega, by omega⟩ dX9_init_57 rfl (fun w31 g32 => ?_)
  have g33 := hz_g_up (n' := n0 + 54) g28 (by omega)
  refine hz_dup (pc' := 61) dX9_init_60 rfl rfl ?_
  refine hz_aload_n (pc' := 62) (j := 0) dX9_init_61 rfl rfl rfl ?_
  refine hz_gP (pc' := 65) (c' := 3) fl_X9_28.r g33 rfl dX9_init_62 rfl (fun b34 gb34 => ?_)
  refine hz_cI (pc' := 68) (n' := n0 + 78) (av := [.ref (B.1 + b34)]) (rest := [.ref (B.1 + (n0 + 53)), .ref (B.1 + a0)]) il_X9_34 (fun w' h => ct_X3_init hl h) rfl rfl (Nat.le_of_ble_eq_true rfl) (by decide) ⟨by omega, by omega⟩ rfl (by omega) dX9_init_65 rfl (fun w35 => ?_)
  have g36 := hz_g_up (n' := n0 + 78) g33 (by omega)
  have g37 := hz_g_up (n' := n0 + 78) g32 (by omega)
  refine hz_putP (pc' := 71) fl_X9_41 rfl g36 rfl rfl rfl dX9_init_68 rfl (fun w38 => ?_)
  refine hz_aload_n (pc' := 72) (j := 0) dX9_init_71 rfl rfl rfl ?_
  refine hz_new (pc' := 75) (N := 3) cl_X9_44 rfl rfl ⟨by omega, by omega⟩ dX9_init_72 rfl (fun w39 g40 => ?_)
  have g41 := hz_g_up (n' := n0 + 79) g36 (by omega)
  refine hz_dup (pc' := 76) dX9_init_75 rfl rfl ?_
  refine hz_aload_n (pc' := 77) (j := 0) dX9_init_76 rfl rfl rfl ?_
  refine hz_gP (pc' := 80) (c' := 3) fl_X9_28.r g41 rfl dX9_init_77 rfl (fun b42 gb42 => ?_)
  refine hz_cI (pc' := 83) (n' := n0 + 330) (av := [.ref (B.1 + b42)]) (rest := [.ref (B.1 + (n0 + 78)), .ref (B.1 + a0)]) il_X9_46 (fun w' h => ct_X0_init hl h) rfl rfl (Nat.le_of_ble_eq_true rfl) (by decide) ⟨by omega, by omega⟩ rfl (by omega) dX9_init_80 rfl (fun w43 => ?_)
  have g44 := hz_g_up (n' := n0 + 330) g41 (by omega)
  have g45 := hz_g_up (n' := n0 + 330) g40 (by omega)
  refine hz_putP (pc' := 86) fl_X9_47 rfl g44 rfl rfl rfl dX9_init_83 rfl (fun w46 => ?_)
  refine hz_aload_n (pc' := 87) (j := 0) dX9_init_86 rfl rfl rfl ?_
  refine hz_new (pc' := 90) (N := 3) cl_X9_51 rfl rfl ⟨by omega, by omega⟩ dX9_init_87 rfl (fun w47 g48 => ?_)
  have g49 := hz_g_up (n' := n0 + 331) g44 (by omega)
  refine hz_dup (pc' := 91) dX9_init_90 rfl rfl ?_
  refine hz_cIN (pc' := 94) (n' := n0 + 333) (av := []) (rest := [.ref (B.1 + (n0 + 330)), .ref (B.1 + a0)]) inl_X9_53 (fun w' h => ct_X8_init hl h) rfl rfl (Nat.le_of_ble_eq_true rfl) (by decide) ⟨by omega, by omega⟩ rfl (by omega) dX9_init_91 rfl (fun w50 => ?_)
  have g51 := hz_g_up (n' := n0 + 333) g49 (by omega)
  have g52 := hz_g_up (n' := n0 + 333) g48 (by omega)
  refine hz_putP (pc' := 97) fl_X9_54 rfl g51 rfl rfl rfl dX9_init_94 rfl (fun w53 => ?_)
  refine hz_aload_n (pc' := 98) (j := 0) dX9_init_97 rfl rfl rfl ?_
  refine hz_new (pc' := 101) (N := 1) cl_X9_58 rfl rfl ⟨by omega, by omega⟩ dX9_init_98 rfl (fun w54 g55 => ?_)
  have g56 := hz_g_up (n' := n0 + 334) g51 (by omega)
  refine hz_dup (pc' := 102) dX9_init_101 rfl rfl ?_
  refine hz_cIN (pc' := 105) (n' := n0 + 335) (av := []) (rest := [.ref (B.1 + (n0 + 333)), .ref (B.1 + a0)]) inl_X9_60 (fun w' h => ct_X6_init hl h) rfl rfl (Nat.le_of_ble_eq_true rfl) (by decide) ⟨by omega, by omega⟩ rfl (by omega) dX9_init_102 rfl (fun w57 => ?_)
  have g58 := hz_g_up (n' := n0 + 335) g56 (by omega)
  have g59 := hz_g_up (n' := n0 + 335) g55 (by omega)
  refine hz_putP (pc' := 108) fl_X9_61 rfl g58 rfl rfl rfl dX9_init_105 rfl (fun w60 => ?_)
  refine hz_aload_n (pc' := 109) (j := 0) dX9_init_108 rfl rfl rfl ?_
  refine hz_iconst (pc' := 110) (v := 0) dX9_init_109 rfl (by decide) ?_
  refine hz_putZ (pc' := 113) fl_X9_65 g58 rfl dX9_init_110 rfl (fun w61 => ?_)
  refine hz_aload_n (pc' := 114) (j := 0) dX9_init_113 rfl rfl rfl ?_
  refine hz_iconst (pc' := 115) (v := (-1)) dX9_init_114 rfl (by decide) ?_
  refine hz_putI (pc' := 118) fl_X9_69 g58 rfl dX9_init_115 rfl (fun w62 => ?_)
  exact hz_retv dX9_init_118 rfl ⟨by omega, by omega⟩
