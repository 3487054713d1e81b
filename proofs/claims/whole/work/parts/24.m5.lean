def f_X10_init (a0 : Nat) (n0 : Nat) (w : MW) : Option (MW) :=
  hz_gd (hz_g n0 a0 11) (hz_gd (hz_ga n0 20 287) (hz_let (hz_fr w n0) (fun w1 => hz_let (hz_pp w1 a0 0 (some n0)) (fun w4 => hz_gd (hz_ga (n0 + 1) 20 2870) (hz_let (hz_fr w4 (n0 + 1)) (fun w5 => hz_let (hz_pp w5 a0 1 (some (n0 + 1))) (fun w8 => hz_gd (hz_ga (n0 + 2) 20 4) (hz_let (hz_fr w8 (n0 + 2)) (fun w9 => hz_let (hz_pp w9 a0 6 (some (n0 + 2))) (fun w12 => hz_gd (hz_ga (n0 + 3) 20 4) (hz_let (hz_fr w12 (n0 + 3)) (fun w13 => hz_let (hz_pp w13 a0 7 (some (n0 + 3))) (fun w16 => hz_gd (hz_ga (n0 + 4) 20 4) (hz_let (hz_fr w16 (n0 + 4)) (fun w17 => hz_let (hz_pp w17 a0 8 (some (n0 + 4))) (fun w20 => hz_gd (hz_ga (n0 + 5) 20 4) (hz_let (hz_fr w20 (n0 + 5)) (fun w21 => hz_let (hz_pp w21 a0 9 (some (n0 + 5))) (fun w24 => hz_gd (hz_ga (n0 + 6) 20 4) (hz_let (hz_fr w24 (n0 + 6)) (fun w25 => hz_let (hz_pp w25 a0 10 (some (n0 + 6))) (fun w28 => hz_gd (hz_ga (n0 + 7) 20 4) (hz_let (hz_fr w28 (n0 + 7)) (fun w29 => hz_let (hz_pp w29 a0 11 (some (n0 + 7))) (fun w32 => hz_gd (hz_ga (n0 + 8) 20 4) (hz_let (hz_fr w32 (n0 + 8)) (fun w33 => hz_let (hz_pp w33 a0 12 (some (n0 + 8))) (fun w36 => hz_gd (hz_ga (n0 + 9) 20 20) (hz_let (hz_fr w36 (n0 + 9)) (fun w37 => hz_let (hz_pp w37 a0 13 (some (n0 + 9))) (fun w40 => hz_gd (hz_ga (n0 + 10) 20 20) (hz_let (hz_fr w40 (n0 + 10)) (fun w41 => hz_let (hz_pp w41 a0 14 (some (n0 + 10))) (fun w44 => hz_gd (hz_ga (n0 + 11) 20 500) (hz_let (hz_fr w44 (n0 + 11)) (fun w45 => hz_let (hz_pp w45 a0 15 (some (n0 + 11))) (fun w48 => hz_let (hz_pn w48 a0 23 (-1)) (fun w49 => hz_gd (hz_ga (n0 + 12) 20 36) (hz_let (hz_fr w49 (n0 + 12)) (fun w50 => hz_let (hz_pp w50 a0 26 (some (n0 + 12))) (fun w53 => hz_gd (hz_ga (n0 + 13) 20 40) (hz_let (hz_fr w53 (n0 + 13)) (fun w54 => hz_let (hz_pp w54 a0 27 (some (n0 + 13))) (fun w57 => hz_gd (hz_ga (n0 + 14) 20 287) (hz_let (hz_fr w57 (n0 + 14)) (fun w58 => hz_let (hz_pp w58 a0 28 (some (n0 + 14))) (fun w61 => hz_let (hz_pn w61 a0 32 (-1)) (fun w62 => hz_gd (hz_ga (n0 + 15) 20 501) (hz_let (hz_fr w62 (n0 + 15)) (fun w63 => hz_let (hz_pp w63 a0 33 (some (n0 + 15))) (fun w66 => hz_gd (hz_ga (n0 + 16) 20 501) (hz_let (hz_fr w66 (n0 + 16)) (fun w67 => hz_let (hz_pp w67 a0 34 (some (n0 + 16))) (fun w70 => hz_gd (hz_ga (n0 + 17) 20 24) (hz_let (hz_fr w70 (n0 + 17)) (fun w71 => hz_let (hz_pp w71 a0 35 (some (n0 + 17))) (fun w74 => hz_gd (hz_ga (n0 + 18) 20 24) (hz_let (hz_fr w74 (n0 + 18)) (fun w75 => hz_let (hz_pp w75 a0 36 (some (n0 + 18))) (fun w78 => some w78))))))))))))))))))))))))))))))))))))))))))))))))))))))))))))
set_option maxHeartbeats 4000000 in
set_option maxRecDepth 100000 in
theorem ct_X10_init {l : Launch} (hl : l.stackTraces = false) {B : Bt} {a0 : Nat} {n0 : Nat} {w : MW} {r : MW} (h : f_X10_init a0 n0 w = some r) : hz_Met l B true n0 (n0 + 19) yX10_init cX10_init 1 (Option.none : Option FieldType) 2 19 5138 [.ref (B.1 + a0)] w none r := by
  refine hz_ofJ (rv := (fun _ : MW => none)) (wo := (fun r : MW => r)) (own := RX10) (ini := true) hl (by decide) rfl (Or.inl rfl) (Nat.le_of_ble_eq_true rfl) rfl ?_ h
  intro p e s m args below meth c
  unfold f_X10_init
  refine hz_gdr (fun ga0 => ?_)
  refine hz_aload_n (pc' := 1) (j := 0) dX10_init_0 rfl rfl rfl ?_
  refine hz_objinit (pc' := 4) hq_1206 hq_32 hq_33 ⟨Nat.le_of_ble_eq_true rfl, Nat.le_of_ble_eq_true rfl⟩ dX10_init_1 rfl ?_
  refine hz_aload_n (pc' := 5) (j := 0) dX10_init_4 rfl rfl rfl ?_
  refine hz_sipush (pc' := 8) (v := 287) dX10_init_5 rfl (by decide) ?_
  refine hz_newai (pc' := 10) (N := 287) hq_136 rfl (by decide) (by decide) (by decide) ⟨by omega, by omega⟩ dX10_init_8 rfl (fun w1 g2 => ?_)
  have g3 := hz_g_up (n' := n0 + 1) ga0 (by omega)
  refine hz_putP (pc' := 13) fl_X10_7 rfl g3 rfl rfl rfl dX10_init_10 rfl (fun w4 => ?_)
  refine hz_aload_n (pc' := 14) (j := 0) dX10_init_13 rfl rfl rfl ?_
  refine hz_sipush (pc' := 17) (v := 2870) dX10_init_14 rfl (by decide) ?_
  refine hz_newai (pc' := 19) (N := 2870) hq_136 rfl (by decide) (by decide) (by decide) ⟨by omega, by omega⟩ dX10_init_17 rfl (fun w5 g6 => ?_)
  have g7 := hz_g_up (n' := n0 + 2) g3 (by omega)
  refine hz_putP (pc' := 22) fl_X10_13 rfl g7 rfl rfl rfl dX10_init_19 rfl (fun w8 => ?_)
  refine hz_aload_n (pc' := 23) (j := 0) dX10_init_22 rfl rfl rfl ?_
  refine hz_iconst (pc' := 24) (v := 4) dX10_init_23 rfl (by decide) ?_
  refine hz_newai (pc' := 26) (N := 4) hq_136 rfl (by decide) (by decide) (by decide) ⟨by omega, by omega⟩ dX10_init_24 rfl (fun w9 g10 => ?_)
  have g11 := hz_g_up (n' := n0 + 3) g7 (by omega)
  refine hz_putP (pc' := 29) fl_X10_16 rfl g11 rfl rfl rfl dX10_init_26 rfl (fun w12 => ?_)
  refine hz_aload_n (pc' := 30) (j := 0) dX10_init_29 rfl rfl rfl ?_
  refine hz_iconst (pc' := 31) (v := 4) dX10_init_30 rfl (by decide) ?_
  refine hz_newai (pc' := 33) (N := 4) hq_136 rfl (by decide) (by decide) (by decide) ⟨by omega, by omega⟩ dX10_init_31 rfl (fun w13 g14 => ?_)
  have g15 := hz_g_up (n' := n0 + 4) g11 (by omega)
  refine hz_putP (pc' := 36) fl_X10_19 rfl g15 rfl rfl rfl dX10_init_33 rfl (fun w16 => ?_)
  refine hz_aload_n (pc' := 37) (j := 0) dX10_init_36 rfl rfl rfl ?_
  refine hz_iconst (pc' := 38) (v := 4) dX10_init_37 rfl (by decide) ?_
  refine hz_newai (pc' := 40) (N := 4) hq_136 rfl (by decide) (by decide) (by decide) ⟨by omega, by omega⟩ dX10_init_38 rfl (fun w17 g18 => ?_)
  have g19 := hz_g_up (n' := n0 + 5) g15 (by omega)
  refine hz_putP (pc' := 43) fl_X10_22 rfl g19 rfl rfl rfl dX10_init_40 rfl (fun w20 => ?_)
  refine hz_aload_n (pc' := 44) (j := 0) dX10_init_43 rfl rfl rfl ?_
  refine hz_iconst (pc' := 45) (v := 4) dX10_init_44 rfl (by decide) ?_
  refine hz_newai (pc' := 47) (N := 4) hq_136 rfl (by decide) (by decide) (by decide) ⟨by omega, by omega⟩ dX10_init_45 rfl (fun w21 g22 => ?_)
  have g23 := hz_g_up (n' := n0 + 6) g19 (by omega)
  refine hz_putP (pc' := 50) fl_X10_25 rfl g23 rfl rfl rfl dX10_init_47 rfl (fun w24 => ?_)
  refine hz_aload_n (pc' := 51) (j := 0) dX10_init_50 rfl rfl rfl ?_
  refine hz_iconst (pc' := 52) (v := 4) dX10_init_51 rfl (by decide) ?_
  refine hz_newai (pc' := 54) (N := 4) hq_136 rfl (by decide) (by decide) (by decide) ⟨by omega, by omega⟩ dX10_init_52 rfl (fun w25 g26 => ?_)
  have g27 := hz_g_up (n' := n0 + 7) g23 (by omega)
  refine hz_putP (pc' := 57) fl_X10_28 rfl g27 rfl rfl rfl dX10_init_54 rfl (fun w28 => ?_)
  refine hz_aload_n (pc' := 58) (j := 0) dX10_init_57 rfl rfl rfl ?_
  refine hz_iconst (pc' := 59) (v := 4) dX10_init_58 rfl (by decide) ?_
  refine hz_newai (pc' := 61) (N := 4) hq_136 rfl (by decide) (by decide) (by decide) ⟨by omega, by omega⟩ dX10_init_59 rfl (fun w29 g30 => ?_)
  have g31 := hz_g_up (n' := n0 + 8) g27 (by omega)
  refine hz_putP (pc' := 64) fl_X10_31 rfl g31 rfl rfl rfl dX10_init_61 rfl (fun w32 => ?_)
  refine hz_aload_n (pc' := 65) (j := 0) dX10_init_64 rfl rfl rfl ?_
  refine hz_iconst (pc' := 66) (v := 4) dX10_init_65 rfl (by decide) ?_
  refine hz_newai (pc' := 68) (N := 4) hq_136 rfl (by decide) (by decide) (by decide) ⟨by omega, by omega⟩ dX10_init_66 rfl (fun w33 g34 => ?_)
  have g35 := hz_g_up (n' := n0 + 9) g31 (by omega)
  refine hz_putP (pc' := 71) fl_X10_34 rfl g35 rfl rfl rfl dX10_init_68 rfl (fun w36 => ?_)
  refine hz_aload_n (pc' := 72) (j := 0) dX10_init_71 rfl rfl rfl ?_
  refine hz_bipush (pc' := 74) (v := 20) dX10_init_72 rfl (by decide) ?_
  refine hz_newai (pc' := 76) (N := 20) hq_136 rfl (by decide) (by decide) (by decide) ⟨by omega, by omega⟩ dX10_init_74 rfl (fun w37 g38 => ?_)
  have g39 := hz_g_up (n' := n0 + 10) g35 (by omega)
  refine hz_putP (pc' := 79) fl_X10_37 rfl g39 rfl rfl rfl dX10_init_76 rfl (fun w40 => ?_)
  refine hz_aload_n (pc' := 80) (j := 0) dX10_init_79 rfl rfl rfl ?_
  refine hz_bipush (pc' := 82) (v := 20) dX10_init_80 rfl (by decide) ?_
  refine hz_newai (pc' := 84) (N := 20) hq_136 rfl (by decide) (by decide) (by decide) ⟨by omega, by omega⟩ dX10_init_82 rfl (fun w41 g42 => ?_)
  have g43 := hz_g_up (n' := n0 + 11) g39 (by omega)
  refine hz_putP (pc' := 87) fl_X10_40 rfl g43 rfl rfl rfl dX10_init_84 rfl (fun w44 => ?_)
  refine hz_aload_n (pc' := 88) (j := 0) dX10_init_87 rfl rfl rfl ?_
  refine hz_sipush (pc' := 91) (v := 500) dX10_init_88 rfl (by decide) ?_
  refine hz_newai (pc' := 93) (N := 500) hq_136 rfl (by decide) (by decide) (by decide) ⟨by omega, by omega⟩ dX10_init_91 rfl (fun w45 g46 => ?_)
  have g47 := hz_g_up (n' := n0 + 12) g43 (by omega)
  refine hz_putP (pc' := 96) fl_X10_43 rfl g47 rfl rfl rfl dX10_init_93 rfl (fun w48 => ?_)
  refine hz_aload_n (pc' := 97) (j := 0) dX10_init_96 rfl rfl rfl ?_
  refine hz_iconst (pc' := 98) (v := (-1)) dX10_init_97 rfl (by decide) ?_
  refine hz_putI (pc' := 101) fl_X10_46 g47 rfl dX10_init_98 rfl (fun w49 => ?_)
  refine hz_aload_n (pc' := 102) (j := 0) dX10_init_101 rfl rfl rfl ?_
  refine hz_bipush (pc' := 104) (v := 36) dX10_init_102 rfl (by decide) ?_
  refine hz_newai (pc' := 106) (N := 36) hq_136 rfl (by decide) (by decide) (by decide) ⟨by omega, by omega⟩ dX10_init_104 rfl (fun w50 g51 => ?_)
  have g52 := hz_g_up (n' := n0 + 13) g47 (by omega)
  refine hz_putP (pc' := 109) fl_X10_50 rfl g52 rfl rfl rfl dX10_init_106 rfl (fun w53 => ?_)
  refine hz_aload_n (pc' := 110) (j := 0) dX10_init_109 rfl rfl rfl ?_
  refine hz_bipush (pc' := 112) (v := 40) dX10_init_110 rfl (by decide) ?_
  refine hz_newai (pc' := 114) (N := 40) hq_136 rfl (by decide) (by decide) (by decide) ⟨by omega, by omega⟩ dX10_init_112 rfl (fun w54 g55 => ?_)
  have g56 := hz_g_up (n' := n0 + 14) g52 (by omega)
  refine hz_putP (pc' := 117) fl_X10_53 rfl g56 rfl rfl rfl dX10_init_114 rfl (fun w57 => ?_)
  refine hz_aload_n (pc' := 118) (j := 0) dX10_init_117 rfl rfl rfl ?_
  refine hz_sipush (pc' := 121) (v := 287) dX10_init_118 rfl (by decide) ?_
  refine hz_newai (pc' := 123) (N := 287) hq_136 rfl (by decide) (by decide) (by decide) ⟨by omega, by omega⟩ dX10_init_121 rfl (fun w58 g59 => ?_)
  have g60 := hz_g_up (n' := n0 + 15) g56 (by omega)
  refine hz_putP (pc' := 126) fl_X10_56 rfl g60 rfl rfl rfl dX10_init_123 rfl (fun w61 => ?_)
  refine hz_aload_n (pc' := 127) (j := 0) dX10_init_126 rfl rfl rfl ?_
  refine hz_iconst (pc' := 128) (v := (-1)) dX10_init_127 rfl (by decide) ?_
  refine hz_putI (pc' := 131) fl_X10_59 g60 rfl dX10_init_128 rfl (fun w62 => ?_)
  refine hz_aload_n (pc' := 132) (j := 0) dX10_init_131 rfl rfl rfl ?_
  refine hz_sipush (pc' := 135) (v := 501) dX10_init_132 rfl (by decide) ?_
  refine hz_newai (pc' := 137) (N := 501) hq_136 rfl (by decide) (by decide) (by decide) ⟨by omega, by omega⟩ dX10_init_135 rfl (fun w63 g64 => ?_)
  have g65 := hz_g_up (n' := n0 + 16) g60 (by omega)
  refine hz_putP (pc' := 140) fl_X10_62 rfl g65 rfl rfl rfl dX10_init_137 rfl (fun w66 => ?_)
  refine hz_aload_n (pc' := 141) (j := 0) dX10_init_140 rfl rfl rfl ?_
  refine hz_sipush (pc' := 144) (v := 501) dX10_init_141 rfl (by decide) ?_
  refine hz_newai (pc' := 146) (N := 501) hq_136 rfl (by decide) (by decide) (by decide) ⟨by omega, by omega⟩ dX10_init_144 rfl (fun w67 g68 => ?_)
  have g69 := hz_g_up (n' := n0 + 17) g65 (by omega)
  refine hz_putP (pc' := 149) fl_X10_65 rfl g69 rfl rfl rfl dX10_init_146 rfl (fun w70 => ?_)
  refine hz_aload_n (pc' := 150) (j := 0) dX10_init_149 rfl rfl rfl ?_
  refine hz_bipush (pc' := 152) (v := 24) dX10_init_150 rfl (by decide) ?_
  refine hz_newai (pc' := 154) (N := 24) hq_136 rfl (by decide) (by decide) (by decide) ⟨by omega, by omega⟩ dX10_init_152 rfl (fun w71 g72 => ?_)
  have g73 := hz_g_up (n' := n0 + 18) g69 (by omega)
  refine hz_putP (pc' := 157) fl_X10_68 rfl g73 rfl rfl rfl dX10_init_154 rfl (fun w74 => ?_)
  refine hz_aload_n (pc' := 158) (j := 0) dX10_init_157 rfl rfl rfl ?_
  refine hz_bipush (pc' := 160) (v := 24) dX10_init_158 rfl (by decide) ?_
  refine hz_newai (pc' := 162) (N := 24) hq_136 rfl (by decide) (by decide) (by decide) ⟨by omega, by omega⟩ dX10_init_160 rfl (fun w75 g76 => ?_)
  have g77 := hz_g_up (n' := n0 + 19) g73 (by omega)
  refine hz_putP (pc' := 165) fl_X10_71 rfl g77 rfl rfl rfl dX10_init_162 rfl (fun w78 => ?_)
  exact hz_retv dX10_init_165 rfl ⟨by omega, by omega⟩
def f_X10_thrown (a0 : Nat) (w : MW) : Option (Int32 × MW) :=
  hz_gd (hz_g 358 a0 11) (some ((w.1 a0 4), w))
set_option maxHeartbeats 4000000 in
set_option maxRecDepth 100000 in
theorem ct_X10_thrown {l : Launch} (hl : l.stackTraces = false) {B : Bt} {a0 : Nat} {w : MW} {r : Int32 × MW} (h : f_X10_thrown a0 w = some r) : hz_Met l B false 358 358 yX10_thrown cX10_thrown 1 (Option.some FieldType.int) 2 0 0 [.ref (B.1 + a0)] w (some (.int r.1)) r.2 := by
  refine hz_ofJ (rv := (fun r : Int32 × MW => some (.int r.1))) (wo := (fun r : Int32 × MW => r.2)) (own := RX10) (ini := false) hl (by decide) rfl (Or.inr rfl) (Nat.le_of_ble_eq_true rfl) rfl ?_ h
  intro p e s m args below meth c
  unfold f_X10_thrown
  refine hz_gdr (fun ga0 => ?_)
  refine hz_aload_n (pc' := 1) (j := 0) dX10_thrown_0 rfl rfl rfl ?_
  refine hz_gI (pc' := 4) fl_X10_74.r ga0 rfl dX10_thrown_1 rfl ?_
  exact hz_reti dX10_thrown_4 rfl (by decide)
def f_X10_isIn (x0 : Int64) (x2 : Int64) (x4 : Int64) (w : MW) : Option (Int32 × MW) :=
  Option.bind ((if (lg_cmp x0 x2) < 0 then some 0 else (if 0 < (lg_cmp x0 x4) then some 0 else some 1))) (fun q1 : Int32 => hz_gd (hz_isb q1) (some (q1, w)))
set_option maxHeartbeats 4000000 in
set_option maxRecDepth 100000 in
theorem ct_X10_isIn {l : Launch} (hl : l.stackTraces = false) {B : Bt} {x0 : Int64} {x2 : Int64} {x4 : Int64} {w : MW} {r : Int32 × MW} (h : f_X10_isIn x0 x2 x4 w = some r) : hz_Met l B false 358 358 yX10_isIn cX10_isIn 6 (Option.some FieldType.boolean) 2 0 0 [.long x0, .long x2, .long x4] w (some (.int r.1)) r.2 := by
  refine hz_ofJ (rv := (fun r : Int32 × MW => some (.int r.1))) (wo := (fun r : Int32 × MW => r.2)) (own := RX10) (ini := false) hl (by decide) rfl (Or.inr rfl) (Nat.le_of_ble_eq_true rfl) rfl ?_ h
  intro p e s m args below meth c
  unfold f_X10_isIn
  refine hz_lload_n (pc' := 1) (j := 0) dX10_isIn_0 rfl rfl rfl ?_
  refine hz_lload_n (pc' := 2) (j := 1) dX10_isIn_1 rfl rfl rfl ?_
  refine hz_lcmp (pc' := 3) dX10_isIn_2 rfl ?_
  refine hz_bindJ (pcJ := 18) (LJ := fun q1 : Int32 => []) (stJ := fun q1 : Int32 => [.int q1]) (kJ := 0) (slJ := 0) (nJ := 358) (wJ := fun q1 : Int32 => w) (fun q1 => ?_) (fun hq1 => ?_)
  · exact hz_retz dX10_isIn_18 rfl (by decide)
  · refine hz_iflt (pc' := 6) (tgt := 17) dX10_isIn_3 (by decide) rfl ?_ ?_
    · refine hz_iconst (pc' := 18) (v := 0) dX10_isIn_17 rfl (by decide) ?_
      exact hz_loc [] rfl (hq1 0)
    · refine hz_lload_n (pc' := 7) (j := 0) dX10_isIn_6 rfl rfl rfl ?_
      refine hz_lload (pc' := 9) (j := 2) dX10_isIn_7 rfl rfl ?_
      refine hz_lcmp (pc' := 10) dX10_isIn_9 rfl ?_
      refine hz_ifgt (pc' := 13) (tgt := 17) dX10_isIn_10 (by decide) rfl ?_ ?_
      · refine hz_iconst (pc' := 18) (v := 0) dX10_isIn_17 rfl (by decide) ?_
        exact hz_loc [] rfl (hq1 0)
      · refine hz_iconst (pc' := 14) (v := 1) dX10_isIn_13 rfl (by decide) ?_
        refine hz_goto (tgt := 18) dX10_isIn_14 (by decide) ?_
        exact hz_loc [] rfl (hq1 1)
def f_X10_upward (x0 : Int32) (x1 : Int32) (w : MW) : Option (Int32 × MW) :=
  hz_cdiv ((x0 + x1) - 1) x1 (fun v1 => some (v1, w))
set_option maxHeartbeats 4000000 in
set_option maxRecDepth 100000 in
theorem ct_X10_upward {l : Launch} (hl : l.stackTraces = false) {B : Bt} {x0 : Int32} {x1 : Int32} {w : MW} {r : Int32 × MW} (h : f_X10_upward x0 x1 w = some r) : hz_Met l B false 358 358 yX10_upward cX10_upward 2 (Option.some FieldType.int) 2 0 0 [.int x0, .int x1] w (some (.int r.1)) r.2 := by
  refine hz_ofJ (rv := (fun r : Int32 × MW => some (.int r.1))) (wo := (fun r : Int32 × MW => r.2)) (own := RX10) (ini := false) hl (by decide) rfl (Or.inr rfl) (Nat.le_of_ble_eq_true rfl) rfl ?_ h
  intro p e s m args below meth c
  unfold f_X10_upward
  refine hz_iload_n (pc' := 1) (j := 0) dX10_upward_0 rfl rfl rfl ?_
  refine hz_iload_n (pc' := 2) (j := 1) dX10_upward_1 rfl rfl rfl ?_
  refine hz_iadd (pc' := 3) dX10_upward_2 rfl ?_
  refine hz_iconst (pc' := 4) (v := 1) dX10_upward_3 rfl (by decide) ?_
  refine hz_isub (pc' := 5) dX10_upward_4 rfl ?_
  refine hz_iload_n (pc' := 6) (j := 1) dX10_upward_5 rfl rfl rfl ?_
  refine hz_idiv (pc' := 7) dX10_upward_6 rfl (fun v1 => ?_)
  exact hz_reti dX10_upward_7 rfl (by decide)
def lp_X10_many_4 (c0 : Int32) (cw : MW) : Nat → (Int32 × Int32) → Option (Int32)
  | 0, _ => none
  | N + 1, v0 => (if 24 ≤ v0.2 then some v0.1 else hz_let (v0.1 + (((c0 : Int32) >>> (v0.2 &&& 31)) &&& 1)) (fun v1 => hz_let (v0.2 + Int32.ofInt 1) (fun v2 => lp_X10_many_4 c0 cw N (v1, v2))))
def f_X10_many (x0 : Int32) (w : MW) : Option (Int32 × MW) :=
  Option.bind (lp_X10_many_4 x0 w 3000 (0, 0)) (fun q2 : Int32 => some (q2, w))
set_option maxHeartbeats 4000000 in
set_option maxRecDepth 100000 in
theorem ct_X10_many {l : Launch} (hl : l.stackTraces = false) {B : Bt} {x0 : Int32} {w : MW} {r : Int32 × MW} (h : f_X10_many x0 w = some r) : hz_Met l B false 358 358 yX10_many cX10_many 3 (Option.some FieldType.int) 2 0 0 [.int x0] w (some (.int r.1)) r.2 := by
  refine hz_ofJ (rv := (fun r : Int32 × MW => some (.int r.1))) (wo := (fun r : Int32 × MW => r.2)) (own := RX10) (ini := false) hl (by decide) rfl (Or.inr rfl) (Nat.le_of_ble_eq_true rfl) rfl ?_ h
  intro p e s m args below meth c
  unfold f_X10_many
  refine hz_iconst (pc' := 1) (v := 0) dX10_many_0 rfl (by decide) ?_
  refine hz_istore_n (pc' := 2) (L' := [(1, .int 0), (0, .int x0)]) dX10_many_1 rfl rfl (by decide) rfl ?_
  refine hz_iconst (pc' := 3) (v := 0) dX10_many_2 rfl (by decide) ?_
  refine hz_istore_n (pc' := 4) (L' := [(2, .int 0), (1, .int 0), (0, .int x0)]) dX10_many_3 rfl rfl (by decide) rfl ?_
  refine hz_bindJ (pcJ := 24) (LJ := fun q2 : Int32 => [(1, .int q2)]) (stJ := fun _ => []) (kJ := 0) (slJ := 0) (nJ := 358) (wJ := fun q2 : Int32 => w) (fun q2 => ?_) (fun hq2 => ?_)
  · refine hz_iload_n (pc' := 25) (j := 0) dX10_many_24 rfl rfl rfl ?_
    exact hz_reti dX10_many_25 rfl (by decide)
  · refine hz_loc [2, 1, 0] rfl (hz_loopJ (lp := lp_X10_many_4 x0 w) (Lh := fun v1 : Int32 × Int32 => [(0, .int x0), (1, .int v1.1), (2, .int v1.2)]) (wh := fun v1 : Int32 × Int32 => w) (fun _ => rfl) (fun Nv1 ihv1 v1 => ?_) 3000 (0, 0))
    rw [lp_X10_many_4]
    refine hz_iload_n (pc' := 5) (j := 2) dX10_many_4 rfl rfl rfl ?_
    refine hz_bipush (pc' := 7) (v := 24) dX10_many_5 rfl (by decide) ?_
    refine hz_icmpge (pc' := 10) (tgt := 24) dX10_many_7 (by decide) rfl ?_ ?_
    · exact hz_loc [1] rfl (hq2 v1.1)
    · refine hz_iload_n (pc' := 11) (j := 1) dX10_many_10 rfl rfl rfl ?_
      refine hz_iload_n (pc' := 12) (j := 0) dX10_many_11 rfl rfl rfl ?_
      refine hz_iload_n (pc' := 13) (j := 2) dX10_many_12 rfl rfl rfl ?_
      refine hz_ishr (pc' := 14) dX10_many_13 rfl ?_
      refine hz_iconst (pc' := 15) (v := 1) dX10_many_14 rfl (by decide) ?_
      refine hz_iand (pc' := 16) dX10_many_15 rfl ?_
      refine hz_iadd (pc' := 17) dX10_many_16 rfl ?_
      refine hz_nameI (fun v3 => ?_)
      refine hz_istore_n (pc' := 18) (L' := [(1, .int v3), (0, .int x0), (2, .int v1.2)]) dX10_many_17 rfl rfl (by decide) rfl ?_
      refine hz_iincN (pc' := 21) (j := 2) (fun v4 => [(2, .int v4), (1, .int v3), (0, .int x0)]) dX10_many_18 rfl rfl (by decide) (fun _ => rfl) (fun v4 => ?_)
      refine hz_goto (tgt := 4) dX10_many_21 (by decide) ?_
      exact hz_loc [2, 1, 0] rfl (ihv1 (v3, v4))
def f_X10_isWrong (a0 : Nat) (x1 : Int32) (w : MW) : Option (Int32 × MW) :=
  hz_gd (hz_g 358 a0 11) (Option.bind ((if (w.1 a0 3) = 0 then some 1 else (if x1 = 0 then some 2 else some 0))) (fun q1 : Int32 => hz_let (hz_pn w a0 4 q1) (fun w2 => Option.bind ((if (w2.1 a0 4) ≤ 0 then some 0 else some 1)) (fun q3 : Int32 => hz_gd (hz_isb q3) (some (q3, w2))))))
set_option maxHeartbeats 4000000 in
set_option maxRecDepth 100000 in
theorem ct_X10_isWrong {l : Launch} (hl : l.stackTraces = false) {B : Bt} {a0 : Nat} {x1 : Int32} {w : MW} {r : Int32 × MW} (h : f_X10_isWrong a0 x1 w = some r) : hz_Met l B false 358 358 yX10_isWrong cX10_isWrong 2 (Option.some FieldType.boolean) 2 0 0 [.ref (B.1 + a0), .int x1] w (some (.int r.1)) r.2 := by
  refine hz_ofJ (rv := (fun r : Int32 × MW => some (.int r.1))) (wo := (fun r : Int32 × MW => r.2)) (own := RX10) (ini := false) hl (by decide) rfl (Or.inr rfl) (Nat.le_of_ble_eq_true rfl) rfl ?_ h
  intro p e s m args below meth c
  unfold f_X10_isWrong
  refine hz_gdr (fun ga0 => ?_)
  refine hz_aload_n (pc' := 1) (j := 0) dX10_isWrong_0 rfl rfl rfl ?_
  refine hz_aload_n (pc' := 2) (j := 0) dX10_isWrong_1 rfl rfl rfl ?_
  refine hz_gI (pc' := 5) fl_X10_77.r ga0 rfl dX10_isWrong_2 rfl ?_
  refine hz_bindJ (pcJ := 21) (LJ := fun q1 : Int32 => [(0, .ref (B.1 + a0))]) (stJ := fun q1 : Int32 => [.int q1, .ref (B.1 + a0)]) (kJ := 0) (slJ := 0) (nJ := 358) (wJ := fun q1 : Int32 => w) (fun q1 => ?_) (fun hq1 => ?_)
  · refine hz_putI (pc' := 24) fl_X10_74 ga0 rfl dX10_isWrong_21 rfl (fun w2 => ?_)
    refine hz_aload_n (pc' := 25) (j := 0) dX10_isWrong_24 rfl rfl rfl ?_
    refine hz_gI (pc' := 28) fl_X10_74.r ga0 rfl dX10_isWrong_25 rfl ?_
    refine hz_bindJ (pcJ := 36) (LJ := fun q3 : Int32 => []) (stJ := fun q3 : Int32 => [.int q3]) (kJ := 0) (slJ := 0) (nJ := 358) (wJ := fun q3 : Int32 => w2) (fun q3 => ?_) (fun hq3 => ?_)
    · exact hz_retz dX10_isWrong_36 rfl (by decide)
    · refine hz_ifle (pc' := 31) (tgt := 35) dX10_isWrong_28 (by decide) rfl ?_ ?_
      · refine hz_iconst (pc' := 36) (v := 0) dX10_isWrong_35 rfl (by decide) ?_
        exact hz_loc [] rfl (hq3 0)
      · refine hz_iconst (pc' := 32) (v := 1) dX10_isWrong_31 rfl (by decide) ?_
        refine hz_goto (tgt := 36) dX10_isWrong_32 (by decide) ?_
        exact hz_loc [] rfl (hq3 1)
  · refine hz_ifne (pc' := 8) (tgt := 12) dX10_isWrong_5 (by decide) rfl ?_ ?_
    · refine hz_iload_n (pc' := 13) (j := 1) dX10_isWrong_12 rfl rfl rfl ?_
      refine hz_ifeq (pc' := 16) (tgt := 20) dX10_isWrong_13 (by decide) rfl ?_ ?_
      · refine hz_iconst (pc' := 21) (v := 2) dX10_isWrong_20 rfl (by decide) ?_
        exact hz_loc [0] rfl (hq1 2)
      · refine hz_iconst (pc' := 17) (v := 0) dX10_isWrong_16 rfl (by decide) ?_
        refine hz_goto (tgt := 21) dX10_isWrong_17 (by decide) ?_
        exact hz_loc [0] rfl (hq1 0)
    · refine hz_iconst (pc' := 9) (v := 1) dX10_isWrong_8 rfl (by decide) ?_
      refine hz_goto (tgt := 21) dX10_isWrong_9 (by decide) ?_
      exact hz_loc [0] rfl (hq1 1)
def lp_X10_put_3 (c0 : Nat) (c1 : Int32) : Nat → (Int32 × MW) → Option (MW)
  | 0, _ => none
  | N + 1, v0 => (if v0.1 < 0 then some v0.2 else hz_ldp v0.2 c0 15 358 20 (fun b1 => hz_sta v0.2 b1 (v0.2.1 c0 16) (((c1 : Int32) >>> (v0.1 &&& 31)) &&& 255) (fun w2 => hz_let (hz_pn w2 c0 16 ((w2.1 c0 16) + 1)) (fun w3 => hz_let (v0.1 + Int32.ofInt (-8)) (fun v4 => lp_X10_put_3 c0 c1 N (v4, w3))))))
def f_X10_put (a0 : Nat) (x1 : Int32) (w : MW) : Option (MW) :=
  hz_gd (hz_g 358 a0 11) (Option.bind (lp_X10_put_3 a0 x1 3000 (24, w)) (fun q2 : MW => some q2))
set_option maxHeartbeats 4000000 in
set_option maxRecDepth 100000 in
theorem ct_X10_put {l : Launch} (hl : l.stackTraces = false) {B : Bt} {a0 : Nat} {x1 : Int32} {w : MW} {r : MW} (h : f_X10_put a0 x1 w = some r) : hz_Met l B false 358 358 yX10_put cX10_put 3 (Option.none : Option FieldType) 2 0 0 [.ref (B.1 + a0), .int x1] w none r := by
  refine hz_ofJ (rv := (fun _ : MW => none)) (wo := (fun r : MW => r)) (own := RX10) (ini := false) hl (by decide) rfl (Or.inr rfl) (Nat.le_of_ble_eq_true rfl) rfl ?_ h
  intro p e s m args below meth c
  unfold f_X10_put
  refine hz_gdr (fun ga0 => ?_)
  refine hz_bipush (pc' := 2) (v := 24) dX10_put_0 rfl (by decide) ?_
  refine hz_istore_n (pc' := 3) (L' := [(2, .int 24), (0, .ref (B.1 + a0)), (1, .int x1)]) dX10_put_2 rfl rfl (by decide) rfl ?_
  refine hz_bindJ (pcJ := 39) (LJ := fun q2 : MW => []) (stJ := fun _ => []) (kJ := 0) (slJ := 0) (nJ := 358) (wJ := fun q2 : MW => q2) (fun q2 => ?_) (fun hq2 => ?_)
  · exact hz_retv dX10_put_39 rfl (by decide)
  · refine hz_loc [1, 2, 0] rfl (hz_loopJ (lp := lp_X10_put_3 a0 x1) (Lh := fun v1 : Int32 × MW => [(0, .ref (B.1 + a0)), (1, .int x1), (2, .int v1.1)]) (wh := fun v1 : Int32 × MW => v1.2) (fun _ => rfl) (fun Nv1 ihv1 v1 => ?_) 3000 (24, w))
    rw [lp_X10_put_3]
    refine hz_iload_n (pc' := 4) (j := 2) dX10_put_3 rfl rfl rfl ?_
    refine hz_iflt (pc' := 7) (tgt := 39) dX10_put_4 (by decide) rfl ?_ ?_
    · exact hz_loc [] rfl (hq2 v1.2)
    · refine hz_aload_n (pc' := 8) (j := 0) dX10_put_7 rfl rfl rfl ?_
      refine hz_gP (pc' := 11) (c' := 20) fl_X10_43.r ga0 rfl dX10_put_8 rfl (fun b3 gb3 => ?_)
      refine hz_aload_n (pc' := 12) (j := 0) dX10_put_11 rfl rfl rfl ?_
      refine hz_gI (pc' := 15) fl_X10_81.r ga0 rfl dX10_put_12 rfl ?_
      refine hz_iload_n (pc' := 16) (j := 1) dX10_put_15 rfl rfl rfl ?_
      refine hz_iload_n (pc' := 17) (j := 2) dX10_put_16 rfl rfl rfl ?_
      refine hz_ishr (pc' := 18) dX10_put_17 rfl ?_
      refine hz_sipush (pc' := 21) (v := 255) dX10_put_18 rfl (by decide) ?_
      refine hz_iand (pc' := 22) dX10_put_21 rfl ?_
      refine hz_iast (pc' := 23) gb3 dX10_put_22 rfl (fun w4 => ?_)
      refine hz_aload_n (pc' := 24) (j := 0) dX10_put_23 rfl rfl rfl ?_
      refine hz_dup (pc' := 25) dX10_put_24 rfl rfl ?_
      refine hz_gI (pc' := 28) fl_X10_81.r ga0 rfl dX10_put_25 rfl ?_
      refine hz_iconst (pc' := 29) (v := 1) dX10_put_28 rfl (by decide) ?_
      refine hz_iadd (pc' := 30) dX10_put_29 rfl ?_
      refine hz_putI (pc' := 33) fl_X10_81 ga0 rfl dX10_put_30 rfl (fun w5 => ?_)
      refine hz_iincN (pc' := 36) (j := 2) (fun v6 => [(2, .int v6), (0, .ref (B.1 + a0)), (1, .int x1)]) dX10_put_33 rfl rfl (by decide) (fun _ => rfl) (fun v6 => ?_)
      refine hz_goto (tgt := 3) dX10_put_36 (by decide) ?_
      exact hz_loc [1, 2, 0] rfl (ihv1 (v6, w5))
def f_X10_append (a0 : Nat) (x1 : Int32) (x2 : Int32) (x3 : Int32) (x4 : Int32) (x5 : Int32) (w : MW) : Option (Int32 × MW) :=
  hz_gd (hz_g 358 a0 11) (Option.bind ((if ((w.1 a0 16) + 20) ≤ 500 then some 0 else some 1)) (fun q1 : Int32 => hz_let (hz_pn w a0 4 q1) (fun w2 => (if (w2.1 a0 4) ≤ 0 then hz_bv (f_X10_put a0 x1 w2) (fun w3 => hz_bv (f_X10_put a0 x2 w3) (fun w4 => hz_bv (f_X10_put a0 x3 w4) (fun w5 => hz_bv (f_X10_put a0 x4 w5) (fun w6 => hz_bv (f_X10_put a0 x5 w6) (fun w7 => some ((w7.1 a0 16), w7)))))) else some (0, w2)))))
set_option maxHeartbeats 4000000 in
set_option maxRecDepth 100000 in
theorem ct_X10_append {l : Launch} (hl : l.stackTraces = false) {B : Bt} {a0 : Nat} {x1 : Int32} {x2 : Int32} {x3 : Int32} {x4 : Int32} {x5 : Int32} {w : MW} {r : Int32 × MW} (h : f_X10_append a0 x1 x2 x3 x4 x5 w = some r) : hz_Met l B false 358 358 yX10_append cX10_append 6 (Option.some FieldType.int) 3 0 0 [.ref (B.1 + a0), .int x1, .int x2, .int x3, .int x4, .int x5] w (some (.int r.1)) r.2 := by
  refine hz_ofJ (rv := (fun r : Int32 × MW => some (.int r.1))) (wo := (fun r : Int32 × MW => r.2)) (own := RX10) (ini := false) hl (by decide) rfl (Or.inr rfl) (Nat.le_of_ble_eq_true rfl) rfl ?_ h
  intro p e s m args below meth c
  unfold f_X10_append
  refine hz_gdr (fun ga0 => ?_)
  refine hz_aload_n (pc' := 1) (j := 0) dX10_append_0 rfl rfl rfl ?_
  refine hz_aload_n (pc' := 2) (j := 0) dX10_append_1 rfl rfl rfl ?_
  refine hz_gI (pc' := 5) fl_X10_81.r ga0 rfl dX10_append_2 rfl ?_
  refine hz_bipush (pc' := 7) (v := 20) dX10_append_5 rfl (by decide) ?_
  refine hz_iadd (pc' := 8) dX10_append_7 rfl ?_
  refine hz_sipush (pc' := 11) (v := 500) dX10_append_8 rfl (by decide) ?_
  refine hz_bindJ (pcJ := 19) (LJ := fun q1 : Int32 => [(0, .ref (B.1 + a0)), (1, .int x1), (2, .int x2), (3, .int x3), (4, .int x4), (5, .int x5)]) (stJ := fun q1 : Int32 => [.int q1, .ref (B.1 + a0)]) (kJ := 0) (slJ := 0) (nJ := 358) (wJ := fun q1 : Int32 => w) (fun q1 => ?_) (fun hq1 => ?_)
  · refine hz_putI (pc' := 22) fl_X10_74 ga0 rfl dX10_append_19 rfl (fun w2 => ?_)
    refine hz_aload_n (pc' := 23) (j := 0) dX10_append_22 rfl rfl rfl ?_
    refine hz_gI (pc' := 26) fl_X10_74.r ga0 rfl dX10_append_23 rfl ?_
    refine hz_ifle (pc' := 29) (tgt := 31) dX10_append_26 (by decide) rfl ?_ ?_
    · refine hz_aload_n (pc' := 32) (j := 0) dX10_append_31 rfl rfl rfl ?_
      refine hz_iload_n (pc' := 33) (j := 1) dX10_append_32 rfl rfl rfl ?_
      refine hz_cVv (pc' := 36) (av := [.int x1]) (rest := []) vl_X10_84 (fun w' h => ct_X10_put hl h) ga0 rfl rfl (Nat.le_of_ble_eq_true rfl) (by decide) (by decide) rfl dX10_append_33 rfl (fun w3 => ?_)
      refine hz_aload_n (pc' := 37) (j := 0) dX10_append_36 rfl rfl rfl ?_
      refine hz_iload_n (pc' := 38) (j := 2) dX10_append_37 rfl rfl rfl ?_
      refine hz_cVv (pc' := 41) (av := [.int x2]) (rest := []) vl_X10_84 (fun w' h => ct_X10_put hl h) ga0 rfl rfl (Nat.le_of_ble_eq_true rfl) (by decide) (by decide) rfl dX10_append_38 rfl (fun w4 => ?_)
      refine hz_aload_n (pc' := 42) (j := 0) dX10_append_41 rfl rfl rfl ?_
      refine hz_iload_n (pc' := 43) (j := 3) dX10_append_42 rfl rfl rfl ?_
      refine hz_cVv (pc' := 46) (av := [.int x3]) (rest := []) vl_X10_84 (fun w' h => ct_X10_put hl h) ga0 rfl rfl (Nat.le_of_ble_eq_true rfl) (by decide) (by decide) rfl dX10_append_43 rfl (fun w5 => ?_)
      refine hz_aload_n (pc' := 47) (j := 0) dX10_append_46 rfl rfl rfl ?_
      refine hz_iload (pc' := 49) (j := 4) dX10_append_47 rfl rfl ?_
      refine hz_cVv (pc' := 52) (av := [.int x4]) (rest := []) vl_X10_84 (fun w' h => ct_X10_put hl h) ga0 rfl rfl (Nat.le_of_ble_eq_true rfl) (by decide) (by decide) rfl dX10_append_49 rfl (fun w6 => ?_)
      refine hz_aload_n (pc' := 53) (j := 0) dX10_append_52 rfl rfl rfl ?_
      refine hz_iload (pc' := 55) (j := 5) dX10_append_53 rfl rfl ?_
      refine hz_cVv (pc' := 58) (av := [.int x5]) (rest := []) vl_X10_84 (fun w' h => ct_X10_put hl h) ga0 rfl rfl (Nat.le_of_ble_eq_true rfl) (by decide) (by decide) rfl dX10_append_55 rfl (fun w7 => ?_)
      refine hz_aload_n (pc' := 59) (j := 0) dX10_append_58 rfl rfl rfl ?_
      refine hz_gI (pc' := 62) fl_X10_81.r ga0 rfl dX10_append_59 rfl ?_
      exact hz_reti dX10_append_62 rfl (by decide)
    · refine hz_iconst (pc' := 30) (v := 0) dX10_append_29 rfl (by decide) ?_
      exact hz_reti dX10_append_30 rfl (by decide)
  · refine hz_icmple (pc' := 14) (tgt := 18) dX10_append_11 (by decide) rfl ?_ ?_
    · refine hz_iconst (pc' := 19) (v := 0) dX10_append_18 rfl (by decide) ?_
      exact hz_loc [0, 1, 2, 3, 4, 5] rfl (hq1 0)
    · refine hz_iconst (pc' := 15) (v := 1) dX10_append_14 rfl (by decide) ?_
      refine hz_goto (tgt := 19) dX10_append_15 (by decide) ?_
      exact hz_loc [0, 1, 2, 3, 4, 5] rfl (hq1 1)
def f_X10_truncate (a0 : Nat) (x1 : Int32) (w : MW) : Option (Int32 × MW) :=
  hz_gd (hz_g 358 a0 11) (hz_b (f_X10_isIn (Int32.toInt64 x1) 0 (Int32.toInt64 (w.1 a0 16)) w) (fun v2 w1 => Option.bind ((if v2 = 0 then some 1 else some 0)) (fun q3 : Int32 => hz_let (hz_pn w1 a0 4 q3) (fun w4 => (if (w4.1 a0 4) ≤ 0 then hz_let (hz_pn w4 a0 16 x1) (fun w5 => some ((w5.1 a0 16), w5)) else some (0, w4))))))
set_option maxHeartbeats 4000000 in
set_option maxRecDepth 100000 in
theorem ct_X10_truncate {l : Launch} (hl : l.stackTraces = false) {B : Bt} {a0 : Nat} {x1 : Int32} {w : MW} {r : Int32 × MW} (h : f_X10_truncate a0 x1 w = some r) : hz_Met l B false 358 358 yX10_truncate cX10_truncate 2 (Option.some FieldType.int) 3 0 0 [.ref (B.1 + a0), .int x1] w (some (.int r.1)) r.2 := by
  refine hz_ofJ (rv := (fun r : Int32 × MW => some (.int r.1))) (wo := (fun r : Int32 × MW => r.2)) (own := RX10) (ini := false) hl (by decide) rfl (Or.inr rfl) (Nat.le_of_ble_eq_true rfl) rfl ?_ h
  intro p e s m args below meth c
  unfold f_X10_truncate
  refine hz_gdr (fun ga0 => ?_)
  refine hz_aload_n (pc' := 1) (j := 0) dX10_truncate_0 rfl rfl rfl ?_
  refine hz_iload_n (pc' := 2) (j := 1) dX10_truncate_1 rfl rfl rfl ?_
  refine hz_i2l (pc' := 3) dX10_truncate_2 rfl ?_
  refine hz_lconst (pc' := 4) (v := 0) dX10_truncate_3 rfl (by decide) ?_
  refine hz_aload_n (pc' := 5) (j := 0) dX10_truncate_4 rfl rfl rfl ?_
  refine hz_gI (pc' := 8) fl_X10_81.r ga0 rfl dX10_truncate_5 rfl ?_
  refine hz_i2l (pc' := 9) dX10_truncate_8 rfl ?_
  refine hz_cSi (pc' := 12) (av := [.long (Int32.toInt64 x1), .long 0, .long (Int32.toInt64 (w.1 a0 16))]) (rest := [.ref (B.1 + a0)]) sl_X10_88 (fun x w' h => ct_X10_isIn hl h) rfl rfl (Nat.le_of_ble_eq_true rfl) (by decide) (by decide) rfl dX10_truncate_9 rfl (fun v2 w1 => ?_)
  refine hz_bindJ (pcJ := 20) (LJ := fun q3 : Int32 => [(0, .ref (B.1 + a0)), (1, .int x1)]) (stJ := fun q3 : Int32 => [.int q3, .ref (B.1 + a0)]) (kJ := 0) (slJ := 0) (nJ := 358) (wJ := fun q3 : Int32 => w1) (fun q3 => ?_) (fun hq3 => ?_)
  · refine hz_putI (pc' := 23) fl_X10_74 ga0 rfl dX10_truncate_20 rfl (fun w4 => ?_)
    refine hz_aload_n (pc' := 24) (j := 0) dX10_truncate_23 rfl rfl rfl ?_
    refine hz_gI (pc' := 27) fl_X10_74.r ga0 rfl dX10_truncate_24 rfl ?_
    refine hz_ifle (pc' := 30) (tgt := 32) dX10_truncate_27 (by decide) rfl ?_ ?_
    · refine hz_aload_n (pc' := 33) (j := 0) dX10_truncate_32 rfl rfl rfl ?_
      refine hz_iload_n (pc' := 34) (j := 1) dX10_truncate_33 rfl rfl rfl ?_
      refine hz_putI (pc' := 37) fl_X10_81 ga0 rfl dX10_truncate_34 rfl (fun w5 => ?_)
      refine hz_aload_n (pc' := 38) (j := 0) dX10_truncate_37 rfl rfl rfl ?_
      refine hz_gI (pc' := 41) fl_X10_81.r ga0 rfl dX10_truncate_38 rfl ?_
      exact hz_reti dX10_truncate_41 rfl (by decide)
    · refine hz_iconst (pc' := 31) (v := 0) dX10_truncate_30 rfl (by decide) ?_
      exact hz_reti dX10_truncate_31 rfl (by decide)
  · refine hz_ifeq (pc' := 15) (tgt := 19) dX10_truncate_12 (by decide) rfl ?_ ?_
    · refine hz_iconst (pc' := 20) (v := 1) dX10_truncate_19 rfl (by decide) ?_
      exact hz_loc [0, 1] rfl (hq3 1)
    · refine hz_iconst (pc' := 16) (v := 0) dX10_truncate_15 rfl (by decide) ?_
      refine hz_goto (tgt := 20) dX10_truncate_16 (by decide) ?_
      exact hz_loc [0, 1] rfl (hq3 0)
def f_X10_byteAt (a0 : Nat) (x1 : Int32) (w : MW) : Option (Int32 × MW) :=
  hz_gd (hz_g 358 a0 11) (Option.bind ((if (w.1 a0 17) ≤ x1 then some (-1) else hz_ldp w a0 15 358 20 (fun b2 => hz_lda w b2 x1 (fun v3 => some v3)))) (fun q1 : Int32 => some (q1, w)))
set_option maxHeartbeats 4000000 in
set_option maxRecDepth 100000 in
theorem ct_X10_byteAt {l : Launch} (hl : l.stackTraces = false) {B : Bt} {a0 : Nat} {x1 : Int32} {w : MW} {r : Int32 × MW} (h : f_X10_byteAt a0 x1 w = some r) : hz_Met l B false 358 358 yX10_byteAt cX10_byteAt 2 (Option.some FieldType.int) 2 0 0 [.ref (B.1 + a0), .int x1] w (some (.int r.1)) r.2 := by
  refine hz_ofJ (rv := (fun r : Int32 × MW => some (.int r.1))) (wo := (fun r : Int32 × MW => r.2)) (own := RX10) (ini := false) hl (by decide) rfl (Or.inr rfl) (Nat.le_of_ble_eq_true rfl) rfl ?_ h
  intro p e s m args below meth c
  unfold f_X10_byteAt
  refine hz_gdr (fun ga0 => ?_)
  refine hz_iload_n (pc' := 1) (j := 1) dX10_byteAt_0 rfl rfl rfl ?_
  refine hz_aload_n (pc' := 2) (j := 0) dX10_byteAt_1 rfl rfl rfl ?_
  refine hz_gI (pc' := 5) fl_X10_92.r ga0 rfl dX10_byteAt_2 rfl ?_
  refine hz_bindJ (pcJ := 18) (LJ := fun q1 : Int32 => []) (stJ := fun q1 : Int32 => [.int q1]) (kJ := 0) (slJ := 0) (nJ := 358) (wJ := fun q1 : Int32 => w) (fun q1 => ?_) (fun hq1 => ?_)
  · exact hz_reti dX10_byteAt_18 rfl (by decide)
  · refine hz_icmpge (pc' := 8) (tgt := 17) dX10_byteAt_5 (by decide) rfl ?_ ?_
    · refine hz_iconst (pc' := 18) (v := (-1)) dX10_byteAt_17 rfl (by decide) ?_
      exact hz_loc [] rfl (hq1 (-1))
    · refine hz_aload_n (pc' := 9) (j := 0) dX10_byteAt_8 rfl rfl rfl ?_
      refine hz_gP (pc' := 12) (c' := 20) fl_X10_43.r ga0 rfl dX10_byteAt_9 rfl (fun b2 gb2 => ?_)
      refine hz_iload_n (pc' := 13) (j := 1) dX10_byteAt_12 rfl rfl rfl ?_
      refine hz_iald (pc' := 14) gb2 dX10_byteAt_13 rfl (fun v3 => ?_)
      refine hz_goto (tgt := 18) dX10_byteAt_14 (by decide) ?_
      exact hz_loc [] rfl (hq1 v3)
def f_X10_isLetterAt (a0 : Nat) (x1 : Int32) (w : MW) : Option (Int32 × MW) :=
  hz_gd (hz_g 358 a0 11) (hz_b (f_X10_byteAt a0 x1 w) (fun v2 w1 => hz_b (f_X10_isIn (Int32.toInt64 v2) 97 122 w1) (fun v4 w3 => hz_gd (hz_isb v4) (some (v4, w3)))))
set_option maxHeartbeats 4000000 in
set_option maxRecDepth 100000 in
theorem ct_X10_isLetterAt {l : Launch} (hl : l.stackTraces = false) {B : Bt} {a0 : Nat} {x1 : Int32} {w : MW} {r : Int32 × MW} (h : f_X10_isLetterAt a0 x1 w = some r) : hz_Met l B false 358 358 yX10_isLetterAt cX10_isLetterAt 2 (Option.some FieldType.boolean) 3 0 0 [.ref (B.1 + a0), .int x1] w (some (.int r.1)) r.2 := by
  refine hz_ofJ (rv := (fun r : Int32 × MW => some (.int r.1))) (wo := (fun r : Int32 × MW => r.2)) (own := RX10) (ini := false) hl (by decide) rfl (Or.inr rfl) (Nat.le_of_ble_eq_true rfl) rfl ?_ h
  intro p e s m args below meth c
  unfold f_X10_isLetterAt
  refine hz_gdr (fun ga0 => ?_)
  refine hz_aload_n (pc' := 1) (j := 0) dX10_isLetterAt_0 rfl rfl rfl ?_
  refine hz_iload_n (pc' := 2) (j := 1) dX10_isLetterAt_1 rfl rfl rfl ?_
  refine hz_cVi (pc' := 5) (av := [.int x1]) (rest := []) vl_X10_95 (fun x w' h => ct_X10_byteAt hl h) ga0 rfl rfl (Nat.le_of_ble_eq_true rfl) (by decide) (by decide) rfl dX10_isLetterAt_2 rfl (fun v2 w1 => ?_)
  refine hz_i2l (pc' := 6) dX10_isLetterAt_5 rfl ?_
  refine hz_ldc2 (pc' := 9) (v := 97) dX10_isLetterAt_6 rfl hq_1361 ?_
  refine hz_ldc2 (pc' := 12) (v := 122) dX10_isLetterAt_9 rfl hq_1362 ?_
  refine hz_cSi (pc' := 15) (av := [.long (Int32.toInt64 v2), .long 97, .long 122]) (rest := []) sl_X10_88 (fun x w' h => ct_X10_isIn hl h) rfl rfl (Nat.le_of_ble_eq_true rfl) (by decide) (by decide) rfl dX10_isLetterAt_12 rfl (fun v4 w3 => ?_)
  exact hz_retz dX10_isLetterAt_15 rfl (by decide)
def f_X10_isDigitAt (a0 : Nat) (x1 : Int32) (w : MW) : Option (Int32 × MW) :=
  hz_gd (hz_g 358 a0 11) (hz_b (f_X10_byteAt a0 x1 w) (fun v2 w1 => hz_b (f_X10_isIn (Int32.toInt64 v2) 48 57 w1) (fun v4 w3 => hz_gd (hz_isb v4) (some (v4, w3)))))
set_option maxHeartbeats 4000000 in
set_option maxRecDepth 100000 in
theorem ct_X10_isDigitAt {l : Launch} (hl : l.stackTraces = false) {B : Bt} {a0 : Nat} {x1 : Int32} {w : MW} {r : Int32 × MW} (h : f_X10_isDigitAt a0 x1 w = some r) : hz_Met l B false 358 358 yX10_isDigitAt cX10_isDigitAt 2 (Option.some FieldType.boolean) 3 0 0 [.ref (B.1 + a0), .int x1] w (some (.int r.1)) r.2 := by
  refine hz_ofJ (rv := (fun r : Int32 × MW => some (.int r.1))) (wo := (fun r : Int32 × MW => r.2)) (own := RX10) (ini := false) hl (by decide) rfl (Or.inr rfl) (Nat.le_of_ble_eq_true rfl) rfl ?_ h
  intro p e s m args below meth c
  unfold f_X10_isDigitAt
  refine hz_gdr (fun ga0 => ?_)
  refine hz_aload_n (pc' := 1) (j := 0) dX10_isDigitAt_0 rfl rfl rfl ?_
  refine hz_iload_n (pc' := 2) (j := 1) dX10_isDigitAt_1 rfl rfl rfl ?_
  refine hz_cVi (pc' := 5) (av := [.int x1]) (rest := []) vl_X10_95 (fun x w' h => ct_X10_byteAt hl h) ga0 rfl rfl (Nat.le_of_ble_eq_true rfl) (by decide) (by decide) rfl dX10_isDigitAt_2 rfl (fun v2 w1 => ?_)
  refine hz_i2l (pc' := 6) dX10_isDigitAt_5 rfl ?_
  refine hz_ldc2 (pc' := 9) (v := 48) dX10_isDigitAt_6 rfl hq_1367 ?_
  refine hz_ldc2 (pc' := 12) (v := 57) dX10_isDigitAt_9 rfl hq_1368 ?_
  refine hz_cSi (pc' := 15) (av := [.long (Int32.toInt64 v2), .long 48, .long 57]) (rest := []) sl_X10_88 (fun x w' h => ct_X10_isIn hl h) rfl rfl (Nat.le_of_ble_eq_true rfl) (by decide) (by decide) rfl dX10_isDigitAt_12 rfl (fun v4 w3 => ?_)
  exact hz_retz dX10_isDigitAt_15 rfl (by decide)
def f_X10_isFine (a0 : Nat) (w : MW) : Option (Int32 × MW) :=
  hz_gd (hz_g 358 a0 11) (Option.bind ((if (w.1 a0 22) = 0 then some 1 else some 0)) (fun q1 : Int32 => hz_gd (hz_isb q1) (some (q1, w))))
set_option maxHeartbeats 4000000 in
set_option maxRecDepth 100000 in
theorem ct_X10_isFine {l : Launch} (hl : l.stackTraces = false) {B : Bt} {a0 : Nat} {w : MW} {r : Int32 × MW} (h : f_X10_isFine a0 w = some r) : hz_Met l B false 358 358 yX10_isFine cX10_isFine 1 (Option.some FieldType.boolean) 2 0 0 [.ref (B.1 + a0)] w (some (.int r.1)) r.2 := by
  refine hz_ofJ (rv := (fun r : Int32 × MW => some (.int r.1))) (wo := (fun r : Int32 × MW => r.2)) (own := RX10) (ini := false) hl (by decide) rfl (Or.inr rfl) (Nat.le_of_ble_eq_true rfl) rfl ?_ h
  intro p e s m args below meth c
  unfold f_X10_isFine
  refine hz_gdr (fun ga0 => ?_)
  refine hz_aload_n (pc' := 1) (j := 0) dX10_isFine_0 rfl rfl rfl ?_
  refine hz_gI (pc' := 4) fl_X10_107.r ga0 rfl dX10_isFine_1 rfl ?_
  refine hz_bindJ (pcJ := 12) (LJ := fun q1 : Int32 => []) (stJ := fun q1 : Int32 => [.int q1]) (kJ := 0) (slJ := 0) (nJ := 358) (wJ := fun q1 : Int32 => w) (fun q1 => ?_) (fun hq1 => ?_)
  · exact hz_retz dX10_isFine_12 rfl (by decide)
  · refine hz_ifne (pc' := 7) (tgt := 11) dX10_isFine_4 (by decide) rfl ?_ ?_
    · refine hz_iconst (pc' := 12) (v := 0) dX10_isFine_11 rfl (by decide) ?_
      exact hz_loc [] rfl (hq1 0)
    · refine hz_iconst (pc' := 8) (v := 1) dX10_isFine_7 rfl (by decide) ?_
      refine hz_goto (tgt := 12) dX10_isFine_8 (by decide) ?_
      exact hz_loc [] rfl (hq1 1)
def lp_X10_next_8 (c0 : Nat) : Nat → MW → Option (MW)
  | 0, _ => none
  | N + 1, v0 => hz_b (f_X10_byteAt c0 (v0.1 c0 18) v0) (fun v4 w3 => (if v4 = 32 then hz_let (hz_pn w3 c0 18 ((w3.1 c0 18) + 1)) (fun w5 => lp_X10_next_8 c0 N w5) else hz_b (f_X10_byteAt c0 (w3.1 c0 18) w3) (fun v7 w6 => (if v7 = 10 then hz_let (hz_pn w6 c0 18 ((w6.1 c0 18) + 1)) (fun w8 => lp_X10_next_8 c0 N w8) else some w6))))
def lp_X10_next_133 (c0 : Nat) : Nat → MW → Option (MW)
  | 0, _ => none
  | N + 1, v0 => hz_b (f_X10_isDigitAt c0 (v0.1 c0 18) v0) (fun v18 w17 => (if v18 = 0 then some w17 else Option.bind ((if 5 ≤ ((w17.1 c0 18) - (w17.1 c0 19)) then some w17 else hz_b (f_X10_byteAt c0 (w17.1 c0 18) w17) (fun v22 w21 => hz_let (hz_pn w21 c0 21 (((10 * (w17.1 c0 21)) + v22) - 48)) (fun w23 => some w23)))) (fun q19 : MW => hz_let (hz_pn q19 c0 18 ((q19.1 c0 18) + 1)) (fun w20 => lp_X10_next_133 c0 N w20))))
def lp_X10_next_85 (c0 : Nat) : Nat → MW → Option (MW)
  | 0, _ => none
  | N + 1, v0 => hz_b (f_X10_isLetterAt c0 (v0.1 c0 18) v0) (fun v29 w28 => (if v29 = 0 then some w28 else hz_let (hz_pn w28 c0 18 ((w28.1 c0 18) + 1)) (fun w30 => lp_X10_next_85 c0 N w30)))
def f_X10_next (a0 : Nat) (w : MW) : Option (MW) :=
  hz_gd (hz_g 358 a0 11) (hz_b (f_X10_isFine a0 w) (fun v2 w1 => (if v2 = 0 then some w1 else Option.bind (lp_X10_next_8 a0 3000 w1) (fun q4 : MW => hz_let (hz_pn q4 a0 19 (q4.1 a0 18)) (fun w5 => Option.bind ((if (w5.1 a0 18) = (w5.1 a0 17) then hz_let (hz_pn w5 a0 20 0) (fun w34 => some w34) else hz_b (f_X10_isLetterAt a0 (w5.1 a0 18) w5) (fun v8 w7 => (if v8 = 0 then hz_b (f_X10_isDigitAt a0 (w7.1 a0 18) w7) (fun v10 w9 => (if v10 = 0 then hz_b (f_X10_byteAt a0 (w9.1 a0 18) w9) (fun v12 w11 => Option.bind ((if v12 = 59 then some 4 else some 1)) (fun q13 : Int32 => hz_let (hz_pn w11 a0 20 q13) (fun w14 => hz_let (hz_pn w14 a0 18 ((w14.1 a0 18) + 1)) (fun w15 => some w15)))) else hz_let (hz_pn w9 a0 21 0) (fun w16 => Option.bind (lp_X10_next_133 a0 3000 w16) (fun q18 : MW => Option.bind ((if ((q18.1 a0 18) - (q18.1 a0 19)) ≤ 5 then some 3 else some 1)) (fun q19 : Int32 => hz_let (hz_pn q18 a0 20 q19) (fun w20 => some w20)))))) else Option.bind (lp_X10_next_85 a0 3000 w7) (fun q29 : MW => hz_let (hz_pn q29 a0 20 2) (fun w30 => some w30)))))) (fun q6 : MW => some q6))))))
set_option maxHeartbeats 4000000 in
set_option maxRecDepth 100000 in
theorem ct_X10_next {l : Launch} (hl : l.stackTraces = false) {B : Bt} {a0 : Nat} {w : MW} {r : MW} (h : f_X10_next a0 w = some r) : hz_Met l B false 358 358 yX10_next cX10_next 1 (Option.none : Option FieldType) 4 0 0 [.ref (B.1 + a0)] w none r := by
  refine hz_ofJ (rv := (fun _ : MW => none)) (wo := (fun r : MW => r)) (own := RX10) (ini := false) hl (by decide) rfl (Or.inr rfl) (Nat.le_of_ble_eq_true rfl) rfl ?_ h
  intro p e s m args below meth c
  unfold f_X10_next
  refine hz_gdr (fun ga0 => ?_)
  refine hz_aload_n (pc' := 1) (j := 0) dX10_next_0 rfl rfl rfl ?_
  refine hz_cVi (pc' := 4) (av := []) (rest := []) vl_X10_110 (fun x w' h => ct_X10_isFine hl h) ga0 rfl rfl (Nat.le_of_ble_eq_true rfl) (by decide) (by decide) rfl dX10_next_1 rfl (fun v2 w1 => ?_)
  refine hz_ifne (pc' := 7) (tgt := 8) dX10_next_4 (by decide) rfl ?_ ?_
  · refine hz_bindJ (pcJ := 47) (LJ := fun q4 : MW => [(0, .ref (B.1 + a0))]) (stJ := fun _ => []) (kJ := 0) (slJ := 0) (nJ := 358) (wJ := fun q4 : MW => q4) (fun q4 => ?_) (fun hq4 => ?_)
    · refine hz_aload_n (pc' := 48) (j := 0) dX10_next_47 rfl rfl rfl ?_
      refine hz_aload_n (pc' := 49) (j := 0) dX10_next_48 rfl rfl rfl ?_
      refine hz_gI (pc' := 52) fl_X10_114.r ga0 rfl dX10_next_49 rfl ?_
      refine hz_putI (pc' := 55) fl_X10_117 ga0 rfl dX10_next_52 rfl (fun w5 => ?_)
      refine hz_aload_n (pc' := 56) (j := 0) dX10_next_55 rfl rfl rfl ?_
      refine hz_gI (pc' := 59) fl_X10_114.r ga0 rfl dX10_next_56 rfl ?_
      refine hz_aload_n (pc' := 60) (j := 0) dX10_next_59 rfl rfl rfl ?_
      refine hz_gI (pc' := 63) fl_X10_92.r ga0 rfl dX10_next_60 rfl ?_
      refine hz_bindJ (pcJ := 250) (LJ := fun q6 : MW => []) (stJ := fun q6 : MW => []) (kJ := 0) (slJ := 0) (nJ := 358) (wJ := fun q6 : MW => q6) (fun q6 => ?_) (fun hq6 => ?_)
      · exact hz_retv dX10_next_250 rfl (by decide)
      · refine hz_icmpne (pc' := 66) (tgt := 74) dX10_next_63 (by decide) rfl ?_ ?_
        · refine hz_aload_n (pc' := 75) (j := 0) dX10_next_74 rfl rfl rfl ?_
          refine hz_aload_n (pc' := 76) (j := 0) dX10_next_75 rfl rfl rfl ?_
          refine hz_gI (pc' := 79) fl_X10_114.r ga0 rfl dX10_next_76 rfl ?_
          refine hz_cVi (pc' := 82) (av := [.int (w5.1 a0 18)]) (rest := []) vl_X10_123 (fun x w' h => ct_X10_isLetterAt hl h) ga0 rfl rfl (Nat.le_of_ble_eq_true rfl) (by decide) (by decide) rfl dX10_next_79 rfl (fun v8 w7 => ?_)
          refine hz_ifeq (pc' := 85) (tgt := 117) dX10_next_82 (by decide) rfl ?_ ?_
          · refine hz_aload_n (pc' := 118) (j := 0) dX10_next_117 rfl rfl rfl ?_
            refine hz_aload_n (pc' := 119) (j := 0) dX10_next_118 rfl rfl rfl ?_
            refine hz_gI (pc' := 122) fl_X10_114.r ga0 rfl dX10_next_119 rfl ?_
            refine hz_cVi (pc' := 125) (av := [.int (w7.1 a0 18)]) (rest := []) vl_X10_127 (fun x w' h => ct_X10_isDigitAt hl h) ga0 rfl rfl (Nat.le_of_ble_eq_true rfl) (by decide) (by decide) rfl dX10_next_122 rfl (fun v10 w9 => ?_)
            refine hz_ifeq (pc' := 128) (tgt := 218) dX10_next_125 (by decide) rfl ?_ ?_
            · refine hz_aload_n (pc' := 219) (j := 0) dX10_next_218 rfl rfl rfl ?_
              refine hz_aload_n (pc' := 220) (j := 0) dX10_next_219 rfl rfl rfl ?_
              refine hz_aload_n (pc' := 221) (j := 0) dX10_next_220 rfl rfl rfl ?_
              refine hz_gI (pc' := 224) fl_X10_114.r ga0 rfl dX10_next_221 rfl ?_
              refine hz_cVi (pc' := 227) (av := [.int (w9.1 a0 18)]) (rest := [.ref (B.1 + a0)]) vl_X10_95 (fun x w' h => ct_X10_byteAt hl h) ga0 rfl rfl (Nat.le_of_ble_eq_true rfl) (by decide) (by decide) rfl dX10_next_224 rfl (fun v12 w11 => ?_)
              refine hz_bipush (pc' := 229) (v := 59) dX10_next_227 rfl (by decide) ?_
              refine hz_bindJ (pcJ := 237) (LJ := fun q13 : Int32 => [(0, .ref (B.1 + a0))]) (stJ := fun q13 : Int32 => [.int q13, .ref (B.1 + a0)]) (kJ := 0) (slJ := 0) (nJ := 358) (wJ := fun q13 : Int32 => w11) (fun q13 => ?_) (fun hq13 => ?_)
              · refine hz_putI (pc' := 240) fl_X10_120 ga0 rfl dX10_next_237 rfl (fun w14 => ?_)
                refine hz_aload_n (pc' := 241) (j := 0) dX10_next_240 rfl rfl rfl ?_
                refine hz_dup (pc' := 242) dX10_next_241 rfl rfl ?_
                refine hz_gI (pc' := 245) fl_X10_114.r ga0 rfl dX10_next_242 rfl ?_
                refine hz_iconst (pc' := 246) (v := 1) dX10_next_245 rfl (by decide) ?_
                refine hz_iadd (pc' := 247) dX10_next_246 rfl ?_
                refine hz_putI (pc' := 250) fl_X10_114 ga0 rfl dX10_next_247 rfl (fun w15 => ?_)
                exact hz_loc [] rfl (hq6 w15)
              · refine hz_icmpne (pc' := 232) (tgt := 236) dX10_next_229 (by decide) rfl ?_ ?_
                · refine hz_iconst (pc' := 237) (v := 1) dX10_next_236 rfl (by decide) ?_
                  exact hz_loc [0] rfl (hq13 1)
                · refine hz_iconst (pc' := 233) (v := 4) dX10_next_232 rfl (by decide) ?_
                  refine hz_goto (tgt := 237) dX10_next_233 (by decide) ?_
                  exact hz_loc [0] rfl (hq13 4)
            · refine hz_aload_n (pc' := 129) (j := 0) dX10_next_128 rfl rfl rfl ?_
              refine hz_iconst (pc' := 130) (v := 0) dX10_next_129 rfl (by decide) ?_
              refine hz_putI (pc' := 133) fl_X10_130 ga0 rfl dX10_next_130 rfl (fun w16 => ?_)
              refine hz_bindJ (pcJ := 193) (LJ := fun q18 : MW => [(0, .ref (B.1 + a0))]) (stJ := fun _ => []) (kJ := 0) (slJ := 0) (nJ := 358) (wJ := fun q18 : MW => q18) (fun q18 => ?_) (fun hq18 => ?_)
              · refine hz_aload_n (pc' := 194) (j := 0) dX10_next_193 rfl rfl rfl ?_
                refine hz_aload_n (pc' := 195) (j := 0) dX10_next_194 rfl rfl rfl ?_
                refine hz_gI (pc' := 198) fl_X10_114.r ga0 rfl dX10_next_195 rfl ?_
                refine hz_aload_n (pc' := 199) (j := 0) dX10_next_198 rfl rfl rfl ?_
                refine hz_gI (pc' := 202) fl_X10_117.r ga0 rfl dX10_next_199 rfl ?_
                refine hz_isub (pc' := 203) dX10_next_202 rfl ?_
                refine hz_iconst (pc' := 204) (v := 5) dX10_next_203 rfl (by decide) ?_
                refine hz_bindJ (pcJ := 212) (LJ := fun q19 : Int32 => []) (stJ := fun q19 : Int32 => [.int q19, .ref (B.1 + a0)]) (kJ := 0) (slJ := 0) (nJ := 358) (wJ := fun q19 : Int32 => q18) (fun q19 => ?_) (fun hq19 => ?_)
                · refine hz_putI (pc' := 215) fl_X10_120 ga0 rfl dX10_next_212 rfl (fun w20 => ?_)
                  refine hz_goto (tgt := 250) dX10_next_215 (by decide) ?_
                  exact hz_loc [] rfl (hq6 w20)
                · refine hz_icmple (pc' := 207) (tgt := 211) dX10_next_204 (by decide) rfl ?_ ?_
                  · refine hz_iconst (pc' := 212) (v := 3) dX10_next_211 rfl (by decide) ?_
                    exact hz_loc [] rfl (hq19 3)
                  · refine hz_iconst (pc' := 208) (v := 1) dX10_next_207 rfl (by decide) ?_
                    refine hz_goto (tgt := 212) dX10_next_208 (by decide) ?_
                    exact hz_loc [] rfl (hq19 1)
              · refine hz_loc [0] rfl (hz_loopJ (lp := lp_X10_next_133 a0) (Lh := fun v17 : MW => [(0, .ref (B.1 + a0))]) (wh := fun v17 : MW => v17) (fun _ => rfl) (fun Nv17 ihv17 v17 => ?_) 3000 w16)
                rw [lp_X10_next_133]
                refine hz_aload_n (pc' := 134) (j := 0) dX10_next_133 rfl rfl rfl ?_
                refine hz_aload_n (pc' := 135) (j := 0) dX10_next_134 rfl rfl rfl ?_
                refine hz_gI (pc' := 138) fl_X10_114.r ga0 rfl dX10_next_135 rfl ?_
                refine hz_cVi (pc' := 141) (av := [.int (v17.1 a0 18)]) (rest := []) vl_X10_127 (fun x w' h => ct_X10_isDigitAt hl h) ga0 rfl rfl (Nat.le_of_ble_eq_true rfl) (by decide) (by decide) rfl dX10_next_138 rfl (fun v22 w21 => ?_)
                refine hz_ifeq (pc' := 144) (tgt := 193) dX10_next_141 (by decide) rfl ?_ ?_
                · exact hz_loc [0] rfl (hq18 w21)
                · refine hz_aload_n (pc' := 145) (j := 0) dX10_next_144 rfl rfl rfl ?_
                  refine hz_gI (pc' := 148) fl_X10_114.r ga0 rfl dX10_next_145 rfl ?_
                  refine hz_aload_n (pc' := 149) (j := 0) dX10_next_148 rfl rfl rfl ?_
                  refine hz_gI (pc' := 152) fl_X10_117.r ga0 rfl dX10_next_149 rfl ?_
                  refine hz_isub (pc' := 153) dX10_next_152 rfl ?_
                  refine hz_iconst (pc' := 154) (v := 5) dX10_next_153 rfl (by decide) ?_
                  refine hz_bindJ (pcJ := 180) (LJ := fun q23 : MW => [(0, .ref (B.1 + a0))]) (stJ := fun q23 : MW => []) (kJ := 0) (slJ := 0) (nJ := 358) (wJ := fun q23 : MW => q23) (fun q23 => ?_) (fun hq23 => ?_)
                  · refine hz_aload_n (pc' := 181) (j := 0) dX10_next_180 rfl rfl rfl ?_
                    refine hz_dup (pc' := 182) dX10_next_181 rfl rfl ?_
                    refine hz_gI (pc' := 185) fl_X10_114.r ga0 rfl dX10_next_182 rfl ?_
                    refine hz_iconst (pc' := 186) (v := 1) dX10_next_185 rfl (by decide) ?_
                    refine hz_iadd (pc' := 187) dX10_next_186 rfl ?_
                    refine hz_putI (pc' := 190) fl_X10_114 ga0 rfl dX10_next_187 rfl (fun w24 => ?_)
                    refine hz_goto (tgt := 133) dX10_next_190 (by decide) ?_
                    exact hz_loc [0] rfl (ihv17 w24)
                  · refine hz_icmpge (pc' := 157) (tgt := 180) dX10_next_154 (by decide) rfl ?_ ?_
                    · exact hz_loc [0] rfl (hq23 w21)
                    · refine hz_aload_n (pc' := 158) (j := 0) dX10_next_157 rfl rfl rfl ?_
                      refine hz_bipush (pc' := 160) (v := 10) dX10_next_158 rfl (by decide) ?_
                      refine hz_aload_n (pc' := 161) (j := 0) dX10_next_160 rfl rfl rfl ?_
                      refine hz_gI (pc' := 164) fl_X10_130.r ga0 rfl dX10_next_161 rfl ?_
                      refine hz_imul (pc' := 165) dX10_next_164 rfl ?_
                      refine hz_aload_n (pc' := 166) (j := 0) dX10_next_165 rfl rfl rfl ?_
                      refine hz_aload_n (pc' := 167) (j := 0) dX10_next_166 rfl rfl rfl ?_
                      refine hz_gI (pc' := 170) fl_X10_114.r ga0 rfl dX10_next_167 rfl ?_
                      refine hz_cVi (pc' := 173) (av := [.int (w21.1 a0 18)]) (rest := [.int (10 * (w21.1 a0 21)), .ref (B.1 + a0)]) vl_X10_95 (fun x w' h => ct_X10_byteAt hl h) ga0 rfl rfl (Nat.le_of_ble_eq_true rfl) (by decide) (by decide) rfl dX10_next_170 rfl (fun v26 w25 => ?_)
                      refine hz_iadd (pc' := 174) dX10_next_173 rfl ?_
                      refine hz_bipush (pc' := 176) (v := 48) dX10_next_174 rfl (by decide) ?_
                      refine hz_isub (pc' := 177) dX10_next_176 rfl ?_
                      refine hz_putI (pc' := 180) fl_X10_130 ga0 rfl dX10_next_177 rfl (fun w27 => ?_)
                      exact hz_loc [0] rfl (hq23 w27)
          · refine hz_bindJ (pcJ := 109) (LJ := fun q29 : MW => [(0, .ref (B.1 + a0))]) (stJ := fun _ => []) (kJ := 0) (slJ := 0) (nJ := 358) (wJ := fun q29 : MW => q29) (fun q29 => ?_) (fun hq29 => ?_)
            · refine hz_aload_n (pc' := 110) (j := 0) dX10_next_109 rfl rfl rfl ?_
              refine hz_iconst (pc' := 111) (v := 2) dX10_next_110 rfl (by decide) ?_
              refine hz_putI (pc' := 114) fl_X10_120 ga0 rfl dX10_next_111 rfl (fun w30 => ?_)
              refine hz_goto (tgt := 250) dX10_next_114 (by decide) ?_
              exact hz_loc [] rfl (hq6 w30)
            · refine hz_loc [0] rfl (hz_loopJ (lp := lp_X10_next_85 a0) (Lh := fun v28 : MW => [(0, .ref (B.1 + a0))]) (wh := fun v28 : MW => v28) (fun _ => rfl) (fun Nv28 ihv28 v28 => ?_) 3000 w7)
              rw [lp_X10_next_85]
              refine hz_aload_n (pc' := 86) (j := 0) dX10_next_85 rfl rfl rfl ?_
              refine hz_aload_n (pc' := 87) (j := 0) dX10_next_86 rfl rfl rfl ?_
              refine hz_gI (pc' := 90) fl_X10_114.r ga0 rfl dX10_next_87 rfl ?_
              refine hz_cVi (pc' := 93) (av := [.int (v28.1 a0 18)]) (rest := []) vl_X10_123 (fun x w' h => ct_X10_isLetterAt hl h) ga0 rfl rfl (Nat.le_of_ble_eq_true rfl) (by decide) (by decide) rfl dX10_next_90 rfl (fun v32 w31 => ?_)
              refine hz_ifeq (pc' := 96) (tgt := 109) dX10_next_93 (by decide) rfl ?_ ?_
              · exact hz_loc [0] rfl (hq29 w31)
              · refine hz_aload_n (pc' := 97) (j := 0) dX10_next_96 rfl rfl rfl ?_
                refine hz_dup (pc' := 98) dX10_next_97 rfl rfl ?_
                refine hz_gI (pc' := 101) fl_X10_114.r ga0 rfl dX10_next_98 rfl ?_
                refine hz_iconst (pc' := 102) (v := 1) dX10_next_101 rfl (by decide) ?_
                refine hz_iadd (pc' := 103) dX10_next_102 rfl ?_
                refine hz_putI (pc' := 106) fl_X10_114 ga0 rfl dX10_next_103 rfl (fun w33 => ?_)
                refine hz_goto (tgt := 85) dX10_next_106 (by decide) ?_
                exact hz_loc [0] rfl (ihv28 w33)
        · refine hz_aload_n (pc' := 67) (j := 0) dX10_next_66 rfl rfl rfl ?_
          refine hz_iconst (pc' := 68) (v := 0) dX10_next_67 rfl (by decide) ?_
          refine hz_putI (pc' := 71) fl_X10_120 ga0 rfl dX10_next_68 rfl (fun w34 => ?_)
          refine hz_goto (tgt := 250) dX10_next_71 (by decide) ?_
          exact hz_loc [] rfl (hq6 w34)
    · refine hz_loc [0] rfl (hz_loopJ (lp := lp_X10_next_8 a0) (Lh := fun v3 : MW => [(0, .ref (B.1 + a0))]) (wh := fun v3 : MW => v3) (fun _ => rfl) (fun Nv3 ihv3 v3 => ?_) 3000 w1)
      rw [lp_X10_next_8]
      refine hz_aload_n (pc' := 9) (j := 0) dX10_next_8 rfl rfl rfl ?_
      refine hz_aload_n (pc' := 10) (j := 0) dX10_next_9 rfl rfl rfl ?_
      refine hz_gI (pc' := 13) fl_X10_114.r ga0 rfl dX10_next_10 rfl ?_
      refine hz_cVi (pc' := 16) (av := [.int (v3.1 a0 18)]) (rest := []) vl_X10_95 (fun x w' h => ct_X10_byteAt hl h) ga0 rfl rfl (Nat.le_of_ble_eq_true rfl) (by decide) (by decide) rfl dX10_next_13 rfl (fun v36 w35 => ?_)
      refine hz_bipush (pc' := 18) (v := 32) dX10_next_16 rfl (by decide) ?_
      refine hz_icmpeq (pc' := 21) (tgt := 34) dX10_next_18 (by decide) rfl ?_ ?_
      · refine hz_aload_n (pc' := 35) (j := 0) dX10_next_34 rfl rfl rfl ?_
        refine hz_dup (pc' := 36) dX10_next_35 rfl rfl ?_
        refine hz_gI (pc' := 39) fl_X10_114.r ga0 rfl dX10_next_36 rfl ?_
        refine hz_iconst (pc' := 40) (v := 1) dX10_next_39 rfl (by decide) ?_
        refine hz_iadd (pc' := 41) dX10_next_40 rfl ?_
        refine hz_putI (pc' := 44) fl_X10_114 ga0 rfl dX10_next_41 rfl (fun w37 => ?_)
        refine hz_goto (tgt := 8) dX10_next_44 (by decide) ?_
        exact hz_loc [0] rfl (ihv3 w37)
      · refine hz_aload_n (pc' := 22) (j := 0) dX10_next_21 rfl rfl rfl ?_
        refine hz_aload_n (pc' := 23) (j := 0) dX10_next_22 rfl rfl rfl ?_
        refine hz_gI (pc' := 26) fl_X10_114.r ga0 rfl dX10_next_23 rfl ?_
        refine hz_cVi (pc' := 29) (av := [.int (w35.1 a0 18)]) (rest := []) vl_X10_95 (fun x w' h => ct_X10_byteAt hl h) ga0 rfl rfl (Nat.le_of_ble_eq_true rfl) (by decide) (by decide) rfl dX10_next_26 rfl (fun v39 w38 => ?_)
        refine hz_bipush (pc' := 31) (v := 10) dX10_next_29 rfl (by decide) ?_
        refine hz_icmpne (pc' := 34) (tgt := 47) dX10_next_31 (by decide) rfl ?_ ?_
        · exact hz_loc [0] rfl (hq4 w38)
        · refine hz_aload_n (pc' := 35) (j := 0) dX10_next_34 rfl rfl rfl ?_
          refine hz_dup (pc' := 36) dX10_next_35 rfl rfl ?_
          refine hz_gI (pc' := 39) fl_X10_114.r ga0 rfl dX10_next_36 rfl ?_
          refine hz_iconst (pc' := 40) (v := 1) dX10_next_39 rfl (by decide) ?_
          refine hz_iadd (pc' := 41) dX10_next_40 rfl ?_
          refine hz_putI (pc' := 44) fl_X10_114 ga0 rfl dX10_next_41 rfl (fun w40 => ?_)
          refine hz_goto (tgt := 8) dX10_next_44 (by decide) ?_
          exact hz_loc [0] rfl (ihv3 w40)
  · exact hz_retv dX10_next_7 rfl (by decide)
def f_X10_fail (a0 : Nat) (x1 : Int32) (w : MW) : Option (MW) :=
  hz_gd (hz_g 358 a0 11) (hz_b (f_X10_isFine a0 w) (fun v2 w1 => Option.bind ((if v2 = 0 then some w1 else hz_let (hz_pn w1 a0 22 x1) (fun w4 => hz_let (hz_pn w4 a0 23 (w4.1 a0 19)) (fun w5 => some w5)))) (fun q3 : MW => some q3)))
set_option maxHeartbeats 4000000 in
set_option maxRecDepth 100000 in
theorem ct_X10_fail {l : Launch} (hl : l.stackTraces = false) {B : Bt} {a0 : Nat} {x1 : Int32} {w : MW} {r : MW} (h : f_X10_fail a0 x1 w = some r) : hz_Met l B false 358 358 yX10_fail cX10_fail 2 (Option.none : Option FieldType) 3 0 0 [.ref (B.1 + a0), .int x1] w none r := by
  refine hz_ofJ (rv := (fun _ : MW => none)) (wo := (fun r : MW => r)) (own := RX10) (ini := false) hl (by decide) rfl (Or.inr rfl) (Nat.le_of_ble_eq_true rfl) rfl ?_ h
  intro p e s m args below meth c
  unfold f_X10_fail
  refine hz_gdr (fun ga0 => ?_)
  refine hz_aload_n (pc' := 1) (j := 0) dX10_fail_0 rfl rfl rfl ?_
  refine hz_cVi (pc' := 4) (av := []) (rest := []) vl_X10_110 (fun x w' h => ct_X10_isFine hl h) ga0 rfl rfl (Nat.le_of_ble_eq_true rfl) (by decide) (by decide) rfl dX10_fail_1 rfl (fun v2 w1 => ?_)
  refine hz_bindJ (pcJ := 20) (LJ := fun q3 : MW => []) (stJ := fun q3 : MW => []) (kJ := 0) (slJ := 0) (nJ := 358) (wJ := fun q3 : MW => q3) (fun q3 => ?_) (fun hq3 => ?_)
  · exact hz_retv dX10_fail_20 rfl (by decide)
  · refine hz_ifeq (pc' := 7) (tgt := 20) dX10_fail_4 (by decide) rfl ?_ ?_
    · exact hz_loc [] rfl (hq3 w1)
    · refine hz_aload_n (pc' := 8) (j := 0) dX10_fail_7 rfl rfl rfl ?_
      refine hz_iload_n (pc' := 9) (j := 1) dX10_fail_8 rfl rfl rfl ?_
      refine hz_putI (pc' := 12) fl_X10_107 ga0 rfl dX10_fail_9 rfl (fun w4 => ?_)
      refine hz_aload_n (pc' := 13) (j := 0) dX10_fail_12 rfl rfl rfl ?_
      refine hz_aload_n (pc' := 14) (j := 0) dX10_fail_13 rfl rfl rfl ?_
      refine hz_gI (pc' := 17) fl_X10_117.r ga0 rfl dX10_fail_14 rfl ?_
      refine hz_putI (pc' := 20) fl_X10_46 ga0 rfl dX10_fail_17 rfl (fun w5 => ?_)
      exact hz_loc [] rfl (hq3 w5)
def lp_X10_isWord_35 (c0 : Nat) (c1 : Nat) (cw : MW) : Nat → Int32 → Option (Int32 × MW)
  | 0, _ => none
  | N + 1, v0 => hz_gd (decide (c1 < 14)) ((if (Int32.ofNat (hz_wlen.getD c1 0)) ≤ v0 then hz_gd (hz_isb 1) (some (1, cw)) else hz_ldp cw c0 15 358 20 (fun b3 => hz_lda cw b3 ((cw.1 c0 19) + v0) (fun v4 => hz_gd (decide (c1 < 14) && hz_ix v0 (hz_wlen.getD c1 0)) ((if v4 = ((hz_wbyt.getD c1 []).getD (v0).toNatClampNeg 0) then hz_let (v0 + Int32.ofInt 1) (fun v5 => lp_X10_isWord_35 c0 c1 cw N v5) else hz_gd (hz_isb 0) (some (0, cw))))))))
def f_X10_isWord (a0 : Nat) (x1 : Nat) (w : MW) : Option (Int32 × MW) :=
  hz_gd (hz_g 358 a0 11) (hz_b (f_X10_isFine a0 w) (fun v2 w1 => (if v2 = 0 then hz_gd (hz_isb 0) (some (0, w1)) else (if (w1.1 a0 20) = 2 then hz_gd (decide (x1 < 14)) ((if ((w1.1 a0 18) - (w1.1 a0 19)) = (Int32.ofNat (hz_wlen.getD x1 0)) then lp_X10_isWord_35 a0 x1 w1 3000 0 else hz_gd (hz_isb 0) (some (0, w1)))) else hz_gd (hz_isb 0) (some (0, w1))))))
set_option maxHeartbeats 4000000 in
set_option maxRecDepth 100000 in
theorem ct_X10_isWord {l : Launch} (hl : l.stackTraces = false) {B : Bt} {a0 : Nat} {x1 : Nat} {w : MW} {r : Int32 × MW} (h : f_X10_isWord a0 x1 w = some r) : hz_Met l B false 358 358 yX10_isWord cX10_isWord 3 (Option.some FieldType.boolean) 9 0 0 [.ref (B.1 + a0), .ref (B.2.2.2.1 x1)] w (some (.int r.1)) r.2 := by
  refine hz_ofJ (rv := (fun r : Int32 × MW => some (.int r.1))) (wo := (fun r : Int32 × MW => r.2)) (own := RX10) (ini := false) hl (by decide) rfl (Or.inr rfl) (Nat.le_of_ble_eq_true rfl) rfl ?_ h
  intro p e s m args below meth c
  unfold f_X10_isWord
  refine hz_gdr (fun ga0 => ?_)
  refine hz_aload_n (pc' := 1) (j := 0) dX10_isWord_0 rfl rfl rfl ?_
  refine hz_cVi (pc' := 4) (av := []) (rest := []) vl_X10_110 (fun x w' h => ct_X10_isFine hl h) ga0 rfl rfl (Nat.le_of_ble_eq_true rfl) (by decide) (by decide) rfl dX10_isWord_1 rfl (fun v2 w1 => ?_)
  refine hz_ifeq (pc' := 7) (tgt := 31) dX10_isWord_4 (by decide) rfl ?_ ?_
  · refine hz_iconst (pc' := 32) (v := 0) dX10_isWord_31 rfl (by decide) ?_
    exact hz_retz dX10_isWord_32 rfl (by decide)
  · refine hz_aload_n (pc' := 8) (j := 0) dX10_isWord_7 rfl rfl rfl ?_
    refine hz_gI (pc' := 11) fl_X10_120.r ga0 rfl dX10_isWord_8 rfl ?_
    refine hz_iconst (pc' := 12) (v := 2) dX10_isWord_11 rfl (by decide) ?_
    refine hz_icmpne (pc' := 15) (tgt := 31) dX10_isWord_12 (by decide) rfl ?_ ?_
    · refine hz_iconst (pc' := 32) (v := 0) dX10_isWord_31 rfl (by decide) ?_
      exact hz_retz dX10_isWord_32 rfl (by decide)
    · refine hz_aload_n (pc' := 16) (j := 0) dX10_isWord_15 rfl rfl rfl ?_
      refine hz_gI (pc' := 19) fl_X10_114.r ga0 rfl dX10_isWord_16 rfl ?_
      refine hz_aload_n (pc' := 20) (j := 0) dX10_isWord_19 rfl rfl rfl ?_
      refine hz_gI (pc' := 23) fl_X10_117.r ga0 rfl dX10_isWord_20 rfl ?_
      refine hz_isub (pc' := 24) dX10_isWord_23 rfl ?_
      refine hz_aload_n (pc' := 25) (j := 1) dX10_isWord_24 rfl rfl rfl ?_
      refine hz_strlen (pc' := 28) hq_1374 ⟨Nat.le_of_ble_eq_true rfl, Nat.le_of_ble_eq_true rfl⟩ (by decide) dX10_isWord_25 rfl ?_
      refine hz_icmpeq (pc' := 31) (tgt := 33) dX10_isWord_28 (by decide) rfl ?_ ?_
      · refine hz_iconst (pc' := 34) (v := 0) dX10_isWord_33 rfl (by decide) ?_
        refine hz_istore_n (pc' := 35) (L' := [(2, .int 0), (0, .ref (B.1 + a0)), (1, .ref (B.2.2.2.1 x1))]) dX10_isWord_34 rfl rfl (by decide) rfl ?_
        refine hz_loc [1, 2, 0] rfl (hz_loopJ (lp := lp_X10_isWord_35 a0 x1 w1) (Lh := fun v3 : Int32 => [(0, .ref (B.1 + a0)), (1, .ref (B.2.2.2.1 x1)), (2, .int v3)]) (wh := fun v3 : Int32 => w1) (fun _ => rfl) (fun Nv3 ihv3 v3 => ?_) 3000 0)
        rw [lp_X10_isWord_35]
        refine hz_iload_n (pc' := 36) (j := 2) dX10_isWord_35 rfl rfl rfl ?_
        refine hz_aload_n (pc' := 37) (j := 1) dX10_isWord_36 rfl rfl rfl ?_
        refine hz_strlen (pc' := 40) hq_1374 ⟨Nat.le_of_ble_eq_true rfl, Nat.le_of_ble_eq_true rfl⟩ (by decide) dX10_isWord_37 rfl ?_
        refine hz_icmpge (pc' := 43) (tgt := 70) dX10_isWord_40 (by decide) rfl ?_ ?_
        · refine hz_iconst (pc' := 71) (v := 1) dX10_isWord_70 rfl (by decide) ?_
          exact hz_retz dX10_isWord_71 rfl (by decide)
        · refine hz_aload_n (pc' := 44) (j := 0) dX10_isWord_43 rfl rfl rfl ?_
          refine hz_gP (pc' := 47) (c' := 20) fl_X10_43.r ga0 rfl dX10_isWord_44 rfl (fun b4 gb4 => ?_)
          refine hz_aload_n (pc' := 48) (j := 0) dX10_isWord_47 rfl rfl rfl ?_
          refine hz_gI (pc' := 51) fl_X10_117.r ga0 rfl dX10_isWord_48 rfl ?_
          refine hz_iload_n (pc' := 52) (j := 2) dX10_isWord_51 rfl rfl rfl ?_
          refine hz_iadd (pc' := 53) dX10_isWord_52 rfl ?_
          refine hz_iald (pc' := 54) gb4 dX10_isWord_53 rfl (fun v5 => ?_)
          refine hz_aload_n (pc' := 55) (j := 1) dX10_isWord_54 rfl rfl rfl ?_
          refine hz_iload_n (pc' := 56) (j := 2) dX10_isWord_55 rfl rfl rfl ?_
          refine hz_charAt (pc' := 59) hq_1375 ⟨Nat.le_of_ble_eq_true rfl, Nat.le_of_ble_eq_true rfl⟩ (by decide) dX10_isWord_56 rfl ?_
          refine hz_icmpeq (pc' := 62) (tgt := 64) dX10_isWord_59 (by decide) rfl ?_ ?_
          · refine hz_iincN (pc' := 67) (j := 2) (fun v6 => [(2, .int v6), (0, .ref (B.1 + a0)), (1, .ref (B.2.2.2.1 x1))]) dX10_isWord_64 rfl rfl (by decide) (fun _ => rfl) (fun v6 => ?_)
            refine hz_goto (tgt := 35) dX10_isWord_67 (by decide) ?_
            exact hz_loc [1, 2, 0] rfl (ihv3 v6)
          · refine hz_iconst (pc' := 63) (v := 0) dX10_isWord_62 rfl (by decide) ?_
            exact hz_retz dX10_isWord_63 rfl (by decide)
      · refine hz_iconst (pc' := 32) (v := 0) dX10_isWord_31 rfl (by decide) ?_
        exact hz_retz dX10_isWord_32 rfl (by decide)
def f_X10_read (a0 : Nat) (x1 : Int32) (x2 : Int32) (w : MW) : Option (Int32 × MW) :=
  hz_gd (hz_g 358 a0 11) (Option.bind ((if (w.1 a0 20) = 3 then hz_b (f_X10_isIn (Int32.toInt64 (w.1 a0 21)) (Int32.toInt64 x1) (Int32.toInt64 x2) w) (fun v5 w4 => (if v5 = 0 then hz_bv (f_X10_fail a0 2 w4) (fun w6 => some w6) else some w4)) else hz_bv (f_X10_fail a0 1 w) (fun w7 => some w7))) (fun q1 : MW => hz_let (q1.1 a0 21) (fun v2 => hz_bv (f_X10_next a0 q1) (fun w3 => some (v2, w3)))))
set_option maxHeartbeats 4000000 in
set_option maxRecDepth 100000 in
theorem ct_X10_read {l : Launch} (hl : l.stackTraces = false) {B : Bt} {a0 : Nat} {x1 : Int32} {x2 : Int32} {w : MW} {r : Int32 × MW} (h : f_X10_read a0 x1 x2 w = some r) : hz_Met l B false 358 358 yX10_read cX10_read 4 (Option.some FieldType.int) 5 0 0 [.ref (B.1 + a0), .int x1, .int x2] w (some (.int r.1)) r.2 := by
  refine hz_ofJ (rv := (fun r : Int32 × MW => some (.int r.1))) (wo := (fun r : Int32 × MW => r.2)) (own := RX10) (ini := false) hl (by decide) rfl (Or.inr rfl) (Nat.le_of_ble_eq_true rfl) rfl ?_ h
  intro p e s m args below meth c
  unfold f_X10_read
  refine hz_gdr (fun ga0 => ?_)
  refine hz_aload_n (pc' := 1) (j := 0) dX10_read_0 rfl rfl rfl ?_
  refine hz_gI (pc' := 4) fl_X10_120.r ga0 rfl dX10_read_1 rfl ?_
  refine hz_iconst (pc' := 5) (v := 3) dX10_read_4 rfl (by decide) ?_
  refine hz_bindJ (pcJ := 36) (LJ := fun q1 : MW => [(0, .ref (B.1 + a0))]) (stJ := fun q1 : MW => []) (kJ := 0) (slJ := 0) (nJ := 358) (wJ := fun q1 : MW => q1) (fun q1 => ?_) (fun hq1 => ?_)
  · refine hz_aload_n (pc' := 37) (j := 0) dX10_read_36 rfl rfl rfl ?_
    refine hz_gI (pc' := 40) fl_X10_130.r ga0 rfl dX10_read_37 rfl ?_
    refine hz_nameI (fun v2 => ?_)
    refine hz_istore_n (pc' := 41) (L' := [(3, .int v2), (0, .ref (B.1 + a0))]) dX10_read_40 rfl rfl (by decide) rfl ?_
    refine hz_aload_n (pc' := 42) (j := 1) dX10_read_41 rfl rfl rfl ?_
    refine hz_cVv (pc' := 45) (av := []) (rest := []) vl_X10_146 (fun w' h => ct_X10_next hl h) ga0 rfl rfl (Nat.le_of_ble_eq_true rfl) (by decide) (by decide) rfl dX10_read_42 rfl (fun w3 => ?_)
    refine hz_iload_n (pc' := 46) (j := 0) dX10_read_45 rfl rfl rfl ?_
    exact hz_reti dX10_read_46 rfl (by decide)
  · refine hz_icmpeq (pc' := 8) (tgt := 16) dX10_read_5 (by decide) rfl ?_ ?_
    · refine hz_aload_n (pc' := 17) (j := 0) dX10_read_16 rfl rfl rfl ?_
      refine hz_gI (pc' := 20) fl_X10_130.r ga0 rfl dX10_read_17 rfl ?_
      refine hz_i2l (pc' := 21) dX10_read_20 rfl ?_
      refine hz_iload_n (pc' := 22) (j := 1) dX10_read_21 rfl rfl rfl ?_
      refine hz_i2l (pc' := 23) dX10_read_22 rfl ?_
      refine hz_iload_n (pc' := 24) (j := 2) dX10_read_23 rfl rfl rfl ?_
      refine hz_i2l (pc' := 25) dX10_read_24 rfl ?_
      refine hz_cSi (pc' := 28) (av := [.long (Int32.toInt64 (w.1 a0 21)), .long (Int32.toInt64 x1), .long (Int32.toInt64 x2)]) (rest := []) sl_X10_88 (fun x w' h => ct_X10_isIn hl h) rfl rfl (Nat.le_of_ble_eq_true rfl) (by decide) (by decide) rfl dX10_read_25 rfl (fun v5 w4 => ?_)
      refine hz_ifne (pc' := 31) (tgt := 36) dX10_read_28 (by decide) rfl ?_ ?_
      · exact hz_loc [0] rfl (hq1 w4)
      · refine hz_aload_n (pc' := 32) (j := 0) dX10_read_31 rfl rfl rfl ?_
        refine hz_iconst (pc' := 33) (v := 2) dX10_read_32 rfl (by decide) ?_
        refine hz_cVv (pc' := 36) (av := [.int 2]) (rest := []) vl_X10_143 (fun w' h => ct_X10_fail hl h) ga0 rfl rfl (Nat.le_of_ble_eq_true rfl) (by decide) (by decide) rfl dX10_read_33 rfl (fun w6 => ?_)
        exact hz_loc [0] rfl (hq1 w6)
    · refine hz_aload_n (pc' := 9) (j := 0) dX10_read_8 rfl rfl rfl ?_
      refine hz_iconst (pc' := 10) (v := 1) dX10_read_9 rfl (by decide) ?_
      refine hz_cVv (pc' := 13) (av := [.int 1]) (rest := []) vl_X10_143 (fun w' h => ct_X10_fail hl h) ga0 rfl rfl (Nat.le_of_ble_eq_true rfl) (by decide) (by decide) rfl dX10_read_10 rfl (fun w7 => ?_)
      refine hz_goto (tgt := 36) dX10_read_13 (by decide) ?_
      exact hz_loc [0] rfl (hq1 w7)
def f_X10_expectSemicolon (a0 : Nat) (w : MW) : Option (MW) :=
  hz_gd (hz_g 358 a0 11) (Option.bind ((if (w.1 a0 20) = 4 then some w else hz_bv (f_X10_fail a0 1 w) (fun w3 => some w3))) (fun q1 : MW => hz_bv (f_X10_next a0 q1) (fun w2 => some w2)))
set_option maxHeartbeats 4000000 in
set_option maxRecDepth 100000 in
theorem ct_X10_expectSemicolon {l : Launch} (hl : l.stackTraces = false) {B : Bt} {a0 : Nat} {w : MW} {r : MW} (h : f_X10_expectSemicolon a0 w = some r) : hz_Met l B false 358 358 yX10_expectSemicolon cX10_expectSemicolon 1 (Option.none : Option FieldType) 5 0 0 [.ref (B.1 + a0)] w none r := by
  refine hz_ofJ (rv := (fun _ : MW => none)) (wo := (fun r : MW => r)) (own := RX10) (ini := false) hl (by decide) rfl (Or.inr rfl) (Nat.le_of_ble_eq_true rfl) rfl ?_ h
  intro p e s m args below meth c
  unfold f_X10_expectSemicolon
  refine hz_gdr (fun ga0 => ?_)
  refine hz_aload_n (pc' := 1) (j := 0) dX10_expectSemicolon_0 rfl rfl rfl ?_
  refine hz_gI (pc' := 4) fl_X10_120.r ga0 rfl dX10_expectSemicolon_1 rfl ?_
  refine hz_iconst (pc' := 5) (v := 4) dX10_expectSemicolon_4 rfl (by decide) ?_
  refine hz_bindJ (pcJ := 13) (LJ := fun q1 : MW => [(0, .ref (B.1 + a0))]) (stJ := fun q1 : MW => []) (kJ := 0) (slJ := 0) (nJ := 358) (wJ := fun q1 : MW => q1) (fun q1 => ?_) (fun hq1 => ?_)
  · refine hz_aload_n (pc' := 14) (j := 0) dX10_expectSemicolon_13 rfl rfl rfl ?_
    refine hz_cVv (pc' := 17) (av := []) (rest := []) vl_X10_146 (fun w' h => ct_X10_next hl h) ga0 rfl rfl (Nat.le_of_ble_eq_true rfl) (by decide) (by decide) rfl dX10_expectSemicolon_14 rfl (fun w2 => ?_)
    exact hz_retv dX10_expectSemicolon_17 rfl (by decide)
  · refine hz_icmpeq (pc' := 8) (tgt := 13) dX10_expectSemicolon_5 (by decide) rfl ?_ ?_
    · exact hz_loc [0] rfl (hq1 w)
    · refine hz_aload_n (pc' := 9) (j := 0) dX10_expectSemicolon_8 rfl rfl rfl ?_
      refine hz_iconst (pc' := 10) (v := 1) dX10_expectSemicolon_9 rfl (by decide) ?_
      refine hz_cVv (pc' := 13) (av := [.int 1]) (rest := []) vl_X10_143 (fun w' h => ct_X10_fail hl h) ga0 rfl rfl (Nat.le_of_ble_eq_true rfl) (by decide) (by decide) rfl dX10_expectSemicolon_10 rfl (fun w3 => ?_)
      exact hz_loc [0] rfl (hq1 w3)
def f_X10_policyHere (a0 : Nat) (w : MW) : Option (Int32 × MW) :=
  hz_gd (hz_g 358 a0 11) (hz_b (f_X10_isWord a0 7 w) (fun v2 w1 => Option.bind ((if v2 = 0 then hz_b (f_X10_isWord a0 8 w1) (fun v5 w4 => (if v5 = 0 then hz_b (f_X10_isWord a0 9 w4) (fun v7 w6 => (if v7 = 0 then hz_b (f_X10_isWord a0 10 w6) (fun v9 w8 => (if v9 = 0 then some ((-1), w8) else some (3, w8))) else some (2, w6))) else some (1, w4))) else some (0, w1))) (fun q3 : Int32 × MW => some (q3.1, q3.2))))
set_option maxHeartbeats 4000000 in
set_option maxRecDepth 100000 in
theorem ct_X10_policyHere {l : Launch} (hl : l.stackTraces = false) {B : Bt} {a0 : Nat} {w : MW} {r : Int32 × MW} (h : f_X10_policyHere a0 w = some r) : hz_Met l B false 358 358 yX10_policyHere cX10_policyHere 1 (Option.some FieldType.int) 10 0 0 [.ref (B.1 + a0)] w (some (.int r.1)) r.2 := by
  refine hz_ofJ (rv := (fun r : Int32 × MW => some (.int r.1))) (wo := (fun r : Int32 × MW => r.2)) (own := RX10) (ini := false) hl (by decide) rfl (Or.inr rfl) (Nat.le_of_ble_eq_true rfl) rfl ?_ h
  intro p e s m args below meth c
  unfold f_X10_policyHere
  refine hz_gdr (fun ga0 => ?_)
  refine hz_aload_n (pc' := 1) (j := 0) dX10_policyHere_0 rfl rfl rfl ?_
  refine hz_ldcS (pc' := 3) (i := 7) dX10_policyHere_1 rfl rfl ?_
  refine hz_cVi (pc' := 6) (av := [.ref (B.2.2.2.1 7)]) (rest := []) vl_X10_151 (fun x w' h => ct_X10_isWord hl h) ga0 rfl rfl (Nat.le_of_ble_eq_true rfl) (by decide) (by decide) rfl dX10_policyHere_3 rfl (fun v2 w1 => ?_)
  refine hz_bindJ (pcJ := 53) (LJ := fun q3 : Int32 × MW => []) (stJ := fun q3 : Int32 × MW => [.int q3.1]) (kJ := 0) (slJ := 0) (nJ := 358) (wJ := fun q3 : Int32 × MW => q3.2) (fun q3 => ?_) (fun hq3 => ?_)
  · exact hz_reti dX10_policyHere_53 rfl (by decide)
  · refine hz_ifeq (pc' := 9) (tgt := 13) dX10_policyHere_6 (by decide) rfl ?_ ?_
    · refine hz_aload_n (pc' := 14) (j := 0) dX10_policyHere_13 rfl rfl rfl ?_
      refine hz_ldcS (pc' := 16) (i := 8) dX10_policyHere_14 rfl rfl ?_
      refine hz_cVi (pc' := 19) (av := [.ref (B.2.2.2.1 8)]) (rest := []) vl_X10_151 (fun x w' h => ct_X10_isWord hl h) ga0 rfl rfl (Nat.le_of_ble_eq_true rfl) (by decide) (by decide) rfl dX10_policyHere_16 rfl (fun v5 w4 => ?_)
      refine hz_ifeq (pc' := 22) (tgt := 26) dX10_policyHere_19 (by decide) rfl ?_ ?_
      · refine hz_aload_n (pc' := 27) (j := 0) dX10_policyHere_26 rfl rfl rfl ?_
        refine hz_ldcS (pc' := 29) (i := 9) dX10_policyHere_27 rfl rfl ?_
        refine hz_cVi (pc' := 32) (av := [.ref (B.2.2.2.1 9)]) (rest := []) vl_X10_151 (fun x w' h => ct_X10_isWord hl h) ga0 rfl rfl (Nat.le_of_ble_eq_true rfl) (by decide) (by decide) rfl dX10_policyHere_29 rfl (fun v7 w6 => ?_)
        refine hz_ifeq (pc' := 35) (tgt := 39) dX10_policyHere_32 (by decide) rfl ?_ ?_
        · refine hz_aload_n (pc' := 40) (j := 0) dX10_policyHere_39 rfl rfl rfl ?_
          refine hz_ldcS (pc' := 42) (i := 10) dX10_policyHere_40 rfl rfl ?_
          refine hz_cVi (pc' := 45) (av := [.ref (B.2.2.2.1 10)]) (rest := []) vl_X10_151 (fun x w' h => ct_X10_isWord hl h) ga0 rfl rfl (Nat.le_of_ble_eq_true rfl) (by decide) (by decide) rfl dX10_policyHere_42 rfl (fun v9 w8 => ?_)
          refine hz_ifeq (pc' := 48) (tgt := 52) dX10_policyHere_45 (by decide) rfl ?_ ?_
          · refine hz_iconst (pc' := 53) (v := (-1)) dX10_policyHere_52 rfl (by decide) ?_
            exact hz_loc [] rfl (hq3 ((-1), w8))
          · refine hz_iconst (pc' := 49) (v := 3) dX10_policyHere_48 rfl (by decide) ?_
            refine hz_goto (tgt := 53) dX10_policyHere_49 (by decide) ?_
            exact hz_loc [] rfl (hq3 (3, w8))
        · refine hz_iconst (pc' := 36) (v := 2) dX10_policyHere_35 rfl (by decide) ?_
          refine hz_goto (tgt := 53) dX10_policyHere_36 (by decide) ?_
          exact hz_loc [] rfl (hq3 (2, w6))
      · refine hz_iconst (pc' := 23) (v := 1) dX10_policyHere_22 rfl (by decide) ?_
        refine hz_goto (tgt := 53) dX10_policyHere_23 (by decide) ?_
        exact hz_loc [] rfl (hq3 (1, w4))
    · refine hz_iconst (pc' := 10) (v := 0) dX10_policyHere_9 rfl (by decide) ?_
      refine hz_goto (tgt := 53) dX10_policyHere_10 (by decide) ?_
      exact hz_loc [] rfl (hq3 (0, w1))
def lp_X10_readLevels_4 (c0 : Nat) (c1 : Int32) : Nat → (Int32 × Int32 × MW) → Option (MW)
  | 0, _ => none
  | N + 1, v0 => hz_b (f_X10_isWord c0 11 v0.2.2) (fun v2 w1 => (if v2 = 0 then hz_b (f_X10_isFine c0 w1) (fun v22 w21 => (if v22 = 0 then hz_ldp w21 c0 26 358 20 (fun b23 => hz_sta w21 b23 (c1 + 8) v0.1 (fun w24 => some w24)) else (if v0.1 = 0 then hz_b (f_X10_isWord c0 11 w21) (fun v28 w27 => Option.bind ((if v28 = 0 then hz_bv (f_X10_fail c0 1 w27) (fun w44 => some w44) else (if v0.1 = 5 then hz_bv (f_X10_fail c0 3 w27) (fun w43 => some w43) else some w27))) (fun q29 : MW => hz_b (f_X10_isFine c0 q29) (fun v31 w30 => (if v31 = 0 then some w30 else hz_bv (f_X10_next c0 w30) (fun w32 => hz_b (f_X10_read c0 (v0.2.1 + 1) 999 w32) (fun v34 w33 => hz_ldp w33 c0 27 358 20 (fun b35 => hz_sta w33 b35 (2 * ((5 * (w33.1 c0 25)) + v0.1)) v34 (fun w36 => hz_ldp w36 c0 27 358 20 (fun b37 => hz_b (f_X10_read c0 0 999 w36) (fun v39 w38 => hz_sta w38 b37 ((2 * ((5 * (w36.1 c0 25)) + v0.1)) + 1) v39 (fun w40 => hz_bv (f_X10_expectSemicolon c0 w40) (fun w41 => hz_let (v0.1 + Int32.ofInt 1) (fun v42 => lp_X10_readLevels_4 c0 c1 N (v42, v34, w41)))))))))))))) else hz_ldp w21 c0 26 358 20 (fun b25 => hz_sta w21 b25 (c1 + 8) v0.1 (fun w26 => some w26))))) else hz_b (f_X10_isWord c0 11 w1) (fun v4 w3 => Option.bind ((if v4 = 0 then hz_bv (f_X10_fail c0 1 w3) (fun w20 => some w20) else (if v0.1 = 5 then hz_bv (f_X10_fail c0 3 w3) (fun w19 => some w19) else some w3))) (fun q5 : MW => hz_b (f_X10_isFine c0 q5) (fun v7 w6 => (if v7 = 0 then some w6 else hz_bv (f_X10_next c0 w6) (fun w8 => hz_b (f_X10_read c0 (v0.2.1 + 1) 999 w8) (fun v10 w9 => hz_ldp w9 c0 27 358 20 (fun b11 => hz_sta w9 b11 (2 * ((5 * (w9.1 c0 25)) + v0.1)) v10 (fun w12 => hz_ldp w12 c0 27 358 20 (fun b13 => hz_b (f_X10_read c0 0 999 w12) (fun v15 w14 => hz_sta w14 b13 ((2 * ((5 * (w12.1 c0 25)) + v0.1)) + 1) v15 (fun w16 => hz_bv (f_X10_expectSemicolon c0 w16) (fun w17 => hz_let (v0.1 + Int32.ofInt 1) (fun v18 => lp_X10_readLevels_4 c0 c1 N (v18, v10, w17))))))))))))))))
def f_X10_readLevels (a0 : Nat) (x1 : Int32) (w : MW) : Option (MW) :=
  hz_gd (hz_g 358 a0 11) (lp_X10_readLevels_4 a0 x1 3000 (0, 0, w))
set_option maxHeartbeats 4000000 in
set_option maxRecDepth 100000 in
theorem ct_X10_readLevels {l : Launch} (hl : l.stackTraces = false) {B : Bt} {a0 : Nat} {x1 : Int32} {w : MW} {r : MW} (h : f_X10_readLevels a0 x1 w = some r) : hz_Met l B false 358 358 yX10_readLevels cX10_readLevels 4 (Option.none : Option FieldType) 10 0 0 [.ref (B.1 + a0), .int x1] w none r := by
  refine hz_ofJ (rv := (fun _ : MW => none)) (wo := (fun r : MW => r)) (own := RX10) (ini := false) hl (by decide) rfl (Or.inr rfl) (Nat.le_of_ble_eq_true rfl) rfl ?_ h
  intro p e s m args below meth c
  unfold f_X10_readLevels
  refine hz_gdr (fun ga0 => ?_)
  refine hz_iconst (pc' := 1) (v := 0) dX10_readLevels_0 rfl (by decide) ?_
  refine hz_istore_n (pc' := 2) (L' := [(2, .int 0), (0, .ref (B.1 + a0)), (1, .int x1)]) dX10_readLevels_1 rfl rfl (by decide) rfl ?_
  refine hz_iconst (pc' := 3) (v := 0) dX10_readLevels_2 rfl (by decide) ?_
  refine hz_istore_n (pc' := 4) (L' := [(3, .int 0), (2, .int 0), (0, .ref (B.1 + a0)), (1, .int x1)]) dX10_readLevels_3 rfl rfl (by decide) rfl ?_
  refine hz_loc [2, 3, 1, 0] rfl (hz_loopJ (lp := lp_X10_readLevels_4 a0 x1) (Lh := fun v1 : Int32 × Int32 × MW => [(0, .ref (B.1 + a0)), (1, .int x1), (2, .int v1.1), (3, .int v1.2.1)]) (wh := fun v1 : Int32 × Int32 × MW => v1.2.2) (fun _ => rfl) (fun Nv1 ihv1 v1 => ?_) 3000 (0, 0, w))
  rw [lp_X10_readLevels_4]
  refine hz_aload_n (pc' := 5) (j := 0) dX10_readLevels_4 rfl rfl rfl ?_
  refine hz_ldcS (pc' := 7) (i := 11) dX10_readLevels_5 rfl rfl ?_
  refine hz_cVi (pc' := 10) (av := [.ref (B.2.2.2.1 11)]) (rest := []) vl_X10_151 (fun x w' h => ct_X10_isWord hl h) ga0 rfl rfl (Nat.le_of_ble_eq_true rfl) (by decide) (by decide) rfl dX10_readLevels_7 rfl (fun v3 w2 => ?_)
  refine hz_ifne (pc' := 13) (tgt := 24) dX10_readLevels_10 (by decide) rfl ?_ ?_
  · refine hz_aload_n (pc' := 25) (j := 0) dX10_readLevels_24 rfl rfl rfl ?_
    refine hz_ldcS (pc' := 27) (i := 11) dX10_readLevels_25 rfl rfl ?_
    refine hz_cVi (pc' := 30) (av := [.ref (B.2.2.2.1 11)]) (rest := []) vl_X10_151 (fun x w' h => ct_X10_isWord hl h) ga0 rfl rfl (Nat.le_of_ble_eq_true rfl) (by decide) (by decide) rfl dX10_readLevels_27 rfl (fun v5 w4 => ?_)
    refine hz_bindJ (pcJ := 51) (LJ := fun q6 : MW => [(0, .ref (B.1 + a0)), (1, .int x1), (2, .int v1.1), (3, .int v1.2.1)]) (stJ := fun q6 : MW => []) (kJ := 0) (slJ := 0) (nJ := 358) (wJ := fun q6 : MW => q6) (fun q6 => ?_) (fun hq6 => ?_)
    · refine hz_aload_n (pc' := 52) (j := 0) dX10_readLevels_51 rfl rfl rfl ?_
      refine hz_cVi (pc' := 55) (av := []) (rest := []) vl_X10_110 (fun x w' h => ct_X10_isFine hl h) ga0 rfl rfl (Nat.le_of_ble_eq_true rfl) (by decide) (by decide) rfl dX10_readLevels_52 rfl (fun v8 w7 => ?_)
      refine hz_ifne (pc' := 58) (tgt := 59) dX10_readLevels_55 (by decide) rfl ?_ ?_
      · refine hz_aload_n (pc' := 60) (j := 0) dX10_readLevels_59 rfl rfl rfl ?_
        refine hz_cVv (pc' := 63) (av := []) (rest := []) vl_X10_146 (fun w' h => ct_X10_next hl h) ga0 rfl rfl (Nat.le_of_ble_eq_true rfl) (by decide) (by decide) rfl dX10_readLevels_60 rfl (fun w9 => ?_)
        refine hz_aload_n (pc' := 64) (j := 0) dX10_readLevels_63 rfl rfl rfl ?_
        refine hz_iload_n (pc' := 65) (j := 3) dX10_readLevels_64 rfl rfl rfl ?_
        refine hz_iconst (pc' := 66) (v := 1) dX10_readLevels_65 rfl (by decide) ?_
        refine hz_iadd (pc' := 67) dX10_readLevels_66 rfl ?_
        refine hz_sipush (pc' := 70) (v := 999) dX10_readLevels_67 rfl (by decide) ?_
        refine hz_cVi (pc' := 73) (av := [.int (v1.2.1 + 1), .int 999]) (rest := []) vl_X10_164 (fun x w' h => ct_X10_read hl h) ga0 rfl rfl (Nat.le_of_ble_eq_true rfl) (by decide) (by decide) rfl dX10_readLevels_70 rfl (fun v11 w10 => ?_)
        refine hz_istore_n (pc' := 74) (L' := [(3, .int v11), (0, .ref (B.1 + a0)), (1, .int x1), (2, .int v1.1)]) dX10_readLevels_73 rfl rfl (by decide) rfl ?_
        refine hz_aload_n (pc' := 75) (j := 1) dX10_readLevels_74 rfl rfl rfl ?_
        refine hz_gP (pc' := 78) (c' := 20) fl_X10_53.r ga0 rfl dX10_readLevels_75 rfl (fun b12 gb12 => ?_)
        refine hz_iconst (pc' := 79) (v := 2) dX10_readLevels_78 rfl (by decide) ?_
        refine hz_iconst (pc' := 80) (v := 5) dX10_readLevels_79 rfl (by decide) ?_
        refine hz_aload_n (pc' := 81) (j := 1) dX10_readLevels_80 rfl rfl rfl ?_
        refine hz_gI (pc' := 84) fl_X10_161.r ga0 rfl dX10_readLevels_81 rfl ?_
        refine hz_imul (pc' := 85) dX10_readLevels_84 rfl ?_
        refine hz_iload_n (pc' := 86) (j := 3) dX10_readLevels_85 rfl rfl rfl ?_
        refine hz_iadd (pc' := 87) dX10_readLevels_86 rfl ?_
        refine hz_imul (pc' := 88) dX10_readLevels_87 rfl ?_
        refine hz_iload_n (pc' := 89) (j := 0) dX10_readLevels_88 rfl rfl rfl ?_
        refine hz_iast (pc' := 90) gb12 dX10_readLevels_89 rfl (fun w13 => ?_)
        refine hz_aload_n (pc' := 91) (j := 1) dX10_readLevels_90 rfl rfl rfl ?_
        refine hz_gP (pc' := 94) (c' := 20) fl_X10_53.r ga0 rfl dX10_readLevels_91 rfl (fun b14 gb14 => ?_)
        refine hz_iconst (pc' := 95) (v := 2) dX10_readLevels_94 rfl (by decide) ?_
        refine hz_iconst (pc' := 96) (v := 5) dX10_readLevels_95 rfl (by decide) ?_
        refine hz_aload_n (pc' := 97) (j := 1) dX10_readLevels_96 rfl rfl rfl ?_
        refine hz_gI (pc' := 100) fl_X10_161.r ga0 rfl dX10_readLevels_97 rfl ?_
        refine hz_imul (pc' := 101) dX10_readLevels_100 rfl ?_
        refine hz_iload_n (pc' := 102) (j := 3) dX10_readLevels_101 rfl rfl rfl ?_
        refine hz_iadd (pc' := 103) dX10_readLevels_102 rfl ?_
        refine hz_imul (pc' := 104) dX10_readLevels_103 rfl ?_
        refine hz_iconst (pc' := 105) (v := 1) dX10_readLevels_104 rfl (by decide) ?_
        refine hz_iadd (pc' := 106) dX10_readLevels_105 rfl ?_
        refine hz_aload_n (pc' := 107) (j := 1) dX10_readLevels_106 rfl rfl rfl ?_
        refine hz_iconst (pc' := 108) (v := 0) dX10_readLevels_107 rfl (by decide) ?_
        refine hz_sipush (pc' := 111) (v := 999) dX10_readLevels_108 rfl (by decide) ?_
        refine hz_cVi (pc' := 114) (av := [.int 0, .int 999]) (rest := [.int ((2 * ((5 * (w13.1 a0 25)) + v1.1)) + 1), .ref (B.1 + b14)]) vl_X10_164 (fun x w' h => ct_X10_read hl h) ga0 rfl rfl (Nat.le_of_ble_eq_true rfl) (by decide) (by decide) rfl dX10_readLevels_111 rfl (fun v16 w15 => ?_)
        refine hz_iast (pc' := 115) gb14 dX10_readLevels_114 rfl (fun w17 => ?_)
        refine hz_aload_n (pc' := 116) (j := 1) dX10_readLevels_115 rfl rfl rfl ?_
        refine hz_cVv (pc' := 119) (av := []) (rest := []) vl_X10_172 (fun w' h => ct_X10_expectSemicolon hl h) ga0 rfl rfl (Nat.le_of_ble_eq_true rfl) (by decide) (by decide) rfl dX10_readLevels_116 rfl (fun w18 => ?_)
        refine hz_iincN (pc' := 122) (j := 3) (fun v19 => [(2, .int v19), (3, .int v11), (0, .ref (B.1 + a0)), (1, .int x1)]) dX10_readLevels_119 rfl rfl (by decide) (fun _ => rfl) (fun v19 => ?_)
        refine hz_goto (tgt := 4) dX10_readLevels_122 (by decide) ?_
        exact hz_loc [2, 3, 0, 1] rfl (ihv1 (v19, v11, w18))
      · exact hz_retv dX10_readLevels_58 rfl (by decide)
    · refine hz_ifne (pc' := 33) (tgt := 41) dX10_readLevels_30 (by decide) rfl ?_ ?_
      · refine hz_iload_n (pc' := 42) (j := 2) dX10_readLevels_41 rfl rfl rfl ?_
        refine hz_iconst (pc' := 43) (v := 5) dX10_readLevels_42 rfl (by decide) ?_
        refine hz_icmpne (pc' := 46) (tgt := 51) dX10_readLevels_43 (by decide) rfl ?_ ?_
        · exact hz_loc [0, 1, 2, 3] rfl (hq6 w4)
        · refine hz_aload_n (pc' := 47) (j := 0) dX10_readLevels_46 rfl rfl rfl ?_
          refine hz_iconst (pc' := 48) (v := 3) dX10_readLevels_47 rfl (by decide) ?_
          refine hz_cVv (pc' := 51) (av := [.int 3]) (rest := []) vl_X10_143 (fun w' h => ct_X10_fail hl h) ga0 rfl rfl (Nat.le_of_ble_eq_true rfl) (by decide) (by decide) rfl dX10_readLevels_48 rfl (fun w20 => ?_)
          exact hz_loc [0, 1, 2, 3] rfl (hq6 w20)
      · refine hz_aload_n (pc' := 34) (j := 0) dX10_readLevels_33 rfl rfl rfl ?_
        refine hz_iconst (pc' := 35) (v := 1) dX10_readLevels_34 rfl (by decide) ?_
        refine hz_cVv (pc' := 38) (av := [.int 1]) (rest := []) vl_X10_143 (fun w' h => ct_X10_fail hl h) ga0 rfl rfl (Nat.le_of_ble_eq_true rfl) (by decide) (by decide) rfl dX10_readLevels_35 rfl (fun w21 => ?_)
        refine hz_goto (tgt := 51) dX10_readLevels_38 (by decide) ?_
        exact hz_loc [0, 1, 2, 3] rfl (hq6 w21)
  · refine hz_aload_n (pc' := 14) (j := 0) dX10_readLevels_13 rfl rfl rfl ?_
    refine hz_cVi (pc' := 17) (av := []) (rest := []) vl_X10_110 (fun x w' h => ct_X10_isFine hl h) ga0 rfl rfl (Nat.le_of_ble_eq_true rfl) (by decide) (by decide) rfl dX10_readLevels_14 rfl (fun v23 w22 => ?_)
    refine hz_ifeq (pc' := 20) (tgt := 125) dX10_readLevels_17 (by decide) rfl ?_ ?_
    · refine hz_aload_n (pc' := 126) (j := 0) dX10_readLevels_125 rfl rfl rfl ?_
      refine hz_gP (pc' := 129) (c' := 20) fl_X10_50.r ga0 rfl dX10_readLevels_126 rfl (fun b24 gb24 => ?_)
      refine hz_iload_n (pc' := 130) (j := 1) dX10_readLevels_129 rfl rfl rfl ?_
      refine hz_bipush (pc' := 132) (v := 8) dX10_readLevels_130 rfl (by decide) ?_
      refine hz_iadd (pc' := 133) dX10_readLevels_132 rfl ?_
      refine hz_iload_n (pc' := 134) (j := 2) dX10_readLevels_133 rfl rfl rfl ?_
      refine hz_iast (pc' := 135) gb24 dX10_readLevels_134 rfl (fun w25 => ?_)
      exact hz_retv dX10_readLevels_135 rfl (by decide)
    · refine hz_iload_n (pc' := 21) (j := 2) dX10_readLevels_20 rfl rfl rfl ?_
      refine hz_ifne (pc' := 24) (tgt := 125) dX10_readLevels_21 (by decide) rfl ?_ ?_
      · refine hz_aload_n (pc' := 126) (j := 0) dX10_readLevels_125 rfl rfl rfl ?_
        refine hz_gP (pc' := 129) (c' := 20) fl_X10_50.r ga0 rfl dX10_readLevels_126 rfl (fun b26 gb26 => ?_)
        refine hz_iload_n (pc' := 130) (j := 1) dX10_readLevels_129 rfl rfl rfl ?_
        refine hz_bipush (pc' := 132) (v := 8) dX10_readLevels_130 rfl (by decide) ?_
        refine hz_iadd (pc' := 133) dX10_readLevels_132 rfl ?_
        refine hz_iload_n (pc' := 134) (j := 2) dX10_readLevels_133 rfl rfl rfl ?_
        refine hz_iast (pc' := 135) gb26 dX10_readLevels_134 rfl (fun w27 => ?_)
        exact hz_retv dX10_readLevels_135 rfl (by decide)
      · refine hz_aload_n (pc' := 25) (j := 0) dX10_readLevels_24 rfl rfl rfl ?_
        refine hz_ldcS (pc' := 27) (i := 11) dX10_readLevels_25 rfl rfl ?_
        refine hz_cVi (pc' := 30) (av := [.ref (B.2.2.2.1 11)]) (rest := []) vl_X10_151 (fun x w' h => ct_X10_isWord hl h) ga0 rfl rfl (Nat.le_of_ble_eq_true rfl) (by decide) (by decide) rfl dX10_readLevels_27 rfl (fun v29 w28 => ?_)
        refine hz_bindJ (pcJ := 51) (LJ := fun q30 : MW => [(0, .ref (B.1 + a0)), (1, .int x1), (2, .int v1.1), (3, .int v1.2.1)]) (stJ := fun q30 : MW => []) (kJ := 0) (slJ := 0) (nJ := 358) (wJ := fun q30 : MW => q30) (fun q30 => ?_) (fun hq30 => ?_)
        · refine hz_aload_n (pc' := 52) (j := 0) dX10_readLevels_51 rfl rfl rfl ?_
          refine hz_cVi (pc' := 55) (av := []) (rest := []) vl_X10_110 (fun x w' h => ct_X10_isFine hl h) ga0 rfl rfl (Nat.le_of_ble_eq_true rfl) (by decide) (by decide) rfl dX10_readLevels_52 rfl (fun v32 w31 => ?_)
          refine hz_ifne (pc' := 58) (tgt := 59) dX10_readLevels_55 (by decide) rfl ?_ ?_
          · refine hz_aload_n (pc' := 60) (j := 0) dX10_readLevels_59 rfl rfl rfl ?_
            refine hz_cVv (pc' := 63) (av := []) (rest := []) vl_X10_146 (fun w' h => ct_X10_next hl h) ga0 rfl rfl (Nat.le_of_ble_eq_true rfl) (by decide) (by decide) rfl dX10_readLevels_60 rfl (fun w33 => ?_)
            refine hz_aload_n (pc' := 64) (j := 0) dX10_readLevels_63 rfl rfl rfl ?_
            refine hz_iload_n (pc' := 65) (j := 3) dX10_readLevels_64 rfl rfl rfl ?_
            refine hz_iconst (pc' := 66) (v := 1) dX10_readLevels_65 rfl (by decide) ?_
            refine hz_iadd (pc' := 67) dX10_readLevels_66 rfl ?_
            refine hz_sipush (pc' := 70) (v := 999) dX10_readLevels_67 rfl (by decide) ?_
            refine hz_cVi (pc' := 73) (av := [.int (v1.2.1 + 1), .int 999]) (rest := []) vl_X10_164 (fun x w' h => ct_X10_read hl h) ga0 rfl rfl (Nat.le_of_ble_eq_true rfl) (by decide) (by decide) rfl dX10_readLevels_70 rfl (fun v35 w34 => ?_)
            refine hz_istore_n (pc' := 74) (L' := [(3, .int v35), (0, .ref (B.1 + a0)), (1, .int x1), (2, .int v1.1)]) dX10_readLevels_73 rfl rfl (by decide) rfl ?_
            refine hz_aload_n (pc' := 75) (j := 1) dX10_readLevels_74 rfl rfl rfl ?_
            refine hz_gP (pc' := 78) (c' := 20) fl_X10_53.r ga0 rfl dX10_readLevels_75 rfl (fun b36 gb36 => ?_)
            refine hz_iconst (pc' := 79) (v := 2) dX10_readLevels_78 rfl (by decide) ?_
            refine hz_iconst (pc' := 80) (v := 5) dX10_readLevels_79 rfl (by decide) ?_
            refine hz_aload_n (pc' := 81) (j := 1) dX10_readLevels_80 rfl rfl rfl ?_
            refine hz_gI (pc' := 84) fl_X10_161.r ga0 rfl dX10_readLevels_81 rfl ?_
            refine hz_imul (pc' := 85) dX10_readLevels_84 rfl ?_
            refine hz_iload_n (pc' := 86) (j := 3) dX10_readLevels_85 rfl rfl rfl ?_
            refine hz_iadd (pc' := 87) dX10_readLevels_86 rfl ?_
            refine hz_imul (pc' := 88) dX10_readLevels_87 rfl ?_
            refine hz_iload_n (pc' := 89) (j := 0) dX10_readLevels_88 rfl rfl rfl ?_
            refine hz_iast (pc' := 90) gb36 dX10_readLevels_89 rfl (fun w37 => ?_)
            refine hz_aload_n (pc' := 91) (j := 1) dX10_readLevels_90 rfl rfl rfl ?_
            refine hz_gP (pc' := 94) (c' := 20) fl_X10_53.r ga0 rfl dX10_readLevels_91 rfl (fun b38 gb38 => ?_)
            refine hz_iconst (pc' := 95) (v := 2) dX10_readLevels_94 rfl (by decide) ?_
            refine hz_iconst (pc' := 96) (v := 5) dX10_readLevels_95 rfl (by decide) ?_
            refine hz_aload_n (pc' := 97) (j := 1) dX10_readLevels_96 rfl rfl rfl ?_
            refine hz_gI (pc' := 100) fl_X10_161.r ga0 rfl dX10_readLevels_97 rfl ?_
            refine hz_imul (pc' := 101) dX10_readLevels_100 rfl ?_
            refine hz_iload_n (pc' := 102) (j := 3) dX10_readLevels_101 rfl rfl rfl ?_
            refine hz_iadd (pc' := 103) dX10_readLevels_102 rfl ?_
            refine hz_imul (pc' := 104) dX10_readLevels_103 rfl ?_
            refine hz_iconst (pc' := 105) (v := 1) dX10_readLevels_104 rfl (by decide) ?_
            refine hz_iadd (pc' := 106) dX10_readLevels_105 rfl ?_
            refine hz_aload_n (pc' := 107) (j := 1) dX10_readLevels_106 rfl rfl rfl ?_
            refine hz_iconst (pc' := 108) (v := 0) dX10_readLevels_107 rfl (by decide) ?_
            refine hz_sipush (pc' := 111) (v := 999) dX10_readLevels_108 rfl (by decide) ?_
            refine hz_cVi (pc' := 114) (av := [.int 0, .int 999]) (rest := [.int ((2 * ((5 * (w37.1 a0 25)) + v1.1)) + 1), .ref (B.1 + b38)]) vl_X10_164 (fun x w' h => ct_X10_read hl h) ga0 rfl rfl (Nat.le_of_ble_eq_true rfl) (by decide) (by decide) rfl dX10_readLevels_111 rfl (fun v40 w39 => ?_)
            refine hz_iast (pc' := 115) gb38 dX10_readLevels_114 rfl (fun w41 => ?_)
            refine hz_aload_n (pc' := 116) (j := 1) dX10_readLevels_115 rfl rfl rfl ?_
            refine hz_cVv (pc' := 119) (av := []) (rest := []) vl_X10_172 (fun w' h => ct_X10_expectSemicolon hl h) ga0 rfl rfl (Nat.le_of_ble_eq_true rfl) (by decide) (by decide) rfl dX10_readLevels_116 rfl (fun w42 => ?_)
            refine hz_iincN (pc' := 122) (j := 3) (fun v43 => [(2, .int v43), (3, .int v35), (0, .ref (B.1 + a0)), (1, .int x1)]) dX10_readLevels_119 rfl rfl (by decide) (fun _ => rfl) (fun v43 => ?_)
            refine hz_goto (tgt := 4) dX10_readLevels_122 (by decide) ?_
            exact hz_loc [2, 3, 0, 1] rfl (ihv1 (v43, v35, w42))
          · exact hz_retv dX10_readLevels_58 rfl (by decide)
        · refine hz_ifne (pc' := 33) (tgt := 41) dX10_readLevels_30 (by decide) rfl ?_ ?_
          · refine hz_iload_n (pc' := 42) (j := 2) dX10_readLevels_41 rfl rfl rfl ?_
            refine hz_iconst (pc' := 43) (v := 5) dX10_readLevels_42 rfl (by decide) ?_
            refine hz_icmpne (pc' := 46) (tgt := 51) dX10_readLevels_43 (by decide) rfl ?_ ?_
            · exact hz_loc [0, 1, 2, 3] rfl (hq30 w28)
            · refine hz_aload_n (pc' := 47) (j := 0) dX10_readLevels_46 rfl rfl rfl ?_
              refine hz_iconst (pc' := 48) (v := 3) dX10_readLevels_47 rfl (by decide) ?_
              refine hz_cVv (pc' := 51) (av := [.int 3]) (rest := []) vl_X10_143 (fun w' h => ct_X10_fail hl h) ga0 rfl rfl (Nat.le_of_ble_eq_true rfl) (by decide) (by decide) rfl dX10_readLevels_48 rfl (fun w44 => ?_)
              exact hz_loc [0, 1, 2, 3] rfl (hq30 w44)
          · refine hz_aload_n (pc' := 34) (j := 0) dX10_readLevels_33 rfl rfl rfl ?_
            refine hz_iconst (pc' := 35) (v := 1) dX10_readLevels_34 rfl (by decide) ?_
            refine hz_cVv (pc' := 38) (av := [.int 1]) (rest := []) vl_X10_143 (fun w' h => ct_X10_fail hl h) ga0 rfl rfl (Nat.le_of_ble_eq_true rfl) (by decide) (by decide) rfl dX10_readLevels_35 rfl (fun w45 => ?_)
            refine hz_goto (tgt := 51) dX10_readLevels_38 (by decide) ?_
            exact hz_loc [0, 1, 2, 3] rfl (hq30 w45)
def f_X10_readDomain (a0 : Nat) (w : MW) : Option (MW) :=
  hz_gd (hz_g 358 a0 11) (Option.bind ((if (w.1 a0 25) = 4 then hz_bv (f_X10_fail a0 3 w) (fun w46 => some w46) else some w)) (fun q1 : MW => hz_bv (f_X10_next a0 q1) (fun w2 => hz_b (f_X10_isFine a0 w2) (fun v4 w3 => (if v4 = 0 then some w3 else hz_let (9 * (w3.1 a0 25)) (fun v5 => hz_ldp w3 a0 26 358 20 (fun b6 => hz_b (f_X10_read a0 1 4 w3) (fun v8 w7 => hz_sta w7 b6 v5 v8 (fun w9 => hz_ldp w9 a0 26 358 20 (fun b10 => hz_b (f_X10_read a0 0 99999 w9) (fun v12 w11 => hz_sta w11 b10 (v5 + 1) v12 (fun w13 => hz_ldp w13 a0 26 358 20 (fun b14 => hz_b (f_X10_read a0 0 999 w13) (fun v16 w15 => hz_sta w15 b14 (v5 + 2) v16 (fun w17 => hz_ldp w17 a0 26 358 20 (fun b18 => hz_b (f_X10_read a0 1 999 w17) (fun v20 w19 => hz_sta w19 b18 (v5 + 3) v20 (fun w21 => hz_ldp w21 a0 26 358 20 (fun b22 => hz_b (f_X10_read a0 0 99 w21) (fun v24 w23 => hz_sta w23 b22 (v5 + 4) v24 (fun w25 => hz_ldp w25 a0 26 358 20 (fun b26 => hz_b (f_X10_read a0 0 4 w25) (fun v28 w27 => hz_sta w27 b26 (v5 + 5) v28 (fun w29 => hz_ldp w29 a0 26 358 20 (fun b30 => hz_b (f_X10_read a0 0 99 w29) (fun v32 w31 => hz_sta w31 b30 (v5 + 6) v32 (fun w33 => hz_ldp w33 a0 26 358 20 (fun b34 => hz_b (f_X10_policyHere a0 w33) (fun v36 w35 => hz_sta w35 b34 (v5 + 7) v36 (fun w37 => hz_ldp w37 a0 26 358 20 (fun b38 => hz_lda w37 b38 (v5 + 7) (fun v39 => Option.bind ((if 0 ≤ v39 then some w37 else hz_bv (f_X10_fail a0 1 w37) (fun w45 => some w45))) (fun q40 : MW => hz_bv (f_X10_next a0 q40) (fun w41 => hz_bv (f_X10_expectSemicolon a0 w41) (fun w42 => hz_bv (f_X10_readLevels a0 v5 w42) (fun w43 => hz_let (hz_pn w43 a0 25 ((w43.1 a0 25) + 1)) (fun w44 => some w44)))))))))))))))))))))))))))))))))))))
set_option maxHeartbeats 4000000 in
set_option maxRecDepth 100000 in
theorem ct_X10_readDomain {l : Launch} (hl : l.stackTraces = false) {B : Bt} {a0 : Nat} {w : MW} {r : MW} (h : f_X10_readDomain a0 w = some r) : hz_Met l B false 358 358 yX10_readDomain cX10_readDomain 2 (Option.none : Option FieldType) 11 0 0 [.ref (B.1 + a0)] w none r := by
  refine hz_ofJ (rv := (fun _ : MW => none)) (wo := (fun r : MW => r)) (own := RX10) (ini := false) hl (by decide) rfl (Or.inr rfl) (Nat.le_of_ble_eq_true rfl) rfl ?_ h
  intro p e s m args below meth c
  unfold f_X10_readDomain
  refine hz_gdr (fun ga0 => ?_)
  refine hz_aload_n (pc' := 1) (j := 0) dX10_readDomain_0 rfl rfl rfl ?_
  refine hz_gI (pc' := 4) fl_X10_161.r ga0 rfl dX10_readDomain_1 rfl ?_
  refine hz_iconst (pc' := 5) (v := 4) dX10_readDomain_4 rfl (by decide) ?_
  refine hz_bindJ (pcJ := 13) (LJ := fun q1 : MW => [(0, .ref (B.1 + a0))]) (stJ := fun q1 : MW => []) (kJ := 0) (slJ := 0) (nJ := 358) (wJ := fun q1 : MW => q1) (fun q1 => ?_) (fun hq1 => ?_)
  · refine hz_aload_n (pc' := 14) (j := 0) dX10_readDomain_13 rfl rfl rfl ?_
    refine hz_cVv (pc' := 17) (av := []) (rest := []) vl_X10_146 (fun w' h => ct_X10_next hl h) ga0 rfl rfl (Nat.le_of_ble_eq_true rfl) (by decide) (by decide) rfl dX10_readDomain_14 rfl (fun w2 => ?_)
    refine hz_aload_n (pc' := 18) (j := 0) dX10_readDomain_17 rfl rfl rfl ?_
    refine hz_cVi (pc' := 21) (av := []) (rest := []) vl_X10_110 (fun x w' h => ct_X10_isFine hl h) ga0 rfl rfl (Nat.le_of_ble_eq_true rfl) (by decide) (by decide) rfl dX10_readDomain_18 rfl (fun v4 w3 => ?_)
    refine hz_ifne (pc' := 24) (tgt := 25) dX10_readDomain_21 (by decide) rfl ?_ ?_
    · refine hz_bipush (pc' := 27) (v := 9) dX10_readDomain_25 rfl (by decide) ?_
      refine hz_aload_n (pc' := 28) (j := 0) dX10_readDomain_27 rfl rfl rfl ?_
      refine hz_gI (pc' := 31) fl_X10_161.r ga0 rfl dX10_readDomain_28 rfl ?_
      refine hz_imul (pc' := 32) dX10_readDomain_31 rfl ?_
      refine hz_nameI (fun v5 => ?_)
      refine hz_istore_n (pc' := 33) (L' := [(1, .int v5), (0, .ref (B.1 + a0))]) dX10_readDomain_32 rfl rfl (by decide) rfl ?_
      refine hz_aload_n (pc' := 34) (j := 1) dX10_readDomain_33 rfl rfl rfl ?_
      refine hz_gP (pc' := 37) (c' := 20) fl_X10_50.r ga0 rfl dX10_readDomain_34 rfl (fun b6 gb6 => ?_)
      refine hz_iload_n (pc' := 38) (j := 0) dX10_readDomain_37 rfl rfl rfl ?_
      refine hz_aload_n (pc' := 39) (j := 1) dX10_readDomain_38 rfl rfl rfl ?_
      refine hz_iconst (pc' := 40) (v := 1) dX10_readDomain_39 rfl (by decide) ?_
      refine hz_iconst (pc' := 41) (v := 4) dX10_readDomain_40 rfl (by decide) ?_
      refine hz_cVi (pc' := 44) (av := [.int 1, .int 4]) (rest := [.int v5, .ref (B.1 + b6)]) vl_X10_164 (fun x w' h => ct_X10_read hl h) ga0 rfl rfl (Nat.le_of_ble_eq_true rfl) (by decide) (by decide) rfl dX10_readDomain_41 rfl (fun v8 w7 => ?_)
      refine hz_iast (pc' := 45) gb6 dX10_readDomain_44 rfl (fun w9 => ?_)
      refine hz_aload_n (pc' := 46) (j := 1) dX10_readDomain_45 rfl rfl rfl ?_
      refine hz_gP (pc' := 49) (c' := 20) fl_X10_50.r ga0 rfl dX10_readDomain_46 rfl (fun b10 gb10 => ?_)
      refine hz_iload_n (pc' := 50) (j := 0) dX10_readDomain_49 rfl rfl rfl ?_
      refine hz_iconst (pc' := 51) (v := 1) dX10_readDomain_50 rfl (by decide) ?_
      refine hz_iadd (pc' := 52) dX10_readDomain_51 rfl ?_
      refine hz_aload_n (pc' := 53) (j := 1) dX10_readDomain_52 rfl rfl rfl ?_
      refine hz_iconst (pc' := 54) (v := 0) dX10_readDomain_53 rfl (by decide) ?_
      refine hz_ldc (pc' := 56) (v := 99999) dX10_readDomain_54 rfl hq_1393 ?_
      refine hz_cVi (pc' := 59) (av := [.int 0, .int 99999]) (rest := [.int (v5 + 1), .ref (B.1 + b10)]) vl_X10_164 (fun x w' h => ct_X10_read hl h) ga0 rfl rfl (Nat.le_of_ble_eq_true rfl) (by decide) (by decide) rfl dX10_readDomain_56 rfl (fun v12 w11 => ?_)
      refine hz_iast (pc' := 60) gb10 dX10_readDomain_59 rfl (fun w13 => ?_)
      refine hz_aload_n (pc' := 61) (j := 1) dX10_readDomain_60 rfl rfl rfl ?_
      refine hz_gP (pc' := 64) (c' := 20) fl_X10_50.r ga0 rfl dX10_readDomain_61 rfl (fun b14 gb14 => ?_)
      refine hz_iload_n (pc' := 65) (j := 0) dX10_readDomain_64 rfl rfl rfl ?_
      refine hz_iconst (pc' := 66) (v := 2) dX10_readDomain_65 rfl (by decide) ?_
      refine hz_iadd (pc' := 67) dX10_readDomain_66 rfl ?_
      refine hz_aload_n (pc' := 68) (j := 1) dX10_readDomain_67 rfl rfl rfl ?_
      refine hz_iconst (pc' := 69) (v := 0) dX10_readDomain_68 rfl (by decide) ?_
      refine hz_sipush (pc' := 72) (v := 999) dX10_readDomain_69 rfl (by decide) ?_
      refine hz_cVi (pc' := 75) (av := [.int 0, .int 999]) (rest := [.int (v5 + 2), .ref (B.1 + b14)]) vl_X10_164 (fun x w' h => ct_X10_read hl h) ga0 rfl rfl (Nat.le_of_ble_eq_true rfl) (by decide) (by decide) rfl dX10_readDomain_72 rfl (fun v16 w15 => ?_)
      refine hz_iast (pc' := 76) gb14 dX10_readDomain_75 rfl (fun w17 => ?_)
      refine hz_aload_n (pc' := 77) (j := 1) dX10_readDomain_76 rfl rfl rfl ?_
      refine hz_gP (pc' := 80) (c' := 20) fl_X10_50.r ga0 rfl dX10_readDomain_77 rfl (fun b18 gb18 => ?_)
      refine hz_iload_n (pc' := 81) (j := 0) dX10_readDomain_80 rfl rfl rfl ?_
      refine hz_iconst (pc' := 82) (v := 3) dX10_readDomain_81 rfl (by decide) ?_
      refine hz_iadd (pc' := 83) dX10_readDomain_82 rfl ?_
      refine hz_aload_n (pc' := 84) (j := 1) dX10_readDomain_83 rfl rfl rfl ?_
      refine hz_iconst (pc' := 85) (v := 1) dX10_readDomain_84 rfl (by decide) ?_
      refine hz_sipush (pc' := 88) (v := 999) dX10_readDomain_85 rfl (by decide) ?_
      refine hz_cVi (pc' := 91) (av := [.int 1, .int 999]) (rest := [.int (v5 + 3), .ref (B.1 + b18)]) vl_X10_164 (fun x w' h => ct_X10_read hl h) ga0 rfl rfl (Nat.le_of_ble_eq_true rfl) (by decide) (by decide) rfl dX10_readDomain_88 rfl (fun v20 w19 => ?_)
      refine hz_iast (pc' := 92) gb18 dX10_readDomain_91 rfl (fun w21 => ?_)
      refine hz_aload_n (pc' := 93) (j := 1) dX10_readDomain_92 rfl rfl rfl ?_
      refine hz_gP (pc' := 96) (c' := 20) fl_X10_50.r ga0 rfl dX10_readDomain_93 rfl (fun b22 gb22 => ?_)
      refine hz_iload_n (pc' := 97) (j := 0) dX10_readDomain_96 rfl rfl rfl ?_
      refine hz_iconst (pc' := 98) (v := 4) dX10_readDomain_97 rfl (by decide) ?_
      refine hz_iadd (pc' := 99) dX10_readDomain_98 rfl ?_
      refine hz_aload_n (pc' := 100) (j := 1) dX10_readDomain_99 rfl rfl rfl ?_
      refine hz_iconst (pc' := 101) (v := 0) dX10_readDomain_100 rfl (by decide) ?_
      refine hz_bipush (pc' := 103) (v := 99) dX10_readDomain_101 rfl (by decide) ?_
      refine hz_cVi (pc' := 106) (av := [.int 0, .int 99]) (rest := [.int (v5 + 4), .ref (B.1 + b22)]) vl_X10_164 (fun x w' h => ct_X10_read hl h) ga0 rfl rfl (Nat.le_of_ble_eq_true rfl) (by decide) (by decide) rfl dX10_readDomain_103 rfl (fun v24 w23 => ?_)
      refine hz_iast (pc' := 107) gb22 dX10_readDomain_106 rfl (fun w25 => ?_)
      refine hz_aload_n (pc' := 108) (j := 1) dX10_readDomain_107 rfl rfl rfl ?_
      refine hz_gP (pc' := 111) (c' := 20) fl_X10_50.r ga0 rfl dX10_readDomain_108 rfl (fun b26 gb26 => ?_)
      refine hz_iload_n (pc' := 112) (j := 0) dX10_readDomain_111 rfl rfl rfl ?_
      refine hz_iconst (pc' := 113) (v := 5) dX10_readDomain_112 rfl (by decide) ?_
      refine hz_iadd (pc' := 114) dX10_readDomain_113 rfl ?_
      refine hz_aload_n (pc' := 115) (j := 1) dX10_readDomain_114 rfl rfl rfl ?_
      refine hz_iconst (pc' := 116) (v := 0) dX10_readDomain_115 rfl (by decide) ?_
      refine hz_iconst (pc' := 117) (v := 4) dX10_readDomain_116 rfl (by decide) ?_
      refine hz_cVi (pc' := 120) (av := [.int 0, .int 4]) (rest := [.int (v5 + 5), .ref (B.1 + b26)]) vl_X10_164 (fun x w' h => ct_X10_read hl h) ga0 rfl rfl (Nat.le_of_ble_eq_true rfl) (by decide) (by decide) rfl dX10_readDomain_117 rfl (fun v28 w27 => ?_)
      refine hz_iast (pc' := 121) gb26 dX10_readDomain_120 rfl (fun w29 => ?_)
      refine hz_aload_n (pc' := 122) (j := 1) dX10_readDomain_121 rfl rfl rfl ?_
      refine hz_gP (pc' := 125) (c' := 20) fl_X10_50.r ga0 rfl dX10_readDomain_122 rfl (fun b30 gb30 => ?_)
      refine hz_iload_n (pc' := 126) (j := 0) dX10_readDomain_125 rfl rfl rfl ?_
      refine hz_bipush (pc' := 128) (v := 6) dX10_readDomain_126 rfl (by decide) ?_
      refine hz_iadd (pc' := 129) dX10_readDomain_128 rfl ?_
      refine hz_aload_n (pc' := 130) (j := 1) dX10_readDomain_129 rfl rfl rfl ?_
      refine hz_iconst (pc' := 131) (v := 0) dX10_readDomain_130 rfl (by decide) ?_
      refine hz_bipush (pc' := 133) (v := 99) dX10_readDomain_131 rfl (by decide) ?_
      refine hz_cVi (pc' := 136) (av := [.int 0, .int 99]) (rest := [.int (v5 + 6), .ref (B.1 + b30)]) vl_X10_164 (fun x w' h => ct_X10_read hl h) ga0 rfl rfl (Nat.le_of_ble_eq_true rfl) (by decide) (by decide) rfl dX10_readDomain_133 rfl (fun v32 w31 => ?_)
      refine hz_iast (pc' := 137) gb30 dX10_readDomain_136 rfl (fun w33 => ?_)
      refine hz_aload_n (pc' := 138) (j := 1) dX10_readDomain_137 rfl rfl rfl ?_
      refine hz_gP (pc' := 141) (c' := 20) fl_X10_50.r ga0 rfl dX10_readDomain_138 rfl (fun b34 gb34 => ?_)
      refine hz_iload_n (pc' := 142) (j := 0) dX10_readDomain_141 rfl rfl rfl ?_
      refine hz_bipush (pc' := 144) (v := 7) dX10_readDomain_142 rfl (by decide) ?_
      refine hz_iadd (pc' := 145) dX10_readDomain_144 rfl ?_
      refine hz_aload_n (pc' := 146) (j := 1) dX10_readDomain_145 rfl rfl rfl ?_
      refine hz_cVi (pc' := 149) (av := []) (rest := [.int (v5 + 7), .ref (B.1 + b34)]) vl_X10_169 (fun x w' h => ct_X10_policyHere hl h) ga0 rfl rfl (Nat.le_of_ble_eq_true rfl) (by decide) (by decide) rfl dX10_readDomain_146 rfl (fun v36 w35 => ?_)
      refine hz_iast (pc' := 150) gb34 dX10_readDomain_149 rfl (fun w37 => ?_)
      refine hz_aload_n (pc' := 151) (j := 1) dX10_readDomain_150 rfl rfl rfl ?_
      refine hz_gP (pc' := 154) (c' := 20) fl_X10_50.r ga0 rfl dX10_readDomain_151 rfl (fun b38 gb38 => ?_)
      refine hz_iload_n (pc' := 155) (j := 0) dX10_readDomain_154 rfl rfl rfl ?_
      refine hz_bipush (pc' := 157) (v := 7) dX10_readDomain_155 rfl (by decide) ?_
      refine hz_iadd (pc' := 158) dX10_readDomain_157 rfl ?_
      refine hz_iald (pc' := 159) gb38 dX10_readDomain_158 rfl (fun v39 => ?_)
      refine hz_bindJ (pcJ := 167) (LJ := fun q40 : MW => [(0, .ref (B.1 + a0)), (1, .int v5)]) (stJ := fun q40 : MW => []) (kJ := 0) (slJ := 0) (nJ := 358) (wJ := fun q40 : MW => q40) (fun q40 => ?_) (fun hq40 => ?_)
      · refine hz_aload_n (pc' := 168) (j := 0) dX10_readDomain_167 rfl rfl rfl ?_
        refine hz_cVv (pc' := 171) (av := []) (rest := []) vl_X10_146 (fun w' h => ct_X10_next hl h) ga0 rfl rfl (Nat.le_of_ble_eq_true rfl) (by decide) (by decide) rfl dX10_readDomain_168 rfl (fun w41 => ?_)
        refine hz_aload_n (pc' := 172) (j := 0) dX10_readDomain_171 rfl rfl rfl ?_
        refine hz_cVv (pc' := 175) (av := []) (rest := []) vl_X10_172 (fun w' h => ct_X10_expectSemicolon hl h) ga0 rfl rfl (Nat.le_of_ble_eq_true rfl) (by decide) (by decide) rfl dX10_readDomain_172 rfl (fun w42 => ?_)
        refine hz_aload_n (pc' := 176) (j := 0) dX10_readDomain_175 rfl rfl rfl ?_
        refine hz_iload_n (pc' := 177) (j := 1) dX10_readDomain_176 rfl rfl rfl ?_
        refine hz_cVv (pc' := 180) (av := [.int v5]) (rest := []) vl_X10_175 (fun w' h => ct_X10_readLevels hl h) ga0 rfl rfl (Nat.le_of_ble_eq_true rfl) (by decide) (by decide) rfl dX10_readDomain_177 rfl (fun w43 => ?_)
        refine hz_aload_n (pc' := 181) (j := 0) dX10_readDomain_180 rfl rfl rfl ?_
        refine hz_dup (pc' := 182) dX10_readDomain_181 rfl rfl ?_
        refine hz_gI (pc' := 185) fl_X10_161.r ga0 rfl dX10_readDomain_182 rfl ?_
        refine hz_iconst (pc' := 186) (v := 1) dX10_readDomain_185 rfl (by decide) ?_
        refine hz_iadd (pc' := 187) dX10_readDomain_186 rfl ?_
        refine hz_putI (pc' := 190) fl_X10_161 ga0 rfl dX10_readDomain_187 rfl (fun w44 => ?_)
        exact hz_retv dX10_readDomain_190 rfl (by decide)
      · refine hz_ifge (pc' := 162) (tgt := 167) dX10_readDomain_159 (by decide) rfl ?_ ?_
        · exact hz_loc [1, 0] rfl (hq40 w37)
        · refine hz_aload_n (pc' := 163) (j := 1) dX10_readDomain_162 rfl rfl rfl ?_
          refine hz_iconst (pc' := 164) (v := 1) dX10_readDomain_163 rfl (by decide) ?_
          refine hz_cVv (pc' := 167) (av := [.int 1]) (rest := []) vl_X10_143 (fun w' h => ct_X10_fail hl h) ga0 rfl rfl (Nat.le_of_ble_eq_true rfl) (by decide) (by decide) rfl dX10_readDomain_164 rfl (fun w45 => ?_)
          exact hz_loc [1, 0] rfl (hq40 w45)
    · exact hz_retv dX10_readDomain_24 rfl (by decide)
  · refine hz_icmpne (pc' := 8) (tgt := 13) dX10_readDomain_5 (by decide) rfl ?_ ?_
    · exact hz_loc [0] rfl (hq1 w)
    · refine hz_aload_n (pc' := 9) (j := 0) dX10_readDomain_8 rfl rfl rfl ?_
      refine hz_iconst (pc' := 10) (v := 3) dX10_readDomain_9 rfl (by decide) ?_
      refine hz_cVv (pc' := 13) (av := [.int 3]) (rest := []) vl_X10_143 (fun w' h => ct_X10_fail hl h) ga0 rfl rfl (Nat.le_of_ble_eq_true rfl) (by decide) (by decide) rfl dX10_readDomain_10 rfl (fun w46 => ?_)
      exact hz_loc [0] rfl (hq1 w46)
def f_X10_put2 (a0 : Nat) (x1 : Int32) (x2 : Int32) (x3 : Int32) (w : MW) : Option (MW) :=
  hz_gd (hz_g 358 a0 11) (hz_ldp w a0 0 358 20 (fun b1 => hz_sta w b1 ((19 + (13 * x1)) + x2) x3 (fun w2 => some w2)))
set_option maxHeartbeats 4000000 in
set_option maxRecDepth 100000 in
theorem ct_X10_put2 {l : Launch} (hl : l.stackTraces = false) {B : Bt} {a0 : Nat} {x1 : Int32} {x2 : Int32} {x3 : Int32} {w : MW} {r : MW} (h : f_X10_put2 a0 x1 x2 x3 w = some r) : hz_Met l B false 358 358 yX10_put2 cX10_put2 4 (Option.none : Option FieldType) 2 0 0 [.ref (B.1 + a0), .int x1, .int x2, .int x3] w none r := by
  refine hz_ofJ (rv := (fun _ : MW => none)) (wo := (fun r : MW => r)) (own := RX10) (ini := false) hl (by decide) rfl (Or.inr rfl) (Nat.le_of_ble_eq_true rfl) rfl ?_ h
  intro p e s m args below meth c
  unfold f_X10_put2
  refine hz_gdr (fun ga0 => ?_)
  refine hz_aload_n (pc' := 1) (j := 0) dX10_put2_0 rfl rfl rfl ?_
  refine hz_gP (pc' := 4) (c' := 20) fl_X10_7.r ga0 rfl dX10_put2_1 rfl (fun b1 gb1 => ?_)
  refine hz_bipush (pc' := 6) (v := 19) dX10_put2_4 rfl (by decide) ?_
  refine hz_bipush (pc' := 8) (v := 13) dX10_put2_6 rfl (by decide) ?_
  refine hz_iload_n (pc' := 9) (j := 1) dX10_put2_8 rfl rfl rfl ?_
  refine hz_imul (pc' := 10) dX10_put2_9 rfl ?_
  refine hz_iadd (pc' := 11) dX10_put2_10 rfl ?_
  refine hz_iload_n (pc' := 12) (j := 2) dX10_put2_11 rfl rfl rfl ?_
  refine hz_iadd (pc' := 13) dX10_put2_12 rfl ?_
  refine hz_iload_n (pc' := 14) (j := 3) dX10_put2_13 rfl rfl rfl ?_
  refine hz_iast (pc' := 15) gb1 dX10_put2_14 rfl (fun w2 => ?_)
  exact hz_retv dX10_put2_15 rfl (by decide)
def lp_X10_takeOver_20 (c0 : Nat) : Nat → (Int32 × MW) → Option (MW)
  | 0, _ => none
  | N + 1, v0 => (if 287 ≤ v0.1 then some v0.2 else hz_ldp v0.2 c0 0 358 20 (fun b4 => hz_sta v0.2 b4 v0.1 0 (fun w5 => hz_let (v0.1 + Int32.ofInt 1) (fun v6 => lp_X10_takeOver_20 c0 N (v6, w5)))))
def lp_X10_takeOver_176 (c0 : Nat) (c1 : Int32) (c2 : Int32) : Nat → (Int32 × MW) → Option (MW)
  | 0, _ => none
  | N + 1, v0 => hz_ldp v0.2 c0 12 358 20 (fun b39 => hz_lda v0.2 b39 c1 (fun v40 => (if v40 ≤ v0.1 then some v0.2 else hz_ldp v0.2 c0 13 358 20 (fun b41 => hz_ldp v0.2 c0 27 358 20 (fun b42 => hz_lda v0.2 b42 (2 * ((5 * c1) + v0.1)) (fun v43 => hz_sta v0.2 b41 ((5 * c1) + v0.1) v43 (fun w44 => hz_ldp w44 c0 14 358 20 (fun b45 => hz_ldp w44 c0 27 358 20 (fun b46 => hz_lda w44 b46 ((2 * ((5 * c1) + v0.1)) + 1) (fun v47 => hz_sta w44 b45 ((5 * c1) + v0.1) v47 (fun w48 => hz_let (v0.1 + Int32.ofInt 1) (fun v49 => lp_X10_takeOver_176 c0 c1 c2 N (v49, w48)))))))))))))
def lp_X10_takeOver_291 (c0 : Nat) (c1 : Int32) : Nat → (Int32 × MW) → Option (MW)
  | 0, _ => none
  | N + 1, v0 => (if 4 ≤ v0.1 then some v0.2 else hz_bv (f_X10_put2 c0 c1 (9 + v0.1) (-1) v0.2) (fun w51 => hz_let (v0.1 + Int32.ofInt 1) (fun v52 => lp_X10_takeOver_291 c0 c1 N (v52, w51))))
def lp_X10_takeOver_52 (c0 : Nat) : Nat → (Int32 × MW) → Option (MW)
  | 0, _ => none
  | N + 1, v0 => (if (v0.2.1 c0 5) ≤ v0.1 then some v0.2 else hz_let (9 * v0.1) (fun v8 => hz_ldp v0.2 c0 6 358 20 (fun b9 => hz_ldp v0.2 c0 26 358 20 (fun b10 => hz_lda v0.2 b10 v8 (fun v11 => hz_sta v0.2 b9 v0.1 v11 (fun w12 => hz_ldp w12 c0 7 358 20 (fun b13 => hz_ldp w12 c0 26 358 20 (fun b14 => hz_lda w12 b14 (v8 + 2) (fun v15 => hz_sta w12 b13 v0.1 v15 (fun w16 => hz_ldp w16 c0 8 358 20 (fun b17 => hz_ldp w16 c0 26 358 20 (fun b18 => hz_lda w16 b18 (v8 + 3) (fun v19 => hz_sta w16 b17 v0.1 v19 (fun w20 => hz_ldp w20 c0 9 358 20 (fun b21 => hz_ldp w20 c0 26 358 20 (fun b22 => hz_lda w20 b22 (v8 + 4) (fun v23 => hz_sta w20 b21 v0.1 v23 (fun w24 => hz_ldp w24 c0 12 358 20 (fun b25 => hz_ldp w24 c0 26 358 20 (fun b26 => hz_lda w24 b26 (v8 + 8) (fun v27 => hz_sta w24 b25 v0.1 v27 (fun w28 => hz_ldp w28 c0 10 358 20 (fun b29 => hz_ldp w28 c0 26 358 20 (fun b30 => hz_lda w28 b30 (v8 + 5) (fun v31 => hz_ldp w28 c0 12 358 20 (fun b32 => hz_lda w28 b32 v0.1 (fun v33 => hz_sta w28 b29 v0.1 (if (v33 - 1) < v31 then (v33 - 1) else v31) (fun w34 => hz_ldp w34 c0 11 358 20 (fun b35 => hz_ldp w34 c0 26 358 20 (fun b36 => hz_lda w34 b36 (v8 + 6) (fun v37 => hz_sta w34 b35 v0.1 v37 (fun w38 => Option.bind (lp_X10_takeOver_176 c0 v0.1 v8 3000 (0, w38)) (fun q40 : MW => hz_ldp q40 c0 26 358 20 (fun b41 => hz_lda q40 b41 (v8 + 1) (fun v42 => hz_bv (f_X10_put2 c0 v0.1 0 v42 q40) (fun w43 => hz_ldp w43 c0 26 358 20 (fun b44 => hz_lda w43 b44 (v8 + 7) (fun v45 => hz_bv (f_X10_put2 c0 v0.1 1 v45 w43) (fun w46 => hz_bv (f_X10_put2 c0 v0.1 2 (w46.1 c0 24) w46) (fun w47 => hz_ldp w47 c0 11 358 20 (fun b48 => hz_lda w47 b48 v0.1 (fun v49 => hz_bv (f_X10_put2 c0 v0.1 5 v49 w47) (fun w50 => Option.bind (lp_X10_takeOver_291 c0 v0.1 3000 (0, w50)) (fun q52 : MW => hz_let (v0.1 + Int32.ofInt 1) (fun v53 => lp_X10_takeOver_52 c0 N (v53, q52))))))))))))))))))))))))))))))))))))))))))))))
def f_X10_takeOver (a0 : Nat) (w : MW) : Option (MW) :=
  hz_gd (hz_g 358 a0 11) (hz_gd (hz_isb 1) (hz_let (hz_pn w a0 3 1) (fun w1 => hz_let (hz_pn w1 a0 2 0) (fun w2 => hz_let (hz_pn w2 a0 5 (w2.1 a0 25)) (fun w3 => Option.bind (lp_X10_takeOver_20 a0 3000 (0, w3)) (fun q5 : MW => hz_ldp q5 a0 0 358 20 (fun b6 => hz_sta q5 b6 1 (q5.1 a0 24) (fun w7 => Option.bind (lp_X10_takeOver_52 a0 3000 (0, w7)) (fun q9 : MW => some q9)))))))))
set_option maxHeartbeats 4000000 in
set_option maxRecDepth 100000 in
theorem ct_X10_takeOver {l : Launch} (hl : l.stackTraces = false) {B : Bt} {a0 : Nat} {w : MW} {r : MW} (h : f_X10_takeOver a0 w = some r) : hz_Met l B false 358 358 yX10_takeOver cX10_takeOver 4 (Option.none : Option FieldType) 3 0 0 [.ref (B.1 + a0)] w none r := by
  refine hz_ofJ (rv := (fun _ : MW => none)) (wo := (fun r : MW => r)) (own := RX10) (ini := false) hl (by decide) rfl (Or.inr rfl) (Nat.le_of_ble_eq_true rfl) rfl ?_ h
  intro p e s m args below meth c
  unfold f_X10_takeOver
  refine hz_gdr (fun ga0 => ?_)
  refine hz_aload_n (pc' := 1) (j := 0) dX10_takeOver_0 rfl rfl rfl ?_
  refine hz_iconst (pc' := 2) (v := 1) dX10_takeOver_1 rfl (by decide) ?_
  refine hz_putZ (pc' := 5) fl_X10_77 ga0 rfl dX10_takeOver_2 rfl (fun w1 => ?_)
  refine hz_aload_n (pc' := 6) (j := 0) dX10_takeOver_5 rfl rfl rfl ?_
  refine hz_iconst (pc' := 7) (v := 0) dX10_takeOver_6 rfl (by decide) ?_
  refine hz_putI (pc' := 10) fl_X10_196 ga0 rfl dX10_takeOver_7 rfl (fun w2 => ?_)
  refine hz_aload_n (pc' := 11) (j := 0) dX10_takeOver_10 rfl rfl rfl ?_
  refine hz_aload_n (pc' := 12) (j := 0) dX10_takeOver_11 rfl rfl rfl ?_
  refine hz_gI (pc' := 15) fl_X10_161.r ga0 rfl dX10_takeOver_12 rfl ?_
  refine hz_putI (pc' := 18) fl_X10_193 ga0 rfl dX10_takeOver_15 rfl (fun w3 => ?_)
  refine hz_iconst (pc' := 19) (v := 0) dX10_takeOver_18 rfl (by decide) ?_
  refine hz_istore_n (pc' := 20) (L' := [(1, .int 0), (0, .ref (B.1 + a0))]) dX10_takeOver_19 rfl rfl (by decide) rfl ?_
  refine hz_bindJ (pcJ := 40) (LJ := fun q5 : MW => [(0, .ref (B.1 + a0))]) (stJ := fun _ => []) (kJ := 0) (slJ := 0) (nJ := 358) (wJ := fun q5 : MW => q5) (fun q5 => ?_) (fun hq5 => ?_)
  · refine hz_aload_n (pc' := 41) (j := 0) dX10_takeOver_40 rfl rfl rfl ?_
    refine hz_gP (pc' := 44) (c' := 20) fl_X10_7.r ga0 rfl dX10_takeOver_41 rfl (fun b6 gb6 => ?_)
    refine hz_iconst (pc' := 45) (v := 1) dX10_takeOver_44 rfl (by decide) ?_
    refine hz_aload_n (pc' := 46) (j := 0) dX10_takeOver_45 rfl rfl rfl ?_
    refine hz_gI (pc' := 49) fl_X10_182.r ga0 rfl dX10_takeOver_46 rfl ?_
    refine hz_iast (pc' := 50) gb6 dX10_takeOver_49 rfl (fun w7 => ?_)
    refine hz_iconst (pc' := 51) (v := 0) dX10_takeOver_50 rfl (by decide) ?_
    refine hz_istore_n (pc' := 52) (L' := [(1, .int 0), (0, .ref (B.1 + a0))]) dX10_takeOver_51 rfl rfl (by decide) rfl ?_
    refine hz_bindJ (pcJ := 318) (LJ := fun q9 : MW => []) (stJ := fun _ => []) (kJ := 0) (slJ := 0) (nJ := 358) (wJ := fun q9 : MW => q9) (fun q9 => ?_) (fun hq9 => ?_)
    · exact hz_retv dX10_takeOver_318 rfl (by decide)
    · refine hz_loc [1, 0] rfl (hz_loopJ (lp := lp_X10_takeOver_52 a0) (Lh := fun v8 : Int32 × MW => [(0, .ref (B.1 + a0)), (1, .int v8.1)]) (wh := fun v8 : Int32 × MW => v8.2) (fun _ => rfl) (fun Nv8 ihv8 v8 => ?_) 3000 (0, w7))
      rw [lp_X10_takeOver_52]
      refine hz_iload_n (pc' := 53) (j := 1) dX10_takeOver_52 rfl rfl rfl ?_
      refine hz_aload_n (pc' := 54) (j := 0) dX10_takeOver_53 rfl rfl rfl ?_
      refine hz_gI (pc' := 57) fl_X10_193.r ga0 rfl dX10_takeOver_54 rfl ?_
      refine hz_icmpge (pc' := 60) (tgt := 318) dX10_takeOver_57 (by decide) rfl ?_ ?_
      · exact hz_loc [] rfl (hq9 v8.2)
      · refine hz_bipush (pc' := 62) (v := 9) dX10_takeOver_60 rfl (by decide) ?_
        refine hz_iload_n (pc' := 63) (j := 1) dX10_takeOver_62 rfl rfl rfl ?_
        refine hz_imul (pc' := 64) dX10_takeOver_63 rfl ?_
        refine hz_nameI (fun v10 => ?_)
        refine hz_istore_n (pc' := 65) (L' := [(2, .int v10), (0, .ref (B.1 + a0)), (1, .int v8.1)]) dX10_takeOver_64 rfl rfl (by decide) rfl ?_
        refine hz_aload_n (pc' := 66) (j := 1) dX10_takeOver_65 rfl rfl rfl ?_
        refine hz_gP (pc' := 69) (c' := 20) fl_X10_16.r ga0 rfl dX10_takeOver_66 rfl (fun b11 gb11 => ?_)
        refine hz_iload_n (pc' := 70) (j := 2) dX10_takeOver_69 rfl rfl rfl ?_
        refine hz_aload_n (pc' := 71) (j := 1) dX10_takeOver_70 rfl rfl rfl ?_
        refine hz_gP (pc' := 74) (c' := 20) fl_X10_50.r ga0 rfl dX10_takeOver_71 rfl (fun b12 gb12 => ?_)
        refine hz_iload_n (pc' := 75) (j := 0) dX10_takeOver_74 rfl rfl rfl ?_
        refine hz_iald (pc' := 76) gb12 dX10_takeOver_75 rfl (fun v13 => ?_)
        refine hz_iast (pc' := 77) gb11 dX10_takeOver_76 rfl (fun w14 => ?_)
        refine hz_aload_n (pc' := 78) (j := 1) dX10_takeOver_77 rfl rfl rfl ?_
        refine hz_gP (pc' := 81) (c' := 20) fl_X10_19.r ga0 rfl dX10_takeOver_78 rfl (fun b15 gb15 => ?_)
        refine hz_iload_n (pc' := 82) (j := 2) dX10_takeOver_81 rfl rfl rfl ?_
        refine hz_aload_n (pc' := 83) (j := 1) dX10_takeOver_82 rfl rfl rfl ?_
        refine hz_gP (pc' := 86) (c' := 20) fl_X10_50.r ga0 rfl dX10_takeOver_83 rfl (fun b16 gb16 => ?_)
        refine hz_iload_n (pc' := 87) (j := 0) dX10_takeOver_86 rfl rfl rfl ?_
        refine hz_iconst (pc' := 88) (v := 2) dX10_takeOver_87 rfl (by decide) ?_
        refine hz_iadd (pc' := 89) dX10_takeOver_88 rfl ?_
        refine hz_iald (pc' := 90) gb16 dX10_takeOver_89 rfl (fun v17 => ?_)
        refine hz_iast (pc' := 91) gb15 dX10_takeOver_90 rfl (fun w18 => ?_)
        refine hz_aload_n (pc' := 92) (j := 1) dX10_takeOver_91 rfl rfl rfl ?_
        refine hz_gP (pc' := 95) (c' := 20) fl_X10_22.r ga0 rfl dX10_takeOver_92 rfl (fun b19 gb19 => ?_)
        refine hz_iload_n (pc' := 96) (j := 2) dX10_takeOver_95 rfl rfl rfl ?_
        refine hz_aload_n (pc' := 97) (j := 1) dX10_takeOver_96 rfl rfl rfl ?_
        refine hz_gP (pc' := 100) (c' := 20) fl_X10_50.r ga0 rfl dX10_takeOver_97 rfl (fun b20 gb20 => ?_)
        refine hz_iload_n (pc' := 101) (j := 0) dX10_takeOver_100 rfl rfl rfl ?_
        refine hz_iconst (pc' := 102) (v := 3) dX10_takeOver_101 rfl (by decide) ?_
        refine hz_iadd (pc' := 103) dX10_takeOver_102 rfl ?_
        refine hz_iald (pc' := 104) gb20 dX10_takeOver_103 rfl (fun v21 => ?_)
        refine hz_iast (pc' := 105) gb19 dX10_takeOver_104 rfl (fun w22 => ?_)
        refine hz_aload_n (pc' := 106) (j := 1) dX10_takeOver_105 rfl rfl rfl ?_
        refine hz_gP (pc' := 109) (c' := 20) fl_X10_25.r ga0 rfl dX10_takeOver_106 rfl (fun b23 gb23 => ?_)
        refine hz_iload_n (pc' := 110) (j := 2) dX10_takeOver_109 rfl rfl rfl ?_
        refine hz_aload_n (pc' := 111) (j := 1) dX10_takeOver_110 rfl rfl rfl ?_
        refine hz_gP (pc' := 114) (c' := 20) fl_X10_50.r ga0 rfl dX10_takeOver_111 rfl (fun b24 gb24 => ?_)
        refine hz_iload_n (pc' := 115) (j := 0) dX10_takeOver_114 rfl rfl rfl ?_
        refine hz_iconst (pc' := 116) (v := 4) dX10_takeOver_115 rfl (by decide) ?_
        refine hz_iadd (pc' := 117) dX10_takeOver_116 rfl ?_
        refine hz_iald (pc' := 118) gb24 dX10_takeOver_117 rfl (fun v25 => ?_)
        refine hz_iast (pc' := 119) gb23 dX10_takeOver_118 rfl (fun w26 => ?_)
        refine hz_aload_n (pc' := 120) (j := 1) dX10_takeOver_119 rfl rfl rfl ?_
        refine hz_gP (pc' := 123) (c' := 20) fl_X10_34.r ga0 rfl dX10_takeOver_120 rfl (fun b27 gb27 => ?_)
        refine hz_iload_n (pc' := 124) (j := 2) dX10_takeOver_123 rfl rfl rfl ?_
        refine hz_aload_n (pc' := 125) (j := 1) dX10_takeOver_124 rfl rfl rfl ?_
        refine hz_gP (pc' := 128) (c' := 20) fl_X10_50.r ga0 rfl dX10_takeOver_125 rfl (fun b28 gb28 => ?_)
        refine hz_iload_n (pc' := 129) (j := 0) dX10_takeOver_128 rfl rfl rfl ?_
        refine hz_bipush (pc' := 131) (v := 8) dX10_takeOver_129 rfl (by decide) ?_
        refine hz_iadd (pc' := 132) dX10_takeOver_131 rfl ?_
        refine hz_iald (pc' := 133) gb28 dX10_takeOver_132 rfl (fun v29 => ?_)
        refine hz_iast (pc' := 134) gb27 dX10_takeOver_133 rfl (fun w30 => ?_)
        refine hz_aload_n (pc' := 135) (j := 1) dX10_takeOver_134 rfl rfl rfl ?_
        refine hz_gP (pc' := 138) (c' := 20) fl_X10_28.r ga0 rfl dX10_takeOver_135 rfl (fun b31 gb31 => ?_)
        refine hz_iload_n (pc' := 139) (j := 2) dX10_takeOver_138 rfl rfl rfl ?_
        refine hz_aload_n (pc' := 140) (j := 1) dX10_takeOver_139 rfl rfl rfl ?_
        refine hz_gP (pc' := 143) (c' := 20) fl_X10_50.r ga0 rfl dX10_takeOver_140 rfl (fun b32 gb32 => ?_)
        refine hz_iload_n (pc' := 144) (j := 0) dX10_takeOver_143 rfl rfl rfl ?_
        refine hz_iconst (pc' := 145) (v := 5) dX10_takeOver_144 rfl (by decide) ?_
        refine hz_iadd (pc' := 146) dX10_takeOver_145 rfl ?_
        refine hz_iald (pc' := 147) gb32 dX10_takeOver_146 rfl (fun v33 => ?_)
        refine hz_aload_n (pc' := 148) (j := 1) dX10_takeOver_147 rfl rfl rfl ?_
        refine hz_gP (pc' := 151) (c' := 20) fl_X10_34.r ga0 rfl dX10_takeOver_148 rfl (fun b34 gb34 => ?_)
        refine hz_iload_n (pc' := 152) (j := 2) dX10_takeOver_151 rfl rfl rfl ?_
        refine hz_iald (pc' := 153) gb34 dX10_takeOver_152 rfl (fun v35 => ?_)
        refine hz_iconst (pc' := 154) (v := 1) dX10_takeOver_153 rfl (by decide) ?_
        refine hz_isub (pc' := 155) dX10_takeOver_154 rfl ?_
        refine hz_mmin (pc' := 158) hq_1411 hq_422 hq_17 hq_423 ⟨Nat.le_of_ble_eq_true rfl, Nat.le_of_ble_eq_true rfl⟩ (by decide) dX10_takeOver_155 rfl ?_
        refine hz_iast (pc' := 159) gb31 dX10_takeOver_158 rfl (fun w36 => ?_)
        refine hz_aload_n (pc' := 160) (j := 1) dX10_takeOver_159 rfl rfl rfl ?_
        refine hz_gP (pc' := 163) (c' := 20) fl_X10_31.r ga0 rfl dX10_takeOver_160 rfl (fun b37 gb37 => ?_)
        refine hz_iload_n (pc' := 164) (j := 2) dX10_takeOver_163 rfl rfl rfl ?_
        refine hz_aload_n (pc' := 165) (j := 1) dX10_takeOver_164 rfl rfl rfl ?_
        refine hz_gP (pc' := 168) (c' := 20) fl_X10_50.r ga0 rfl dX10_takeOver_165 rfl (fun b38 gb38 => ?_)
        refine hz_iload_n (pc' := 169) (j := 0) dX10_takeOver_168 rfl rfl rfl ?_
        refine hz_bipush (pc' := 171) (v := 6) dX10_takeOver_169 rfl (by decide) ?_
        refine hz_iadd (pc' := 172) dX10_takeOver_171 rfl ?_
        refine hz_iald (pc' := 173) gb38 dX10_takeOver_172 rfl (fun v39 => ?_)
        refine hz_iast (pc' := 174) gb37 dX10_takeOver_173 rfl (fun w40 => ?_)
        refine hz_iconst (pc' := 175) (v := 0) dX10_takeOver_174 rfl (by decide) ?_
        refine hz_istore_n (pc' := 176) (L' := [(3, .int 0), (2, .int v10), (0, .ref (B.1 + a0)), (1, .int v8.1)]) dX10_takeOver_175 rfl rfl (by decide) rfl ?_
        refine hz_bindJ (pcJ := 238) (LJ := fun q42 : MW => [(0, .ref (B.1 + a0)), (1, .int v8.1), (2, .int v10)]) (stJ := fun _ => []) (kJ := 0) (slJ := 0) (nJ := 358) (wJ := fun q42 : MW => q42) (fun q42 => ?_) (fun hq42 => ?_)
        · refine hz_aload_n (pc' := 239) (j := 0) dX10_takeOver_238 rfl rfl rfl ?_
          refine hz_iload_n (pc' := 240) (j := 1) dX10_takeOver_239 rfl rfl rfl ?_
          refine hz_iconst (pc' := 241) (v := 0) dX10_takeOver_240 rfl (by decide) ?_
          refine hz_aload_n (pc' := 242) (j := 0) dX10_takeOver_241 rfl rfl rfl ?_
          refine hz_gP (pc' := 245) (c' := 20) fl_X10_50.r ga0 rfl dX10_takeOver_242 rfl (fun b43 gb43 => ?_)
          refine hz_iload_n (pc' := 246) (j := 2) dX10_takeOver_245 rfl rfl rfl ?_
          refine hz_iconst (pc' := 247) (v := 1) dX10_takeOver_246 rfl (by decide) ?_
          refine hz_iadd (pc' := 248) dX10_takeOver_247 rfl ?_
          refine hz_iald (pc' := 249) gb43 dX10_takeOver_248 rfl (fun v44 => ?_)
          refine hz_cVv (pc' := 252) (av := [.int v8.1, .int 0, .int v44]) (rest := []) vl_X10_203 (fun w' h => ct_X10_put2 hl h) ga0 rfl rfl (Nat.le_of_ble_eq_true rfl) (by decide) (by decide) rfl dX10_takeOver_249 rfl (fun w45 => ?_)
          refine hz_aload_n (pc' := 253) (j := 0) dX10_takeOver_252 rfl rfl rfl ?_
          refine hz_iload_n (pc' := 254) (j := 1) dX10_takeOver_253 rfl rfl rfl ?_
          refine hz_iconst (pc' := 255) (v := 1) dX10_takeOver_254 rfl (by decide) ?_
          refine hz_aload_n (pc' := 256) (j := 0) dX10_takeOver_255 rfl rfl rfl ?_
          refine hz_gP (pc' := 259) (c' := 20) fl_X10_50.r ga0 rfl dX10_takeOver_256 rfl (fun b46 gb46 => ?_)
          refine hz_iload_n (pc' := 260) (j := 2) dX10_takeOver_259 rfl rfl rfl ?_
          refine hz_bipush (pc' := 262) (v := 7) dX10_takeOver_260 rfl (by decide) ?_
          refine hz_iadd (pc' := 263) dX10_takeOver_262 rfl ?_
          refine hz_iald (pc' := 264) gb46 dX10_takeOver_263 rfl (fun v47 => ?_)
          refine hz_cVv (pc' := 267) (av := [.int v8.1, .int 1, .int v47]) (rest := []) vl_X10_203 (fun w' h => ct_X10_put2 hl h) ga0 rfl rfl (Nat.le_of_ble_eq_true rfl) (by decide) (by decide) rfl dX10_takeOver_264 rfl (fun w48 => ?_)
          refine hz_aload_n (pc' := 268) (j := 0) dX10_takeOver_267 rfl rfl rfl ?_
          refine hz_iload_n (pc' := 269) (j := 1) dX10_takeOver_268 rfl rfl rfl ?_
          refine hz_iconst (pc' := 270) (v := 2) dX10_takeOver_269 rfl (by decide) ?_
          refine hz_aload_n (pc' := 271) (j := 0) dX10_takeOver_270 rfl rfl rfl ?_
          refine hz_gI (pc' := 274) fl_X10_182.r ga0 rfl dX10_takeOver_271 rfl ?_
          refine hz_cVv (pc' := 277) (av := [.int v8.1, .int 2, .int (w48.1 a0 24)]) (rest := []) vl_X10_203 (fun w' h => ct_X10_put2 hl h) ga0 rfl rfl (Nat.le_of_ble_eq_true rfl) (by decide) (by decide) rfl dX10_takeOver_274 rfl (fun w49 => ?_)
          refine hz_aload_n (pc' := 278) (j := 0) dX10_takeOver_277 rfl rfl rfl ?_
          refine hz_iload_n (pc' := 279) (j := 1) dX10_takeOver_278 rfl rfl rfl ?_
          refine hz_iconst (pc' := 280) (v := 5) dX10_takeOver_279 rfl (by decide) ?_
          refine hz_aload_n (pc' := 281) (j := 0) dX10_takeOver_280 rfl rfl rfl ?_
          refine hz_gP (pc' := 284) (c' := 20) fl_X10_31.r ga0 rfl dX10_takeOver_281 rfl (fun b50 gb50 => ?_)
          refine hz_iload_n (pc' := 285) (j := 1) dX10_takeOver_284 rfl rfl rfl ?_
          refine hz_iald (pc' := 286) gb50 dX10_takeOver_285 rfl (fun v51 => ?_)
          refine hz_cVv (pc' := 289) (av := [.int v8.1, .int 5, .int v51]) (rest := []) vl_X10_203 (fun w' h => ct_X10_put2 hl h) ga0 rfl rfl (Nat.le_of_ble_eq_true rfl) (by decide) (by decide) rfl dX10_takeOver_286 rfl (fun w52 => ?_)
          refine hz_iconst (pc' := 290) (v := 0) dX10_takeOver_289 rfl (by decide) ?_
          refine hz_istore_n (pc' := 291) (L' := [(3, .int 0), (0, .ref (B.1 + a0)), (1, .int v8.1), (2, .int v10)]) dX10_takeOver_290 rfl rfl (by decide) rfl ?_
          refine hz_bindJ (pcJ := 312) (LJ := fun q54 : MW => [(0, .ref (B.1 + a0)), (1, .int v8.1)]) (stJ := fun _ => []) (kJ := 0) (slJ := 0) (nJ := 358) (wJ := fun q54 : MW => q54) (fun q54 => ?_) (fun hq54 => ?_)
          · refine hz_iincN (pc' := 315) (j := 1) (fun v55 => [(1, .int v55), (0, .ref (B.1 + a0))]) dX10_takeOver_312 rfl rfl (by decide) (fun _ => rfl) (fun v55 => ?_)
            refine hz_goto (tgt := 52) dX10_takeOver_315 (by decide) ?_
            exact hz_loc [1, 0] rfl (ihv8 (v55, q54))
          · refine hz_loc [1, 2, 0] rfl (hz_loopJ (lp := lp_X10_takeOver_291 a0 v8.1) (Lh := fun v53 : Int32 × MW => [(0, .ref (B.1 + a0)), (1, .int v8.1), (3, .int v53.1)]) (wh := fun v53 : Int32 × MW => v53.2) (fun _ => rfl) (fun Nv53 ihv53 v53 => ?_) 3000 (0, w52))
            rw [lp_X10_takeOver_291]
            refine hz_iload_n (pc' := 292) (j := 2) dX10_takeOver_291 rfl rfl rfl ?_
            refine hz_iconst (pc' := 293) (v := 4) dX10_takeOver_292 rfl (by decide) ?_
            refine hz_icmpge (pc' := 296) (tgt := 312) dX10_takeOver_293 (by decide) rfl ?_ ?_
            · exact hz_loc [0, 1] rfl (hq54 v53.2)
            · refine hz_aload_n (pc' := 297) (j := 0) dX10_takeOver_296 rfl rfl rfl ?_
              refine hz_iload_n (pc' := 298) (j := 1) dX10_takeOver_297 rfl rfl rfl ?_
              refine hz_bipush (pc' := 300) (v := 9) dX10_takeOver_298 rfl (by decide) ?_
              refine hz_iload_n (pc' := 301) (j := 2) dX10_takeOver_300 rfl rfl rfl ?_
              refine hz_iadd (pc' := 302) dX10_takeOver_301 rfl ?_
              refine hz_iconst (pc' := 303) (v := (-1)) dX10_takeOver_302 rfl (by decide) ?_
              refine hz_cVv (pc' := 306) (av := [.int v8.1, .int (9 + v53.1), .int (-1)]) (rest := []) vl_X10_203 (fun w' h => ct_X10_put2 hl h) ga0 rfl rfl (Nat.le_of_ble_eq_true rfl) (by decide) (by decide) rfl dX10_takeOver_303 rfl (fun w56 => ?_)
              refine hz_iincN (pc' := 309) (j := 2) (fun v57 => [(3, .int v57), (0, .ref (B.1 + a0)), (1, .int v8.1)]) dX10_takeOver_306 rfl rfl (by decide) (fun _ => rfl) (fun v57 => ?_)
              refine hz_goto (tgt := 291) dX10_takeOver_309 (by decide) ?_
              exact hz_loc [1, 2, 0] rfl (ihv53 (v57, w56))
        · refine hz_loc [2, 3, 1, 0] rfl (hz_loopJ (lp := lp_X10_takeOver_176 a0 v8.1 v10) (Lh := fun v41 : Int32 × MW => [(0, .ref (B.1 + a0)), (1, .int v8.1), (2, .int v10), (3, .int v41.1)]) (wh := fun v41 : Int32 × MW => v41.2) (fun _ => rfl) (fun Nv41 ihv41 v41 => ?_) 3000 (0, w40))
          rw [lp_X10_takeOver_176]
          refine hz_iload_n (pc' := 177) (j := 3) dX10_takeOver_176 rfl rfl rfl ?_
          refine hz_aload_n (pc' := 178) (j := 0) dX10_takeOver_177 rfl rfl rfl ?_
          refine hz_gP (pc' := 181) (c' := 20) fl_X10_34.r ga0 rfl dX10_takeOver_178 rfl (fun b58 gb58 => ?_)
          refine hz_iload_n (pc' := 182) (j := 1) dX10_takeOver_181 rfl rfl rfl ?_
          refine hz_iald (pc' := 183) gb58 dX10_takeOver_182 rfl (fun v59 => ?_)
          refine hz_icmpge (pc' := 186) (tgt := 238) dX10_takeOver_183 (by decide) rfl ?_ ?_
          · exact hz_loc [0, 1, 2] rfl (hq42 v41.2)
          · refine hz_aload_n (pc' := 187) (j := 0) dX10_takeOver_186 rfl rfl rfl ?_
            refine hz_gP (pc' := 190) (c' := 20) fl_X10_37.r ga0 rfl dX10_takeOver_187 rfl (fun b60 gb60 => ?_)
            refine hz_iconst (pc' := 191) (v := 5) dX10_takeOver_190 rfl (by decide) ?_
            refine hz_iload_n (pc' := 192) (j := 1) dX10_takeOver_191 rfl rfl rfl ?_
            refine hz_imul (pc' := 193) dX10_takeOver_192 rfl ?_
            refine hz_iload_n (pc' := 194) (j := 3) dX10_takeOver_193 rfl rfl rfl ?_
            refine hz_iadd (pc' := 195) dX10_takeOver_194 rfl ?_
            refine hz_aload_n (pc' := 196) (j := 0) dX10_takeOver_195 rfl rfl rfl ?_
            refine hz_gP (pc' := 199) (c' := 20) fl_X10_53.r ga0 rfl dX10_takeOver_196 rfl (fun b61 gb61 => ?_)
            refine hz_iconst (pc' := 200) (v := 2) dX10_takeOver_199 rfl (by decide) ?_
            refine hz_iconst (pc' := 201) (v := 5) dX10_takeOver_200 rfl (by decide) ?_
            refine hz_iload_n (pc' := 202) (j := 1) dX10_takeOver_201 rfl rfl rfl ?_
            refine hz_imul (pc' := 203) dX10_takeOver_202 rfl ?_
            refine hz_iload_n (pc' := 204) (j := 3) dX10_takeOver_203 rfl rfl rfl ?_
            refine hz_iadd (pc' := 205) dX10_takeOver_204 rfl ?_
            refine hz_imul (pc' := 206) dX10_takeOver_205 rfl ?_
            refine hz_iald (pc' := 207) gb61 dX10_takeOver_206 rfl (fun v62 => ?_)
            refine hz_iast (pc' := 208) gb60 dX10_takeOver_207 rfl (fun w63 => ?_)
            refine hz_aload_n (pc' := 209) (j := 0) dX10_takeOver_208 rfl rfl rfl ?_
            refine hz_gP (pc' := 212) (c' := 20) fl_X10_40.r ga0 rfl dX10_takeOver_209 rfl (fun b64 gb64 => ?_)
            refine hz_iconst (pc' := 213) (v := 5) dX10_takeOver_212 rfl (by decide) ?_
            refine hz_iload_n (pc' := 214) (j := 1) dX10_takeOver_213 rfl rfl rfl ?_
            refine hz_imul (pc' := 215) dX10_takeOver_214 rfl ?_
            refine hz_iload_n (pc' := 216) (j := 3) dX10_takeOver_215 rfl rfl rfl ?_
            refine hz_iadd (pc' := 217) dX10_takeOver_216 rfl ?_
            refine hz_aload_n (pc' := 218) (j := 0) dX10_takeOver_217 rfl rfl rfl ?_
            refine hz_gP (pc' := 221) (c' := 20) fl_X10_53.r ga0 rfl dX10_takeOver_218 rfl (fun b65 gb65 => ?_)
            refine hz_iconst (pc' := 222) (v := 2) dX10_takeOver_221 rfl (by decide) ?_
            refine hz_iconst (pc' := 223) (v := 5) dX10_takeOver_222 rfl (by decide) ?_
            refine hz_iload_n (pc' := 224) (j := 1) dX10_takeOver_223 rfl rfl rfl ?_
            refine hz_imul (pc' := 225) dX10_takeOver_224 rfl ?_
            refine hz_iload_n (pc' := 226) (j := 3) dX10_takeOver_225 rfl rfl rfl ?_
            refine hz_iadd (pc' := 227) dX10_takeOver_226 rfl ?_
            refine hz_imul (pc' := 228) dX10_takeOver_227 rfl ?_
            refine hz_iconst (pc' := 229) (v := 1) dX10_takeOver_228 rfl (by decide) ?_
            refine hz_iadd (pc' := 230) dX10_takeOver_229 rfl ?_
            refine hz_iald (pc' := 231) gb65 dX10_takeOver_230 rfl (fun v66 => ?_)
            refine hz_iast (pc' := 232) gb64 dX10_takeOver_231 rfl (fun w67 => ?_)
            refine hz_iincN (pc' := 235) (j := 3) (fun v68 => [(3, .int v68), (0, .ref (B.1 + a0)), (1, .int v8.1), (2, .int v10)]) dX10_takeOver_232 rfl rfl (by decide) (fun _ => rfl) (fun v68 => ?_)
            refine hz_goto (tgt := 176) dX10_takeOver_235 (by decide) ?_
            exact hz_loc [1, 2, 3, 0] rfl (ihv41 (v68, w67))
  · refine hz_loc [1, 0] rfl (hz_loopJ (lp := lp_X10_takeOver_20 a0) (Lh := fun v4 : Int32 × MW => [(0, .ref (B.1 + a0)), (1, .int v4.1)]) (wh := fun v4 : Int32 × MW => v4.2) (fun _ => rfl) (fun Nv4 ihv4 v4 => ?_) 3000 (0, w3))
    rw [lp_X10_takeOver_20]
    refine hz_iload_n (pc' := 21) (j := 1) dX10_takeOver_20 rfl rfl rfl ?_
    refine hz_sipush (pc' := 24) (v := 287) dX10_takeOver_21 rfl (by decide) ?_
    refine hz_icmpge (pc' := 27) (tgt := 40) dX10_takeOver_24 (by decide) rfl ?_ ?_
    · exact hz_loc [0] rfl (hq5 v4.2)
    · refine hz_aload_n (pc' := 28) (j := 0) dX10_takeOver_27 rfl rfl rfl ?_
      refine hz_gP (pc' := 31) (c' := 20) fl_X10_7.r ga0 rfl dX10_takeOver_28 rfl (fun b69 gb69 => ?_)
      refine hz_iload_n (pc' := 32) (j := 1) dX10_takeOver_31 rfl rfl rfl ?_
      refine hz_iconst (pc' := 33) (v := 0) dX10_takeOver_32 rfl (by decide) ?_
      refine hz_iast (pc' := 34) gb69 dX10_takeOver_33 rfl (fun w70 => ?_)
      refine hz_iincN (pc' := 37) (j := 1) (fun v71 => [(1, .int v71), (0, .ref (B.1 + a0))]) dX10_takeOver_34 rfl rfl (by decide) (fun _ => rfl) (fun v71 => ?_)
      refine hz_goto (tgt := 20) dX10_takeOver_37 (by decide) ?_
      exact hz_loc [1, 0] rfl (ihv4 (v71, w70))
def lp_X10_load_76 (c0 : Nat) : Nat → MW → Option (MW)
  | 0, _ => none
  | N + 1, v0 => hz_b (f_X10_isWord c0 13 v0) (fun v18 w17 => (if v18 = 0 then some w17 else hz_bv (f_X10_readDomain c0 w17) (fun w19 => lp_X10_load_76 c0 N w19)))
def f_X10_load (a0 : Nat) (w : MW) : Option (Int32 × MW) :=
  hz_gd (hz_g 358 a0 11) (hz_let (hz_pn w a0 4 0) (fun w1 => hz_let (hz_pn w1 a0 17 (w1.1 a0 16)) (fun w2 => hz_let (hz_pn w2 a0 16 0) (fun w3 => hz_let (hz_pn w3 a0 18 0) (fun w4 => hz_let (hz_pn w4 a0 22 0) (fun w5 => hz_let (hz_pn w5 a0 23 (-1)) (fun w6 => hz_let (hz_pn w6 a0 25 0) (fun w7 => hz_bv (f_X10_next a0 w7) (fun w8 => hz_b (f_X10_isWord a0 12 w8) (fun v10 w9 => Option.bind ((if v10 = 0 then hz_bv (f_X10_fail a0 1 w9) (fun w30 => some w30) else some w9)) (fun q11 : MW => hz_bv (f_X10_next a0 q11) (fun w12 => hz_b (f_X10_read a0 0 9999 w12) (fun v14 w13 => hz_let (hz_pn w13 a0 24 v14) (fun w15 => hz_bv (f_X10_expectSemicolon a0 w15) (fun w16 => Option.bind (lp_X10_load_76 a0 3000 w16) (fun q18 : MW => hz_b (f_X10_isFine a0 q18) (fun v20 w19 => Option.bind ((if v20 = 0 then some w19 else (if (w19.1 a0 25) = 0 then hz_bv (f_X10_fail a0 1 w19) (fun w25 => some w25) else (if (w19.1 a0 20) = 0 then some w19 else hz_bv (f_X10_fail a0 1 w19) (fun w26 => some w26))))) (fun q21 : MW => hz_b (f_X10_isFine a0 q21) (fun v23 w22 => (if v23 = 0 then some (((-10) - (w22.1 a0 22)), w22) else hz_bv (f_X10_takeOver a0 w22) (fun w24 => some ((w24.1 a0 5), w24))))))))))))))))))))))
set_option maxHeartbeats 4000000 in
set_option maxRecDepth 100000 in
theorem ct_X10_load {l : Launch} (hl : l.stackTraces = false) {B : Bt} {a0 : Nat} {w : MW} {r : Int32 × MW} (h : f_X10_load a0 w = some r) : hz_Met l B false 358 358 yX10_load cX10_load 1 (Option.some FieldType.int) 12 0 0 [.ref (B.1 + a0)] w (some (.int r.1)) r.2 := by
  refine hz_ofJ (rv := (fun r : Int32 × MW => some (.int r.1))) (wo := (fun r : Int32 × MW => r.2)) (own := RX10) (ini := false) hl (by decide) rfl (Or.inr rfl) (Nat.le_of_ble_eq_true rfl) rfl ?_ h
  intro p e s m args below meth c
  unfold f_X10_load
  refine hz_gdr (fun ga0 => ?_)
  refine hz_aload_n (pc' := 1) (j := 0) dX10_load_0 rfl rfl rfl ?_
  refine hz_iconst (pc' := 2) (v := 0) dX10_load_1 rfl (by decide) ?_
  refine hz_putI (pc' := 5) fl_X10_74 ga0 rfl dX10_load_2 rfl (fun w1 => ?_)
  refine hz_aload_n (pc' := 6) (j := 0) dX10_load_5 rfl rfl rfl ?_
  refine hz_aload_n (pc' := 7) (j := 0) dX10_load_6 rfl rfl rfl ?_
  refine hz_gI (pc' := 10) fl_X10_81.r ga0 rfl dX10_load_7 rfl ?_
  refine hz_putI (pc' := 13) fl_X10_92 ga0 rfl dX10_load_10 rfl (fun w2 => ?_)
  refine hz_aload_n (pc' := 14) (j := 0) dX10_load_13 rfl rfl rfl ?_
  refine hz_iconst (pc' := 15) (v := 0) dX10_load_14 rfl (by decide) ?_
  refine hz_putI (pc' := 18) fl_X10_81 ga0 rfl dX10_load_15 rfl (fun w3 => ?_)
  refine hz_aload_n (pc' := 19) (j := 0) dX10_load_18 rfl rfl rfl ?_
  refine hz_iconst (pc' := 20) (v := 0) dX10_load_19 rfl (by decide) ?_
  refine hz_putI (pc' := 23) fl_X10_114 ga0 rfl dX10_load_20 rfl (fun w4 => ?_)
  refine hz_aload_n (pc' := 24) (j := 0) dX10_load_23 rfl rfl rfl ?_
  refine hz_iconst (pc' := 25) (v := 0) dX10_load_24 rfl (by decide) ?_
  refine hz_putI (pc' := 28) fl_X10_107 ga0 rfl dX10_load_25 rfl (fun w5 => ?_)
  refine hz_aload_n (pc' := 29) (j := 0) dX10_load_28 rfl rfl rfl ?_
  refine hz_iconst (pc' := 30) (v := (-1)) dX10_load_29 rfl (by decide) ?_
  refine hz_putI (pc' := 33) fl_X10_46 ga0 rfl dX10_load_30 rfl (fun w6 => ?_)
  refine hz_aload_n (pc' := 34) (j := 0) dX10_load_33 rfl rfl rfl ?_
  refine hz_iconst (pc' := 35) (v := 0) dX10_load_34 rfl (by decide) ?_
  refine hz_putI (pc' := 38) fl_X10_161 ga0 rfl dX10_load_35 rfl (fun w7 => ?_)
  refine hz_aload_n (pc' := 39) (j := 0) dX10_load_38 rfl rfl rfl ?_
  refine hz_cVv (pc' := 42) (av := []) (rest := []) vl_X10_146 (fun w' h => ct_X10_next hl h) ga0 rfl rfl (Nat.le_of_ble_eq_true rfl) (by decide) (by decide) rfl dX10_load_39 rfl (fun w8 => ?_)
  refine hz_aload_n (pc' := 43) (j := 0) dX10_load_42 rfl rfl rfl ?_
  refine hz_ldcS (pc' := 45) (i := 12) dX10_load_43 rfl rfl ?_
  refine hz_cVi (pc' := 48) (av := [.ref (B.2.2.2.1 12)]) (rest := []) vl_X10_151 (fun x w' h => ct_X10_isWord hl h) ga0 rfl rfl (Nat.le_of_ble_eq_true rfl) (by decide) (by decide) rfl dX10_load_45 rfl (fun v10 w9 => ?_)
  refine hz_bindJ (pcJ := 56) (LJ := fun q11 : MW => [(0, .ref (B.1 + a0))]) (stJ := fun q11 : MW => []) (kJ := 0) (slJ := 0) (nJ := 358) (wJ := fun q11 : MW => q11) (fun q11 => ?_) (fun hq11 => ?_)
  · refine hz_aload_n (pc' := 57) (j := 0) dX10_load_56 rfl rfl rfl ?_
    refine hz_cVv (pc' := 60) (av := []) (rest := []) vl_X10_146 (fun w' h => ct_X10_next hl h) ga0 rfl rfl (Nat.le_of_ble_eq_true rfl) (by decide) (by decide) rfl dX10_load_57 rfl (fun w12 => ?_)
    refine hz_aload_n (pc' := 61) (j := 0) dX10_load_60 rfl rfl rfl ?_
    refine hz_aload_n (pc' := 62) (j := 0) dX10_load_61 rfl rfl rfl ?_
    refine hz_iconst (pc' := 63) (v := 0) dX10_load_62 rfl (by decide) ?_
    refine hz_sipush (pc' := 66) (v := 9999) dX10_load_63 rfl (by decide) ?_
    refine hz_cVi (pc' := 69) (av := [.int 0, .int 9999]) (rest := [.ref (B.1 + a0)]) vl_X10_164 (fun x w' h => ct_X10_read hl h) ga0 rfl rfl (Nat.le_of_ble_eq_true rfl) (by decide) (by decide) rfl dX10_load_66 rfl (fun v14 w13 => ?_)
    refine hz_putI (pc' := 72) fl_X10_182 ga0 rfl dX10_load_69 rfl (fun w15 => ?_)
    refine hz_aload_n (pc' := 73) (j := 0) dX10_load_72 rfl rfl rfl ?_
    refine hz_cVv (pc' := 76) (av := []) (rest := []) vl_X10_172 (fun w' h => ct_X10_expectSemicolon hl h) ga0 rfl rfl (Nat.le_of_ble_eq_true rfl) (by decide) (by decide) rfl dX10_load_73 rfl (fun w16 => ?_)
    refine hz_bindJ (pcJ := 92) (LJ := fun q18 : MW => [(0, .ref (B.1 + a0))]) (stJ := fun _ => []) (kJ := 0) (slJ := 0) (nJ := 358) (wJ := fun q18 : MW => q18) (fun q18 => ?_) (fun hq18 => ?_)
    · refine hz_aload_n (pc' := 93) (j := 0) dX10_load_92 rfl rfl rfl ?_
      refine hz_cVi (pc' := 96) (av := []) (rest := []) vl_X10_110 (fun x w' h => ct_X10_isFine hl h) ga0 rfl rfl (Nat.le_of_ble_eq_true rfl) (by decide) (by decide) rfl dX10_load_93 rfl (fun v20 w19 => ?_)
      refine hz_bindJ (pcJ := 118) (LJ := fun q21 : MW => [(0, .ref (B.1 + a0))]) (stJ := fun q21 : MW => []) (kJ := 0) (slJ := 0) (nJ := 358) (wJ := fun q21 : MW => q21) (fun q21 => ?_) (fun hq21 => ?_)
      · refine hz_aload_n (pc' := 119) (j := 0) dX10_load_118 rfl rfl rfl ?_
        refine hz_cVi (pc' := 122) (av := []) (rest := []) vl_X10_110 (fun x w' h => ct_X10_isFine hl h) ga0 rfl rfl (Nat.le_of_ble_eq_true rfl) (by decide) (by decide) rfl dX10_load_119 rfl (fun v23 w22 => ?_)
        refine hz_ifne (pc' := 125) (tgt := 133) dX10_load_122 (by decide) rfl ?_ ?_
        · refine hz_aload_n (pc' := 134) (j := 0) dX10_load_133 rfl rfl rfl ?_
          refine hz_cVv (pc' := 137) (av := []) (rest := []) vl_X10_190 (fun w' h => ct_X10_takeOver hl h) ga0 rfl rfl (Nat.le_of_ble_eq_true rfl) (by decide) (by decide) rfl dX10_load_134 rfl (fun w24 => ?_)
          refine hz_aload_n (pc' := 138) (j := 0) dX10_load_137 rfl rfl rfl ?_
          refine hz_gI (pc' := 141) fl_X10_193.r ga0 rfl dX10_load_138 rfl ?_
          exact hz_reti dX10_load_141 rfl (by decide)
        · refine hz_bipush (pc' := 127) (v := (-10)) dX10_load_125 rfl (by decide) ?_
          refine hz_aload_n (pc' := 128) (j := 0) dX10_load_127 rfl rfl rfl ?_
          refine hz_gI (pc' := 131) fl_X10_107.r ga0 rfl dX10_load_128 rfl ?_
          refine hz_isub (pc' := 132) dX10_load_131 rfl ?_
          exact hz_reti dX10_load_132 rfl (by decide)
      · refine hz_ifeq (pc' := 99) (tgt := 118) dX10_load_96 (by decide) rfl ?_ ?_
        · exact hz_loc [0] rfl (hq21 w19)
        · refine hz_aload_n (pc' := 100) (j := 0) dX10_load_99 rfl rfl rfl ?_
          refine hz_gI (pc' := 103) fl_X10_161.r ga0 rfl dX10_load_100 rfl ?_
          refine hz_ifeq (pc' := 106) (tgt := 113) dX10_load_103 (by decide) rfl ?_ ?_
          · refine hz_aload_n (pc' := 114) (j := 0) dX10_load_113 rfl rfl rfl ?_
            refine hz_iconst (pc' := 115) (v := 1) dX10_load_114 rfl (by decide) ?_
            refine hz_cVv (pc' := 118) (av := [.int 1]) (rest := []) vl_X10_143 (fun w' h => ct_X10_fail hl h) ga0 rfl rfl (Nat.le_of_ble_eq_true rfl) (by decide) (by decide) rfl dX10_load_115 rfl (fun w25 => ?_)
            exact hz_loc [0] rfl (hq21 w25)
          · refine hz_aload_n (pc' := 107) (j := 0) dX10_load_106 rfl rfl rfl ?_
            refine hz_gI (pc' := 110) fl_X10_120.r ga0 rfl dX10_load_107 rfl ?_
            refine hz_ifeq (pc' := 113) (tgt := 118) dX10_load_110 (by decide) rfl ?_ ?_
            · exact hz_loc [0] rfl (hq21 w19)
            · refine hz_aload_n (pc' := 114) (j := 0) dX10_load_113 rfl rfl rfl ?_
              refine hz_iconst (pc' := 115) (v := 1) dX10_load_114 rfl (by decide) ?_
              refine hz_cVv (pc' := 118) (av := [.int 1]) (rest := []) vl_X10_143 (fun w' h => ct_X10_fail hl h) ga0 rfl rfl (Nat.le_of_ble_eq_true rfl) (by decide) (by decide) rfl dX10_load_115 rfl (fun w26 => ?_)
              exact hz_loc [0] rfl (hq21 w26)
    · refine hz_loc [0] rfl (hz_loopJ (lp := lp_X10_load_76 a0) (Lh := fun v17 : MW => [(0, .ref (B.1 + a0))]) (wh := fun v17 : MW => v17) (fun _ => rfl) (fun Nv17 ihv17 v17 => ?_) 3000 w16)
      rw [lp_X10_load_76]
      refine hz_aload_n (pc' := 77) (j := 0) dX10_load_76 rfl rfl rfl ?_
      refine hz_ldcS (pc' := 79) (i := 13) dX10_load_77 rfl rfl ?_
      refine hz_cVi (pc' := 82) (av := [.ref (B.2.2.2.1 13)]) (rest := []) vl_X10_151 (fun x w' h => ct_X10_isWord hl h) ga0 rfl rfl (Nat.le_of_ble_eq_true rfl) (by decide) (by decide) rfl dX10_load_79 rfl (fun v28 w27 => ?_)
      refine hz_ifeq (pc' := 85) (tgt := 92) dX10_load_82 (by decide) rfl ?_ ?_
      · exact hz_loc [0] rfl (hq18 w27)
      · refine hz_aload_n (pc' := 86) (j := 0) dX10_load_85 rfl rfl rfl ?_
        refine hz_cVv (pc' := 89) (av := []) (rest := []) vl_X10_187 (fun w' h => ct_X10_readDomain hl h) ga0 rfl rfl (Nat.le_of_ble_eq_true rfl) (by decide) (by decide) rfl dX10_load_86 rfl (fun w29 => ?_)
        refine hz_goto (tgt := 76) dX10_load_89 (by decide) ?_
        exact hz_loc [0] rfl (ihv17 w29)
  · refine hz_ifne (pc' := 51) (tgt := 56) dX10_load_48 (by decide) rfl ?_ ?_
    · exact hz_loc [0] rfl (hq11 w9)
    · refine hz_aload_n (pc' := 52) (j := 0) dX10_load_51 rfl rfl rfl ?_
      refine hz_iconst (pc' := 53) (v := 1) dX10_load_52 rfl (by decide) ?_
      refine hz_cVv (pc' := 56) (av := [.int 1]) (rest := []) vl_X10_143 (fun w' h => ct_X10_fail hl h) ga0 rfl rfl (Nat.le_of_ble_eq_true rfl) (by decide) (by decide) rfl dX10_load_53 rfl (fun w30 => ?_)
      exact hz_loc [0] rfl (hq11 w30)
def f_X10_errorPosition (a0 : Nat) (w : MW) : Option (Int32 × MW) :=
  hz_gd (hz_g 358 a0 11) (hz_let (hz_pn w a0 4 0) (fun w1 => some ((w1.1 a0 23), w1)))
set_option maxHeartbeats 4000000 in
set_option maxRecDepth 100000 in
theorem ct_X10_errorPosition {l : Launch} (hl : l.stackTraces = false) {B : Bt} {a0 : Nat} {w : MW} {r : Int32 × MW} (h : f_X10_errorPosition a0 w = some r) : hz_Met l B false 358 358 yX10_errorPosition cX10_errorPosition 1 (Option.some FieldType.int) 2 0 0 [.ref (B.1 + a0)] w (some (.int r.1)) r.2 := by
  refine hz_ofJ (rv := (fun r : Int32 × MW => some (.int r.1))) (wo := (fun r : Int32 × MW => r.2)) (own := RX10) (ini := false) hl (by decide) rfl (Or.inr rfl) (Nat.le_of_ble_eq_true rfl) rfl ?_ h
  intro p e s m args below meth c
  unfold f_X10_errorPosition
  refine hz_gdr (fun ga0 => ?_)
  refine hz_aload_n (pc' := 1) (j := 0) dX10_errorPosition_0 rfl rfl rfl ?_
  refine hz_iconst (pc' := 2) (v := 0) dX10_errorPosition_1 rfl (by decide) ?_
  refine hz_putI (pc' := 5) fl_X10_74 ga0 rfl dX10_errorPosition_2 rfl (fun w1 => ?_)
  refine hz_aload_n (pc' := 6) (j := 0) dX10_errorPosition_5 rfl rfl rfl ?_
  refine hz_gI (pc' := 9) fl_X10_46.r ga0 rfl dX10_errorPosition_6 rfl ?_
  exact hz_reti dX10_errorPosition_9 rfl (by decide)
def f_X10_of (a0 : Nat) (x1 : Int32) (x2 : Int32) (w : MW) : Option (Int32 × MW) :=
  hz_gd (hz_g 358 a0 11) (hz_ldp w a0 0 358 20 (fun b1 => hz_lda w b1 ((19 + (13 * x1)) + x2) (fun v2 => some (v2, w))))
set_option maxHeartbeats 4000000 in
set_option maxRecDepth 100000 in
theorem ct_X10_of {l : Launch} (hl : l.stackTraces = false) {B : Bt} {a0 : Nat} {x1 : Int32} {x2 : Int32} {w : MW} {r : Int32 × MW} (h : f_X10_of a0 x1 x2 w = some r) : hz_Met l B false 358 358 yX10_of cX10_of 3 (Option.some FieldType.int) 2 0 0 [.ref (B.1 + a0), .int x1, .int x2] w (some (.int r.1)) r.2 := by
  refine hz_ofJ (rv := (fun r : Int32 × MW => some (.int r.1))) (wo := (fun r : Int32 × MW => r.2)) (own := RX10) (ini := false) hl (by decide) rfl (Or.inr rfl) (Nat.le_of_ble_eq_true rfl) rfl ?_ h
  intro p e s m args below meth c
  unfold f_X10_of
  refine hz_gdr (fun ga0 => ?_)
  refine hz_aload_n (pc' := 1) (j := 0) dX10_of_0 rfl rfl rfl ?_
  refine hz_gP (pc' := 4) (c' := 20) fl_X10_7.r ga0 rfl dX10_of_1 rfl (fun b1 gb1 => ?_)
  refine hz_bipush (pc' := 6) (v := 19) dX10_of_4 rfl (by decide) ?_
  refine hz_bipush (pc' := 8) (v := 13) dX10_of_6 rfl (by decide) ?_
  refine hz_iload_n (pc' := 9) (j := 1) dX10_of_8 rfl rfl rfl ?_
  refine hz_imul (pc' := 10) dX10_of_9 rfl ?_
  refine hz_iadd (pc' := 11) dX10_of_10 rfl ?_
  refine hz_iload_n (pc' := 12) (j := 2) dX10_of_11 rfl rfl rfl ?_
  refine hz_iadd (pc' := 13) dX10_of_12 rfl ?_
  refine hz_iald (pc' := 14) gb1 dX10_of_13 rfl (fun v2 => ?_)
  exact hz_reti dX10_of_14 rfl (by decide)
def f_X10_addTo (a0 : Nat) (x1 : Int32) (x2 : Int32) (x3 : Int32) (w : MW) : Option (MW) :=
  hz_gd (hz_g 358 a0 11) (hz_ldp w a0 0 358 20 (fun b1 => hz_lda w b1 ((19 + (13 * x1)) + x2) (fun v2 => hz_sta w b1 ((19 + (13 * x1)) + x2) (v2 + x3) (fun w3 => some w3))))
set_option maxHeartbeats 4000000 in
set_option maxRecDepth 100000 in
theorem ct_X10_addTo {l : Launch} (hl : l.stackTraces = false) {B : Bt} {a0 : Nat} {x1 : Int32} {x2 : Int32} {x3 : Int32} {w : MW} {r : MW} (h : f_X10_addTo a0 x1 x2 x3 w = some r) : hz_Met l B false 358 358 yX10_addTo cX10_addTo 4 (Option.none : Option FieldType) 2 0 0 [.ref (B.1 + a0), .int x1, .int x2, .int x3] w none r := by
  refine hz_ofJ (rv := (fun _ : MW => none)) (wo := (fun r : MW => r)) (own := RX10) (ini := false) hl (by decide) rfl (Or.inr rfl) (Nat.le_of_ble_eq_true rfl) rfl ?_ h
  intro p e s m args below meth c
  unfold f_X10_addTo
  refine hz_gdr (fun ga0 => ?_)
  refine hz_aload_n (pc' := 1) (j := 0) dX10_addTo_0 rfl rfl rfl ?_
  refine hz_gP (pc' := 4) (c' := 20) fl_X10_7.r ga0 rfl dX10_addTo_1 rfl (fun b1 gb1 => ?_)
  refine hz_bipush (pc' := 6) (v := 19) dX10_addTo_4 rfl (by decide) ?_
  refine hz_bipush (pc' := 8) (v := 13) dX10_addTo_6 rfl (by decide) ?_
  refine hz_iload_n (pc' := 9) (j := 1) dX10_addTo_8 rfl rfl rfl ?_
  refine hz_imul (pc' := 10) dX10_addTo_9 rfl ?_
  refine hz_iadd (pc' := 11) dX10_addTo_10 rfl ?_
  refine hz_iload_n (pc' := 12) (j := 2) dX10_addTo_11 rfl rfl rfl ?_
  refine hz_iadd (pc' := 13) dX10_addTo_12 rfl ?_
  refine hz_dup2 (pc' := 14) dX10_addTo_13 rfl rfl rfl ?_
  refine hz_iald (pc' := 15) gb1 dX10_addTo_14 rfl (fun v2 => ?_)
  refine hz_iload_n (pc' := 16) (j := 3) dX10_addTo_15 rfl rfl rfl ?_
  refine hz_iadd (pc' := 17) dX10_addTo_16 rfl ?_
  refine hz_iast (pc' := 18) gb1 dX10_addTo_17 rfl (fun w3 => ?_)
  exact hz_retv dX10_addTo_18 rfl (by decide)
def f_X10_ofJob (a0 : Nat) (x1 : Int32) (x2 : Int32) (w : MW) : Option (Int32 × MW) :=
  hz_gd (hz_g 358 a0 11) (hz_ldp w a0 0 358 20 (fun b1 => hz_lda w b1 ((71 + (9 * x1)) + x2) (fun v2 => some (v2, w))))
set_option maxHeartbeats 4000000 in
set_option maxRecDepth 100000 in
theorem ct_X10_ofJob {l : Launch} (hl : l.stackTraces = false) {B : Bt} {a0 : Nat} {x1 : Int32} {x2 : Int32} {w : MW} {r : Int32 × MW} (h : f_X10_ofJob a0 x1 x2 w = some r) : hz_Met l B false 358 358 yX10_ofJob cX10_ofJob 3 (Option.some FieldType.int) 2 0 0 [.ref (B.1 + a0), .int x1, .int x2] w (some (.int r.1)) r.2 := by
  refine hz_ofJ (rv := (fun r : Int32 × MW => some (.int r.1))) (wo := (fun r : Int32 × MW => r.2)) (own := RX10) (ini := false) hl (by decide) rfl (Or.inr rfl) (Nat.le_of_ble_eq_true rfl) rfl ?_ h
  intro p e s m args below meth c
  unfold f_X10_ofJob
  refine hz_gdr (fun ga0 => ?_)
  refine hz_aload_n (pc' := 1) (j := 0) dX10_ofJob_0 rfl rfl rfl ?_
  refine hz_gP (pc' := 4) (c' := 20) fl_X10_7.r ga0 rfl dX10_ofJob_1 rfl (fun b1 gb1 => ?_)
  refine hz_bipush (pc' := 6) (v := 71) dX10_ofJob_4 rfl (by decide) ?_
  refine hz_bipush (pc' := 8) (v := 9) dX10_ofJob_6 rfl (by decide) ?_
  refine hz_iload_n (pc' := 9) (j := 1) dX10_ofJob_8 rfl rfl rfl ?_
  refine hz_imul (pc' := 10) dX10_ofJob_9 rfl ?_
  refine hz_iadd (pc' := 11) dX10_ofJob_10 rfl ?_
  refine hz_iload_n (pc' := 12) (j := 2) dX10_ofJob_11 rfl rfl rfl ?_
  refine hz_iadd (pc' := 13) dX10_ofJob_12 rfl ?_
  refine hz_iald (pc' := 14) gb1 dX10_ofJob_13 rfl (fun v2 => ?_)
  exact hz_reti dX10_ofJob_14 rfl (by decide)
def f_X10_putJob (a0 : Nat) (x1 : Int32) (x2 : Int32) (x3 : Int32) (w : MW) : Option (MW) :=
  hz_gd (hz_g 358 a0 11) (hz_ldp w a0 0 358 20 (fun b1 => hz_sta w b1 ((71 + (9 * x1)) + x2) x3 (fun w2 => some w2)))
set_option maxHeartbeats 4000000 in
set_option maxRecDepth 100000 in
theorem ct_X10_putJob {l : Launch} (hl : l.stackTraces = false) {B : Bt} {a0 : Nat} {x1 : Int32} {x2 : Int32} {x3 : Int32} {w : MW} {r : MW} (h : f_X10_putJob a0 x1 x2 x3 w = some r) : hz_Met l B false 358 358 yX10_putJob cX10_putJob 4 (Option.none : Option FieldType) 2 0 0 [.ref (B.1 + a0), .int x1, .int x2, .int x3] w none r := by
  refine hz_ofJ (rv := (fun _ : MW => none)) (wo := (fun r : MW => r)) (own := RX10) (ini := false) hl (by decide) rfl (Or.inr rfl) (Nat.le_of_ble_eq_true rfl) rfl ?_ h
  intro p e s m args below meth c
  unfold f_X10_putJob
  refine hz_gdr (fun ga0 => ?_)
  refine hz_aload_n (pc' := 1) (j := 0) dX10_putJob_0 rfl rfl rfl ?_
  refine hz_gP (pc' := 4) (c' := 20) fl_X10_7.r ga0 rfl dX10_putJob_1 rfl (fun b1 gb1 => ?_)
  refine hz_bipush (pc' := 6) (v := 71) dX10_putJob_4 rfl (by decide) ?_
  refine hz_bipush (pc' := 8) (v := 9) dX10_putJob_6 rfl (by decide) ?_
  refine hz_iload_n (pc' := 9) (j := 1) dX10_putJob_8 rfl rfl rfl ?_
  refine hz_imul (pc' := 10) dX10_putJob_9 rfl ?_
  refine hz_iadd (pc' := 11) dX10_putJob_10 rfl ?_
  refine hz_iload_n (pc' := 12) (j := 2) dX10_putJob_11 rfl rfl rfl ?_
  refine hz_iadd (pc' := 13) dX10_putJob_12 rfl ?_
  refine hz_iload_n (pc' := 14) (j := 3) dX10_putJob_13 rfl rfl rfl ?_
  refine hz_iast (pc' := 15) gb1 dX10_putJob_14 rfl (fun w2 => ?_)
  exact hz_retv dX10_putJob_15 rfl (by decide)
def lp_X10_remember_54 (c0 : Nat) : Nat → (Int32 × MW) → Option (MW)
  | 0, _ => none
  | N + 1, v0 => (if 287 ≤ v0.1 then some v0.2 else hz_ldp v0.2 c0 1 358 20 (fun b2 => hz_ldp v0.2 c0 0 358 20 (fun b3 => hz_lda v0.2 b3 v0.1 (fun v4 => hz_sta v0.2 b2 ((287 * (v0.2.1 c0 2)) + v0.1) v4 (fun w5 => hz_let (v0.1 + Int32.ofInt 1) (fun v6 => lp_X10_remember_54 c0 N (v6, w5)))))))
def lp_X10_remember_13 (c0 : Nat) : Nat → (Int32 × MW) → Option (MW)
  | 0, _ => none
  | N + 1, v0 => (if 2870 ≤ v0.1 then some v0.2 else hz_ldp v0.2 c0 1 358 20 (fun b10 => hz_ldp v0.2 c0 1 358 20 (fun b11 => hz_lda v0.2 b11 v0.1 (fun v12 => hz_sta v0.2 b10 (v0.1 - 287) v12 (fun w13 => hz_let (v0.1 + Int32.ofInt 1) (fun v14 => lp_X10_remember_13 c0 N (v14, w13)))))))
def f_X10_remember (a0 : Nat) (w : MW) : Option (MW) :=
  hz_gd (hz_g 358 a0 11) (Option.bind ((if (w.1 a0 2) = 10 then Option.bind (lp_X10_remember_13 a0 3000 (287, w)) (fun q11 : MW => hz_let (hz_pn q11 a0 2 ((q11.1 a0 2) - 1)) (fun w12 => some w12)) else some w)) (fun q1 : MW => Option.bind (lp_X10_remember_54 a0 3000 (0, q1)) (fun q3 : MW => hz_let (hz_pn q3 a0 2 ((q3.1 a0 2) + 1)) (fun w4 => some w4))))
set_option maxHeartbeats 4000000 in
set_option maxRecDepth 100000 in
theorem ct_X10_remember {l : Launch} (hl : l.stackTraces = false) {B : Bt} {a0 : Nat} {w : MW} {r : MW} (h : f_X10_remember a0 w = some r) : hz_Met l B false 358 358 yX10_remember cX10_remember 2 (Option.none : Option FieldType) 2 0 0 [.ref (B.1 + a0)] w none r := by
  refine hz_ofJ (rv := (fun _ : MW => none)) (wo := (fun r : MW => r)) (own := RX10) (ini := false) hl (by decide) rfl (Or.inr rfl) (Nat.le_of_ble_eq_true rfl) rfl ?_ h
  intro p e s m args below meth c
  unfold f_X10_remember
  refine hz_gdr (fun ga0 => ?_)
  refine hz_aload_n (pc' := 1) (j := 0) dX10_remember_0 rfl rfl rfl ?_
  refine hz_gI (pc' := 4) fl_X10_196.r ga0 rfl dX10_remember_1 rfl ?_
  refine hz_bipush (pc' := 6) (v := 10) dX10_remember_4 rfl (by decide) ?_
  refine hz_bindJ (pcJ := 52) (LJ := fun q1 : MW => [(0, .ref (B.1 + a0))]) (stJ := fun q1 : MW => []) (kJ := 0) (slJ := 0) (nJ := 358) (wJ := fun q1 : MW => q1) (fun q1 => ?_) (fun hq1 => ?_)
  · refine hz_iconst (pc' := 53) (v := 0) dX10_remember_52 rfl (by decide) ?_
    refine hz_istore_n (pc' := 54) (L' := [(1, .int 0), (0, .ref (B.1 + a0))]) dX10_remember_53 rfl rfl (by decide) rfl ?_
    refine hz_bindJ (pcJ := 88) (LJ := fun q3 : MW => [(0, .ref (B.1 + a0))]) (stJ := fun _ => []) (kJ := 0) (slJ := 0) (nJ := 358) (wJ := fun q3 : MW => q3) (fun q3 => ?_) (fun hq3 => ?_)
    · refine hz_aload_n (pc' := 89) (j := 0) dX10_remember_88 rfl rfl rfl ?_
      refine hz_dup (pc' := 90) dX10_remember_89 rfl rfl ?_
      refine hz_gI (pc' := 93) fl_X10_196.r ga0 rfl dX10_remember_90 rfl ?_
      refine hz_iconst (pc' := 94) (v := 1) dX10_remember_93 rfl (by decide) ?_
      refine hz_iadd (pc' := 95) dX10_remember_94 rfl ?_
      refine hz_putI (pc' := 98) fl_X10_196 ga0 rfl dX10_remember_95 rfl (fun w4 => ?_)
      exact hz_retv dX10_remember_98 rfl (by decide)
    · refine hz_loc [1, 0] rfl (hz_loopJ (lp := lp_X10_remember_54 a0) (Lh := fun v2 : Int32 × MW => [(0, .ref (B.1 + a0)), (1, .int v2.1)]) (wh := fun v2 : Int32 × MW => v2.2) (fun _ => rfl) (fun Nv2 ihv2 v2 => ?_) 3000 (0, q1))
      rw [lp_X10_remember_54]
      refine hz_iload_n (pc' := 55) (j := 1) dX10_remember_54 rfl rfl rfl ?_
      refine hz_sipush (pc' := 58) (v := 287) dX10_remember_55 rfl (by decide) ?_
      refine hz_icmpge (pc' := 61) (tgt := 88) dX10_remember_58 (by decide) rfl ?_ ?_
      · exact hz_loc [0] rfl (hq3 v2.2)
      · refine hz_aload_n (pc' := 62) (j := 0) dX10_remember_61 rfl rfl rfl ?_
        refine hz_gP (pc' := 65) (c' := 20) fl_X10_13.r ga0 rfl dX10_remember_62 rfl (fun b5 gb5 => ?_)
        refine hz_sipush (pc' := 68) (v := 287) dX10_remember_65 rfl (by decide) ?_
        refine hz_aload_n (pc' := 69) (j := 0) dX10_remember_68 rfl rfl rfl ?_
        refine hz_gI (pc' := 72) fl_X10_196.r ga0 rfl dX10_remember_69 rfl ?_
        refine hz_imul (pc' := 73) dX10_remember_72 rfl ?_
        refine hz_iload_n (pc' := 74) (j := 1) dX10_remember_73 rfl rfl rfl ?_
        refine hz_iadd (pc' := 75) dX10_remember_74 rfl ?_
        refine hz_aload_n (pc' := 76) (j := 0) dX10_remember_75 rfl rfl rfl ?_
        refine hz_gP (pc' := 79) (c' := 20) fl_X10_7.r ga0 rfl dX10_remember_76 rfl (fun b6 gb6 => ?_)
        refine hz_iload_n (pc' := 80) (j := 1) dX10_remember_79 rfl rfl rfl ?_
        refine hz_iald (pc' := 81) gb6 dX10_remember_80 rfl (fun v7 => ?_)
        refine hz_iast (pc' := 82) gb5 dX10_remember_81 rfl (fun w8 => ?_)
        refine hz_iincN (pc' := 85) (j := 1) (fun v9 => [(1, .int v9), (0, .ref (B.1 + a0))]) dX10_remember_82 rfl rfl (by decide) (fun _ => rfl) (fun v9 => ?_)
        refine hz_goto (tgt := 54) dX10_remember_85 (by decide) ?_
        exact hz_loc [1, 0] rfl (ihv2 (v9, w8))
  · refine hz_icmpne (pc' := 9) (tgt := 52) dX10_remember_6 (by decide) rfl ?_ ?_
    · exact hz_loc [0] rfl (hq1 w)
    · refine hz_sipush (pc' := 12) (v := 287) dX10_remember_9 rfl (by decide) ?_
      refine hz_istore_n (pc' := 13) (L' := [(1, .int 287), (0, .ref (B.1 + a0))]) dX10_remember_12 rfl rfl (by decide) rfl ?_
      refine hz_bindJ (pcJ := 42) (LJ := fun q11 : MW => [(0, .ref (B.1 + a0))]) (stJ := fun _ => []) (kJ := 0) (slJ := 0) (nJ := 358) (wJ := fun q11 : MW => q11) (fun q11 => ?_) (fun hq11 => ?_)
      · refine hz_aload_n (pc' := 43) (j := 0) dX10_remember_42 rfl rfl rfl ?_
        refine hz_dup (pc' := 44) dX10_remember_43 rfl rfl ?_
        refine hz_gI (pc' := 47) fl_X10_196.r ga0 rfl dX10_remember_44 rfl ?_
        refine hz_iconst (pc' := 48) (v := 1) dX10_remember_47 rfl (by decide) ?_
        refine hz_isub (pc' := 49) dX10_remember_48 rfl ?_
        refine hz_putI (pc' := 52) fl_X10_196 ga0 rfl dX10_remember_49 rfl (fun w12 => ?_)
        exact hz_loc [0] rfl (hq1 w12)
      · refine hz_loc [1, 0] rfl (hz_loopJ (lp := lp_X10_remember_13 a0) (Lh := fun v10 : Int32 × MW => [(0, .ref (B.1 + a0)), (1, .int v10.1)]) (wh := fun v10 : Int32 × MW => v10.2) (fun _ => rfl) (fun Nv10 ihv10 v10 => ?_) 3000 (287, w))
        rw [lp_X10_remember_13]
        refine hz_iload_n (pc' := 14) (j := 1) dX10_remember_13 rfl rfl rfl ?_
        refine hz_sipush (pc' := 17) (v := 2870) dX10_remember_14 rfl (by decide) ?_
        refine hz_icmpge (pc' := 20) (tgt := 42) dX10_remember_17 (by decide) rfl ?_ ?_
        · exact hz_loc [0] rfl (hq11 v10.2)
        · refine hz_aload_n (pc' := 21) (j := 0) dX10_remember_20 rfl rfl rfl ?_
          refine hz_gP (pc' := 24) (c' := 20) fl_X10_13.r ga0 rfl dX10_remember_21 rfl (fun b13 gb13 => ?_)
          refine hz_iload_n (pc' := 25) (j := 1) dX10_remember_24 rfl rfl rfl ?_
          refine hz_sipush (pc' := 28) (v := 287) dX10_remember_25 rfl (by decide) ?_
          refine hz_isub (pc' := 29) dX10_remember_28 rfl ?_
          refine hz_aload_n (pc' := 30) (j := 0) dX10_remember_29 rfl rfl rfl ?_
          refine hz_gP (pc' := 33) (c' := 20) fl_X10_13.r ga0 rfl dX10_remember_30 rfl (fun b14 gb14 => ?_)
          refine hz_iload_n (pc' := 34) (j := 1) dX10_remember_33 rfl rfl rfl ?_
          refine hz_iald (pc' := 35) gb14 dX10_remember_34 rfl (fun v15 => ?_)
          refine hz_iast (pc' := 36) gb13 dX10_remember_35 rfl (fun w16 => ?_)
          refine hz_iincN (pc' := 39) (j := 1) (fun v17 => [(1, .int v17), (0, .ref (B.1 + a0))]) dX10_remember_36 rfl rfl (by decide) (fun _ => rfl) (fun v17 => ?_)
          refine hz_goto (tgt := 13) dX10_remember_39 (by decide) ?_
          exact hz_loc [1, 0] rfl (ihv10 (v17, w16))
def lp_X10_undo_32 (c0 : Nat) : Nat → (Int32 × MW) → Option (MW)
  | 0, _ => none
  | N + 1, v0 => (if 287 ≤ v0.1 then some v0.2 else hz_ldp v0.2 c0 0 358 20 (fun b4 => hz_ldp v0.2 c0 1 358 20 (fun b5 => hz_lda v0.2 b5 ((287 * (v0.2.1 c0 2)) + v0.1) (fun v6 => hz_sta v0.2 b4 v0.1 v6 (fun w7 => hz_let (v0.1 + Int32.ofInt 1) (fun v8 => lp_X10_undo_32 c0 N (v8, w7)))))))
def f_X10_undo (a0 : Nat) (w : MW) : Option (Int32 × MW) :=
  hz_gd (hz_g 358 a0 11) (hz_b (f_X10_isWrong a0 1 w) (fun v2 w1 => (if v2 = 0 then (if (w1.1 a0 2) = 0 then some ((-2), w1) else hz_let (hz_pn w1 a0 2 ((w1.1 a0 2) - 1)) (fun w3 => Option.bind (lp_X10_undo_32 a0 3000 (0, w3)) (fun q5 : MW => some ((q5.1 a0 2), q5)))) else some (0, w1))))
set_option maxHeartbeats 4000000 in
set_option maxRecDepth 100000 in
theorem ct_X10_undo {l : Launch} (hl : l.stackTraces = false) {B : Bt} {a0 : Nat} {w : MW} {r : Int32 × MW} (h : f_X10_undo a0 w = some r) : hz_Met l B false 358 358 yX10_undo cX10_undo 2 (Option.some FieldType.int) 3 0 0 [.ref (B.1 + a0)] w (some (.int r.1)) r.2 := by
  refine hz_ofJ (rv := (fun r : Int32 × MW => some (.int r.1))) (wo := (fun r : Int32 × MW => r.2)) (own := RX10) (ini := false) hl (by decide) rfl (Or.inr rfl) (Nat.le_of_ble_eq_true rfl) rfl ?_ h
  intro p e s m args below meth c
  unfold f_X10_undo
  refine hz_gdr (fun ga0 => ?_)
  refine hz_aload_n (pc' := 1) (j := 0) dX10_undo_0 rfl rfl rfl ?_
  refine hz_iconst (pc' := 2) (v := 1) dX10_undo_1 rfl (by decide) ?_
  refine hz_cVi (pc' := 5) (av := [.int 1]) (rest := []) vl_X10_207 (fun x w' h => ct_X10_isWrong hl h) ga0 rfl rfl (Nat.le_of_ble_eq_true rfl) (by decide) (by decide) rfl dX10_undo_2 rfl (fun v2 w1 => ?_)
  refine hz_ifeq (pc' := 8) (tgt := 10) dX10_undo_5 (by decide) rfl ?_ ?_
  · refine hz_aload_n (pc' := 11) (j := 0) dX10_undo_10 rfl rfl rfl ?_
    refine hz_gI (pc' := 14) fl_X10_196.r ga0 rfl dX10_undo_11 rfl ?_
    refine hz_ifne (pc' := 17) (tgt := 20) dX10_undo_14 (by decide) rfl ?_ ?_
    · refine hz_aload_n (pc' := 21) (j := 0) dX10_undo_20 rfl rfl rfl ?_
      refine hz_dup (pc' := 22) dX10_undo_21 rfl rfl ?_
      refine hz_gI (pc' := 25) fl_X10_196.r ga0 rfl dX10_undo_22 rfl ?_
      refine hz_iconst (pc' := 26) (v := 1) dX10_undo_25 rfl (by decide) ?_
      refine hz_isub (pc' := 27) dX10_undo_26 rfl ?_
      refine hz_putI (pc' := 30) fl_X10_196 ga0 rfl dX10_undo_27 rfl (fun w3 => ?_)
      refine hz_iconst (pc' := 31) (v := 0) dX10_undo_30 rfl (by decide) ?_
      refine hz_istore_n (pc' := 32) (L' := [(1, .int 0), (0, .ref (B.1 + a0))]) dX10_undo_31 rfl rfl (by decide) rfl ?_
      refine hz_bindJ (pcJ := 66) (LJ := fun q5 : MW => [(0, .ref (B.1 + a0))]) (stJ := fun _ => []) (kJ := 0) (slJ := 0) (nJ := 358) (wJ := fun q5 : MW => q5) (fun q5 => ?_) (fun hq5 => ?_)
      · refine hz_aload_n (pc' := 67) (j := 0) dX10_undo_66 rfl rfl rfl ?_
        refine hz_gI (pc' := 70) fl_X10_196.r ga0 rfl dX10_undo_67 rfl ?_
        exact hz_reti dX10_undo_70 rfl (by decide)
      · refine hz_loc [1, 0] rfl (hz_loopJ (lp := lp_X10_undo_32 a0) (Lh := fun v4 : Int32 × MW => [(0, .ref (B.1 + a0)), (1, .int v4.1)]) (wh := fun v4 : Int32 × MW => v4.2) (fun _ => rfl) (fun Nv4 ihv4 v4 => ?_) 3000 (0, w3))
        rw [lp_X10_undo_32]
        refine hz_iload_n (pc' := 33) (j := 1) dX10_undo_32 rfl rfl rfl ?_
        refine hz_sipush (pc' := 36) (v := 287) dX10_undo_33 rfl (by decide) ?_
        refine hz_icmpge (pc' := 39) (tgt := 66) dX10_undo_36 (by decide) rfl ?_ ?_
        · exact hz_loc [0] rfl (hq5 v4.2)
        · refine hz_aload_n (pc' := 40) (j := 0) dX10_undo_39 rfl rfl rfl ?_
          refine hz_gP (pc' := 43) (c' := 20) fl_X10_7.r ga0 rfl dX10_undo_40 rfl (fun b6 gb6 => ?_)
          refine hz_iload_n (pc' := 44) (j := 1) dX10_undo_43 rfl rfl rfl ?_
          refine hz_aload_n (pc' := 45) (j := 0) dX10_undo_44 rfl rfl rfl ?_
          refine hz_gP (pc' := 48) (c' := 20) fl_X10_13.r ga0 rfl dX10_undo_45 rfl (fun b7 gb7 => ?_)
          refine hz_sipush (pc' := 51) (v := 287) dX10_undo_48 rfl (by decide) ?_
          refine hz_aload_n (pc' := 52) (j := 0) dX10_undo_51 rfl rfl rfl ?_
          refine hz_gI (pc' := 55) fl_X10_196.r ga0 rfl dX10_undo_52 rfl ?_
          refine hz_imul (pc' := 56) dX10_undo_55 rfl ?_
          refine hz_iload_n (pc' := 57) (j := 1) dX10_undo_56 rfl rfl rfl ?_
          refine hz_iadd (pc' := 58) dX10_undo_57 rfl ?_
          refine hz_iald (pc' := 59) gb7 dX10_undo_58 rfl (fun v8 => ?_)
          refine hz_iast (pc' := 60) gb6 dX10_undo_59 rfl (fun w9 => ?_)
          refine hz_iincN (pc' := 63) (j := 1) (fun v10 => [(1, .int v10), (0, .ref (B.1 + a0))]) dX10_undo_60 rfl rfl (by decide) (fun _ => rfl) (fun v10 => ?_)
          refine hz_goto (tgt := 32) dX10_undo_63 (by decide) ?_
          exact hz_loc [1, 0] rfl (ihv4 (v10, w9))
    · refine hz_bipush (pc' := 19) (v := (-2)) dX10_undo_17 rfl (by decide) ?_
      exact hz_reti dX10_undo_19 rfl (by decide)
  · refine hz_iconst (pc' := 9) (v := 0) dX10_undo_8 rfl (by decide) ?_
    exact hz_reti dX10_undo_9 rfl (by decide)
def lp_X10_putAside_2 (c0 : Nat) : Nat → (Int32 × MW) → Option (MW)
  | 0, _ => none
  | N + 1, v0 => (if 287 ≤ v0.1 then some v0.2 else hz_ldp v0.2 c0 28 358 20 (fun b1 => hz_ldp v0.2 c0 0 358 20 (fun b2 => hz_lda v0.2 b2 v0.1 (fun v3 => hz_sta v0.2 b1 v0.1 v3 (fun w4 => hz_let (v0.1 + Int32.ofInt 1) (fun v5 => lp_X10_putAside_2 c0 N (v5, w4)))))))
def f_X10_putAside (a0 : Nat) (w : MW) : Option (MW) :=
  hz_gd (hz_g 358 a0 11) (Option.bind (lp_X10_putAside_2 a0 3000 (0, w)) (fun q2 : MW => some q2))
set_option maxHeartbeats 4000000 in
set_option maxRecDepth 100000 in
theorem ct_X10_putAside {l : Launch} (hl : l.stackTraces = false) {B : Bt} {a0 : Nat} {w : MW} {r : MW} (h : f_X10_putAside a0 w = some r) : hz_Met l B false 358 358 yX10_putAside cX10_putAside 2 (Option.none : Option FieldType) 2 0 0 [.ref (B.1 + a0)] w none r := by
  refine hz_ofJ (rv := (fun _ : MW => none)) (wo := (fun r : MW => r)) (own := RX10) (ini := false) hl (by decide) rfl (Or.inr rfl) (Nat.le_of_ble_eq_true rfl) rfl ?_ h
  intro p e s m args below meth c
  unfold f_X10_putAside
  refine hz_gdr (fun ga0 => ?_)
  refine hz_iconst (pc' := 1) (v := 0) dX10_putAside_0 rfl (by decide) ?_
  refine hz_istore_n (pc' := 2) (L' := [(1, .int 0), (0, .ref (B.1 + a0))]) dX10_putAside_1 rfl rfl (by decide) rfl ?_
  refine hz_bindJ (pcJ := 27) (LJ := fun q2 : MW => []) (stJ := fun _ => []) (kJ := 0) (slJ := 0) (nJ := 358) (wJ := fun q2 : MW => q2) (fun q2 => ?_) (fun hq2 => ?_)
  · exact hz_retv dX10_putAside_27 rfl (by decide)
  · refine hz_loc [1, 0] rfl (hz_loopJ (lp := lp_X10_putAside_2 a0) (Lh := fun v1 : Int32 × MW => [(0, .ref (B.1 + a0)), (1, .int v1.1)]) (wh := fun v1 : Int32 × MW => v1.2) (fun _ => rfl) (fun Nv1 ihv1 v1 => ?_) 3000 (0, w))
    rw [lp_X10_putAside_2]
    refine hz_iload_n (pc' := 3) (j := 1) dX10_putAside_2 rfl rfl rfl ?_
    refine hz_sipush (pc' := 6) (v := 287) dX10_putAside_3 rfl (by decide) ?_
    refine hz_icmpge (pc' := 9) (tgt := 27) dX10_putAside_6 (by decide) rfl ?_ ?_
    · exact hz_loc [] rfl (hq2 v1.2)
    · refine hz_aload_n (pc' := 10) (j := 0) dX10_putAside_9 rfl rfl rfl ?_
      refine hz_gP (pc' := 13) (c' := 20) fl_X10_56.r ga0 rfl dX10_putAside_10 rfl (fun b3 gb3 => ?_)
      refine hz_iload_n (pc' := 14) (j := 1) dX10_putAside_13 rfl rfl rfl ?_
      refine hz_aload_n (pc' := 15) (j := 0) dX10_putAside_14 rfl rfl rfl ?_
      refine hz_gP (pc' := 18) (c' := 20) fl_X10_7.r ga0 rfl dX10_putAside_15 rfl (fun b4 gb4 => ?_)
      refine hz_iload_n (pc' := 19) (j := 1) dX10_putAside_18 rfl rfl rfl ?_
      refine hz_iald (pc' := 20) gb4 dX10_putAside_19 rfl (fun v5 => ?_)
      refine hz_iast (pc' := 21) gb3 dX10_putAside_20 rfl (fun w6 => ?_)
      refine hz_iincN (pc' := 24) (j := 1) (fun v7 => [(1, .int v7), (0, .ref (B.1 + a0))]) dX10_putAside_21 rfl rfl (by decide) (fun _ => rfl) (fun v7 => ?_)
      refine hz_goto (tgt := 2) dX10_putAside_24 (by decide) ?_
      exact hz_loc [1, 0] rfl (ihv1 (v7, w6))
def lp_X10_takeBack_2 (c0 : Nat) : Nat → (Int32 × MW) → Option (MW)
  | 0, _ => none
  | N + 1, v0 => (if 287 ≤ v0.1 then some v0.2 else hz_ldp v0.2 c0 0 358 20 (fun b1 => hz_ldp v0.2 c0 28 358 20 (fun b2 => hz_lda v0.2 b2 v0.1 (fun v3 => hz_sta v0.2 b1 v0.1 v3 (fun w4 => hz_let (v0.1 + Int32.ofInt 1) (fun v5 => lp_X10_takeBack_2 c0 N (v5, w4)))))))
def f_X10_takeBack (a0 : Nat) (w : MW) : Option (MW) :=
  hz_gd (hz_g 358 a0 11) (Option.bind (lp_X10_takeBack_2 a0 3000 (0, w)) (fun q2 : MW => some q2))
set_option maxHeartbeats 4000000 in
set_option maxRecDepth 100000 in
theorem ct_X10_takeBack {l : Launch} (hl : l.stackTraces = false) {B : Bt} {a0 : Nat} {w : MW} {r : MW} (h : f_X10_takeBack a0 w = some r) : hz_Met l B false 358 358 yX10_takeBack cX10_takeBack 2 (Option.none : Option FieldType) 2 0 0 [.ref (B.1 + a0)] w none r := by
  refine hz_ofJ (rv := (fun _ : MW => none)) (wo := (fun r : MW => r)) (own := RX10) (ini := false) hl (by decide) rfl (Or.inr rfl) (Nat.le_of_ble_eq_true rfl) rfl ?_ h
  intro p e s m args below meth c
  unfold f_X10_takeBack
  refine hz_gdr (fun ga0 => ?_)
  refine hz_iconst (pc' := 1) (v := 0) dX10_takeBack_0 rfl (by decide) ?_
  refine hz_istore_n (pc' := 2) (L' := [(1, .int 0), (0, .ref (B.1 + a0))]) dX10_takeBack_1 rfl rfl (by decide) rfl ?_
  refine hz_bindJ (pcJ := 27) (LJ := fun q2 : MW => []) (stJ := fun _ => []) (kJ := 0) (slJ := 0) (nJ := 358) (wJ := fun q2 : MW => q2) (fun q2 => ?_) (fun hq2 => ?_)
  · exact hz_retv dX10_takeBack_27 rfl (by decide)
  · refine hz_loc [1, 0] rfl (hz_loopJ (lp := lp_X10_takeBack_2 a0) (Lh := fun v1 : Int32 × MW => [(0, .ref (B.1 + a0)), (1, .int v1.1)]) (wh := fun v1 : Int32 × MW => v1.2) (fun _ => rfl) (fun Nv1 ihv1 v1 => ?_) 3000 (0, w))
    rw [lp_X10_takeBack_2]
    refine hz_iload_n (pc' := 3) (j := 1) dX10_takeBack_2 rfl rfl rfl ?_
    refine hz_sipush (pc' := 6) (v := 287) dX10_takeBack_3 rfl (by decide) ?_
    refine hz_icmpge (pc' := 9) (tgt := 27) dX10_takeBack_6 (by decide) rfl ?_ ?_
    · exact hz_loc [] rfl (hq2 v1.2)
    · refine hz_aload_n (pc' := 10) (j := 0) dX10_takeBack_9 rfl rfl rfl ?_
      refine hz_gP (pc' := 13) (c' := 20) fl_X10_7.r ga0 rfl dX10_takeBack_10 rfl (fun b3 gb3 => ?_)
      refine hz_iload_n (pc' := 14) (j := 1) dX10_takeBack_13 rfl rfl rfl ?_
      refine hz_aload_n (pc' := 15) (j := 0) dX10_takeBack_14 rfl rfl rfl ?_
      refine hz_gP (pc' := 18) (c' := 20) fl_X10_56.r ga0 rfl dX10_takeBack_15 rfl (fun b4 gb4 => ?_)
      refine hz_iload_n (pc' := 19) (j := 1) dX10_takeBack_18 rfl rfl rfl ?_
      refine hz_iald (pc' := 20) gb4 dX10_takeBack_19 rfl (fun v5 => ?_)
      refine hz_iast (pc' := 21) gb3 dX10_takeBack_20 rfl (fun w6 => ?_)
      refine hz_iincN (pc' := 24) (j := 1) (fun v7 => [(1, .int v7), (0, .ref (B.1 + a0))]) dX10_takeBack_21 rfl rfl (by decide) (fun _ => rfl) (fun v7 => ?_)
      refine hz_goto (tgt := 2) dX10_takeBack_24 (by decide) ?_
      exact hz_loc [1, 0] rfl (ihv1 (v7, w6))
def f_X10_isDomain (a0 : Nat) (x1 : Int32) (w : MW) : Option (Int32 × MW) :=
  hz_gd (hz_g 358 a0 11) (hz_b (f_X10_isIn (Int32.toInt64 x1) 0 (Int32.toInt64 ((w.1 a0 5) - 1)) w) (fun v2 w1 => hz_gd (hz_isb v2) (some (v2, w1))))
set_option maxHeartbeats 4000000 in
set_option maxRecDepth 100000 in
theorem ct_X10_isDomain {l : Launch} (hl : l.stackTraces = false) {B : Bt} {a0 : Nat} {x1 : Int32} {w : MW} {r : Int32 × MW} (h : f_X10_isDomain a0 x1 w = some r) : hz_Met l B false 358 358 yX10_isDomain cX10_isDomain 2 (Option.some FieldType.boolean) 3 0 0 [.ref (B.1 + a0), .int x1] w (some (.int r.1)) r.2 := by
  refine hz_ofJ (rv := (fun r : Int32 × MW => some (.int r.1))) (wo := (fun r : Int32 × MW => r.2)) (own := RX10) (ini := false) hl (by decide) rfl (Or.inr rfl) (Nat.le_of_ble_eq_true rfl) rfl ?_ h
  intro p e s m args below meth c
  unfold f_X10_isDomain
  refine hz_gdr (fun ga0 => ?_)
  refine hz_iload_n (pc' := 1) (j := 1) dX10_isDomain_0 rfl rfl rfl ?_
  refine hz_i2l (pc' := 2) dX10_isDomain_1 rfl ?_
  refine hz_lconst (pc' := 3) (v := 0) dX10_isDomain_2 rfl (by decide) ?_
  refine hz_aload_n (pc' := 4) (j := 0) dX10_isDomain_3 rfl rfl rfl ?_
  refine hz_gI (pc' := 7) fl_X10_193.r ga0 rfl dX10_isDomain_4 rfl ?_
  refine hz_iconst (pc' := 8) (v := 1) dX10_isDomain_7 rfl (by decide) ?_
  refine hz_isub (pc' := 9) dX10_isDomain_8 rfl ?_
  refine hz_i2l (pc' := 10) dX10_isDomain_9 rfl ?_
  refine hz_cSi (pc' := 13) (av := [.long (Int32.toInt64 x1), .long 0, .long (Int32.toInt64 ((w.1 a0 5) - 1))]) (rest := []) sl_X10_88 (fun x w' h => ct_X10_isIn hl h) rfl rfl (Nat.le_of_ble_eq_true rfl) (by decide) (by decide) rfl dX10_isDomain_10 rfl (fun v2 w1 => ?_)
  exact hz_retz dX10_isDomain_13 rfl (by decide)
def f_X10_isJob (a0 : Nat) (x1 : Int32) (w : MW) : Option (Int32 × MW) :=
  hz_gd (hz_g 358 a0 11) (hz_ldp w a0 0 358 20 (fun b1 => hz_lda w b1 2 (fun v2 => hz_b (f_X10_isIn (Int32.toInt64 x1) 0 (Int32.toInt64 (v2 - 1)) w) (fun v4 w3 => hz_gd (hz_isb v4) (some (v4, w3))))))
set_option maxHeartbeats 4000000 in
set_option maxRecDepth 100000 in
theorem ct_X10_isJob {l : Launch} (hl : l.stackTraces = false) {B : Bt} {a0 : Nat} {x1 : Int32} {w : MW} {r : Int32 × MW} (h : f_X10_isJob a0 x1 w = some r) : hz_Met l B false 358 358 yX10_isJob cX10_isJob 2 (Option.some FieldType.boolean) 3 0 0 [.ref (B.1 + a0), .int x1] w (some (.int r.1)) r.2 := by
  refine hz_ofJ (rv := (fun r : Int32 × MW => some (.int r.1))) (wo := (fun r : Int32 × MW => r.2)) (own := RX10) (ini := false) hl (by decide) rfl (Or.inr rfl) (Nat.le_of_ble_eq_true rfl) rfl ?_ h
  intro p e s m args below meth c
  unfold f_X10_isJob
  refine hz_gdr (fun ga0 => ?_)
  refine hz_iload_n (pc' := 1) (j := 1) dX10_isJob_0 rfl rfl rfl ?_
  refine hz_i2l (pc' := 2) dX10_isJob_1 rfl ?_
  refine hz_lconst (pc' := 3) (v := 0) dX10_isJob_2 rfl (by decide) ?_
  refine hz_aload_n (pc' := 4) (j := 0) dX10_isJob_3 rfl rfl rfl ?_
  refine hz_gP (pc' := 7) (c' := 20) fl_X10_7.r ga0 rfl dX10_isJob_4 rfl (fun b1 gb1 => ?_)
  refine hz_iconst (pc' := 8) (v := 2) dX10_isJob_7 rfl (by decide) ?_
  refine hz_iald (pc' := 9) gb1 dX10_isJob_8 rfl (fun v2 => ?_)
  refine hz_iconst (pc' := 10) (v := 1) dX10_isJob_9 rfl (by decide) ?_
  refine hz_isub (pc' := 11) dX10_isJob_10 rfl ?_
  refine hz_i2l (pc' := 12) dX10_isJob_11 rfl ?_
  refine hz_cSi (pc' := 15) (av := [.long (Int32.toInt64 x1), .long 0, .long (Int32.toInt64 (v2 - 1))]) (rest := []) sl_X10_88 (fun x w' h => ct_X10_isIn hl h) rfl rfl (Nat.le_of_ble_eq_true rfl) (by decide) (by decide) rfl dX10_isJob_12 rfl (fun v4 w3 => ?_)
  exact hz_retz dX10_isJob_15 rfl (by decide)
def f_X10_isOver (a0 : Nat) (x1 : Int32) (w : MW) : Option (Int32 × MW) :=
  hz_gd (hz_g 358 a0 11) (hz_b (f_X10_ofJob a0 x1 7 w) (fun v2 w1 => Option.bind ((if v2 < 3 then some 0 else some 1)) (fun q3 : Int32 => hz_gd (hz_isb q3) (some (q3, w1)))))
set_option maxHeartbeats 4000000 in
set_option maxRecDepth 100000 in
theorem ct_X10_isOver {l : Launch} (hl : l.stackTraces = false) {B : Bt} {a0 : Nat} {x1 : Int32} {w : MW} {r : Int32 × MW} (h : f_X10_isOver a0 x1 w = some r) : hz_Met l B false 358 358 yX10_isOver cX10_isOver 2 (Option.some FieldType.boolean) 3 0 0 [.ref (B.1 + a0), .int x1] w (some (.int r.1)) r.2 := by
  refine hz_ofJ (rv := (fun r : Int32 × MW => some (.int r.1))) (wo := (fun r : Int32 × MW => r.2)) (own := RX10) (ini := false) hl (by decide) rfl (Or.inr rfl) (Nat.le_of_ble_eq_true rfl) rfl ?_ h
  intro p e s m args below meth c
  unfold f_X10_isOver
  refine hz_gdr (fun ga0 => ?_)
  refine hz_aload_n (pc' := 1) (j := 0) dX10_isOver_0 rfl rfl rfl ?_
  refine hz_iload_n (pc' := 2) (j := 1) dX10_isOver_1 rfl rfl rfl ?_
  refine hz_bipush (pc' := 4) (v := 7) dX10_isOver_2 rfl (by decide) ?_
  refine hz_cVi (pc' := 7) (av := [.int x1, .int 7]) (rest := []) vl_X10_211 (fun x w' h => ct_X10_ofJob hl h) ga0 rfl rfl (Nat.le_of_ble_eq_true rfl) (by decide) (by decide) rfl dX10_isOver_4 rfl (fun v2 w1 => ?_)
  refine hz_iconst (pc' := 8) (v := 3) dX10_isOver_7 rfl (by decide) ?_
  refine hz_bindJ (pcJ := 16) (LJ := fun q3 : Int32 => []) (stJ := fun q3 : Int32 => [.int q3]) (kJ := 0) (slJ := 0) (nJ := 358) (wJ := fun q3 : Int32 => w1) (fun q3 => ?_) (fun hq3 => ?_)
  · exact hz_retz dX10_isOver_16 rfl (by decide)
  · refine hz_icmplt (pc' := 11) (tgt := 15) dX10_isOver_8 (by decide) rfl ?_ ?_
    · refine hz_iconst (pc' := 16) (v := 0) dX10_isOver_15 rfl (by decide) ?_
      exact hz_loc [] rfl (hq3 0)
    · refine hz_iconst (pc' := 12) (v := 1) dX10_isOver_11 rfl (by decide) ?_
      refine hz_goto (tgt := 16) dX10_isOver_12 (by decide) ?_
      exact hz_loc [] rfl (hq3 1)
def lp_X10_busy_4 (c0 : Nat) (c1 : Int32) : Nat → (Int32 × Int32 × MW) → Option (Int32 × MW)
  | 0, _ => none
  | N + 1, v0 => hz_ldp v0.2.2 c0 6 358 20 (fun b1 => hz_lda v0.2.2 b1 c1 (fun v2 => (if v2 ≤ v0.2.1 then some (v0.1, v0.2.2) else hz_b (f_X10_of c0 c1 (9 + v0.2.1) v0.2.2) (fun v4 w3 => Option.bind ((if v4 = (-1) then some 0 else some 1)) (fun q5 : Int32 => hz_let (v0.1 + q5) (fun v6 => hz_let (v0.2.1 + Int32.ofInt 1) (fun v7 => lp_X10_busy_4 c0 c1 N (v6, v7, w3))))))))
def f_X10_busy (a0 : Nat) (x1 : Int32) (w : MW) : Option (Int32 × MW) :=
  hz_gd (hz_g 358 a0 11) (Option.bind (lp_X10_busy_4 a0 x1 3000 (0, 0, w)) (fun q2 : Int32 × MW => some (q2.1, q2.2)))
set_option maxHeartbeats 4000000 in
set_option maxRecDepth 100000 in
theorem ct_X10_busy {l : Launch} (hl : l.stackTraces = false) {B : Bt} {a0 : Nat} {x1 : Int32} {w : MW} {r : Int32 × MW} (h : f_X10_busy a0 x1 w = some r) : hz_Met l B false 358 358 yX10_busy cX10_busy 4 (Option.some FieldType.int) 3 0 0 [.ref (B.1 + a0), .int x1] w (some (.int r.1)) r.2 := by
  refine hz_ofJ (rv := (fun r : Int32 × MW => some (.int r.1))) (wo := (fun r : Int32 × MW => r.2)) (own := RX10) (ini := false) hl (by decide) rfl (Or.inr rfl) (Nat.le_of_ble_eq_true rfl) rfl ?_ h
  intro p e s m args below meth c
  unfold f_X10_busy
  refine hz_gdr (fun ga0 => ?_)
  refine hz_iconst (pc' := 1) (v := 0) dX10_busy_0 rfl (by decide) ?_
  refine hz_istore_n (pc' := 2) (L' := [(2, .int 0), (0, .ref (B.1 + a0)), (1, .int x1)]) dX10_busy_1 rfl rfl (by decide) rfl ?_
  refine hz_iconst (pc' := 3) (v := 0) dX10_busy_2 rfl (by decide) ?_
  refine hz_istore_n (pc' := 4) (L' := [(3, .int 0), (2, .int 0), (0, .ref (B.1 + a0)), (1, .int x1)]) dX10_busy_3 rfl rfl (by decide) rfl ?_
  refine hz_bindJ (pcJ := 41) (LJ := fun q2 : Int32 × MW => [(2, .int q2.1)]) (stJ := fun _ => []) (kJ := 0) (slJ := 0) (nJ := 358) (wJ := fun q2 : Int32 × MW => q2.2) (fun q2 => ?_) (fun hq2 => ?_)
  · refine hz_iload_n (pc' := 42) (j := 0) dX10_busy_41 rfl rfl rfl ?_
    exact hz_reti dX10_busy_42 rfl (by decide)
  · refine hz_loc [2, 3, 1, 0] rfl (hz_loopJ (lp := lp_X10_busy_4 a0 x1) (Lh := fun v1 : Int32 × Int32 × MW => [(0, .ref (B.1 + a0)), (1, .int x1), (2, .int v1.1), (3, .int v1.2.1)]) (wh := fun v1 : Int32 × Int32 × MW => v1.2.2) (fun _ => rfl) (fun Nv1 ihv1 v1 => ?_) 3000 (0, 0, w))
    rw [lp_X10_busy_4]
    refine hz_iload_n (pc' := 5) (j := 3) dX10_busy_4 rfl rfl rfl ?_
    refine hz_aload_n (pc' := 6) (j := 0) dX10_busy_5 rfl rfl rfl ?_
    refine hz_gP (pc' := 9) (c' := 20) fl_X10_16.r ga0 rfl dX10_busy_6 rfl (fun b3 gb3 => ?_)
    refine hz_iload_n (pc' := 10) (j := 1) dX10_busy_9 rfl rfl rfl ?_
    refine hz_iald (pc' := 11) gb3 dX10_busy_10 rfl (fun v4 => ?_)
    refine hz_icmpge (pc' := 14) (tgt := 41) dX10_busy_11 (by decide) rfl ?_ ?_
    · exact hz_loc [2] rfl (hq2 (v1.1, v1.2.2))
    · refine hz_iload_n (pc' := 15) (j := 2) dX10_busy_14 rfl rfl rfl ?_
      refine hz_aload_n (pc' := 16) (j := 0) dX10_busy_15 rfl rfl rfl ?_
      refine hz_iload_n (pc' := 17) (j := 1) dX10_busy_16 rfl rfl rfl ?_
      refine hz_bipush (pc' := 19) (v := 9) dX10_busy_17 rfl (by decide) ?_
      refine hz_iload_n (pc' := 20) (j := 3) dX10_busy_19 rfl rfl rfl ?_
      refine hz_iadd (pc' := 21) dX10_busy_20 rfl ?_
      refine hz_cVi (pc' := 24) (av := [.int x1, .int (9 + v1.2.1)]) (rest := [.int v1.1]) vl_X10_214 (fun x w' h => ct_X10_of hl h) ga0 rfl rfl (Nat.le_of_ble_eq_true rfl) (by decide) (by decide) rfl dX10_busy_21 rfl (fun v6 w5 => ?_)
      refine hz_iconst (pc' := 25) (v := (-1)) dX10_busy_24 rfl (by decide) ?_
      refine hz_bindJ (pcJ := 33) (LJ := fun q7 : Int32 => [(0, .ref (B.1 + a0)), (1, .int x1), (3, .int v1.2.1)]) (stJ := fun q7 : Int32 => [.int q7, .int v1.1]) (kJ := 0) (slJ := 0) (nJ := 358) (wJ := fun q7 : Int32 => w5) (fun q7 => ?_) (fun hq7 => ?_)
      · refine hz_iadd (pc' := 34) dX10_busy_33 rfl ?_
        refine hz_nameI (fun v8 => ?_)
        refine hz_istore_n (pc' := 35) (L' := [(2, .int v8), (0, .ref (B.1 + a0)), (1, .int x1), (3, .int v1.2.1)]) dX10_busy_34 rfl rfl (by decide) rfl ?_
        refine hz_iincN (pc' := 38) (j := 3) (fun v9 => [(3, .int v9), (2, .int v8), (0, .ref (B.1 + a0)), (1, .int x1)]) dX10_busy_35 rfl rfl (by decide) (fun _ => rfl) (fun v9 => ?_)
        refine hz_goto (tgt := 4) dX10_busy_38 (by decide) ?_
        exact hz_loc [2, 3, 1, 0] rfl (ihv1 (v8, v9, w5))
      · refine hz_icmpne (pc' := 28) (tgt := 32) dX10_busy_25 (by decide) rfl ?_ ?_
        · refine hz_iconst (pc' := 33) (v := 1) dX10_busy_32 rfl (by decide) ?_
          exact hz_loc [0, 1, 3] rfl (hq7 1)
        · refine hz_iconst (pc' := 29) (v := 0) dX10_busy_28 rfl (by decide) ?_
          refine hz_goto (tgt := 33) dX10_busy_29 (by decide) ?_
          exact hz_loc [0, 1, 3] rfl (hq7 0)
def lp_X10_release_16 (c0 : Nat) (c1 : Int32) : Nat → (Int32 × Int32 × MW) → Option (Int32 × MW)
  | 0, _ => none
  | N + 1, v0 => hz_ldp v0.2.2 c0 0 358 20 (fun b4 => hz_lda v0.2.2 b4 2 (fun v5 => (if v5 ≤ v0.2.1 then some (v0.1, v0.2.2) else Option.bind ((if v0.1 = 0 then hz_b (f_X10_ofJob c0 v0.2.1 0 v0.2.2) (fun v9 w8 => (if v9 = c1 then hz_b (f_X10_ofJob c0 v0.2.1 7 w8) (fun v11 w10 => (if v11 = 0 then hz_b (f_X10_ofJob c0 v0.2.1 2 w10) (fun v13 w12 => hz_b (f_X10_ofJob c0 v0.2.1 3 w12) (fun v15 w14 => hz_ldp w14 c0 0 358 20 (fun b16 => hz_lda w14 b16 0 (fun v17 => (if v17 < (v13 + v15) then some (0, w14) else some (1, w14)))))) else some (0, w10))) else some (0, w8))) else some (1, v0.2.2))) (fun q6 : Int32 × MW => hz_let (v0.2.1 + Int32.ofInt 1) (fun v7 => lp_X10_release_16 c0 c1 N (q6.1, v7, q6.2))))))
def lp_X10_release_86 (c0 : Nat) (c1 : Int32) (c2 : Int32) : Nat → (Int32 × MW) → Option (MW)
  | 0, _ => none
  | N + 1, v0 => hz_ldp v0.2 c0 0 358 20 (fun b6 => hz_lda v0.2 b6 2 (fun v7 => (if v7 ≤ v0.1 then some v0.2 else (if c2 = 0 then some v0.2 else hz_b (f_X10_ofJob c0 v0.1 0 v0.2) (fun v9 w8 => Option.bind ((if v9 = c1 then hz_b (f_X10_ofJob c0 v0.1 7 w8) (fun v13 w12 => (if v13 = 0 then hz_b (f_X10_ofJob c0 v0.1 2 w12) (fun v15 w14 => hz_ldp w14 c0 0 358 20 (fun b16 => hz_lda w14 b16 0 (fun v17 => (if v17 < v15 then some w14 else hz_bv (f_X10_putJob c0 v0.1 7 1 w14) (fun w18 => some w18))))) else some w12)) else some w8)) (fun q10 : MW => hz_let (v0.1 + Int32.ofInt 1) (fun v11 => lp_X10_release_86 c0 c1 c2 N (v11, q10))))))))
def f_X10_release (a0 : Nat) (x1 : Int32) (w : MW) : Option (MW) :=
  hz_gd (hz_g 358 a0 11) (hz_b (f_X10_busy a0 x1 w) (fun v2 w1 => Option.bind ((if v2 ≤ 0 then some 0 else some 1)) (fun q3 : Int32 => Option.bind (lp_X10_release_16 a0 x1 3000 (q3, 0, w1)) (fun q5 : Int32 × MW => Option.bind (lp_X10_release_86 a0 x1 q5.1 3000 (0, q5.2)) (fun q7 : MW => some q7)))))
set_option maxHeartbeats 4000000 in
set_option maxRecDepth 100000 in
theorem ct_X10_release {l : Launch} (hl : l.stackTraces = false) {B : Bt} {a0 : Nat} {x1 : Int32} {w : MW} {r : MW} (h : f_X10_release a0 x1 w = some r) : hz_Met l B false 358 358 yX10_release cX10_release 4 (Option.none : Option FieldType) 4 0 0 [.ref (B.1 + a0), .int x1] w none r := by
  refine hz_ofJ (rv := (fun _ : MW => none)) (wo := (fun r : MW => r)) (own := RX10) (ini := false) hl (by decide) rfl (Or.inr rfl) (Nat.le_of_ble_eq_true rfl) rfl ?_ h
  intro p e s m args below meth c
  unfold f_X10_release
  refine hz_gdr (fun ga0 => ?_)
  refine hz_aload_n (pc' := 1) (j := 0) dX10_release_0 rfl rfl rfl ?_
  refine hz_iload_n (pc' := 2) (j := 1) dX10_release_1 rfl rfl rfl ?_
  refine hz_cVi (pc' := 5) (av := [.int x1]) (rest := []) vl_X10_217 (fun x w' h => ct_X10_busy hl h) ga0 rfl rfl (Nat.le_of_ble_eq_true rfl) (by decide) (by decide) rfl dX10_release_2 rfl (fun v2 w1 => ?_)
  refine hz_bindJ (pcJ := 13) (LJ := fun q3 : Int32 => [(0, .ref (B.1 + a0)), (1, .int x1)]) (stJ := fun q3 : Int32 => [.int q3]) (kJ := 0) (slJ := 0) (nJ := 358) (wJ := fun q3 : Int32 => w1) (fun q3 => ?_) (fun hq3 => ?_)
  · refine hz_istore_n (pc' := 14) (L' := [(2, .int q3), (0, .ref (B.1 + a0)), (1, .int x1)]) dX10_release_13 rfl rfl (by decide) rfl ?_
    refine hz_iconst (pc' := 15) (v := 0) dX10_release_14 rfl (by decide) ?_
    refine hz_istore_n (pc' := 16) (L' := [(3, .int 0), (2, .int q3), (0, .ref (B.1 + a0)), (1, .int x1)]) dX10_release_15 rfl rfl (by decide) rfl ?_
    refine hz_bindJ (pcJ := 84) (LJ := fun q5 : Int32 × MW => [(0, .ref (B.1 + a0)), (1, .int x1), (2, .int q5.1)]) (stJ := fun _ => []) (kJ := 0) (slJ := 0) (nJ := 358) (wJ := fun q5 : Int32 × MW => q5.2) (fun q5 => ?_) (fun hq5 => ?_)
    · refine hz_iconst (pc' := 85) (v := 0) dX10_release_84 rfl (by decide) ?_
      refine hz_istore_n (pc' := 86) (L' := [(3, .int 0), (0, .ref (B.1 + a0)), (1, .int x1), (2, .int q5.1)]) dX10_release_85 rfl rfl (by decide) rfl ?_
      refine hz_bindJ (pcJ := 149) (LJ := fun q7 : MW => []) (stJ := fun _ => []) (kJ := 0) (slJ := 0) (nJ := 358) (wJ := fun q7 : MW => q7) (fun q7 => ?_) (fun hq7 => ?_)
      · exact hz_retv dX10_release_149 rfl (by decide)
      · refine hz_loc [1, 2, 3, 0] rfl (hz_loopJ (lp := lp_X10_release_86 a0 x1 q5.1) (Lh := fun v6 : Int32 × MW => [(0, .ref (B.1 + a0)), (1, .int x1), (2, .int q5.1), (3, .int v6.1)]) (wh := fun v6 : Int32 × MW => v6.2) (fun _ => rfl) (fun Nv6 ihv6 v6 => ?_) 3000 (0, q5.2))
        rw [lp_X10_release_86]
        refine hz_iload_n (pc' := 87) (j := 3) dX10_release_86 rfl rfl rfl ?_
        refine hz_aload_n (pc' := 88) (j := 0) dX10_release_87 rfl rfl rfl ?_
        refine hz_gP (pc' := 91) (c' := 20) fl_X10_7.r ga0 rfl dX10_release_88 rfl (fun b8 gb8 => ?_)
        refine hz_iconst (pc' := 92) (v := 2) dX10_release_91 rfl (by decide) ?_
        refine hz_iald (pc' := 93) gb8 dX10_release_92 rfl (fun v9 => ?_)
        refine hz_icmpge (pc' := 96) (tgt := 149) dX10_release_93 (by decide) rfl ?_ ?_
        · exact hz_loc [] rfl (hq7 v6.2)
        · refine hz_iload_n (pc' := 97) (j := 2) dX10_release_96 rfl rfl rfl ?_
          refine hz_ifeq (pc' := 100) (tgt := 149) dX10_release_97 (by decide) rfl ?_ ?_
          · exact hz_loc [] rfl (hq7 v6.2)
          · refine hz_aload_n (pc' := 101) (j := 0) dX10_release_100 rfl rfl rfl ?_
            refine hz_iload_n (pc' := 102) (j := 3) dX10_release_101 rfl rfl rfl ?_
            refine hz_iconst (pc' := 103) (v := 0) dX10_release_102 rfl (by decide) ?_
            refine hz_cVi (pc' := 106) (av := [.int v6.1, .int 0]) (rest := []) vl_X10_211 (fun x w' h => ct_X10_ofJob hl h) ga0 rfl rfl (Nat.le_of_ble_eq_true rfl) (by decide) (by decide) rfl dX10_release_103 rfl (fun v11 w10 => ?_)
            refine hz_iload_n (pc' := 107) (j := 1) dX10_release_106 rfl rfl rfl ?_
            refine hz_bindJ (pcJ := 143) (LJ := fun q12 : MW => [(0, .ref (B.1 + a0)), (1, .int x1), (2, .int q5.1), (3, .int v6.1)]) (stJ := fun q12 : MW => []) (kJ := 0) (slJ := 0) (nJ := 358) (wJ := fun q12 : MW => q12) (fun q12 => ?_) (fun hq12 => ?_)
            · refine hz_iincN (pc' := 146) (j := 3) (fun v13 => [(3, .int v13), (0, .ref (B.1 + a0)), (1, .int x1), (2, .int q5.1)]) dX10_release_143 rfl rfl (by decide) (fun _ => rfl) (fun v13 => ?_)
              refine hz_goto (tgt := 86) dX10_release_146 (by decide) ?_
              exact hz_loc [1, 2, 3, 0] rfl (ihv6 (v13, q12))
            · refine hz_icmpne (pc' := 110) (tgt := 143) dX10_release_107 (by decide) rfl ?_ ?_
              · exact hz_loc [0, 1, 2, 3] rfl (hq12 w10)
              · refine hz_aload_n (pc' := 111) (j := 0) dX10_release_110 rfl rfl rfl ?_
                refine hz_iload_n (pc' := 112) (j := 3) dX10_release_111 rfl rfl rfl ?_
                refine hz_bipush (pc' := 114) (v := 7) dX10_release_112 rfl (by decide) ?_
                refine hz_cVi (pc' := 117) (av := [.int v6.1, .int 7]) (rest := []) vl_X10_211 (fun x w' h => ct_X10_ofJob hl h) ga0 rfl rfl (Nat.le_of_ble_eq_true rfl) (by decide) (by decide) rfl dX10_release_114 rfl (fun v15 w14 => ?_)
                refine hz_ifne (pc' := 120) (tgt := 143) dX10_release_117 (by decide) rfl ?_ ?_
                · exact hz_loc [0, 1, 2, 3] rfl (hq12 w14)
                · refine hz_aload_n (pc' := 121) (j := 0) dX10_release_120 rfl rfl rfl ?_
                  refine hz_iload_n (pc' := 122) (j := 3) dX10_release_121 rfl rfl rfl ?_
                  refine hz_iconst (pc' := 123) (v := 2) dX10_release_122 rfl (by decide) ?_
                  refine hz_cVi (pc' := 126) (av := [.int v6.1, .int 2]) (rest := []) vl_X10_211 (fun x w' h => ct_X10_ofJob hl h) ga0 rfl rfl (Nat.le_of_ble_eq_true rfl) (by decide) (by decide) rfl dX10_release_123 rfl (fun v17 w16 => ?_)
                  refine hz_aload_n (pc' := 127) (j := 0) dX10_release_126 rfl rfl rfl ?_
                  refine hz_gP (pc' := 130) (c' := 20) fl_X10_7.r ga0 rfl dX10_release_127 rfl (fun b18 gb18 => ?_)
                  refine hz_iconst (pc' := 131) (v := 0) dX10_release_130 rfl (by decide) ?_
                  refine hz_iald (pc' := 132) gb18 dX10_release_131 rfl (fun v19 => ?_)
                  refine hz_icmpgt (pc' := 135) (tgt := 143) dX10_release_132 (by decide) rfl ?_ ?_
                  · exact hz_loc [0, 1, 2, 3] rfl (hq12 w16)
                  · refine hz_aload_n (pc' := 136) (j := 0) dX10_release_135 rfl rfl rfl ?_
                    refine hz_iload_n (pc' := 137) (j := 3) dX10_release_136 rfl rfl rfl ?_
                    refine hz_bipush (pc' := 139) (v := 7) dX10_release_137 rfl (by decide) ?_
                    refine hz_iconst (pc' := 140) (v := 1) dX10_release_139 rfl (by decide) ?_
                    refine hz_cVv (pc' := 143) (av := [.int v6.1, .int 7, .int 1]) (rest := []) vl_X10_220 (fun w' h => ct_X10_putJob hl h) ga0 rfl rfl (Nat.le_of_ble_eq_true rfl) (by decide) (by decide) rfl dX10_release_140 rfl (fun w20 => ?_)
                    exact hz_loc [0, 1, 2, 3] rfl (hq12 w20)
    · refine hz_loc [2, 3, 1, 0] rfl (hz_loopJ (lp := lp_X10_release_16 a0 x1) (Lh := fun v4 : Int32 × Int32 × MW => [(0, .ref (B.1 + a0)), (1, .int x1), (2, .int v4.1), (3, .int v4.2.1)]) (wh := fun v4 : Int32 × Int32 × MW => v4.2.2) (fun _ => rfl) (fun Nv4 ihv4 v4 => ?_) 3000 (q3, 0, w1))
      rw [lp_X10_release_16]
      refine hz_iload_n (pc' := 17) (j := 3) dX10_release_16 rfl rfl rfl ?_
      refine hz_aload_n (pc' := 18) (j := 0) dX10_release_17 rfl rfl rfl ?_
      refine hz_gP (pc' := 21) (c' := 20) fl_X10_7.r ga0 rfl dX10_release_18 rfl (fun b21 gb21 => ?_)
      refine hz_iconst (pc' := 22) (v := 2) dX10_release_21 rfl (by decide) ?_
      refine hz_iald (pc' := 23) gb21 dX10_release_22 rfl (fun v22 => ?_)
      refine hz_icmpge (pc' := 26) (tgt := 84) dX10_release_23 (by decide) rfl ?_ ?_
      · exact hz_loc [0, 1, 2] rfl (hq5 (v4.1, v4.2.2))
      · refine hz_iload_n (pc' := 27) (j := 2) dX10_release_26 rfl rfl rfl ?_
        refine hz_bindJ (pcJ := 77) (LJ := fun q23 : Int32 × MW => [(0, .ref (B.1 + a0)), (1, .int x1), (3, .int v4.2.1)]) (stJ := fun q23 : Int32 × MW => [.int q23.1]) (kJ := 0) (slJ := 0) (nJ := 358) (wJ := fun q23 : Int32 × MW => q23.2) (fun q23 => ?_) (fun hq23 => ?_)
        · refine hz_istore_n (pc' := 78) (L' := [(2, .int q23.1), (0, .ref (B.1 + a0)), (1, .int x1), (3, .int v4.2.1)]) dX10_release_77 rfl rfl (by decide) rfl ?_
          refine hz_iincN (pc' := 81) (j := 3) (fun v24 => [(3, .int v24), (2, .int q23.1), (0, .ref (B.1 + a0)), (1, .int x1)]) dX10_release_78 rfl rfl (by decide) (fun _ => rfl) (fun v24 => ?_)
          refine hz_goto (tgt := 16) dX10_release_81 (by decide) ?_
          exact hz_loc [2, 3, 1, 0] rfl (ihv4 (q23.1, v24, q23.2))
        · refine hz_ifne (pc' := 30) (tgt := 72) dX10_release_27 (by decide) rfl ?_ ?_
          · refine hz_iconst (pc' := 73) (v := 1) dX10_release_72 rfl (by decide) ?_
            refine hz_goto (tgt := 77) dX10_release_73 (by decide) ?_
            exact hz_loc [0, 1, 3] rfl (hq23 (1, v4.2.2))
          · refine hz_aload_n (pc' := 31) (j := 0) dX10_release_30 rfl rfl rfl ?_
            refine hz_iload_n (pc' := 32) (j := 3) dX10_release_31 rfl rfl rfl ?_
            refine hz_iconst (pc' := 33) (v := 0) dX10_release_32 rfl (by decide) ?_
            refine hz_cVi (pc' := 36) (av := [.int v4.2.1, .int 0]) (rest := []) vl_X10_211 (fun x w' h => ct_X10_ofJob hl h) ga0 rfl rfl (Nat.le_of_ble_eq_true rfl) (by decide) (by decide) rfl dX10_release_33 rfl (fun v26 w25 => ?_)
            refine hz_iload_n (pc' := 37) (j := 1) dX10_release_36 rfl rfl rfl ?_
            refine hz_icmpne (pc' := 40) (tgt := 76) dX10_release_37 (by decide) rfl ?_ ?_
            · refine hz_iconst (pc' := 77) (v := 0) dX10_release_76 rfl (by decide) ?_
              exact hz_loc [0, 1, 3] rfl (hq23 (0, w25))
            · refine hz_aload_n (pc' := 41) (j := 0) dX10_release_40 rfl rfl rfl ?_
              refine hz_iload_n (pc' := 42) (j := 3) dX10_release_41 rfl rfl rfl ?_
              refine hz_bipush (pc' := 44) (v := 7) dX10_release_42 rfl (by decide) ?_
              refine hz_cVi (pc' := 47) (av := [.int v4.2.1, .int 7]) (rest := []) vl_X10_211 (fun x w' h => ct_X10_ofJob hl h) ga0 rfl rfl (Nat.le_of_ble_eq_true rfl) (by decide) (by decide) rfl dX10_release_44 rfl (fun v28 w27 => ?_)
              refine hz_ifne (pc' := 50) (tgt := 76) dX10_release_47 (by decide) rfl ?_ ?_
              · refine hz_iconst (pc' := 77) (v := 0) dX10_release_76 rfl (by decide) ?_
                exact hz_loc [0, 1, 3] rfl (hq23 (0, w27))
              · refine hz_aload_n (pc' := 51) (j := 0) dX10_release_50 rfl rfl rfl ?_
                refine hz_iload_n (pc' := 52) (j := 3) dX10_release_51 rfl rfl rfl ?_
                refine hz_iconst (pc' := 53) (v := 2) dX10_release_52 rfl (by decide) ?_
                refine hz_cVi (pc' := 56) (av := [.int v4.2.1, .int 2]) (rest := []) vl_X10_211 (fun x w' h => ct_X10_ofJob hl h) ga0 rfl rfl (Nat.le_of_ble_eq_true rfl) (by decide) (by decide) rfl dX10_release_53 rfl (fun v30 w29 => ?_)
                refine hz_aload_n (pc' := 57) (j := 0) dX10_release_56 rfl rfl rfl ?_
                refine hz_iload_n (pc' := 58) (j := 3) dX10_release_57 rfl rfl rfl ?_
                refine hz_iconst (pc' := 59) (v := 3) dX10_release_58 rfl (by decide) ?_
                refine hz_cVi (pc' := 62) (av := [.int v4.2.1, .int 3]) (rest := [.int v30]) vl_X10_211 (fun x w' h => ct_X10_ofJob hl h) ga0 rfl rfl (Nat.le_of_ble_eq_true rfl) (by decide) (by decide) rfl dX10_release_59 rfl (fun v32 w31 => ?_)
                refine hz_iadd (pc' := 63) dX10_release_62 rfl ?_
                refine hz_aload_n (pc' := 64) (j := 0) dX10_release_63 rfl rfl rfl ?_
                refine hz_gP (pc' := 67) (c' := 20) fl_X10_7.r ga0 rfl dX10_release_64 rfl (fun b33 gb33 => ?_)
                refine hz_iconst (pc' := 68) (v := 0) dX10_release_67 rfl (by decide) ?_
                refine hz_iald (pc' := 69) gb33 dX10_release_68 rfl (fun v34 => ?_)
                refine hz_icmpgt (pc' := 72) (tgt := 76) dX10_release_69 (by decide) rfl ?_ ?_
                · refine hz_iconst (pc' := 77) (v := 0) dX10_release_76 rfl (by decide) ?_
                  exact hz_loc [0, 1, 3] rfl (hq23 (0, w31))
                · refine hz_iconst (pc' := 73) (v := 1) dX10_release_72 rfl (by decide) ?_
                  refine hz_goto (tgt := 77) dX10_release_73 (by decide) ?_
                  exact hz_loc [0, 1, 3] rfl (hq23 (1, w31))
  · refine hz_ifle (pc' := 8) (tgt := 12) dX10_release_5 (by decide) rfl ?_ ?_
    · refine hz_iconst (pc' := 13) (v := 0) dX10_release_12 rfl (by decide) ?_
      exact hz_loc [0, 1] rfl (hq3 0)
    · refine hz_iconst (pc' := 9) (v := 1) dX10_release_8 rfl (by decide) ?_
      refine hz_goto (tgt := 13) dX10_release_9 (by decide) ?_
      exact hz_loc [0, 1] rfl (hq3 1)
def lp_X10_firstReady_4 (c0 : Nat) (c1 : Int32) : Nat → (Int32 × Int32 × MW) → Option (Int32 × MW)
  | 0, _ => none
  | N + 1, v0 => hz_ldp v0.2.2 c0 0 358 20 (fun b1 => hz_lda v0.2.2 b1 2 (fun v2 => (if v2 ≤ v0.2.1 then some (v0.1, v0.2.2) else hz_b (f_X10_ofJob c0 v0.2.1 0 v0.2.2) (fun v4 w3 => Option.bind ((if v4 = c1 then hz_b (f_X10_ofJob c0 v0.2.1 7 w3) (fun v8 w7 => (if v8 = 1 then (if v0.1 = (-1) then some (v0.2.1, w7) else hz_b (f_X10_ofJob c0 v0.2.1 5 w7) (fun v10 w9 => hz_b (f_X10_ofJob c0 v0.1 5 w9) (fun v12 w11 => (if v12 ≤ v10 then some (v0.1, w11) else some (v0.2.1, w11))))) else some (v0.1, w7))) else some (v0.1, w3))) (fun q5 : Int32 × MW => hz_let (v0.2.1 + Int32.ofInt 1) (fun v6 => lp_X10_firstReady_4 c0 c1 N (q5.1, v6, q5.2)))))))
def f_X10_firstReady (a0 : Nat) (x1 : Int32) (w : MW) : Option (Int32 × MW) :=
  hz_gd (hz_g 358 a0 11) (Option.bind (lp_X10_firstReady_4 a0 x1 3000 ((-1), 0, w)) (fun q2 : Int32 × MW => some (q2.1, q2.2)))
set_option maxHeartbeats 4000000 in
set_option maxRecDepth 100000 in
theorem ct_X10_firstReady {l : Launch} (hl : l.stackTraces = false) {B : Bt} {a0 : Nat} {x1 : Int32} {w : MW} {r : Int32 × MW} (h : f_X10_firstReady a0 x1 w = some r) : hz_Met l B false 358 358 yX10_firstReady cX10_firstReady 4 (Option.some FieldType.int) 3 0 0 [.ref (B.1 + a0), .int x1] w (some (.int r.1)) r.2 := by
  refine hz_ofJ (rv := (fun r : Int32 × MW => some (.int r.1))) (wo := (fun r : Int32 × MW => r.2)) (own := RX10) (ini := false) hl (by decide) rfl (Or.inr rfl) (Nat.le_of_ble_eq_true rfl) rfl ?_ h
  intro p e s m args below meth c
  unfold f_X10_firstReady
  refine hz_gdr (fun ga0 => ?_)
  refine hz_iconst (pc' := 1) (v := (-1)) dX10_firstReady_0 rfl (by decide) ?_
  refine hz_istore_n (pc' := 2) (L' := [(2, .int (-1)), (0, .ref (B.1 + a0)), (1, .int x1)]) dX10_firstReady_1 rfl rfl (by decide) rfl ?_
  refine hz_iconst (pc' := 3) (v := 0) dX10_firstReady_2 rfl (by decide) ?_
  refine hz_istore_n (pc' := 4) (L' := [(3, .int 0), (2, .int (-1)), (0, .ref (B.1 + a0)), (1, .int x1)]) dX10_firstReady_3 rfl rfl (by decide) rfl ?_
  refine hz_bindJ (pcJ := 63) (LJ := fun q2 : Int32 × MW => [(2, .int q2.1)]) (stJ := fun _ => []) (kJ := 0) (slJ := 0) (nJ := 358) (wJ := fun q2 : Int32 × MW => q2.2) (fun q2 => ?_) (fun hq2 => ?_)
  · refine hz_iload_n (pc' := 64) (j := 0) dX10_firstReady_63 rfl rfl rfl ?_
    exact hz_reti dX10_firstReady_64 rfl (by decide)
  · refine hz_loc [2, 3, 1, 0] rfl (hz_loopJ (lp := lp_X10_firstReady_4 a0 x1) (Lh := fun v1 : Int32 × Int32 × MW => [(0, .ref (B.1 + a0)), (1, .int x1), (2, .int v1.1), (3, .int v1.2.1)]) (wh := fun v1 : Int32 × Int32 × MW => v1.2.2) (fun _ => rfl) (fun Nv1 ihv1 v1 => ?_) 3000 ((-1), 0, w))
    rw [lp_X10_firstReady_4]
    refine hz_iload_n (pc' := 5) (j := 3) dX10_firstReady_4 rfl rfl rfl ?_
    refine hz_aload_n (pc' := 6) (j := 0) dX10_firstReady_5 rfl rfl rfl ?_
    refine hz_gP (pc' := 9) (c' := 20) fl_X10_7.r ga0 rfl dX10_firstReady_6 rfl (fun b3 gb3 => ?_)
    refine hz_iconst (pc' := 10) (v := 2) dX10_firstReady_9 rfl (by decide) ?_
    refine hz_iald (pc' := 11) gb3 dX10_firstReady_10 rfl (fun v4 => ?_)
    refine hz_icmpge (pc' := 14) (tgt := 63) dX10_firstReady_11 (by decide) rfl ?_ ?_
    · exact hz_loc [2] rfl (hq2 (v1.1, v1.2.2))
    · refine hz_aload_n (pc' := 15) (j := 0) dX10_firstReady_14 rfl rfl rfl ?_
      refine hz_iload_n (pc' := 16) (j := 3) dX10_firstReady_15 rfl rfl rfl ?_
      refine hz_iconst (pc' := 17) (v := 0) dX10_firstReady_16 rfl (by decide) ?_
      refine hz_cVi (pc' := 20) (av := [.int v1.2.1, .int 0]) (rest := []) vl_X10_211 (fun x w' h => ct_X10_ofJob hl h) ga0 rfl rfl (Nat.le_of_ble_eq_true rfl) (by decide) (by decide) rfl dX10_firstReady_17 rfl (fun v6 w5 => ?_)
      refine hz_iload_n (pc' := 21) (j := 1) dX10_firstReady_20 rfl rfl rfl ?_
      refine hz_bindJ (pcJ := 57) (LJ := fun q7 : Int32 × MW => [(0, .ref (B.1 + a0)), (1, .int x1), (2, .int q7.1), (3, .int v1.2.1)]) (stJ := fun q7 : Int32 × MW => []) (kJ := 0) (slJ := 0) (nJ := 358) (wJ := fun q7 : Int32 × MW => q7.2) (fun q7 => ?_) (fun hq7 => ?_)
      · refine hz_iincN (pc' := 60) (j := 3) (fun v8 => [(3, .int v8), (0, .ref (B.1 + a0)), (1, .int x1), (2, .int q7.1)]) dX10_firstReady_57 rfl rfl (by decide) (fun _ => rfl) (fun v8 => ?_)
        refine hz_goto (tgt := 4) dX10_firstReady_60 (by decide) ?_
        exact hz_loc [1, 2, 3, 0] rfl (ihv1 (q7.1, v8, q7.2))
      · refine hz_icmpne (pc' := 24) (tgt := 57) dX10_firstReady_21 (by decide) rfl ?_ ?_
        · exact hz_loc [0, 1, 2, 3] rfl (hq7 (v1.1, w5))
        · refine hz_aload_n (pc' := 25) (j := 0) dX10_firstReady_24 rfl rfl rfl ?_
          refine hz_iload_n (pc' := 26) (j := 3) dX10_firstReady_25 rfl rfl rfl ?_
          refine hz_bipush (pc' := 28) (v := 7) dX10_firstReady_26 rfl (by decide) ?_
          refine hz_cVi (pc' := 31) (av := [.int v1.2.1, .int 7]) (rest := []) vl_X10_211 (fun x w' h => ct_X10_ofJob hl h) ga0 rfl rfl (Nat.le_of_ble_eq_true rfl) (by decide) (by decide) rfl dX10_firstReady_28 rfl (fun v10 w9 => ?_)
          refine hz_iconst (pc' := 32) (v := 1) dX10_firstReady_31 rfl (by decide) ?_
          refine hz_icmpne (pc' := 35) (tgt := 57) dX10_firstReady_32 (by decide) rfl ?_ ?_
          · exact hz_loc [0, 1, 2, 3] rfl (hq7 (v1.1, w9))
          · refine hz_iload_n (pc' := 36) (j := 2) dX10_firstReady_35 rfl rfl rfl ?_
            refine hz_iconst (pc' := 37) (v := (-1)) dX10_firstReady_36 rfl (by decide) ?_
            refine hz_icmpeq (pc' := 40) (tgt := 55) dX10_firstReady_37 (by decide) rfl ?_ ?_
            · refine hz_iload_n (pc' := 56) (j := 3) dX10_firstReady_55 rfl rfl rfl ?_
              refine hz_istore_n (pc' := 57) (L' := [(2, .int v1.2.1), (0, .ref (B.1 + a0)), (1, .int x1), (3, .int v1.2.1)]) dX10_firstReady_56 rfl rfl (by decide) rfl ?_
              exact hz_loc [1, 2, 0, 3] rfl (hq7 (v1.2.1, w9))
            · refine hz_aload_n (pc' := 41) (j := 0) dX10_firstReady_40 rfl rfl rfl ?_
              refine hz_iload_n (pc' := 42) (j := 3) dX10_firstReady_41 rfl rfl rfl ?_
              refine hz_iconst (pc' := 43) (v := 5) dX10_firstReady_42 rfl (by decide) ?_
              refine hz_cVi (pc' := 46) (av := [.int v1.2.1, .int 5]) (rest := []) vl_X10_211 (fun x w' h => ct_X10_ofJob hl h) ga0 rfl rfl (Nat.le_of_ble_eq_true rfl) (by decide) (by decide) rfl dX10_firstReady_43 rfl (fun v12 w11 => ?_)
              refine hz_aload_n (pc' := 47) (j := 0) dX10_firstReady_46 rfl rfl rfl ?_
              refine hz_iload_n (pc' := 48) (j := 2) dX10_firstReady_47 rfl rfl rfl ?_
              refine hz_iconst (pc' := 49) (v := 5) dX10_firstReady_48 rfl (by decide) ?_
              refine hz_cVi (pc' := 52) (av := [.int v1.1, .int 5]) (rest := [.int v12]) vl_X10_211 (fun x w' h => ct_X10_ofJob hl h) ga0 rfl rfl (Nat.le_of_ble_eq_true rfl) (by decide) (by decide) rfl dX10_firstReady_49 rfl (fun v14 w13 => ?_)
              refine hz_icmpge (pc' := 55) (tgt := 57) dX10_firstReady_52 (by decide) rfl ?_ ?_
              · exact hz_loc [0, 1, 2, 3] rfl (hq7 (v1.1, w13))
              · refine hz_iload_n (pc' := 56) (j := 3) dX10_firstReady_55 rfl rfl rfl ?_
                refine hz_istore_n (pc' := 57) (L' := [(2, .int v1.2.1), (0, .ref (B.1 + a0)), (1, .int x1), (3, .int v1.2.1)]) dX10_firstReady_56 rfl rfl (by decide) rfl ?_
                exact hz_loc [1, 2, 0, 3] rfl (hq7 (v1.2.1, w13))
def lp_X10_assign_2 (c0 : Nat) (c1 : Int32) : Nat → (Int32 × MW) → Option (MW)
  | 0, _ => none
  | N + 1, v0 => hz_ldp v0.2 c0 6 358 20 (fun b1 => hz_lda v0.2 b1 c1 (fun v2 => (if v2 ≤ v0.1 then some v0.2 else hz_b (f_X10_of c0 c1 (9 + v0.1) v0.2) (fun v4 w3 => Option.bind ((if v4 = (-1) then hz_b (f_X10_firstReady c0 c1 w3) (fun v11 w10 => some (v11, w10)) else some ((-1), w3))) (fun q5 : Int32 × MW => Option.bind ((if q5.1 = (-1) then some q5.2 else hz_bv (f_X10_put2 c0 c1 (9 + v0.1) q5.1 q5.2) (fun w8 => hz_bv (f_X10_putJob c0 q5.1 7 2 w8) (fun w9 => some w9)))) (fun q6 : MW => hz_let (v0.1 + Int32.ofInt 1) (fun v7 => lp_X10_assign_2 c0 c1 N (v7, q6))))))))
def f_X10_assign (a0 : Nat) (x1 : Int32) (w : MW) : Option (MW) :=
  hz_gd (hz_g 358 a0 11) (Option.bind (lp_X10_assign_2 a0 x1 3000 (0, w)) (fun q2 : MW => some q2))
set_option maxHeartbeats 4000000 in
set_option maxRecDepth 100000 in
theorem ct_X10_assign {l : Launch} (hl : l.stackTraces = false) {B : Bt} {a0 : Nat} {x1 : Int32} {w : MW} {r : MW} (h : f_X10_assign a0 x1 w = some r) : hz_Met l B false 358 358 yX10_assign cX10_assign 4 (Option.none : Option FieldType) 4 0 0 [.ref (B.1 + a0), .int x1] w none r := by
  refine hz_ofJ (rv := (fun _ : MW => none)) (wo := (fun r : MW => r)) (own := RX10) (ini := false) hl (by decide) rfl (Or.inr rfl) (Nat.le_of_ble_eq_true rfl) rfl ?_ h
  intro p e s m args below meth c
  unfold f_X10_assign
  refine hz_gdr (fun ga0 => ?_)
  refine hz_iconst (pc' := 1) (v := 0) dX10_assign_0 rfl (by decide) ?_
  refine hz_istore_n (pc' := 2) (L' := [(2, .int 0), (0, .ref (B.1 + a0)), (1, .int x1)]) dX10_assign_1 rfl rfl (by decide) rfl ?_
  refine hz_bindJ (pcJ := 64) (LJ := fun q2 : MW => []) (stJ := fun _ => []) (kJ := 0) (slJ := 0) (nJ := 358) (wJ := fun q2 : MW => q2) (fun q2 => ?_) (fun hq2 => ?_)
  · exact hz_retv dX10_assign_64 rfl (by decide)
  · refine hz_loc [1, 2, 0] rfl (hz_loopJ (lp := lp_X10_assign_2 a0 x1) (Lh := fun v1 : Int32 × MW => [(0, .ref (B.1 + a0)), (1, .int x1), (2, .int v1.1)]) (wh := fun v1 : Int32 × MW => v1.2) (fun _ => rfl) (fun Nv1 ihv1 v1 => ?_) 3000 (0, w))
    rw [lp_X10_assign_2]
    refine hz_iload_n (pc' := 3) (j := 2) dX10_assign_2 rfl rfl rfl ?_
    refine hz_aload_n (pc' := 4) (j := 0) dX10_assign_3 rfl rfl rfl ?_
    refine hz_gP (pc' := 7) (c' := 20) fl_X10_16.r ga0 rfl dX10_assign_4 rfl (fun b3 gb3 => ?_)
    refine hz_iload_n (pc' := 8) (j := 1) dX10_assign_7 rfl rfl rfl ?_
    refine hz_iald (pc' := 9) gb3 dX10_assign_8 rfl (fun v4 => ?_)
    refine hz_icmpge (pc' := 12) (tgt := 64) dX10_assign_9 (by decide) rfl ?_ ?_
    · exact hz_loc [] rfl (hq2 v1.2)
    · refine hz_aload_n (pc' := 13) (j := 0) dX10_assign_12 rfl rfl rfl ?_
      refine hz_iload_n (pc' := 14) (j := 1) dX10_assign_13 rfl rfl rfl ?_
      refine hz_bipush (pc' := 16) (v := 9) dX10_assign_14 rfl (by decide) ?_
      refine hz_iload_n (pc' := 17) (j := 2) dX10_assign_16 rfl rfl rfl ?_
      refine hz_iadd (pc' := 18) dX10_assign_17 rfl ?_
      refine hz_cVi (pc' := 21) (av := [.int x1, .int (9 + v1.1)]) (rest := []) vl_X10_214 (fun x w' h => ct_X10_of hl h) ga0 rfl rfl (Nat.le_of_ble_eq_true rfl) (by decide) (by decide) rfl dX10_assign_18 rfl (fun v6 w5 => ?_)
      refine hz_iconst (pc' := 22) (v := (-1)) dX10_assign_21 rfl (by decide) ?_
      refine hz_bindJ (pcJ := 34) (LJ := fun q7 : Int32 × MW => [(0, .ref (B.1 + a0)), (1, .int x1), (2, .int v1.1)]) (stJ := fun q7 : Int32 × MW => [.int q7.1]) (kJ := 0) (slJ := 0) (nJ := 358) (wJ := fun q7 : Int32 × MW => q7.2) (fun q7 => ?_) (fun hq7 => ?_)
      · refine hz_istore_n (pc' := 35) (L' := [(3, .int q7.1), (0, .ref (B.1 + a0)), (1, .int x1), (2, .int v1.1)]) dX10_assign_34 rfl rfl (by decide) rfl ?_
        refine hz_iload_n (pc' := 36) (j := 0) dX10_assign_35 rfl rfl rfl ?_
        refine hz_iconst (pc' := 37) (v := (-1)) dX10_assign_36 rfl (by decide) ?_
        refine hz_bindJ (pcJ := 58) (LJ := fun q8 : MW => [(0, .ref (B.1 + a0)), (1, .int x1), (2, .int v1.1)]) (stJ := fun q8 : MW => []) (kJ := 0) (slJ := 0) (nJ := 358) (wJ := fun q8 : MW => q8) (fun q8 => ?_) (fun hq8 => ?_)
        · refine hz_iincN (pc' := 61) (j := 2) (fun v9 => [(2, .int v9), (0, .ref (B.1 + a0)), (1, .int x1)]) dX10_assign_58 rfl rfl (by decide) (fun _ => rfl) (fun v9 => ?_)
          refine hz_goto (tgt := 2) dX10_assign_61 (by decide) ?_
          exact hz_loc [1, 2, 0] rfl (ihv1 (v9, q8))
        · refine hz_icmpeq (pc' := 40) (tgt := 58) dX10_assign_37 (by decide) rfl ?_ ?_
          · exact hz_loc [1, 2, 3] rfl (hq8 q7.2)
          · refine hz_aload_n (pc' := 41) (j := 1) dX10_assign_40 rfl rfl rfl ?_
            refine hz_iload_n (pc' := 42) (j := 2) dX10_assign_41 rfl rfl rfl ?_
            refine hz_bipush (pc' := 44) (v := 9) dX10_assign_42 rfl (by decide) ?_
            refine hz_iload_n (pc' := 45) (j := 3) dX10_assign_44 rfl rfl rfl ?_
            refine hz_iadd (pc' := 46) dX10_assign_45 rfl ?_
            refine hz_iload_n (pc' := 47) (j := 0) dX10_assign_46 rfl rfl rfl ?_
            refine hz_cVv (pc' := 50) (av := [.int x1, .int (9 + v1.1), .int q7.1]) (rest := []) vl_X10_203 (fun w' h => ct_X10_put2 hl h) ga0 rfl rfl (Nat.le_of_ble_eq_true rfl) (by decide) (by decide) rfl dX10_assign_47 rfl (fun w10 => ?_)
            refine hz_aload_n (pc' := 51) (j := 1) dX10_assign_50 rfl rfl rfl ?_
            refine hz_iload_n (pc' := 52) (j := 0) dX10_assign_51 rfl rfl rfl ?_
            refine hz_bipush (pc' := 54) (v := 7) dX10_assign_52 rfl (by decide) ?_
            refine hz_iconst (pc' := 55) (v := 2) dX10_assign_54 rfl (by decide) ?_
            refine hz_cVv (pc' := 58) (av := [.int q7.1, .int 7, .int 2]) (rest := []) vl_X10_220 (fun w' h => ct_X10_putJob hl h) ga0 rfl rfl (Nat.le_of_ble_eq_true rfl) (by decide) (by decide) rfl dX10_assign_55 rfl (fun w11 => ?_)
            exact hz_loc [1, 2, 3] rfl (hq8 w11)
      · refine hz_icmpne (pc' := 25) (tgt := 33) dX10_assign_22 (by decide) rfl ?_ ?_
        · refine hz_iconst (pc' := 34) (v := (-1)) dX10_assign_33 rfl (by decide) ?_
          exact hz_loc [0, 1, 2] rfl (hq7 ((-1), w5))
        · refine hz_aload_n (pc' := 26) (j := 0) dX10_assign_25 rfl rfl rfl ?_
          refine hz_iload_n (pc' := 27) (j := 1) dX10_assign_26 rfl rfl rfl ?_
          refine hz_cVi (pc' := 30) (av := [.int x1]) (rest := []) vl_X10_223 (fun x w' h => ct_X10_firstReady hl h) ga0 rfl rfl (Nat.le_of_ble_eq_true rfl) (by decide) (by decide) rfl dX10_assign_27 rfl (fun v13 w12 => ?_)
          refine hz_goto (tgt := 34) dX10_assign_30 (by decide) ?_
          exact hz_loc [0, 1, 2] rfl (hq7 (v13, w12))
def lp_X10_demanded_4 (c0 : Nat) (c1 : Int32) : Nat → (Int32 × Int32 × MW) → Option (Int32 × MW)
  | 0, _ => none
  | N + 1, v0 => hz_ldp v0.2.2 c0 6 358 20 (fun b1 => hz_lda v0.2.2 b1 c1 (fun v2 => (if v2 ≤ v0.2.1 then some (v0.1, v0.2.2) else hz_b (f_X10_of c0 c1 (9 + v0.2.1) v0.2.2) (fun v4 w3 => Option.bind ((if v4 = (-1) then some (v0.1, w3) else hz_b (f_X10_ofJob c0 v4 6 w3) (fun v8 w7 => hz_b (f_X10_ofJob c0 v4 5 w7) (fun v10 w9 => hz_ldp w9 c0 0 358 20 (fun b11 => hz_lda w9 b11 0 (fun v12 => hz_b (f_X10_upward v8 (if 1 < (v10 - v12) then (v10 - v12) else 1) w9) (fun v14 w13 => hz_let (if v0.1 < v14 then v14 else v0.1) (fun v15 => some (v15, w13))))))))) (fun q5 : Int32 × MW => hz_let (v0.2.1 + Int32.ofInt 1) (fun v6 => lp_X10_demanded_4 c0 c1 N (q5.1, v6, q5.2)))))))
def lp_X10_demanded_73 (c0 : Nat) (c1 : Int32) (c2 : Int32) (cw : MW) : Nat → Int32 → Option (Int32 × MW)
  | 0, _ => none
  | N + 1, v0 => hz_ldp cw c0 12 358 20 (fun b3 => hz_lda cw b3 c1 (fun v4 => (if v4 ≤ v0 then hz_ldp cw c0 12 358 20 (fun b5 => hz_lda cw b5 c1 (fun v6 => some ((v6 - 1), cw))) else hz_ldp cw c0 13 358 20 (fun b7 => hz_lda cw b7 ((5 * c1) + v0) (fun v8 => (if v8 < c2 then hz_let (v0 + Int32.ofInt 1) (fun v9 => lp_X10_demanded_73 c0 c1 c2 cw N v9) else some (v0, cw)))))))
def f_X10_demanded (a0 : Nat) (x1 : Int32) (w : MW) : Option (Int32 × MW) :=
  hz_gd (hz_g 358 a0 11) (Option.bind (lp_X10_demanded_4 a0 x1 3000 (0, 0, w)) (fun q2 : Int32 × MW => lp_X10_demanded_73 a0 x1 q2.1 q2.2 3000 0))
set_option maxHeartbeats 4000000 in
set_option maxRecDepth 100000 in
theorem ct_X10_demanded {l : Launch} (hl : l.stackTraces = false) {B : Bt} {a0 : Nat} {x1 : Int32} {w : MW} {r : Int32 × MW} (h : f_X10_demanded a0 x1 w = some r) : hz_Met l B false 358 358 yX10_demanded cX10_demanded 5 (Option.some FieldType.int) 3 0 0 [.ref (B.1 + a0), .int x1] w (some (.int r.1)) r.2 := by
  refine hz_ofJ (rv := (fun r : Int32 × MW => some (.int r.1))) (wo := (fun r : Int32 × MW => r.2)) (own := RX10) (ini := false) hl (by decide) rfl (Or.inr rfl) (Nat.le_of_ble_eq_true rfl) rfl ?_ h
  intro p e s m args below meth c
  unfold f_X10_demanded
  refine hz_gdr (fun ga0 => ?_)
  refine hz_iconst (pc' := 1) (v := 0) dX10_demanded_0 rfl (by decide) ?_
  refine hz_istore_n (pc' := 2) (L' := [(2, .int 0), (0, .ref (B.1 + a0)), (1, .int x1)]) dX10_demanded_1 rfl rfl (by decide) rfl ?_
  refine hz_iconst (pc' := 3) (v := 0) dX10_demanded_2 rfl (by decide) ?_
  refine hz_istore_n (pc' := 4) (L' := [(3, .int 0), (2, .int 0), (0, .ref (B.1 + a0)), (1, .int x1)]) dX10_demanded_3 rfl rfl (by decide) rfl ?_
  refine hz_bindJ (pcJ := 71) (LJ := fun q2 : Int32 × MW => [(0, .ref (B.1 + a0)), (1, .int x1), (2, .int q2.1)]) (stJ := fun _ => []) (kJ := 0) (slJ := 0) (nJ := 358) (wJ := fun q2 : Int32 × MW => q2.2) (fun q2 => ?_) (fun hq2 => ?_)
  · refine hz_iconst (pc' := 72) (v := 0) dX10_demanded_71 rfl (by decide) ?_
    refine hz_istore_n (pc' := 73) (L' := [(3, .int 0), (0, .ref (B.1 + a0)), (1, .int x1), (2, .int q2.1)]) dX10_demanded_72 rfl rfl (by decide) rfl ?_
    refine hz_loc [1, 2, 3, 0] rfl (hz_loopJ (lp := lp_X10_demanded_73 a0 x1 q2.1 q2.2) (Lh := fun v3 : Int32 => [(0, .ref (B.1 + a0)), (1, .int x1), (2, .int q2.1), (3, .int v3)]) (wh := fun v3 : Int32 => q2.2) (fun _ => rfl) (fun Nv3 ihv3 v3 => ?_) 3000 0)
    rw [lp_X10_demanded_73]
    refine hz_iload_n (pc' := 74) (j := 3) dX10_demanded_73 rfl rfl rfl ?_
    refine hz_aload_n (pc' := 75) (j := 0) dX10_demanded_74 rfl rfl rfl ?_
    refine hz_gP (pc' := 78) (c' := 20) fl_X10_34.r ga0 rfl dX10_demanded_75 rfl (fun b4 gb4 => ?_)
    refine hz_iload_n (pc' := 79) (j := 1) dX10_demanded_78 rfl rfl rfl ?_
    refine hz_iald (pc' := 80) gb4 dX10_demanded_79 rfl (fun v5 => ?_)
    refine hz_icmpge (pc' := 83) (tgt := 105) dX10_demanded_80 (by decide) rfl ?_ ?_
    · refine hz_aload_n (pc' := 106) (j := 0) dX10_demanded_105 rfl rfl rfl ?_
      refine hz_gP (pc' := 109) (c' := 20) fl_X10_34.r ga0 rfl dX10_demanded_106 rfl (fun b6 gb6 => ?_)
      refine hz_iload_n (pc' := 110) (j := 1) dX10_demanded_109 rfl rfl rfl ?_
      refine hz_iald (pc' := 111) gb6 dX10_demanded_110 rfl (fun v7 => ?_)
      refine hz_iconst (pc' := 112) (v := 1) dX10_demanded_111 rfl (by decide) ?_
      refine hz_isub (pc' := 113) dX10_demanded_112 rfl ?_
      exact hz_reti dX10_demanded_113 rfl (by decide)
    · refine hz_aload_n (pc' := 84) (j := 0) dX10_demanded_83 rfl rfl rfl ?_
      refine hz_gP (pc' := 87) (c' := 20) fl_X10_37.r ga0 rfl dX10_demanded_84 rfl (fun b8 gb8 => ?_)
      refine hz_iconst (pc' := 88) (v := 5) dX10_demanded_87 rfl (by decide) ?_
      refine hz_iload_n (pc' := 89) (j := 1) dX10_demanded_88 rfl rfl rfl ?_
      refine hz_imul (pc' := 90) dX10_demanded_89 rfl ?_
      refine hz_iload_n (pc' := 91) (j := 3) dX10_demanded_90 rfl rfl rfl ?_
      refine hz_iadd (pc' := 92) dX10_demanded_91 rfl ?_
      refine hz_iald (pc' := 93) gb8 dX10_demanded_92 rfl (fun v9 => ?_)
      refine hz_iload_n (pc' := 94) (j := 2) dX10_demanded_93 rfl rfl rfl ?_
      refine hz_icmplt (pc' := 97) (tgt := 99) dX10_demanded_94 (by decide) rfl ?_ ?_
      · refine hz_iincN (pc' := 102) (j := 3) (fun v10 => [(3, .int v10), (0, .ref (B.1 + a0)), (1, .int x1), (2, .int q2.1)]) dX10_demanded_99 rfl rfl (by decide) (fun _ => rfl) (fun v10 => ?_)
        refine hz_goto (tgt := 73) dX10_demanded_102 (by decide) ?_
        exact hz_loc [1, 2, 3, 0] rfl (ihv3 v10)
      · refine hz_iload_n (pc' := 98) (j := 3) dX10_demanded_97 rfl rfl rfl ?_
        exact hz_reti dX10_demanded_98 rfl (by decide)
  · refine hz_loc [2, 3, 1, 0] rfl (hz_loopJ (lp := lp_X10_demanded_4 a0 x1) (Lh := fun v1 : Int32 × Int32 × MW => [(0, .ref (B.1 + a0)), (1, .int x1), (2, .int v1.1), (3, .int v1.2.1)]) (wh := fun v1 : Int32 × Int32 × MW => v1.2.2) (fun _ => rfl) (fun Nv1 ihv1 v1 => ?_) 3000 (0, 0, w))
    rw [lp_X10_demanded_4]
    refine hz_iload_n (pc' := 5) (j := 3) dX10_demanded_4 rfl rfl rfl ?_
    refine hz_aload_n (pc' := 6) (j := 0) dX10_demanded_5 rfl rfl rfl ?_
    refine hz_gP (pc' := 9) (c' := 20) fl_X10_16.r ga0 rfl dX10_demanded_6 rfl (fun b11 gb11 => ?_)
    refine hz_iload_n (pc' := 10) (j := 1) dX10_demanded_9 rfl rfl rfl ?_
    refine hz_iald (pc' := 11) gb11 dX10_demanded_10 rfl (fun v12 => ?_)
    refine hz_icmpge (pc' := 14) (tgt := 71) dX10_demanded_11 (by decide) rfl ?_ ?_
    · exact hz_loc [0, 1, 2] rfl (hq2 (v1.1, v1.2.2))
    · refine hz_aload_n (pc' := 15) (j := 0) dX10_demanded_14 rfl rfl rfl ?_
      refine hz_iload_n (pc' := 16) (j := 1) dX10_demanded_15 rfl rfl rfl ?_
      refine hz_bipush (pc' := 18) (v := 9) dX10_demanded_16 rfl (by decide) ?_
      refine hz_iload_n (pc' := 19) (j := 3) dX10_demanded_18 rfl rfl rfl ?_
      refine hz_iadd (pc' := 20) dX10_demanded_19 rfl ?_
      refine hz_cVi (pc' := 23) (av := [.int x1, .int (9 + v1.2.1)]) (rest := []) vl_X10_214 (fun x w' h => ct_X10_of hl h) ga0 rfl rfl (Nat.le_of_ble_eq_true rfl) (by decide) (by decide) rfl dX10_demanded_20 rfl (fun v14 w13 => ?_)
      refine hz_istore (pc' := 25) (L' := [(4, .int v14), (0, .ref (B.1 + a0)), (1, .int x1), (2, .int v1.1), (3, .int v1.2.1)]) dX10_demanded_23 rfl (by decide) rfl ?_
      refine hz_iload (pc' := 27) (j := 0) dX10_demanded_25 rfl rfl ?_
      refine hz_iconst (pc' := 28) (v := (-1)) dX10_demanded_27 rfl (by decide) ?_
      refine hz_bindJ (pcJ := 65) (LJ := fun q15 : Int32 × MW => [(0, .ref (B.1 + a0)), (1, .int x1), (2, .int q15.1), (3, .int v1.2.1)]) (stJ := fun q15 : Int32 × MW => []) (kJ := 0) (slJ := 0) (nJ := 358) (wJ := fun q15 : Int32 × MW => q15.2) (fun q15 => ?_) (fun hq15 => ?_)
      · refine hz_iincN (pc' := 68) (j := 3) (fun v16 => [(3, .int v16), (0, .ref (B.1 + a0)), (1, .int x1), (2, .int q15.1)]) dX10_demanded_65 rfl rfl (by decide) (fun _ => rfl) (fun v16 => ?_)
        refine hz_goto (tgt := 4) dX10_demanded_68 (by decide) ?_
        exact hz_loc [1, 2, 3, 0] rfl (ihv1 (q15.1, v16, q15.2))
      · refine hz_icmpeq (pc' := 31) (tgt := 65) dX10_demanded_28 (by decide) rfl ?_ ?_
        · exact hz_loc [1, 2, 3, 4] rfl (hq15 (v1.1, w13))
        · refine hz_iload_n (pc' := 32) (j := 3) dX10_demanded_31 rfl rfl rfl ?_
          refine hz_aload_n (pc' := 33) (j := 1) dX10_demanded_32 rfl rfl rfl ?_
          refine hz_iload (pc' := 35) (j := 0) dX10_demanded_33 rfl rfl ?_
          refine hz_bipush (pc' := 37) (v := 6) dX10_demanded_35 rfl (by decide) ?_
          refine hz_cVi (pc' := 40) (av := [.int v14, .int 6]) (rest := [.int v1.1]) vl_X10_211 (fun x w' h => ct_X10_ofJob hl h) ga0 rfl rfl (Nat.le_of_ble_eq_true rfl) (by decide) (by decide) rfl dX10_demanded_37 rfl (fun v18 w17 => ?_)
          refine hz_iconst (pc' := 41) (v := 1) dX10_demanded_40 rfl (by decide) ?_
          refine hz_aload_n (pc' := 42) (j := 1) dX10_demanded_41 rfl rfl rfl ?_
          refine hz_iload (pc' := 44) (j := 0) dX10_demanded_42 rfl rfl ?_
          refine hz_iconst (pc' := 45) (v := 5) dX10_demanded_44 rfl (by decide) ?_
          refine hz_cVi (pc' := 48) (av := [.int v14, .int 5]) (rest := [.int 1, .int v18, .int v1.1]) vl_X10_211 (fun x w' h => ct_X10_ofJob hl h) ga0 rfl rfl (Nat.le_of_ble_eq_true rfl) (by decide) (by decide) rfl dX10_demanded_45 rfl (fun v20 w19 => ?_)
          refine hz_aload_n (pc' := 49) (j := 1) dX10_demanded_48 rfl rfl rfl ?_
          refine hz_gP (pc' := 52) (c' := 20) fl_X10_7.r ga0 rfl dX10_demanded_49 rfl (fun b21 gb21 => ?_)
          refine hz_iconst (pc' := 53) (v := 0) dX10_demanded_52 rfl (by decide) ?_
          refine hz_iald (pc' := 54) gb21 dX10_demanded_53 rfl (fun v22 => ?_)
          refine hz_isub (pc' := 55) dX10_demanded_54 rfl ?_
          refine hz_mmax (pc' := 58) hq_1526 hq_824 hq_17 hq_825 ⟨Nat.le_of_ble_eq_true rfl, Nat.le_of_ble_eq_true rfl⟩ (by decide) dX10_demanded_55 rfl ?_
          refine hz_cSi (pc' := 61) (av := [.int v18, .int (if 1 < (v20 - v22) then (v20 - v22) else 1)]) (rest := [.int v1.1]) sl_X10_228 (fun x w' h => ct_X10_upward hl h) rfl rfl (Nat.le_of_ble_eq_true rfl) (by decide) (by decide) rfl dX10_demanded_58 rfl (fun v24 w23 => ?_)
          refine hz_mmax (pc' := 64) hq_1526 hq_824 hq_17 hq_825 ⟨Nat.le_of_ble_eq_true rfl, Nat.le_of_ble_eq_true rfl⟩ (by decide) dX10_demanded_61 rfl ?_
          refine hz_nameI (fun v25 => ?_)
          refine hz_istore_n (pc' := 65) (L' := [(2, .int v25), (4, .int v14), (0, .ref (B.1 + a0)), (1, .int x1), (3, .int v1.2.1)]) dX10_demanded_64 rfl rfl (by decide) rfl ?_
          exact hz_loc [2, 3, 0, 4] rfl (hq15 (v25, w23))
def f_X10_suggested (a0 : Nat) (x1 : Int32) (w : MW) : Option (Int32 × MW) :=
  hz_gd (hz_g 358 a0 11) (hz_b (f_X10_busy a0 x1 w) (fun v2 w1 => Option.bind ((if v2 ≤ 0 then some 0 else some 1)) (fun q3 : Int32 => hz_b (f_X10_of a0 x1 1 w1) (fun v5 w4 => (if v5 = 0 then hz_ldp w4 a0 12 358 20 (fun b6 => hz_lda w4 b6 x1 (fun v7 => some ((v7 - 1), w4))) else (if v5 = 1 then some (0, w4) else (if v5 = 2 then Option.bind ((if q3 = 0 then some (0, w4) else hz_b (f_X10_demanded a0 x1 w4) (fun v12 w11 => some (v12, w11)))) (fun q10 : Int32 × MW => some (q10.1, q10.2)) else Option.bind ((if q3 = 0 then some 0 else hz_ldp w4 a0 12 358 20 (fun b15 => hz_lda w4 b15 x1 (fun v16 => some (v16 - 1))))) (fun q14 : Int32 => some (q14, w4)))))))))
set_option maxHeartbeats 4000000 in
set_option maxRecDepth 100000 in
theorem ct_X10_suggested {l : Launch} (hl : l.stackTraces = false) {B : Bt} {a0 : Nat} {x1 : Int32} {w : MW} {r : Int32 × MW} (h : f_X10_suggested a0 x1 w = some r) : hz_Met l B false 358 358 yX10_suggested cX10_suggested 3 (Option.some FieldType.int) 4 0 0 [.ref (B.1 + a0), .int x1] w (some (.int r.1)) r.2 := by
  refine hz_ofJ (rv := (fun r : Int32 × MW => some (.int r.1))) (wo := (fun r : Int32 × MW => r.2)) (own := RX10) (ini := false) hl (by decide) rfl (Or.inr rfl) (Nat.le_of_ble_eq_true rfl) rfl ?_ h
  intro p e s m args below meth c
  unfold f_X10_suggested
  refine hz_gdr (fun ga0 => ?_)
  refine hz_aload_n (pc' := 1) (j := 0) dX10_suggested_0 rfl rfl rfl ?_
  refine hz_iload_n (pc' := 2) (j := 1) dX10_suggested_1 rfl rfl rfl ?_
  refine hz_cVi (pc' := 5) (av := [.int x1]) (rest := []) vl_X10_217 (fun x w' h => ct_X10_busy hl h) ga0 rfl rfl (Nat.le_of_ble_eq_true rfl) (by decide) (by decide) rfl dX10_suggested_2 rfl (fun v2 w1 => ?_)
  refine hz_bindJ (pcJ := 13) (LJ := fun q3 : Int32 => [(0, .ref (B.1 + a0)), (1, .int x1)]) (stJ := fun q3 : Int32 => [.int q3]) (kJ := 0) (slJ := 0) (nJ := 358) (wJ := fun q3 : Int32 => w1) (fun q3 => ?_) (fun hq3 => ?_)
  · refine hz_istore_n (pc' := 14) (L' := [(2, .int q3), (0, .ref (B.1 + a0)), (1, .int x1)]) dX10_suggested_13 rfl rfl (by decide) rfl ?_
    refine hz_aload_n (pc' := 15) (j := 1) dX10_suggested_14 rfl rfl rfl ?_
    refine hz_iload_n (pc' := 16) (j := 2) dX10_suggested_15 rfl rfl rfl ?_
    refine hz_iconst (pc' := 17) (v := 1) dX10_suggested_16 rfl (by decide) ?_
    refine hz_cVi (pc' := 20) (av := [.int x1, .int 1]) (rest := []) vl_X10_214 (fun x w' h => ct_X10_of hl h) ga0 rfl rfl (Nat.le_of_ble_eq_true rfl) (by decide) (by decide) rfl dX10_suggested_17 rfl (fun v5 w4 => ?_)
    refine hz_swIn (v := 0) (off := 28) (tgt := 48) dX10_suggested_20 (by decide) (by decide) (by decide +kernel) (by decide) ?_ (fun hs8 => ?_)
    · refine hz_aload_n (pc' := 49) (j := 1) dX10_suggested_48 rfl rfl rfl ?_
      refine hz_gP (pc' := 52) (c' := 20) fl_X10_34.r ga0 rfl dX10_suggested_49 rfl (fun b6 gb6 => ?_)
      refine hz_iload_n (pc' := 53) (j := 2) dX10_suggested_52 rfl rfl rfl ?_
      refine hz_iald (pc' := 54) gb6 dX10_suggested_53 rfl (fun v7 => ?_)
      refine hz_iconst (pc' := 55) (v := 1) dX10_suggested_54 rfl (by decide) ?_
      refine hz_isub (pc' := 56) dX10_suggested_55 rfl ?_
      exact hz_reti dX10_suggested_56 rfl (by decide)
    refine hz_swIn (v := 1) (off := 37) (tgt := 57) dX10_suggested_20 (by decide) (by decide) (by decide +kernel) (by decide) ?_ (fun hs9 => ?_)
    · refine hz_iconst (pc' := 58) (v := 0) dX10_suggested_57 rfl (by decide) ?_
      exact hz_reti dX10_suggested_58 rfl (by decide)
    refine hz_swIn (v := 2) (off := 39) (tgt := 59) dX10_suggested_20 (by decide) (by decide) (by decide +kernel) (by decide) ?_ (fun hs13 => ?_)
    · refine hz_iload_n (pc' := 60) (j := 0) dX10_suggested_59 rfl rfl rfl ?_
      refine hz_bindJ (pcJ := 72) (LJ := fun q10 : Int32 × MW => []) (stJ := fun q10 : Int32 × MW => [.int q10.1]) (kJ := 0) (slJ := 0) (nJ := 358) (wJ := fun q10 : Int32 × MW => q10.2) (fun q10 => ?_) (fun hq10 => ?_)
      · exact hz_reti dX10_suggested_72 rfl (by decide)
      · refine hz_ifeq (pc' := 63) (tgt := 71) dX10_suggested_60 (by decide) rfl ?_ ?_
        · refine hz_iconst (pc' := 72) (v := 0) dX10_suggested_71 rfl (by decide) ?_
          exact hz_loc [] rfl (hq10 (0, w4))
        · refine hz_aload_n (pc' := 64) (j := 1) dX10_suggested_63 rfl rfl rfl ?_
          refine hz_iload_n (pc' := 65) (j := 2) dX10_suggested_64 rfl rfl rfl ?_
          refine hz_cVi (pc' := 68) (av := [.int x1]) (rest := []) vl_X10_231 (fun x w' h => ct_X10_demanded hl h) ga0 rfl rfl (Nat.le_of_ble_eq_true rfl) (by decide) (by decide) rfl dX10_suggested_65 rfl (fun v12 w11 => ?_)
          refine hz_goto (tgt := 72) dX10_suggested_68 (by decide) ?_
          exact hz_loc [] rfl (hq10 (v12, w11))
    refine hz_swOut (tgt := 73) dX10_suggested_20 (by have z0 := lv_neT (a := 0) hs8 (by decide); have z1 := lv_neT (a := 1) hs9 (by decide); have z2 := lv_neT (a := 2) hs13 (by decide); omega) (by decide) ?_
    refine hz_iload_n (pc' := 74) (j := 0) dX10_suggested_73 rfl rfl rfl ?_
    refine hz_bindJ (pcJ := 89) (LJ := fun q14 : Int32 => []) (stJ := fun q14 : Int32 => [.int q14]) (kJ := 0) (slJ := 0) (nJ := 358) (wJ := fun q14 : Int32 => w4) (fun q14 => ?_) (fun hq14 => ?_)
    · exact hz_reti dX10_suggested_89 rfl (by decide)
    · refine hz_ifeq (pc' := 77) (tgt := 88) dX10_suggested_74 (by decide) rfl ?_ ?_
      · refine hz_iconst (pc' := 89) (v := 0) dX10_suggested_88 rfl (by decide) ?_
        exact hz_loc [] rfl (hq14 0)
      · refine hz_aload_n (pc' := 78) (j := 1) dX10_suggested_77 rfl rfl rfl ?_
        refine hz_gP (pc' := 81) (c' := 20) fl_X10_34.r ga0 rfl dX10_suggested_78 rfl (fun b15 gb15 => ?_)
        refine hz_iload_n (pc' := 82) (j := 2) dX10_suggested_81 rfl rfl rfl ?_
        refine hz_iald (pc' := 83) gb15 dX10_suggested_82 rfl (fun v16 => ?_)
        refine hz_iconst (pc' := 84) (v := 1) dX10_suggested_83 rfl (by decide) ?_
        refine hz_isub (pc' := 85) dX10_suggested_84 rfl ?_
        refine hz_goto (tgt := 89) dX10_suggested_85 (by decide) ?_
        exact hz_loc [] rfl (hq14 (v16 - 1))
  · refine hz_ifle (pc' := 8) (tgt := 12) dX10_suggested_5 (by decide) rfl ?_ ?_
    · refine hz_iconst (pc' := 13) (v := 0) dX10_suggested_12 rfl (by decide) ?_
      exact hz_loc [0, 1] rfl (hq3 0)
    · refine hz_iconst (pc' := 9) (v := 1) dX10_suggested_8 rfl (by decide) ?_
      refine hz_goto (tgt := 13) dX10_suggested_9 (by decide) ?_
      exact hz_loc [0, 1] rfl (hq3 1)
def f_X10_powerAt (a0 : Nat) (x1 : Int32) (x2 : Int32) (w : MW) : Option (Int32 × MW) :=
  hz_gd (hz_g 358 a0 11) (hz_b (f_X10_busy a0 x1 w) (fun v2 w1 => hz_ldp w1 a0 14 358 20 (fun b3 => hz_lda w1 b3 ((5 * x1) + x2) (fun v4 => hz_ldp w1 a0 6 358 20 (fun b5 => hz_lda w1 b5 x1 (fun v6 => hz_ldp w1 a0 9 358 20 (fun b7 => hz_lda w1 b7 x1 (fun v8 => some (((v2 * v4) + ((v6 - v2) * v8)), w1)))))))))
set_option maxHeartbeats 4000000 in
set_option maxRecDepth 100000 in
theorem ct_X10_powerAt {l : Launch} (hl : l.stackTraces = false) {B : Bt} {a0 : Nat} {x1 : Int32} {x2 : Int32} {w : MW} {r : Int32 × MW} (h : f_X10_powerAt a0 x1 x2 w = some r) : hz_Met l B false 358 358 yX10_powerAt cX10_powerAt 4 (Option.some FieldType.int) 4 0 0 [.ref (B.1 + a0), .int x1, .int x2] w (some (.int r.1)) r.2 := by
  refine hz_ofJ (rv := (fun r : Int32 × MW => some (.int r.1))) (wo := (fun r : Int32 × MW => r.2)) (own := RX10) (ini := false) hl (by decide) rfl (Or.inr rfl) (Nat.le_of_ble_eq_true rfl) rfl ?_ h
  intro p e s m args below meth c
  unfold f_X10_powerAt
  refine hz_gdr (fun ga0 => ?_)
  refine hz_aload_n (pc' := 1) (j := 0) dX10_powerAt_0 rfl rfl rfl ?_
  refine hz_iload_n (pc' := 2) (j := 1) dX10_powerAt_1 rfl rfl rfl ?_
  refine hz_cVi (pc' := 5) (av := [.int x1]) (rest := []) vl_X10_217 (fun x w' h => ct_X10_busy hl h) ga0 rfl rfl (Nat.le_of_ble_eq_true rfl) (by decide) (by decide) rfl dX10_powerAt_2 rfl (fun v2 w1 => ?_)
  refine hz_istore_n (pc' := 6) (L' := [(3, .int v2), (0, .ref (B.1 + a0)), (1, .int x1), (2, .int x2)]) dX10_powerAt_5 rfl rfl (by decide) rfl ?_
  refine hz_iload_n (pc' := 7) (j := 0) dX10_powerAt_6 rfl rfl rfl ?_
  refine hz_aload_n (pc' := 8) (j := 1) dX10_powerAt_7 rfl rfl rfl ?_
  refine hz_gP (pc' := 11) (c' := 20) fl_X10_40.r ga0 rfl dX10_powerAt_8 rfl (fun b3 gb3 => ?_)
  refine hz_iconst (pc' := 12) (v := 5) dX10_powerAt_11 rfl (by decide) ?_
  refine hz_iload_n (pc' := 13) (j := 2) dX10_powerAt_12 rfl rfl rfl ?_
  refine hz_imul (pc' := 14) dX10_powerAt_13 rfl ?_
  refine hz_iload_n (pc' := 15) (j := 3) dX10_powerAt_14 rfl rfl rfl ?_
  refine hz_iadd (pc' := 16) dX10_powerAt_15 rfl ?_
  refine hz_iald (pc' := 17) gb3 dX10_powerAt_16 rfl (fun v4 => ?_)
  refine hz_imul (pc' := 18) dX10_powerAt_17 rfl ?_
  refine hz_aload_n (pc' := 19) (j := 1) dX10_powerAt_18 rfl rfl rfl ?_
  refine hz_gP (pc' := 22) (c' := 20) fl_X10_16.r ga0 rfl dX10_powerAt_19 rfl (fun b5 gb5 => ?_)
  refine hz_iload_n (pc' := 23) (j := 2) dX10_powerAt_22 rfl rfl rfl ?_
  refine hz_iald (pc' := 24) gb5 dX10_powerAt_23 rfl (fun v6 => ?_)
  refine hz_iload_n (pc' := 25) (j := 0) dX10_powerAt_24 rfl rfl rfl ?_
  refine hz_isub (pc' := 26) dX10_powerAt_25 rfl ?_
  refine hz_aload_n (pc' := 27) (j := 1) dX10_powerAt_26 rfl rfl rfl ?_
  refine hz_gP (pc' := 30) (c' := 20) fl_X10_25.r ga0 rfl dX10_powerAt_27 rfl (fun b7 gb7 => ?_)
  refine hz_iload_n (pc' := 31) (j := 2) dX10_powerAt_30 rfl rfl rfl ?_
  refine hz_iald (pc' := 32) gb7 dX10_powerAt_31 rfl (fun v8 => ?_)
  refine hz_imul (pc' := 33) dX10_powerAt_32 rfl ?_
  refine hz_iadd (pc' := 34) dX10_powerAt_33 rfl ?_
  exact hz_reti dX10_powerAt_34 rfl (by decide)
def f_X10_heated (a0 : Nat) (x1 : Int32) (x2 : Int32) (w : MW) : Option (Int32 × MW) :=
  hz_gd (hz_g 358 a0 11) (hz_b (f_X10_of a0 x1 2 w) (fun v2 w1 => hz_let (Int32.toInt64 v2) (fun v3 => hz_ldp w1 a0 7 358 20 (fun b4 => hz_lda w1 b4 x1 (fun v5 => hz_cldiv ((Int32.toInt64 v5) * (Int32.toInt64 x2)) 100 (fun v6 => hz_ldp w1 a0 0 358 20 (fun b7 => hz_lda w1 b7 1 (fun v8 => hz_ldp w1 a0 8 358 20 (fun b9 => hz_lda w1 b9 x1 (fun v10 => hz_cldiv ((v3 - (Int32.toInt64 v8)) * (Int32.toInt64 v10)) 1000 (fun v11 => some ((Int64.toInt32 ((v3 + v6) - v11)), w1))))))))))))
set_option maxHeartbeats 4000000 in
set_option maxRecDepth 100000 in
theorem ct_X10_heated {l : Launch} (hl : l.stackTraces = false) {B : Bt} {a0 : Nat} {x1 : Int32} {x2 : Int32} {w : MW} {r : Int32 × MW} (h : f_X10_heated a0 x1 x2 w = some r) : hz_Met l B false 358 358 yX10_heated cX10_heated 9 (Option.some FieldType.int) 3 0 0 [.ref (B.1 + a0), .int x1, .int x2] w (some (.int r.1)) r.2 := by
  refine hz_ofJ (rv := (fun r : Int32 × MW => some (.int r.1))) (wo := (fun r : Int32 × MW => r.2)) (own := RX10) (ini := false) hl (by decide) rfl (Or.inr rfl) (Nat.le_of_ble_eq_true rfl) rfl ?_ h
  intro p e s m args below meth c
  unfold f_X10_heated
  refine hz_gdr (fun ga0 => ?_)
  refine hz_aload_n (pc' := 1) (j := 0) dX10_heated_0 rfl rfl rfl ?_
  refine hz_iload_n (pc' := 2) (j := 1) dX10_heated_1 rfl rfl rfl ?_
  refine hz_iconst (pc' := 3) (v := 2) dX10_heated_2 rfl (by decide) ?_
  refine hz_cVi (pc' := 6) (av := [.int x1, .int 2]) (rest := []) vl_X10_214 (fun x w' h => ct_X10_of hl h) ga0 rfl rfl (Nat.le_of_ble_eq_true rfl) (by decide) (by decide) rfl dX10_heated_3 rfl (fun v2 w1 => ?_)
  refine hz_i2l (pc' := 7) dX10_heated_6 rfl ?_
  refine hz_nameL (fun v3 => ?_)
  refine hz_lstore_n (pc' := 8) (L' := [(3, .long v3), (0, .ref (B.1 + a0)), (1, .int x1), (2, .int x2)]) dX10_heated_7 rfl rfl (by decide) rfl ?_
  refine hz_aload_n (pc' := 9) (j := 1) dX10_heated_8 rfl rfl rfl ?_
  refine hz_gP (pc' := 12) (c' := 20) fl_X10_19.r ga0 rfl dX10_heated_9 rfl (fun b4 gb4 => ?_)
  refine hz_iload_n (pc' := 13) (j := 2) dX10_heated_12 rfl rfl rfl ?_
  refine hz_iald (pc' := 14) gb4 dX10_heated_13 rfl (fun v5 => ?_)
  refine hz_i2l (pc' := 15) dX10_heated_14 rfl ?_
  refine hz_iload_n (pc' := 16) (j := 3) dX10_heated_15 rfl rfl rfl ?_
  refine hz_i2l (pc' := 17) dX10_heated_16 rfl ?_
  refine hz_lmul (pc' := 18) dX10_heated_17 rfl ?_
  refine hz_ldc2 (pc' := 21) (v := 100) dX10_heated_18 rfl hq_1538 ?_
  refine hz_ldiv (pc' := 22) dX10_heated_21 rfl (fun v6 => ?_)
  refine hz_lstore (pc' := 24) (L' := [(5, .long v6), (3, .long v3), (0, .ref (B.1 + a0)), (1, .int x1), (2, .int x2)]) dX10_heated_22 rfl (by decide) rfl ?_
  refine hz_lload_n (pc' := 25) (j := 1) dX10_heated_24 rfl rfl rfl ?_
  refine hz_aload_n (pc' := 26) (j := 2) dX10_heated_25 rfl rfl rfl ?_
  refine hz_gP (pc' := 29) (c' := 20) fl_X10_7.r ga0 rfl dX10_heated_26 rfl (fun b7 gb7 => ?_)
  refine hz_iconst (pc' := 30) (v := 1) dX10_heated_29 rfl (by decide) ?_
  refine hz_iald (pc' := 31) gb7 dX10_heated_30 rfl (fun v8 => ?_)
  refine hz_i2l (pc' := 32) dX10_heated_31 rfl ?_
  refine hz_lsub (pc' := 33) dX10_heated_32 rfl ?_
  refine hz_aload_n (pc' := 34) (j := 2) dX10_heated_33 rfl rfl rfl ?_
  refine hz_gP (pc' := 37) (c' := 20) fl_X10_22.r ga0 rfl dX10_heated_34 rfl (fun b9 gb9 => ?_)
  refine hz_iload_n (pc' := 38) (j := 3) dX10_heated_37 rfl rfl rfl ?_
  refine hz_iald (pc' := 39) gb9 dX10_heated_38 rfl (fun v10 => ?_)
  refine hz_i2l (pc' := 40) dX10_heated_39 rfl ?_
  refine hz_lmul (pc' := 41) dX10_heated_40 rfl ?_
  refine hz_ldc2 (pc' := 44) (v := 1000) dX10_heated_41 rfl hq_1539 ?_
  refine hz_ldiv (pc' := 45) dX10_heated_44 rfl (fun v11 => ?_)
  refine hz_lstore (pc' := 47) (L' := [(7, .long v11), (5, .long v6), (3, .long v3), (0, .ref (B.1 + a0)), (1, .int x1), (2, .int x2)]) dX10_heated_45 rfl (by decide) rfl ?_
  refine hz_lload_n (pc' := 48) (j := 2) dX10_heated_47 rfl rfl rfl ?_
  refine hz_lload (pc' := 50) (j := 1) dX10_heated_48 rfl rfl ?_
  refine hz_ladd (pc' := 51) dX10_heated_50 rfl ?_
  refine hz_lload (pc' := 53) (j := 0) dX10_heated_51 rfl rfl ?_
  refine hz_lsub (pc' := 54) dX10_heated_53 rfl ?_
  refine hz_l2i (pc' := 55) dX10_heated_54 rfl ?_
  exact hz_reti dX10_heated_55 rfl (by decide)
def lp_X10_chooseLevel_56 (c0 : Nat) (c1 : Int32) (c4 : Int32) : Nat → (Int32 × MW) → Option (Int32 × MW)
  | 0, _ => none
  | N + 1, v0 => (if v0.1 ≤ 0 then some (v0.1, v0.2) else hz_b (f_X10_powerAt c0 c1 v0.1 v0.2) (fun v12 w11 => hz_b (f_X10_heated c0 c1 v12 w11) (fun v14 w13 => hz_b (f_X10_of c0 c1 0 w13) (fun v16 w15 => (if v14 ≤ v16 then some (v0.1, w15) else hz_let (v0.1 + Int32.ofInt (-1)) (fun v17 => lp_X10_chooseLevel_56 c0 c1 c4 N (v17, w15)))))))
def f_X10_chooseLevel (a0 : Nat) (x1 : Int32) (w : MW) : Option (MW) :=
  hz_gd (hz_g 358 a0 11) (hz_b (f_X10_suggested a0 x1 w) (fun v2 w1 => hz_b (f_X10_busy a0 x1 w1) (fun v4 w3 => Option.bind ((if v4 ≤ 0 then some 0 else some 1)) (fun q5 : Int32 => hz_gd (hz_isb 0) (hz_let (hz_pn w3 a0 29 0) (fun w6 => Option.bind ((if q5 = 0 then some (v2, w6) else hz_b (f_X10_of a0 x1 5 w6) (fun v31 w30 => (if v31 = 0 then hz_ldp w30 a0 10 358 20 (fun b32 => hz_lda w30 b32 x1 (fun v33 => hz_let (if v33 < v2 then v33 else v2) (fun v34 => some (v34, w30)))) else some (v2, w30))))) (fun q7 : Int32 × MW => Option.bind ((if q5 = 0 then some (q7.1, q7.2) else Option.bind (lp_X10_chooseLevel_56 a0 x1 q7.1 3000 (q7.1, q7.2)) (fun q12 : Int32 × MW => Option.bind ((if q7.1 ≤ q12.1 then some 0 else some 1)) (fun q13 : Int32 => hz_bv (f_X10_addTo a0 x1 6 q13 q12.2) (fun w14 => Option.bind ((if q12.1 = 0 then hz_b (f_X10_powerAt a0 x1 0 w14) (fun v18 w17 => hz_b (f_X10_heated a0 x1 v18 w17) (fun v20 w19 => hz_b (f_X10_of a0 x1 0 w19) (fun v22 w21 => (if v20 ≤ v22 then some (0, w21) else some (1, w21))))) else some (0, w14))) (fun q15 : Int32 × MW => hz_gd (hz_isb q15.1) (hz_let (hz_pn q15.2 a0 29 q15.1) (fun w16 => some (q12.1, w16))))))))) (fun q8 : Int32 × MW => Option.bind ((if (q8.2.1 a0 29) = 0 then some q8.1 else some 0)) (fun q9 : Int32 => hz_bv (f_X10_put2 a0 x1 3 q9 q8.2) (fun w10 => some w10))))))))))
set_option maxHeartbeats 4000000 in
set_option maxRecDepth 100000 in
theorem ct_X10_chooseLevel {l : Launch} (hl : l.stackTraces = false) {B : Bt} {a0 : Nat} {x1 : Int32} {w : MW} {r : MW} (h : f_X10_chooseLevel a0 x1 w = some r) : hz_Met l B false 358 358 yX10_chooseLevel cX10_chooseLevel 5 (Option.none : Option FieldType) 5 0 0 [.ref (B.1 + a0), .int x1] w none r := by
  refine hz_ofJ (rv := (fun _ : MW => none)) (wo := (fun r : MW => r)) (own := RX10) (ini := false) hl (by decide) rfl (Or.inr rfl) (Nat.le_of_ble_eq_true rfl) rfl ?_ h
  intro p e s m args below meth c
  unfold f_X10_chooseLevel
  refine hz_gdr (fun ga0 => ?_)
  refine hz_aload_n (pc' := 1) (j := 0) dX10_chooseLevel_0 rfl rfl rfl ?_
  refine hz_iload_n (pc' := 2) (j := 1) dX10_chooseLevel_1 rfl rfl rfl ?_
  refine hz_cVi (pc' := 5) (av := [.int x1]) (rest := []) vl_X10_238 (fun x w' h => ct_X10_suggested hl h) ga0 rfl rfl (Nat.le_of_ble_eq_true rfl) (by decide) (by decide) rfl dX10_chooseLevel_2 rfl (fun v2 w1 => ?_)
  refine hz_istore_n (pc' := 6) (L' := [(2, .int v2), (0, .ref (B.1 + a0)), (1, .int x1)]) dX10_chooseLevel_5 rfl rfl (by decide) rfl ?_
  refine hz_aload_n (pc' := 7) (j := 1) dX10_chooseLevel_6 rfl rfl rfl ?_
  refine hz_iload_n (pc' := 8) (j := 2) dX10_chooseLevel_7 rfl rfl rfl ?_
  refine hz_cVi (pc' := 11) (av := [.int x1]) (rest := []) vl_X10_217 (fun x w' h => ct_X10_busy hl h) ga0 rfl rfl (Nat.le_of_ble_eq_true rfl) (by decide) (by decide) rfl dX10_chooseLevel_8 rfl (fun v4 w3 => ?_)
  refine hz_bindJ (pcJ := 19) (LJ := fun q5 : Int32 => [(0, .ref (B.1 + a0)), (1, .int x1), (2, .int v2)]) (stJ := fun q5 : Int32 => [.int q5]) (kJ := 0) (slJ := 0) (nJ := 358) (wJ := fun q5 : Int32 => w3) (fun q5 => ?_) (fun hq5 => ?_)
  · refine hz_istore_n (pc' := 20) (L' := [(3, .int q5), (0, .ref (B.1 + a0)), (1, .int x1), (2, .int v2)]) dX10_chooseLevel_19 rfl rfl (by decide) rfl ?_
    refine hz_aload_n (pc' := 21) (j := 1) dX10_chooseLevel_20 rfl rfl rfl ?_
    refine hz_iconst (pc' := 22) (v := 0) dX10_chooseLevel_21 rfl (by decide) ?_
    refine hz_putZ (pc' := 25) fl_X10_241 ga0 rfl dX10_chooseLevel_22 rfl (fun w6 => ?_)
    refine hz_iload_n (pc' := 26) (j := 0) dX10_chooseLevel_25 rfl rfl rfl ?_
    refine hz_bindJ (pcJ := 49) (LJ := fun q7 : Int32 × MW => [(0, .ref (B.1 + a0)), (1, .int x1), (2, .int q7.1), (3, .int q5)]) (stJ := fun q7 : Int32 × MW => []) (kJ := 0) (slJ := 0) (nJ := 358) (wJ := fun q7 : Int32 × MW => q7.2) (fun q7 => ?_) (fun hq7 => ?_)
    · refine hz_iload_n (pc' := 50) (j := 3) dX10_chooseLevel_49 rfl rfl rfl ?_
      refine hz_bindJ (pcJ := 137) (LJ := fun q8 : Int32 × MW => [(0, .ref (B.1 + a0)), (1, .int x1), (2, .int q8.1)]) (stJ := fun q8 : Int32 × MW => []) (kJ := 0) (slJ := 0) (nJ := 358) (wJ := fun q8 : Int32 × MW => q8.2) (fun q8 => ?_) (fun hq8 => ?_)
      · refine hz_aload_n (pc' := 138) (j := 0) dX10_chooseLevel_137 rfl rfl rfl ?_
        refine hz_iload_n (pc' := 139) (j := 1) dX10_chooseLevel_138 rfl rfl rfl ?_
        refine hz_iconst (pc' := 140) (v := 3) dX10_chooseLevel_139 rfl (by decide) ?_
        refine hz_aload_n (pc' := 141) (j := 0) dX10_chooseLevel_140 rfl rfl rfl ?_
        refine hz_gI (pc' := 144) fl_X10_241.r ga0 rfl dX10_chooseLevel_141 rfl ?_
        refine hz_bindJ (pcJ := 152) (LJ := fun q9 : Int32 => []) (stJ := fun q9 : Int32 => [.int q9, .int 3, .int x1, .ref (B.1 + a0)]) (kJ := 0) (slJ := 0) (nJ := 358) (wJ := fun q9 : Int32 => q8.2) (fun q9 => ?_) (fun hq9 => ?_)
        · refine hz_cVv (pc' := 155) (av := [.int x1, .int 3, .int q9]) (rest := []) vl_X10_203 (fun w' h => ct_X10_put2 hl h) ga0 rfl rfl (Nat.le_of_ble_eq_true rfl) (by decide) (by decide) rfl dX10_chooseLevel_152 rfl (fun w10 => ?_)
          exact hz_retv dX10_chooseLevel_155 rfl (by decide)
        · refine hz_ifeq (pc' := 147) (tgt := 151) dX10_chooseLevel_144 (by decide) rfl ?_ ?_
          · refine hz_iload_n (pc' := 152) (j := 2) dX10_chooseLevel_151 rfl rfl rfl ?_
            exact hz_loc [] rfl (hq9 q8.1)
          · refine hz_iconst (pc' := 148) (v := 0) dX10_chooseLevel_147 rfl (by decide) ?_
            refine hz_goto (tgt := 152) dX10_chooseLevel_148 (by decide) ?_
            exact hz_loc [] rfl (hq9 0)
      · refine hz_ifeq (pc' := 53) (tgt := 137) dX10_chooseLevel_50 (by decide) rfl ?_ ?_
        · exact hz_loc [0, 1, 2] rfl (hq8 (q7.1, q7.2))
        · refine hz_iload_n (pc' := 54) (j := 2) dX10_chooseLevel_53 rfl rfl rfl ?_
          refine hz_istore (pc' := 56) (L' := [(4, .int q7.1), (0, .ref (B.1 + a0)), (1, .int x1), (2, .int q7.1), (3, .int q5)]) dX10_chooseLevel_54 rfl (by decide) rfl ?_
          refine hz_bindJ (pcJ := 86) (LJ := fun q12 : Int32 × MW => [(0, .ref (B.1 + a0)), (1, .int x1), (2, .int q12.1), (4, .int q7.1)]) (stJ := fun _ => []) (kJ := 0) (slJ := 0) (nJ := 358) (wJ := fun q12 : Int32 × MW => q12.2) (fun q12 => ?_) (fun hq12 => ?_)
          · refine hz_aload_n (pc' := 87) (j := 0) dX10_chooseLevel_86 rfl rfl rfl ?_
            refine hz_iload_n (pc' := 88) (j := 1) dX10_chooseLevel_87 rfl rfl rfl ?_
            refine hz_bipush (pc' := 90) (v := 6) dX10_chooseLevel_88 rfl (by decide) ?_
            refine hz_iload_n (pc' := 91) (j := 2) dX10_chooseLevel_90 rfl rfl rfl ?_
            refine hz_iload (pc' := 93) (j := 3) dX10_chooseLevel_91 rfl rfl ?_
            refine hz_bindJ (pcJ := 101) (LJ := fun q13 : Int32 => [(0, .ref (B.1 + a0)), (1, .int x1), (2, .int q12.1)]) (stJ := fun q13 : Int32 => [.int q13, .int 6, .int x1, .ref (B.1 + a0)]) (kJ := 0) (slJ := 0) (nJ := 358) (wJ := fun q13 : Int32 => q12.2) (fun q13 => ?_) (fun hq13 => ?_)
            · refine hz_cVv (pc' := 104) (av := [.int x1, .int 6, .int q13]) (rest := []) vl_X10_250 (fun w' h => ct_X10_addTo hl h) ga0 rfl rfl (Nat.le_of_ble_eq_true rfl) (by decide) (by decide) rfl dX10_chooseLevel_101 rfl (fun w14 => ?_)
              refine hz_aload_n (pc' := 105) (j := 0) dX10_chooseLevel_104 rfl rfl rfl ?_
              refine hz_iload_n (pc' := 106) (j := 2) dX10_chooseLevel_105 rfl rfl rfl ?_
              refine hz_bindJ (pcJ := 134) (LJ := fun q15 : Int32 × MW => [(0, .ref (B.1 + a0)), (1, .int x1), (2, .int q12.1)]) (stJ := fun q15 : Int32 × MW => [.int q15.1, .ref (B.1 + a0)]) (kJ := 0) (slJ := 0) (nJ := 358) (wJ := fun q15 : Int32 × MW => q15.2) (fun q15 => ?_) (fun hq15 => ?_)
              · refine hz_putZ (pc' := 137) fl_X10_241 ga0 rfl dX10_chooseLevel_134 rfl (fun w16 => ?_)
                exact hz_loc [0, 1, 2] rfl (hq8 (q12.1, w16))
              · refine hz_ifne (pc' := 109) (tgt := 133) dX10_chooseLevel_106 (by decide) rfl ?_ ?_
                · refine hz_iconst (pc' := 134) (v := 0) dX10_chooseLevel_133 rfl (by decide) ?_
                  exact hz_loc [0, 1, 2] rfl (hq15 (0, w14))
                · refine hz_aload_n (pc' := 110) (j := 0) dX10_chooseLevel_109 rfl rfl rfl ?_
                  refine hz_iload_n (pc' := 111) (j := 1) dX10_chooseLevel_110 rfl rfl rfl ?_
                  refine hz_aload_n (pc' := 112) (j := 0) dX10_chooseLevel_111 rfl rfl rfl ?_
                  refine hz_iload_n (pc' := 113) (j := 1) dX10_chooseLevel_112 rfl rfl rfl ?_
                  refine hz_iconst (pc' := 114) (v := 0) dX10_chooseLevel_113 rfl (by decide) ?_
                  refine hz_cVi (pc' := 117) (av := [.int x1, .int 0]) (rest := [.int x1, .ref (B.1 + a0), .ref (B.1 + a0)]) vl_X10_244 (fun x w' h => ct_X10_powerAt hl h) ga0 rfl rfl (Nat.le_of_ble_eq_true rfl) (by decide) (by decide) rfl dX10_chooseLevel_114 rfl (fun v18 w17 => ?_)
                  refine hz_cVi (pc' := 120) (av := [.int x1, .int v18]) (rest := [.ref (B.1 + a0)]) vl_X10_247 (fun x w' h => ct_X10_heated hl h) ga0 rfl rfl (Nat.le_of_ble_eq_true rfl) (by decide) (by decide) rfl dX10_chooseLevel_117 rfl (fun v20 w19 => ?_)
                  refine hz_aload_n (pc' := 121) (j := 0) dX10_chooseLevel_120 rfl rfl rfl ?_
                  refine hz_iload_n (pc' := 122) (j := 1) dX10_chooseLevel_121 rfl rfl rfl ?_
                  refine hz_iconst (pc' := 123) (v := 0) dX10_chooseLevel_122 rfl (by decide) ?_
                  refine hz_cVi (pc' := 126) (av := [.int x1, .int 0]) (rest := [.int v20, .ref (B.1 + a0)]) vl_X10_214 (fun x w' h => ct_X10_of hl h) ga0 rfl rfl (Nat.le_of_ble_eq_true rfl) (by decide) (by decide) rfl dX10_chooseLevel_123 rfl (fun v22 w21 => ?_)
                  refine hz_icmple (pc' := 129) (tgt := 133) dX10_chooseLevel_126 (by decide) rfl ?_ ?_
                  · refine hz_iconst (pc' := 134) (v := 0) dX10_chooseLevel_133 rfl (by decide) ?_
                    exact hz_loc [0, 1, 2] rfl (hq15 (0, w21))
                  · refine hz_iconst (pc' := 130) (v := 1) dX10_chooseLevel_129 rfl (by decide) ?_
                    refine hz_goto (tgt := 134) dX10_chooseLevel_130 (by decide) ?_
                    exact hz_loc [0, 1, 2] rfl (hq15 (1, w21))
            · refine hz_icmpge (pc' := 96) (tgt := 100) dX10_chooseLevel_93 (by decide) rfl ?_ ?_
              · refine hz_iconst (pc' := 101) (v := 0) dX10_chooseLevel_100 rfl (by decide) ?_
                exact hz_loc [0, 1, 2] rfl (hq13 0)
              · refine hz_iconst (pc' := 97) (v := 1) dX10_chooseLevel_96 rfl (by decide) ?_
                refine hz_goto (tgt := 101) dX10_chooseLevel_97 (by decide) ?_
                exact hz_loc [0, 1, 2] rfl (hq13 1)
          · refine hz_loc [1, 2, 3, 0] rfl (hz_loopJ (lp := lp_X10_chooseLevel_56 a0 x1 q7.1) (Lh := fun v11 : Int32 × MW => [(0, .ref (B.1 + a0)), (1, .int x1), (2, .int v11.1), (4, .int q7.1)]) (wh := fun v11 : Int32 × MW => v11.2) (fun _ => rfl) (fun Nv11 ihv11 v11 => ?_) 3000 (q7.1, q7.2))
            rw [lp_X10_chooseLevel_56]
            refine hz_iload_n (pc' := 57) (j := 2) dX10_chooseLevel_56 rfl rfl rfl ?_
            refine hz_ifle (pc' := 60) (tgt := 86) dX10_chooseLevel_57 (by decide) rfl ?_ ?_
            · exact hz_loc [0, 1, 2, 3] rfl (hq12 (v11.1, v11.2))
            · refine hz_aload_n (pc' := 61) (j := 0) dX10_chooseLevel_60 rfl rfl rfl ?_
              refine hz_iload_n (pc' := 62) (j := 1) dX10_chooseLevel_61 rfl rfl rfl ?_
              refine hz_aload_n (pc' := 63) (j := 0) dX10_chooseLevel_62 rfl rfl rfl ?_
              refine hz_iload_n (pc' := 64) (j := 1) dX10_chooseLevel_63 rfl rfl rfl ?_
              refine hz_iload_n (pc' := 65) (j := 2) dX10_chooseLevel_64 rfl rfl rfl ?_
              refine hz_cVi (pc' := 68) (av := [.int x1, .int v11.1]) (rest := [.int x1, .ref (B.1 + a0)]) vl_X10_244 (fun x w' h => ct_X10_powerAt hl h) ga0 rfl rfl (Nat.le_of_ble_eq_true rfl) (by decide) (by decide) rfl dX10_chooseLevel_65 rfl (fun v24 w23 => ?_)
              refine hz_cVi (pc' := 71) (av := [.int x1, .int v24]) (rest := []) vl_X10_247 (fun x w' h => ct_X10_heated hl h) ga0 rfl rfl (Nat.le_of_ble_eq_true rfl) (by decide) (by decide) rfl dX10_chooseLevel_68 rfl (fun v26 w25 => ?_)
              refine hz_aload_n (pc' := 72) (j := 0) dX10_chooseLevel_71 rfl rfl rfl ?_
              refine hz_iload_n (pc' := 73) (j := 1) dX10_chooseLevel_72 rfl rfl rfl ?_
              refine hz_iconst (pc' := 74) (v := 0) dX10_chooseLevel_73 rfl (by decide) ?_
              refine hz_cVi (pc' := 77) (av := [.int x1, .int 0]) (rest := [.int v26]) vl_X10_214 (fun x w' h => ct_X10_of hl h) ga0 rfl rfl (Nat.le_of_ble_eq_true rfl) (by decide) (by decide) rfl dX10_chooseLevel_74 rfl (fun v28 w27 => ?_)
              refine hz_icmple (pc' := 80) (tgt := 86) dX10_chooseLevel_77 (by decide) rfl ?_ ?_
              · exact hz_loc [0, 1, 2, 3] rfl (hq12 (v11.1, w27))
              · refine hz_iincN (pc' := 83) (j := 2) (fun v29 => [(2, .int v29), (0, .ref (B.1 + a0)), (1, .int x1), (4, .int q7.1)]) dX10_chooseLevel_80 rfl rfl (by decide) (fun _ => rfl) (fun v29 => ?_)
                refine hz_goto (tgt := 56) dX10_chooseLevel_83 (by decide) ?_
                exact hz_loc [1, 2, 0, 3] rfl (ihv11 (v29, w27))
    · refine hz_ifeq (pc' := 29) (tgt := 49) dX10_chooseLevel_26 (by decide) rfl ?_ ?_
      · exact hz_loc [1, 2, 3, 0] rfl (hq7 (v2, w6))
      · refine hz_aload_n (pc' := 30) (j := 1) dX10_chooseLevel_29 rfl rfl rfl ?_
        refine hz_iload_n (pc' := 31) (j := 2) dX10_chooseLevel_30 rfl rfl rfl ?_
        refine hz_iconst (pc' := 32) (v := 5) dX10_chooseLevel_31 rfl (by decide) ?_
        refine hz_cVi (pc' := 35) (av := [.int x1, .int 5]) (rest := []) vl_X10_214 (fun x w' h => ct_X10_of hl h) ga0 rfl rfl (Nat.le_of_ble_eq_true rfl) (by decide) (by decide) rfl dX10_chooseLevel_32 rfl (fun v31 w30 => ?_)
        refine hz_ifne (pc' := 38) (tgt := 49) dX10_chooseLevel_35 (by decide) rfl ?_ ?_
        · exact hz_loc [1, 2, 3, 0] rfl (hq7 (v2, w30))
        · refine hz_iload_n (pc' := 39) (j := 3) dX10_chooseLevel_38 rfl rfl rfl ?_
          refine hz_aload_n (pc' := 40) (j := 1) dX10_chooseLevel_39 rfl rfl rfl ?_
          refine hz_gP (pc' := 43) (c' := 20) fl_X10_28.r ga0 rfl dX10_chooseLevel_40 rfl (fun b32 gb32 => ?_)
          refine hz_iload_n (pc' := 44) (j := 2) dX10_chooseLevel_43 rfl rfl rfl ?_
          refine hz_iald (pc' := 45) gb32 dX10_chooseLevel_44 rfl (fun v33 => ?_)
          refine hz_mmin (pc' := 48) hq_1411 hq_422 hq_17 hq_423 ⟨Nat.le_of_ble_eq_true rfl, Nat.le_of_ble_eq_true rfl⟩ (by decide) dX10_chooseLevel_45 rfl ?_
          refine hz_nameI (fun v34 => ?_)
          refine hz_istore_n (pc' := 49) (L' := [(2, .int v34), (3, .int q5), (0, .ref (B.1 + a0)), (1, .int x1)]) dX10_chooseLevel_48 rfl rfl (by decide) rfl ?_
          exact hz_loc [2, 3, 0, 1] rfl (hq7 (v34, w30))
  · refine hz_ifle (pc' := 14) (tgt := 18) dX10_chooseLevel_11 (by decide) rfl ?_ ?_
    · refine hz_iconst (pc' := 19) (v := 0) dX10_chooseLevel_18 rfl (by decide) ?_
      exact hz_loc [1, 2, 0] rfl (hq5 0)
    · refine hz_iconst (pc' := 15) (v := 1) dX10_chooseLevel_14 rfl (by decide) ?_
      refine hz_goto (tgt := 19) dX10_chooseLevel_15 (by decide) ?_
      exact hz_loc [1, 2, 0] rfl (hq5 1)
def f_X10_finish (a0 : Nat) (x1 : Int32) (x2 : Int32) (x3 : Int32) (w : MW) : Option (MW) :=
  hz_gd (hz_g 358 a0 11) (hz_b (f_X10_ofJob a0 x3 1 w) (fun v2 w1 => hz_bv (f_X10_put2 a0 x1 (9 + x2) (-1) w1) (fun w3 => hz_bv (f_X10_putJob a0 x3 6 0 w3) (fun w4 => hz_bv (f_X10_putJob a0 x3 7 3 w4) (fun w5 => hz_ldp w5 a0 0 358 20 (fun b6 => hz_lda w5 b6 0 (fun v7 => hz_bv (f_X10_putJob a0 x3 8 (v7 + 1) w5) (fun w8 => hz_let (hz_pn w8 a0 31 ((w8.1 a0 31) + 1)) (fun w9 => hz_ldp w9 a0 0 358 20 (fun b10 => hz_lda w9 b10 (3 + v2) (fun v11 => hz_ldp w9 a0 0 358 20 (fun b12 => hz_ldp w9 a0 0 358 20 (fun b13 => hz_lda w9 b13 (11 + v2) (fun v14 => Option.bind ((if v14 = 0 then hz_b (f_X10_ofJob a0 x3 4 w9) (fun v24 w23 => some (v24, w23)) else hz_b (f_X10_ofJob a0 x3 4 w9) (fun v21 w20 => hz_cdiv (v21 - v11) 4 (fun v22 => some ((v11 + v22), w20))))) (fun q15 : Int32 × MW => hz_sta q15.2 b12 (3 + v2) q15.1 (fun w16 => hz_ldp w16 a0 0 358 20 (fun b17 => hz_lda w16 b17 (11 + v2) (fun v18 => hz_sta w16 b17 (11 + v2) (v18 + 1) (fun w19 => some w19)))))))))))))))))))
set_option maxHeartbeats 4000000 in
set_option maxRecDepth 100000 in
theorem ct_X10_finish {l : Launch} (hl : l.stackTraces = false) {B : Bt} {a0 : Nat} {x1 : Int32} {x2 : Int32} {x3 : Int32} {w : MW} {r : MW} (h : f_X10_finish a0 x1 x2 x3 w = some r) : hz_Met l B false 358 358 yX10_finish cX10_finish 6 (Option.none : Option FieldType) 3 0 0 [.ref (B.1 + a0), .int x1, .int x2, .int x3] w none r := by
  refine hz_ofJ (rv := (fun _ : MW => none)) (wo := (fun r : MW => r)) (own := RX10) (ini := false) hl (by decide) rfl (Or.inr rfl) (Nat.le_of_ble_eq_true rfl) rfl ?_ h
  intro p e s m args below meth c
  unfold f_X10_finish
  refine hz_gdr (fun ga0 => ?_)
  refine hz_aload_n (pc' := 1) (j := 0) dX10_finish_0 rfl rfl rfl ?_
  refine hz_iload_n (pc' := 2) (j := 3) dX10_finish_1 rfl rfl rfl ?_
  refine hz_iconst (pc' := 3) (v := 1) dX10_finish_2 rfl (by decide) ?_
  refine hz_cVi (pc' := 6) (av := [.int x3, .int 1]) (rest := []) vl_X10_211 (fun x w' h => ct_X10_ofJob hl h) ga0 rfl rfl (Nat.le_of_ble_eq_true rfl) (by decide) (by decide) rfl dX10_finish_3 rfl (fun v2 w1 => ?_)
  refine hz_istore (pc' := 8) (L' := [(4, .int v2), (0, .ref (B.1 + a0)), (1, .int x1), (2, .int x2), (3, .int x3)]) dX10_finish_6 rfl (by decide) rfl ?_
  refine hz_aload_n (pc' := 9) (j := 1) dX10_finish_8 rfl rfl rfl ?_
  refine hz_iload_n (pc' := 10) (j := 2) dX10_finish_9 rfl rfl rfl ?_
  refine hz_bipush (pc' := 12) (v := 9) dX10_finish_10 rfl (by decide) ?_
  refine hz_iload_n (pc' := 13) (j := 3) dX10_finish_12 rfl rfl rfl ?_
  refine hz_iadd (pc' := 14) dX10_finish_13 rfl ?_
  refine hz_iconst (pc' := 15) (v := (-1)) dX10_finish_14 rfl (by decide) ?_
  refine hz_cVv (pc' := 18) (av := [.int x1, .int (9 + x2), .int (-1)]) (rest := []) vl_X10_203 (fun w' h => ct_X10_put2 hl h) ga0 rfl rfl (Nat.le_of_ble_eq_true rfl) (by decide) (by decide) rfl dX10_finish_15 rfl (fun w3 => ?_)
  refine hz_aload_n (pc' := 19) (j := 1) dX10_finish_18 rfl rfl rfl ?_
  refine hz_iload_n (pc' := 20) (j := 4) dX10_finish_19 rfl rfl rfl ?_
  refine hz_bipush (pc' := 22) (v := 6) dX10_finish_20 rfl (by decide) ?_
  refine hz_iconst (pc' := 23) (v := 0) dX10_finish_22 rfl (by decide) ?_
  refine hz_cVv (pc' := 26) (av := [.int x3, .int 6, .int 0]) (rest := []) vl_X10_220 (fun w' h => ct_X10_putJob hl h) ga0 rfl rfl (Nat.le_of_ble_eq_true rfl) (by decide) (by decide) rfl dX10_finish_23 rfl (fun w4 => ?_)
  refine hz_aload_n (pc' := 27) (j := 1) dX10_finish_26 rfl rfl rfl ?_
  refine hz_iload_n (pc' := 28) (j := 4) dX10_finish_27 rfl rfl rfl ?_
  refine hz_bipush (pc' := 30) (v := 7) dX10_finish_28 rfl (by decide) ?_
  refine hz_iconst (pc' := 31) (v := 3) dX10_finish_30 rfl (by decide) ?_
  refine hz_cVv (pc' := 34) (av := [.int x3, .int 7, .int 3]) (rest := []) vl_X10_220 (fun w' h => ct_X10_putJob hl h) ga0 rfl rfl (Nat.le_of_ble_eq_true rfl) (by decide) (by decide) rfl dX10_finish_31 rfl (fun w5 => ?_)
  refine hz_aload_n (pc' := 35) (j := 1) dX10_finish_34 rfl rfl rfl ?_
  refine hz_iload_n (pc' := 36) (j := 4) dX10_finish_35 rfl rfl rfl ?_
  refine hz_bipush (pc' := 38) (v := 8) dX10_finish_36 rfl (by decide) ?_
  refine hz_aload_n (pc' := 39) (j := 1) dX10_finish_38 rfl rfl rfl ?_
  refine hz_gP (pc' := 42) (c' := 20) fl_X10_7.r ga0 rfl dX10_finish_39 rfl (fun b6 gb6 => ?_)
  refine hz_iconst (pc' := 43) (v := 0) dX10_finish_42 rfl (by decide) ?_
  refine hz_iald (pc' := 44) gb6 dX10_finish_43 rfl (fun v7 => ?_)
  refine hz_iconst (pc' := 45) (v := 1) dX10_finish_44 rfl (by decide) ?_
  refine hz_iadd (pc' := 46) dX10_finish_45 rfl ?_
  refine hz_cVv (pc' := 49) (av := [.int x3, .int 8, .int (v7 + 1)]) (rest := []) vl_X10_220 (fun w' h => ct_X10_putJob hl h) ga0 rfl rfl (Nat.le_of_ble_eq_true rfl) (by decide) (by decide) rfl dX10_finish_46 rfl (fun w8 => ?_)
  refine hz_aload_n (pc' := 50) (j := 1) dX10_finish_49 rfl rfl rfl ?_
  refine hz_dup (pc' := 51) dX10_finish_50 rfl rfl ?_
  refine hz_gI (pc' := 54) fl_X10_253.r ga0 rfl dX10_finish_51 rfl ?_
  refine hz_iconst (pc' := 55) (v := 1) dX10_finish_54 rfl (by decide) ?_
  refine hz_iadd (pc' := 56) dX10_finish_55 rfl ?_
  refine hz_putI (pc' := 59) fl_X10_253 ga0 rfl dX10_finish_56 rfl (fun w9 => ?_)
  refine hz_aload_n (pc' := 60) (j := 1) dX10_finish_59 rfl rfl rfl ?_
  refine hz_gP (pc' := 63) (c' := 20) fl_X10_7.r ga0 rfl dX10_finish_60 rfl (fun b10 gb10 => ?_)
  refine hz_iconst (pc' := 64) (v := 3) dX10_finish_63 rfl (by decide) ?_
  refine hz_iload (pc' := 66) (j := 0) dX10_finish_64 rfl rfl ?_
  refine hz_iadd (pc' := 67) dX10_finish_66 rfl ?_
  refine hz_iald (pc' := 68) gb10 dX10_finish_67 rfl (fun v11 => ?_)
  refine hz_istore (pc' := 70) (L' := [(5, .int v11), (4, .int v2), (0, .ref (B.1 + a0)), (1, .int x1), (2, .int x2), (3, .int x3)]) dX10_finish_68 rfl (by decide) rfl ?_
  refine hz_aload_n (pc' := 71) (j := 2) dX10_finish_70 rfl rfl rfl ?_
  refine hz_gP (pc' := 74) (c' := 20) fl_X10_7.r ga0 rfl dX10_finish_71 rfl (fun b12 gb12 => ?_)
  refine hz_iconst (pc' := 75) (v := 3) dX10_finish_74 rfl (by decide) ?_
  refine hz_iload (pc' := 77) (j := 1) dX10_finish_75 rfl rfl ?_
  refine hz_iadd (pc' := 78) dX10_finish_77 rfl ?_
  refine hz_aload_n (pc' := 79) (j := 2) dX10_finish_78 rfl rfl rfl ?_
  refine hz_gP (pc' := 82) (c' := 20) fl_X10_7.r ga0 rfl dX10_finish_79 rfl (fun b13 gb13 => ?_)
  refine hz_bipush (pc' := 84) (v := 11) dX10_finish_82 rfl (by decide) ?_
  refine hz_iload (pc' := 86) (j := 1) dX10_finish_84 rfl rfl ?_
  refine hz_iadd (pc' := 87) dX10_finish_86 rfl ?_
  refine hz_iald (pc' := 88) gb13 dX10_finish_87 rfl (fun v14 => ?_)
  refine hz_bindJ (pcJ := 114) (LJ := fun q15 : Int32 × MW => [(0, .ref (B.1 + a0)), (4, .int v2)]) (stJ := fun q15 : Int32 × MW => [.int q15.1, .int (3 + v2), .ref (B.1 + b12)]) (kJ := 0) (slJ := 0) (nJ := 358) (wJ := fun q15 : Int32 × MW => q15.2) (fun q15 => ?_) (fun hq15 => ?_)
  · refine hz_iast (pc' := 115) gb12 dX10_finish_114 rfl (fun w16 => ?_)
    refine hz_aload_n (pc' := 116) (j := 0) dX10_finish_115 rfl rfl rfl ?_
    refine hz_gP (pc' := 119) (c' := 20) fl_X10_7.r ga0 rfl dX10_finish_116 rfl (fun b17 gb17 => ?_)
    refine hz_bipush (pc' := 121) (v := 11) dX10_finish_119 rfl (by decide) ?_
    refine hz_iload (pc' := 123) (j := 1) dX10_finish_121 rfl rfl ?_
    refine hz_iadd (pc' := 124) dX10_finish_123 rfl ?_
    refine hz_dup2 (pc' := 125) dX10_finish_124 rfl rfl rfl ?_
    refine hz_iald (pc' := 126) gb17 dX10_finish_125 rfl (fun v18 => ?_)
    refine hz_iconst (pc' := 127) (v := 1) dX10_finish_126 rfl (by decide) ?_
    refine hz_iadd (pc' := 128) dX10_finish_127 rfl ?_
    refine hz_iast (pc' := 129) gb17 dX10_finish_128 rfl (fun w19 => ?_)
    exact hz_retv dX10_finish_129 rfl (by decide)
  · refine hz_ifne (pc' := 91) (tgt := 100) dX10_finish_88 (by decide) rfl ?_ ?_
    · refine hz_iload (pc' := 102) (j := 0) dX10_finish_100 rfl rfl ?_
      refine hz_aload_n (pc' := 103) (j := 2) dX10_finish_102 rfl rfl rfl ?_
      refine hz_iload_n (pc' := 104) (j := 5) dX10_finish_103 rfl rfl rfl ?_
      refine hz_iconst (pc' := 105) (v := 4) dX10_finish_104 rfl (by decide) ?_
      refine hz_cVi (pc' := 108) (av := [.int x3, .int 4]) (rest := [.int v11, .int (3 + v2), .ref (B.1 + b12)]) vl_X10_211 (fun x w' h => ct_X10_ofJob hl h) ga0 rfl rfl (Nat.le_of_ble_eq_true rfl) (by decide) (by decide) rfl dX10_finish_105 rfl (fun v21 w20 => ?_)
      refine hz_iload (pc' := 110) (j := 0) dX10_finish_108 rfl rfl ?_
      refine hz_isub (pc' := 111) dX10_finish_110 rfl ?_
      refine hz_iconst (pc' := 112) (v := 4) dX10_finish_111 rfl (by decide) ?_
      refine hz_idiv (pc' := 113) dX10_finish_112 rfl (fun v22 => ?_)
      refine hz_iadd (pc' := 114) dX10_finish_113 rfl ?_
      exact hz_loc [2, 1] rfl (hq15 ((v11 + v22), w20))
    · refine hz_aload_n (pc' := 92) (j := 2) dX10_finish_91 rfl rfl rfl ?_
      refine hz_iload_n (pc' := 93) (j := 5) dX10_finish_92 rfl rfl rfl ?_
      refine hz_iconst (pc' := 94) (v := 4) dX10_finish_93 rfl (by decide) ?_
      refine hz_cVi (pc' := 97) (av := [.int x3, .int 4]) (rest := [.int (3 + v2), .ref (B.1 + b12)]) vl_X10_211 (fun x w' h => ct_X10_ofJob hl h) ga0 rfl rfl (Nat.le_of_ble_eq_true rfl) (by decide) (by decide) rfl dX10_finish_94 rfl (fun v24 w23 => ?_)
      refine hz_goto (tgt := 114) dX10_finish_97 (by decide) ?_
      exact hz_loc [2, 1] rfl (hq15 (v24, w23))
def lp_X10_work_55 (c0 : Nat) (c1 : Int32) (c2 : Int32) (c3 : Int32) (c4 : Int32) : Nat → (Int32 × MW) → Option (MW)
  | 0, _ => none
  | N + 1, v0 => hz_ldp v0.2 c0 6 358 20 (fun b7 => hz_lda v0.2 b7 c1 (fun v8 => (if v8 ≤ v0.1 then some v0.2 else (if (v0.2.1 c0 29) = 0 then hz_b (f_X10_of c0 c1 (9 + v0.1) v0.2) (fun v10 w9 => Option.bind ((if v10 = (-1) then some w9 else hz_b (f_X10_ofJob c0 v10 6 w9) (fun v14 w13 => hz_ldp w13 c0 13 358 20 (fun b15 => hz_lda w13 b15 ((5 * c1) + c2) (fun v16 => hz_bv (f_X10_putJob c0 v10 6 (v14 - v16) w13) (fun w17 => hz_b (f_X10_ofJob c0 v10 6 w17) (fun v19 w18 => (if 0 < v19 then some w18 else hz_bv (f_X10_finish c0 c1 v0.1 v10 w18) (fun w20 => some w20))))))))) (fun q11 : MW => hz_let (v0.1 + Int32.ofInt 1) (fun v12 => lp_X10_work_55 c0 c1 c2 c3 c4 N (v12, q11)))) else some v0.2))))
def f_X10_work (a0 : Nat) (x1 : Int32) (w : MW) : Option (MW) :=
  hz_gd (hz_g 358 a0 11) (hz_b (f_X10_of a0 x1 3 w) (fun v2 w1 => hz_b (f_X10_busy a0 x1 w1) (fun v4 w3 => Option.bind ((if v4 ≤ 0 then some 0 else some 1)) (fun q5 : Int32 => Option.bind ((if (w3.1 a0 29) = 0 then hz_b (f_X10_powerAt a0 x1 v2 w3) (fun v43 w42 => some (v43, w42)) else hz_ldp w3 a0 6 358 20 (fun b44 => hz_lda w3 b44 x1 (fun v45 => hz_ldp w3 a0 9 358 20 (fun b46 => hz_lda w3 b46 x1 (fun v47 => some ((v45 * v47), w3))))))) (fun q6 : Int32 × MW => Option.bind (lp_X10_work_55 a0 x1 v2 q5 q6.1 3000 (0, q6.2)) (fun q8 : MW => hz_bv (f_X10_addTo a0 x1 4 q6.1 q8) (fun w9 => Option.bind ((if (w9.1 a0 29) = 0 then some 0 else some 1)) (fun q10 : Int32 => hz_bv (f_X10_addTo a0 x1 7 q10 w9) (fun w11 => Option.bind ((if q5 = 0 then some 0 else (if (w11.1 a0 29) = 0 then hz_ldp w11 a0 10 358 20 (fun b26 => hz_lda w11 b26 x1 (fun v27 => (if v2 ≤ v27 then some 0 else some 1))) else some 0))) (fun q12 : Int32 => Option.bind ((if q12 = 0 then hz_ldp w11 a0 11 358 20 (fun b20 => hz_lda w11 b20 x1 (fun v21 => hz_b (f_X10_of a0 x1 5 w11) (fun v23 w22 => some ((if (v23 + 1) < v21 then (v23 + 1) else v21), w22)))) else hz_b (f_X10_of a0 x1 5 w11) (fun v25 w24 => some ((v25 - 1), w24)))) (fun q13 : Int32 × MW => hz_bv (f_X10_put2 a0 x1 5 q13.1 q13.2) (fun w14 => hz_b (f_X10_heated a0 x1 q6.1 w14) (fun v16 w15 => hz_bv (f_X10_put2 a0 x1 2 v16 w15) (fun w17 => Option.bind ((if x1 = (w17.1 a0 32) then (if q5 = 0 then some w17 else hz_let (hz_pn w17 a0 30 (if (w17.1 a0 30) < v16 then v16 else (w17.1 a0 30))) (fun w19 => some w19)) else some w17)) (fun q18 : MW => some q18)))))))))))))))
set_option maxHeartbeats 4000000 in
set_option maxRecDepth 100000 in
theorem ct_X10_work {l : Launch} (hl : l.stackTraces = false) {B : Bt} {a0 : Nat} {x1 : Int32} {w : MW} {r : MW} (h : f_X10_work a0 x1 w = some r) : hz_Met l B false 358 358 yX10_work cX10_work 7 (Option.none : Option FieldType) 5 0 0 [.ref (B.1 + a0), .int x1] w none r := by
  refine hz_ofJ (rv := (fun _ : MW => none)) (wo := (fun r : MW => r)) (own := RX10) (ini := false) hl (by decide) rfl (Or.inr rfl) (Nat.le_of_ble_eq_true rfl) rfl ?_ h
  intro p e s m args below meth c
  unfold f_X10_work
  refine hz_gdr (fun ga0 => ?_)
  refine hz_aload_n (pc' := 1) (j := 0) dX10_work_0 rfl rfl rfl ?_
  refine hz_iload_n (pc' := 2) (j := 1) dX10_work_1 rfl rfl rfl ?_
  refine hz_iconst (pc' := 3) (v := 3) dX10_work_2 rfl (by decide) ?_
  refine hz_cVi (pc' := 6) (av := [.int x1, .int 3]) (rest := []) vl_X10_214 (fun x w' h => ct_X10_of hl h) ga0 rfl rfl (Nat.le_of_ble_eq_true rfl) (by decide) (by decide) rfl dX10_work_3 rfl (fun v2 w1 => ?_)
  refine hz_istore_n (pc' := 7) (L' := [(2, .int v2), (0, .ref (B.1 + a0)), (1, .int x1)]) dX10_work_6 rfl rfl (by decide) rfl ?_
  refine hz_aload_n (pc' := 8) (j := 1) dX10_work_7 rfl rfl rfl ?_
  refine hz_iload_n (pc' := 9) (j := 2) dX10_work_8 rfl rfl rfl ?_
  refine hz_cVi (pc' := 12) (av := [.int x1]) (rest := []) vl_X10_217 (fun x w' h => ct_X10_busy hl h) ga0 rfl rfl (Nat.le_of_ble_eq_true rfl) (by decide) (by decide) rfl dX10_work_9 rfl (fun v4 w3 => ?_)
  refine hz_bindJ (pcJ := 20) (LJ := fun q5 : Int32 => [(0, .ref (B.1 + a0)), (1, .int x1), (2, .int v2)]) (stJ := fun q5 : Int32 => [.int q5]) (kJ := 0) (slJ := 0) (nJ := 358) (wJ := fun q5 : Int32 => w3) (fun q5 => ?_) (fun hq5 => ?_)
  · refine hz_istore_n (pc' := 21) (L' := [(3, .int q5), (0, .ref (B.1 + a0)), (1, .int x1), (2, .int v2)]) dX10_work_20 rfl rfl (by decide) rfl ?_
    refine hz_aload_n (pc' := 22) (j := 1) dX10_work_21 rfl rfl rfl ?_
    refine hz_gI (pc' := 25) fl_X10_241.r ga0 rfl dX10_work_22 rfl ?_
    refine hz_bindJ (pcJ := 50) (LJ := fun q6 : Int32 × MW => [(0, .ref (B.1 + a0)), (1, .int x1), (2, .int v2), (3, .int q5)]) (stJ := fun q6 : Int32 × MW => [.int q6.1]) (kJ := 0) (slJ := 0) (nJ := 358) (wJ := fun q6 : Int32 × MW => q6.2) (fun q6 => ?_) (fun hq6 => ?_)
    · refine hz_istore (pc' := 52) (L' := [(4, .int q6.1), (0, .ref (B.1 + a0)), (1, .int x1), (2, .int v2), (3, .int q5)]) dX10_work_50 rfl (by decide) rfl ?_
      refine hz_iconst (pc' := 53) (v := 0) dX10_work_52 rfl (by decide) ?_
      refine hz_istore (pc' := 55) (L' := [(5, .int 0), (4, .int q6.1), (0, .ref (B.1 + a0)), (1, .int x1), (2, .int v2), (3, .int q5)]) dX10_work_53 rfl (by decide) rfl ?_
      refine hz_bindJ (pcJ := 144) (LJ := fun q8 : MW => [(0, .ref (B.1 + a0)), (1, .int x1), (2, .int v2), (3, .int q5), (4, .int q6.1)]) (stJ := fun _ => []) (kJ := 0) (slJ := 0) (nJ := 358) (wJ := fun q8 : MW => q8) (fun q8 => ?_) (fun hq8 => ?_)
      · refine hz_aload_n (pc' := 145) (j := 0) dX10_work_144 rfl rfl rfl ?_
        refine hz_iload_n (pc' := 146) (j := 1) dX10_work_145 rfl rfl rfl ?_
        refine hz_iconst (pc' := 147) (v := 4) dX10_work_146 rfl (by decide) ?_
        refine hz_iload (pc' := 149) (j := 4) dX10_work_147 rfl rfl ?_
        refine hz_cVv (pc' := 152) (av := [.int x1, .int 4, .int q6.1]) (rest := []) vl_X10_250 (fun w' h => ct_X10_addTo hl h) ga0 rfl rfl (Nat.le_of_ble_eq_true rfl) (by decide) (by decide) rfl dX10_work_149 rfl (fun w9 => ?_)
        refine hz_aload_n (pc' := 153) (j := 0) dX10_work_152 rfl rfl rfl ?_
        refine hz_iload_n (pc' := 154) (j := 1) dX10_work_153 rfl rfl rfl ?_
        refine hz_bipush (pc' := 156) (v := 7) dX10_work_154 rfl (by decide) ?_
        refine hz_aload_n (pc' := 157) (j := 0) dX10_work_156 rfl rfl rfl ?_
        refine hz_gI (pc' := 160) fl_X10_241.r ga0 rfl dX10_work_157 rfl ?_
        refine hz_bindJ (pcJ := 168) (LJ := fun q10 : Int32 => [(0, .ref (B.1 + a0)), (1, .int x1), (2, .int v2), (3, .int q5), (4, .int q6.1)]) (stJ := fun q10 : Int32 => [.int q10, .int 7, .int x1, .ref (B.1 + a0)]) (kJ := 0) (slJ := 0) (nJ := 358) (wJ := fun q10 : Int32 => w9) (fun q10 => ?_) (fun hq10 => ?_)
        · refine hz_cVv (pc' := 171) (av := [.int x1, .int 7, .int q10]) (rest := []) vl_X10_250 (fun w' h => ct_X10_addTo hl h) ga0 rfl rfl (Nat.le_of_ble_eq_true rfl) (by decide) (by decide) rfl dX10_work_168 rfl (fun w11 => ?_)
          refine hz_iload_n (pc' := 172) (j := 3) dX10_work_171 rfl rfl rfl ?_
          refine hz_bindJ (pcJ := 197) (LJ := fun q12 : Int32 => [(0, .ref (B.1 + a0)), (1, .int x1), (3, .int q5), (4, .int q6.1)]) (stJ := fun q12 : Int32 => [.int q12]) (kJ := 0) (slJ := 0) (nJ := 358) (wJ := fun q12 : Int32 => w11) (fun q12 => ?_) (fun hq12 => ?_)
          · refine hz_istore (pc' := 199) (L' := [(5, .int q12), (0, .ref (B.1 + a0)), (1, .int x1), (3, .int q5), (4, .int q6.1)]) dX10_work_197 rfl (by decide) rfl ?_
            refine hz_aload_n (pc' := 200) (j := 1) dX10_work_199 rfl rfl rfl ?_
            refine hz_iload_n (pc' := 201) (j := 2) dX10_work_200 rfl rfl rfl ?_
            refine hz_iconst (pc' := 202) (v := 5) dX10_work_201 rfl (by decide) ?_
            refine hz_iload (pc' := 204) (j := 0) dX10_work_202 rfl rfl ?_
            refine hz_bindJ (pcJ := 235) (LJ := fun q13 : Int32 × MW => [(0, .ref (B.1 + a0)), (1, .int x1), (3, .int q5), (4, .int q6.1)]) (stJ := fun q13 : Int32 × MW => [.int q13.1, .int 5, .int x1, .ref (B.1 + a0)]) (kJ := 0) (slJ := 0) (nJ := 358) (wJ := fun q13 : Int32 × MW => q13.2) (fun q13 => ?_) (fun hq13 => ?_)
            · refine hz_cVv (pc' := 238) (av := [.int x1, .int 5, .int q13.1]) (rest := []) vl_X10_203 (fun w' h => ct_X10_put2 hl h) ga0 rfl rfl (Nat.le_of_ble_eq_true rfl) (by decide) (by decide) rfl dX10_work_235 rfl (fun w14 => ?_)
              refine hz_aload_n (pc' := 239) (j := 0) dX10_work_238 rfl rfl rfl ?_
              refine hz_iload_n (pc' := 240) (j := 1) dX10_work_239 rfl rfl rfl ?_
              refine hz_iload (pc' := 242) (j := 3) dX10_work_240 rfl rfl ?_
              refine hz_cVi (pc' := 245) (av := [.int x1, .int q6.1]) (rest := []) vl_X10_247 (fun x w' h => ct_X10_heated hl h) ga0 rfl rfl (Nat.le_of_ble_eq_true rfl) (by decide) (by decide) rfl dX10_work_242 rfl (fun v16 w15 => ?_)
              refine hz_istore (pc' := 247) (L' := [(6, .int v16), (0, .ref (B.1 + a0)), (1, .int x1), (3, .int q5), (4, .int q6.1)]) dX10_work_245 rfl (by decide) rfl ?_
              refine hz_aload_n (pc' := 248) (j := 1) dX10_work_247 rfl rfl rfl ?_
              refine hz_iload_n (pc' := 249) (j := 2) dX10_work_248 rfl rfl rfl ?_
              refine hz_iconst (pc' := 250) (v := 2) dX10_work_249 rfl (by decide) ?_
              refine hz_iload (pc' := 252) (j := 0) dX10_work_250 rfl rfl ?_
              refine hz_cVv (pc' := 255) (av := [.int x1, .int 2, .int v16]) (rest := []) vl_X10_203 (fun w' h => ct_X10_put2 hl h) ga0 rfl rfl (Nat.le_of_ble_eq_true rfl) (by decide) (by decide) rfl dX10_work_252 rfl (fun w17 => ?_)
              refine hz_iload_n (pc' := 256) (j := 2) dX10_work_255 rfl rfl rfl ?_
              refine hz_aload_n (pc' := 257) (j := 1) dX10_work_256 rfl rfl rfl ?_
              refine hz_gI (pc' := 260) fl_X10_59.r ga0 rfl dX10_work_257 rfl ?_
              refine hz_bindJ (pcJ := 280) (LJ := fun q18 : MW => []) (stJ := fun q18 : MW => []) (kJ := 0) (slJ := 0) (nJ := 358) (wJ := fun q18 : MW => q18) (fun q18 => ?_) (fun hq18 => ?_)
              · exact hz_retv dX10_work_280 rfl (by decide)
              · refine hz_icmpne (pc' := 263) (tgt := 280) dX10_work_260 (by decide) rfl ?_ ?_
                · exact hz_loc [] rfl (hq18 w17)
                · refine hz_iload_n (pc' := 264) (j := 3) dX10_work_263 rfl rfl rfl ?_
                  refine hz_ifeq (pc' := 267) (tgt := 280) dX10_work_264 (by decide) rfl ?_ ?_
                  · exact hz_loc [] rfl (hq18 w17)
                  · refine hz_aload_n (pc' := 268) (j := 1) dX10_work_267 rfl rfl rfl ?_
                    refine hz_aload_n (pc' := 269) (j := 1) dX10_work_268 rfl rfl rfl ?_
                    refine hz_gI (pc' := 272) fl_X10_259.r ga0 rfl dX10_work_269 rfl ?_
                    refine hz_iload (pc' := 274) (j := 0) dX10_work_272 rfl rfl ?_
                    refine hz_mmax (pc' := 277) hq_1526 hq_824 hq_17 hq_825 ⟨Nat.le_of_ble_eq_true rfl, Nat.le_of_ble_eq_true rfl⟩ (by decide) dX10_work_274 rfl ?_
                    refine hz_putI (pc' := 280) fl_X10_259 ga0 rfl dX10_work_277 rfl (fun w19 => ?_)
                    exact hz_loc [] rfl (hq18 w19)
            · refine hz_ifeq (pc' := 207) (tgt := 218) dX10_work_204 (by decide) rfl ?_ ?_
              · refine hz_aload_n (pc' := 219) (j := 1) dX10_work_218 rfl rfl rfl ?_
                refine hz_gP (pc' := 222) (c' := 20) fl_X10_31.r ga0 rfl dX10_work_219 rfl (fun b20 gb20 => ?_)
                refine hz_iload_n (pc' := 223) (j := 2) dX10_work_222 rfl rfl rfl ?_
                refine hz_iald (pc' := 224) gb20 dX10_work_223 rfl (fun v21 => ?_)
                refine hz_aload_n (pc' := 225) (j := 1) dX10_work_224 rfl rfl rfl ?_
                refine hz_iload_n (pc' := 226) (j := 2) dX10_work_225 rfl rfl rfl ?_
                refine hz_iconst (pc' := 227) (v := 5) dX10_work_226 rfl (by decide) ?_
                refine hz_cVi (pc' := 230) (av := [.int x1, .int 5]) (rest := [.int v21, .int 5, .int x1, .ref (B.1 + a0)]) vl_X10_214 (fun x w' h => ct_X10_of hl h) ga0 rfl rfl (Nat.le_of_ble_eq_true rfl) (by decide) (by decide) rfl dX10_work_227 rfl (fun v23 w22 => ?_)
                refine hz_iconst (pc' := 231) (v := 1) dX10_work_230 rfl (by decide) ?_
                refine hz_iadd (pc' := 232) dX10_work_231 rfl ?_
                refine hz_mmin (pc' := 235) hq_1411 hq_422 hq_17 hq_423 ⟨Nat.le_of_ble_eq_true rfl, Nat.le_of_ble_eq_true rfl⟩ (by decide) dX10_work_232 rfl ?_
                exact hz_loc [1, 2, 3, 4] rfl (hq13 ((if (v23 + 1) < v21 then (v23 + 1) else v21), w22))
              · refine hz_aload_n (pc' := 208) (j := 1) dX10_work_207 rfl rfl rfl ?_
                refine hz_iload_n (pc' := 209) (j := 2) dX10_work_208 rfl rfl rfl ?_
                refine hz_iconst (pc' := 210) (v := 5) dX10_work_209 rfl (by decide) ?_
                refine hz_cVi (pc' := 213) (av := [.int x1, .int 5]) (rest := [.int 5, .int x1, .ref (B.1 + a0)]) vl_X10_214 (fun x w' h => ct_X10_of hl h) ga0 rfl rfl (Nat.le_of_ble_eq_true rfl) (by decide) (by decide) rfl dX10_work_210 rfl (fun v25 w24 => ?_)
                refine hz_iconst (pc' := 214) (v := 1) dX10_work_213 rfl (by decide) ?_
                refine hz_isub (pc' := 215) dX10_work_214 rfl ?_
                refine hz_goto (tgt := 235) dX10_work_215 (by decide) ?_
                exact hz_loc [1, 2, 3, 4] rfl (hq13 ((v25 - 1), w24))
          · refine hz_ifeq (pc' := 175) (tgt := 196) dX10_work_172 (by decide) rfl ?_ ?_
            · refine hz_iconst (pc' := 197) (v := 0) dX10_work_196 rfl (by decide) ?_
              exact hz_loc [0, 1, 3, 4] rfl (hq12 0)
            · refine hz_aload_n (pc' := 176) (j := 0) dX10_work_175 rfl rfl rfl ?_
              refine hz_gI (pc' := 179) fl_X10_241.r ga0 rfl dX10_work_176 rfl ?_
              refine hz_ifne (pc' := 182) (tgt := 196) dX10_work_179 (by decide) rfl ?_ ?_
              · refine hz_iconst (pc' := 197) (v := 0) dX10_work_196 rfl (by decide) ?_
                exact hz_loc [0, 1, 3, 4] rfl (hq12 0)
              · refine hz_iload_n (pc' := 183) (j := 2) dX10_work_182 rfl rfl rfl ?_
                refine hz_aload_n (pc' := 184) (j := 0) dX10_work_183 rfl rfl rfl ?_
                refine hz_gP (pc' := 187) (c' := 20) fl_X10_28.r ga0 rfl dX10_work_184 rfl (fun b26 gb26 => ?_)
                refine hz_iload_n (pc' := 188) (j := 1) dX10_work_187 rfl rfl rfl ?_
                refine hz_iald (pc' := 189) gb26 dX10_work_188 rfl (fun v27 => ?_)
                refine hz_icmple (pc' := 192) (tgt := 196) dX10_work_189 (by decide) rfl ?_ ?_
                · refine hz_iconst (pc' := 197) (v := 0) dX10_work_196 rfl (by decide) ?_
                  exact hz_loc [0, 1, 3, 4] rfl (hq12 0)
                · refine hz_iconst (pc' := 193) (v := 1) dX10_work_192 rfl (by decide) ?_
                  refine hz_goto (tgt := 197) dX10_work_193 (by decide) ?_
                  exact hz_loc [0, 1, 3, 4] rfl (hq12 1)
        · refine hz_ifeq (pc' := 163) (tgt := 167) dX10_work_160 (by decide) rfl ?_ ?_
          · refine hz_iconst (pc' := 168) (v := 0) dX10_work_167 rfl (by decide) ?_
            exact hz_loc [0, 1, 2, 3, 4] rfl (hq10 0)
          · refine hz_iconst (pc' := 164) (v := 1) dX10_work_163 rfl (by decide) ?_
            refine hz_goto (tgt := 168) dX10_work_164 (by decide) ?_
            exact hz_loc [0, 1, 2, 3, 4] rfl (hq10 1)
      · refine hz_loc [2, 3, 4, 5, 1, 0] rfl (hz_loopJ (lp := lp_X10_work_55 a0 x1 v2 q5 q6.1) (Lh := fun v7 : Int32 × MW => [(0, .ref (B.1 + a0)), (1, .int x1), (2, .int v2), (3, .int q5), (4, .int q6.1), (5, .int v7.1)]) (wh := fun v7 : Int32 × MW => v7.2) (fun _ => rfl) (fun Nv7 ihv7 v7 => ?_) 3000 (0, q6.2))
        rw [lp_X10_work_55]
        refine hz_iload (pc' := 57) (j := 5) dX10_work_55 rfl rfl ?_
        refine hz_aload_n (pc' := 58) (j := 0) dX10_work_57 rfl rfl rfl ?_
        refine hz_gP (pc' := 61) (c' := 20) fl_X10_16.r ga0 rfl dX10_work_58 rfl (fun b28 gb28 => ?_)
        refine hz_iload_n (pc' := 62) (j := 1) dX10_work_61 rfl rfl rfl ?_
        refine hz_iald (pc' := 63) gb28 dX10_work_62 rfl (fun v29 => ?_)
        refine hz_icmpge (pc' := 66) (tgt := 144) dX10_work_63 (by decide) rfl ?_ ?_
        · exact hz_loc [0, 1, 2, 3, 4] rfl (hq8 v7.2)
        · refine hz_aload_n (pc' := 67) (j := 0) dX10_work_66 rfl rfl rfl ?_
          refine hz_gI (pc' := 70) fl_X10_241.r ga0 rfl dX10_work_67 rfl ?_
          refine hz_ifne (pc' := 73) (tgt := 144) dX10_work_70 (by decide) rfl ?_ ?_
          · exact hz_loc [0, 1, 2, 3, 4] rfl (hq8 v7.2)
          · refine hz_aload_n (pc' := 74) (j := 0) dX10_work_73 rfl rfl rfl ?_
            refine hz_iload_n (pc' := 75) (j := 1) dX10_work_74 rfl rfl rfl ?_
            refine hz_bipush (pc' := 77) (v := 9) dX10_work_75 rfl (by decide) ?_
            refine hz_iload (pc' := 79) (j := 5) dX10_work_77 rfl rfl ?_
            refine hz_iadd (pc' := 80) dX10_work_79 rfl ?_
            refine hz_cVi (pc' := 83) (av := [.int x1, .int (9 + v7.1)]) (rest := []) vl_X10_214 (fun x w' h => ct_X10_of hl h) ga0 rfl rfl (Nat.le_of_ble_eq_true rfl) (by decide) (by decide) rfl dX10_work_80 rfl (fun v31 w30 => ?_)
            refine hz_istore (pc' := 85) (L' := [(6, .int v31), (0, .ref (B.1 + a0)), (1, .int x1), (2, .int v2), (3, .int q5), (4, .int q6.1), (5, .int v7.1)]) dX10_work_83 rfl (by decide) rfl ?_
            refine hz_iload (pc' := 87) (j := 0) dX10_work_85 rfl rfl ?_
            refine hz_iconst (pc' := 88) (v := (-1)) dX10_work_87 rfl (by decide) ?_
            refine hz_bindJ (pcJ := 138) (LJ := fun q32 : MW => [(0, .ref (B.1 + a0)), (1, .int x1), (2, .int v2), (3, .int q5), (4, .int q6.1), (5, .int v7.1)]) (stJ := fun q32 : MW => []) (kJ := 0) (slJ := 0) (nJ := 358) (wJ := fun q32 : MW => q32) (fun q32 => ?_) (fun hq32 => ?_)
            · refine hz_iincN (pc' := 141) (j := 5) (fun v33 => [(5, .int v33), (0, .ref (B.1 + a0)), (1, .int x1), (2, .int v2), (3, .int q5), (4, .int q6.1)]) dX10_work_138 rfl rfl (by decide) (fun _ => rfl) (fun v33 => ?_)
              refine hz_goto (tgt := 55) dX10_work_141 (by decide) ?_
              exact hz_loc [1, 2, 3, 4, 5, 0] rfl (ihv7 (v33, q32))
            · refine hz_icmpeq (pc' := 91) (tgt := 138) dX10_work_88 (by decide) rfl ?_ ?_
              · exact hz_loc [1, 2, 3, 4, 5, 6] rfl (hq32 w30)
              · refine hz_aload_n (pc' := 92) (j := 1) dX10_work_91 rfl rfl rfl ?_
                refine hz_iload (pc' := 94) (j := 0) dX10_work_92 rfl rfl ?_
                refine hz_bipush (pc' := 96) (v := 6) dX10_work_94 rfl (by decide) ?_
                refine hz_aload_n (pc' := 97) (j := 1) dX10_work_96 rfl rfl rfl ?_
                refine hz_iload (pc' := 99) (j := 0) dX10_work_97 rfl rfl ?_
                refine hz_bipush (pc' := 101) (v := 6) dX10_work_99 rfl (by decide) ?_
                refine hz_cVi (pc' := 104) (av := [.int v31, .int 6]) (rest := [.int 6, .int v31, .ref (B.1 + a0)]) vl_X10_211 (fun x w' h => ct_X10_ofJob hl h) ga0 rfl rfl (Nat.le_of_ble_eq_true rfl) (by decide) (by decide) rfl dX10_work_101 rfl (fun v35 w34 => ?_)
                refine hz_aload_n (pc' := 105) (j := 1) dX10_work_104 rfl rfl rfl ?_
                refine hz_gP (pc' := 108) (c' := 20) fl_X10_37.r ga0 rfl dX10_work_105 rfl (fun b36 gb36 => ?_)
                refine hz_iconst (pc' := 109) (v := 5) dX10_work_108 rfl (by decide) ?_
                refine hz_iload_n (pc' := 110) (j := 2) dX10_work_109 rfl rfl rfl ?_
                refine hz_imul (pc' := 111) dX10_work_110 rfl ?_
                refine hz_iload_n (pc' := 112) (j := 3) dX10_work_111 rfl rfl rfl ?_
                refine hz_iadd (pc' := 113) dX10_work_112 rfl ?_
                refine hz_iald (pc' := 114) gb36 dX10_work_113 rfl (fun v37 => ?_)
                refine hz_isub (pc' := 115) dX10_work_114 rfl ?_
                refine hz_cVv (pc' := 118) (av := [.int v31, .int 6, .int (v35 - v37)]) (rest := []) vl_X10_220 (fun w' h => ct_X10_putJob hl h) ga0 rfl rfl (Nat.le_of_ble_eq_true rfl) (by decide) (by decide) rfl dX10_work_115 rfl (fun w38 => ?_)
                refine hz_aload_n (pc' := 119) (j := 1) dX10_work_118 rfl rfl rfl ?_
                refine hz_iload (pc' := 121) (j := 0) dX10_work_119 rfl rfl ?_
                refine hz_bipush (pc' := 123) (v := 6) dX10_work_121 rfl (by decide) ?_
                refine hz_cVi (pc' := 126) (av := [.int v31, .int 6]) (rest := []) vl_X10_211 (fun x w' h => ct_X10_ofJob hl h) ga0 rfl rfl (Nat.le_of_ble_eq_true rfl) (by decide) (by decide) rfl dX10_work_123 rfl (fun v40 w39 => ?_)
                refine hz_ifgt (pc' := 129) (tgt := 138) dX10_work_126 (by decide) rfl ?_ ?_
                · exact hz_loc [1, 2, 3, 4, 5, 6] rfl (hq32 w39)
                · refine hz_aload_n (pc' := 130) (j := 1) dX10_work_129 rfl rfl rfl ?_
                  refine hz_iload_n (pc' := 131) (j := 2) dX10_work_130 rfl rfl rfl ?_
                  refine hz_iload (pc' := 133) (j := 6) dX10_work_131 rfl rfl ?_
                  refine hz_iload (pc' := 135) (j := 0) dX10_work_133 rfl rfl ?_
                  refine hz_cVv (pc' := 138) (av := [.int x1, .int v7.1, .int v31]) (rest := []) vl_X10_256 (fun w' h => ct_X10_finish hl h) ga0 rfl rfl (Nat.le_of_ble_eq_true rfl) (by decide) (by decide) rfl dX10_work_135 rfl (fun w41 => ?_)
                  exact hz_loc [1, 2, 3, 4, 5, 6] rfl (hq32 w41)
    · refine hz_ifeq (pc' := 28) (tgt := 44) dX10_work_25 (by decide) rfl ?_ ?_
      · refine hz_aload_n (pc' := 45) (j := 1) dX10_work_44 rfl rfl rfl ?_
        refine hz_iload_n (pc' := 46) (j := 2) dX10_work_45 rfl rfl rfl ?_
        refine hz_iload_n (pc' := 47) (j := 3) dX10_work_46 rfl rfl rfl ?_
        refine hz_cVi (pc' := 50) (av := [.int x1, .int v2]) (rest := []) vl_X10_244 (fun x w' h => ct_X10_powerAt hl h) ga0 rfl rfl (Nat.le_of_ble_eq_true rfl) (by decide) (by decide) rfl dX10_work_47 rfl (fun v43 w42 => ?_)
        exact hz_loc [1, 2, 3, 0] rfl (hq6 (v43, w42))
      · refine hz_aload_n (pc' := 29) (j := 1) dX10_work_28 rfl rfl rfl ?_
        refine hz_gP (pc' := 32) (c' := 20) fl_X10_16.r ga0 rfl dX10_work_29 rfl (fun b44 gb44 => ?_)
        refine hz_iload_n (pc' := 33) (j := 2) dX10_work_32 rfl rfl rfl ?_
        refine hz_iald (pc' := 34) gb44 dX10_work_33 rfl (fun v45 => ?_)
        refine hz_aload_n (pc' := 35) (j := 1) dX10_work_34 rfl rfl rfl ?_
        refine hz_gP (pc' := 38) (c' := 20) fl_X10_25.r ga0 rfl dX10_work_35 rfl (fun b46 gb46 => ?_)
        refine hz_iload_n (pc' := 39) (j := 2) dX10_work_38 rfl rfl rfl ?_
        refine hz_iald (pc' := 40) gb46 dX10_work_39 rfl (fun v47 => ?_)
        refine hz_imul (pc' := 41) dX10_work_40 rfl ?_
        refine hz_goto (tgt := 50) dX10_work_41 (by decide) ?_
        exact hz_loc [1, 2, 3, 0] rfl (hq6 ((v45 * v47), w3))
  · refine hz_ifle (pc' := 15) (tgt := 19) dX10_work_12 (by decide) rfl ?_ ?_
    · refine hz_iconst (pc' := 20) (v := 0) dX10_work_19 rfl (by decide) ?_
      exact hz_loc [1, 2, 0] rfl (hq5 0)
    · refine hz_iconst (pc' := 16) (v := 1) dX10_work_15 rfl (by decide) ?_
      refine hz_goto (tgt := 20) dX10_work_16 (by decide) ?_
      exact hz_loc [1, 2, 0] rfl (hq5 1)
def lp_X10_tickOnce_2 (c0 : Nat) : Nat → (Int32 × MW) → Option (MW)
  | 0, _ => none
  | N + 1, v0 => (if (v0.2.1 c0 5) ≤ v0.1 then some v0.2 else hz_b (f_X10_busy c0 v0.1 v0.2) (fun v2 w1 => Option.bind ((if v2 ≤ 0 then some 0 else some 1)) (fun q3 : Int32 => hz_bv (f_X10_release c0 v0.1 w1) (fun w4 => hz_bv (f_X10_assign c0 v0.1 w4) (fun w5 => Option.bind ((if q3 = 0 then hz_b (f_X10_busy c0 v0.1 w5) (fun v12 w11 => (if v12 ≤ 0 then some (0, w11) else some (1, w11))) else some (0, w5))) (fun q6 : Int32 × MW => hz_bv (f_X10_addTo c0 v0.1 8 q6.1 q6.2) (fun w7 => hz_bv (f_X10_chooseLevel c0 v0.1 w7) (fun w8 => hz_bv (f_X10_work c0 v0.1 w8) (fun w9 => hz_let (v0.1 + Int32.ofInt 1) (fun v10 => lp_X10_tickOnce_2 c0 N (v10, w9)))))))))))
def f_X10_tickOnce (a0 : Nat) (w : MW) : Option (MW) :=
  hz_gd (hz_g 358 a0 11) (Option.bind (lp_X10_tickOnce_2 a0 3000 (0, w)) (fun q2 : MW => hz_ldp q2 a0 0 358 20 (fun b3 => hz_lda q2 b3 0 (fun v4 => hz_sta q2 b3 0 (v4 + 1) (fun w5 => some w5)))))
set_option maxHeartbeats 4000000 in
set_option maxRecDepth 100000 in
theorem ct_X10_tickOnce {l : Launch} (hl : l.stackTraces = false) {B : Bt} {a0 : Nat} {w : MW} {r : MW} (h : f_X10_tickOnce a0 w = some r) : hz_Met l B false 358 358 yX10_tickOnce cX10_tickOnce 3 (Option.none : Option FieldType) 6 0 0 [.ref (B.1 + a0)] w none r := by
  refine hz_ofJ (rv := (fun _ : MW => none)) (wo := (fun r : MW => r)) (own := RX10) (ini := false) hl (by decide) rfl (Or.inr rfl) (Nat.le_of_ble_eq_true rfl) rfl ?_ h
  intro p e s m args below meth c
  unfold f_X10_tickOnce
  refine hz_gdr (fun ga0 => ?_)
  refine hz_iconst (pc' := 1) (v := 0) dX10_tickOnce_0 rfl (by decide) ?_
  refine hz_istore_n (pc' := 2) (L' := [(1, .int 0), (0, .ref (B.1 + a0))]) dX10_tickOnce_1 rfl rfl (by decide) rfl ?_
  refine hz_bindJ (pcJ := 74) (LJ := fun q2 : MW => [(0, .ref (B.1 + a0))]) (stJ := fun _ => []) (kJ := 0) (slJ := 0) (nJ := 358) (wJ := fun q2 : MW => q2) (fun q2 => ?_) (fun hq2 => ?_)
  · refine hz_aload_n (pc' := 75) (j := 0) dX10_tickOnce_74 rfl rfl rfl ?_
    refine hz_gP (pc' := 78) (c' := 20) fl_X10_7.r ga0 rfl dX10_tickOnce_75 rfl (fun b3 gb3 => ?_)
    refine hz_iconst (pc' := 79) (v := 0) dX10_tickOnce_78 rfl (by decide) ?_
    refine hz_dup2 (pc' := 80) dX10_tickOnce_79 rfl rfl rfl ?_
    refine hz_iald (pc' := 81) gb3 dX10_tickOnce_80 rfl (fun v4 => ?_)
    refine hz_iconst (pc' := 82) (v := 1) dX10_tickOnce_81 rfl (by decide) ?_
    refine hz_iadd (pc' := 83) dX10_tickOnce_82 rfl ?_
    refine hz_iast (pc' := 84) gb3 dX10_tickOnce_83 rfl (fun w5 => ?_)
    exact hz_retv dX10_tickOnce_84 rfl (by decide)
  · refine hz_loc [1, 0] rfl (hz_loopJ (lp := lp_X10_tickOnce_2 a0) (Lh := fun v1 : Int32 × MW => [(0, .ref (B.1 + a0)), (1, .int v1.1)]) (wh := fun v1 : Int32 × MW => v1.2) (fun _ => rfl) (fun Nv1 ihv1 v1 => ?_) 3000 (0, w))
    rw [lp_X10_tickOnce_2]
    refine hz_iload_n (pc' := 3) (j := 1) dX10_tickOnce_2 rfl rfl rfl ?_
    refine hz_aload_n (pc' := 4) (j := 0) dX10_tickOnce_3 rfl rfl rfl ?_
    refine hz_gI (pc' := 7) fl_X10_193.r ga0 rfl dX10_tickOnce_4 rfl ?_
    refine hz_icmpge (pc' := 10) (tgt := 74) dX10_tickOnce_7 (by decide) rfl ?_ ?_
    · exact hz_loc [0] rfl (hq2 v1.2)
    · refine hz_aload_n (pc' := 11) (j := 0) dX10_tickOnce_10 rfl rfl rfl ?_
      refine hz_iload_n (pc' := 12) (j := 1) dX10_tickOnce_11 rfl rfl rfl ?_
      refine hz_cVi (pc' := 15) (av := [.int v1.1]) (rest := []) vl_X10_217 (fun x w' h => ct_X10_busy hl h) ga0 rfl rfl (Nat.le_of_ble_eq_true rfl) (by decide) (by decide) rfl dX10_tickOnce_12 rfl (fun v7 w6 => ?_)
      refine hz_bindJ (pcJ := 23) (LJ := fun q8 : Int32 => [(0, .ref (B.1 + a0)), (1, .int v1.1)]) (stJ := fun q8 : Int32 => [.int q8]) (kJ := 0) (slJ := 0) (nJ := 358) (wJ := fun q8 : Int32 => w6) (fun q8 => ?_) (fun hq8 => ?_)
      · refine hz_istore_n (pc' := 24) (L' := [(2, .int q8), (0, .ref (B.1 + a0)), (1, .int v1.1)]) dX10_tickOnce_23 rfl rfl (by decide) rfl ?_
        refine hz_aload_n (pc' := 25) (j := 1) dX10_tickOnce_24 rfl rfl rfl ?_
        refine hz_iload_n (pc' := 26) (j := 2) dX10_tickOnce_25 rfl rfl rfl ?_
        refine hz_cVv (pc' := 29) (av := [.int v1.1]) (rest := []) vl_X10_262 (fun w' h => ct_X10_release hl h) ga0 rfl rfl (Nat.le_of_ble_eq_true rfl) (by decide) (by decide) rfl dX10_tickOnce_26 rfl (fun w9 => ?_)
        refine hz_aload_n (pc' := 30) (j := 1) dX10_tickOnce_29 rfl rfl rfl ?_
        refine hz_iload_n (pc' := 31) (j := 2) dX10_tickOnce_30 rfl rfl rfl ?_
        refine hz_cVv (pc' := 34) (av := [.int v1.1]) (rest := []) vl_X10_265 (fun w' h => ct_X10_assign hl h) ga0 rfl rfl (Nat.le_of_ble_eq_true rfl) (by decide) (by decide) rfl dX10_tickOnce_31 rfl (fun w10 => ?_)
        refine hz_aload_n (pc' := 35) (j := 1) dX10_tickOnce_34 rfl rfl rfl ?_
        refine hz_iload_n (pc' := 36) (j := 2) dX10_tickOnce_35 rfl rfl rfl ?_
        refine hz_bipush (pc' := 38) (v := 8) dX10_tickOnce_36 rfl (by decide) ?_
        refine hz_iload_n (pc' := 39) (j := 0) dX10_tickOnce_38 rfl rfl rfl ?_
        refine hz_bindJ (pcJ := 55) (LJ := fun q11 : Int32 × MW => [(0, .ref (B.1 + a0)), (1, .int v1.1)]) (stJ := fun q11 : Int32 × MW => [.int q11.1, .int 8, .int v1.1, .ref (B.1 + a0)]) (kJ := 0) (slJ := 0) (nJ := 358) (wJ := fun q11 : Int32 × MW => q11.2) (fun q11 => ?_) (fun hq11 => ?_)
        · refine hz_cVv (pc' := 58) (av := [.int v1.1, .int 8, .int q11.1]) (rest := []) vl_X10_250 (fun w' h => ct_X10_addTo hl h) ga0 rfl rfl (Nat.le_of_ble_eq_true rfl) (by decide) (by decide) rfl dX10_tickOnce_55 rfl (fun w12 => ?_)
          refine hz_aload_n (pc' := 59) (j := 0) dX10_tickOnce_58 rfl rfl rfl ?_
          refine hz_iload_n (pc' := 60) (j := 1) dX10_tickOnce_59 rfl rfl rfl ?_
          refine hz_cVv (pc' := 63) (av := [.int v1.1]) (rest := []) vl_X10_268 (fun w' h => ct_X10_chooseLevel hl h) ga0 rfl rfl (Nat.le_of_ble_eq_true rfl) (by decide) (by decide) rfl dX10_tickOnce_60 rfl (fun w13 => ?_)
          refine hz_aload_n (pc' := 64) (j := 0) dX10_tickOnce_63 rfl rfl rfl ?_
          refine hz_iload_n (pc' := 65) (j := 1) dX10_tickOnce_64 rfl rfl rfl ?_
          refine hz_cVv (pc' := 68) (av := [.int v1.1]) (rest := []) vl_X10_271 (fun w' h => ct_X10_work hl h) ga0 rfl rfl (Nat.le_of_ble_eq_true rfl) (by decide) (by decide) rfl dX10_tickOnce_65 rfl (fun w14 => ?_)
          refine hz_iincN (pc' := 71) (j := 1) (fun v15 => [(1, .int v15), (0, .ref (B.1 + a0))]) dX10_tickOnce_68 rfl rfl (by decide) (fun _ => rfl) (fun v15 => ?_)
          refine hz_goto (tgt := 2) dX10_tickOnce_71 (by decide) ?_
          exact hz_loc [1, 0] rfl (ihv1 (v15, w14))
        · refine hz_ifne (pc' := 42) (tgt := 54) dX10_tickOnce_39 (by decide) rfl ?_ ?_
          · refine hz_iconst (pc' := 55) (v := 0) dX10_tickOnce_54 rfl (by decide) ?_
            exact hz_loc [1, 2] rfl (hq11 (0, w10))
          · refine hz_aload_n (pc' := 43) (j := 1) dX10_tickOnce_42 rfl rfl rfl ?_
            refine hz_iload_n (pc' := 44) (j := 2) dX10_tickOnce_43 rfl rfl rfl ?_
            refine hz_cVi (pc' := 47) (av := [.int v1.1]) (rest := [.int 8, .int v1.1, .ref (B.1 + a0)]) vl_X10_217 (fun x w' h => ct_X10_busy hl h) ga0 rfl rfl (Nat.le_of_ble_eq_true rfl) (by decide) (by decide) rfl dX10_tickOnce_44 rfl (fun v17 w16 => ?_)
            refine hz_ifle (pc' := 50) (tgt := 54) dX10_tickOnce_47 (by decide) rfl ?_ ?_
            · refine hz_iconst (pc' := 55) (v := 0) dX10_tickOnce_54 rfl (by decide) ?_
              exact hz_loc [1, 2] rfl (hq11 (0, w16))
            · refine hz_iconst (pc' := 51) (v := 1) dX10_tickOnce_50 rfl (by decide) ?_
              refine hz_goto (tgt := 55) dX10_tickOnce_51 (by decide) ?_
              exact hz_loc [1, 2] rfl (hq11 (1, w16))
      · refine hz_ifle (pc' := 18) (tgt := 22) dX10_tickOnce_15 (by decide) rfl ?_ ?_
        · refine hz_iconst (pc' := 23) (v := 0) dX10_tickOnce_22 rfl (by decide) ?_
          exact hz_loc [0, 1] rfl (hq8 0)
        · refine hz_iconst (pc' := 19) (v := 1) dX10_tickOnce_18 rfl (by decide) ?_
          refine hz_goto (tgt := 23) dX10_tickOnce_19 (by decide) ?_
          exact hz_loc [0, 1] rfl (hq8 1)
def f_X10_addJob (a0 : Nat) (x1 : Int32) (x2 : Int32) (x3 : Int32) (x4 : Int32) (x5 : Int32) (x6 : Int32) (w : MW) : Option (Int32 × MW) :=
  hz_gd (hz_g 358 a0 11) (hz_b (f_X10_isDomain a0 x1 w) (fun v2 w1 => Option.bind ((if v2 = 0 then some (0, w1) else hz_b (f_X10_isIn (Int32.toInt64 x2) 0 7 w1) (fun v28 w27 => (if v28 = 0 then some (0, w27) else hz_b (f_X10_isIn (Int32.toInt64 x3) 0 999 w27) (fun v30 w29 => (if v30 = 0 then some (0, w29) else hz_b (f_X10_isIn (Int32.toInt64 x4) 0 999 w29) (fun v32 w31 => (if v32 = 0 then some (0, w31) else hz_b (f_X10_isIn (Int32.toInt64 x5) 1 9999 w31) (fun v34 w33 => (if v34 = 0 then some (0, w33) else hz_b (f_X10_isIn (Int32.toInt64 x6) 1 9999 w33) (fun v36 w35 => (if v36 = 0 then some (0, w35) else some (1, w35))))))))))))) (fun q3 : Int32 × MW => hz_b (f_X10_isWrong a0 q3.1 q3.2) (fun v5 w4 => (if v5 = 0 then hz_ldp w4 a0 0 358 20 (fun b6 => hz_lda w4 b6 2 (fun v7 => (if v7 = 24 then some ((-2), w4) else hz_bv (f_X10_remember a0 w4) (fun w8 => hz_ldp w8 a0 0 358 20 (fun b9 => hz_lda w8 b9 2 (fun v10 => hz_ldp w8 a0 0 358 20 (fun b11 => hz_lda w8 b11 2 (fun v12 => hz_sta w8 b11 2 (v12 + 1) (fun w13 => hz_bv (f_X10_putJob a0 v10 0 x1 w13) (fun w14 => hz_bv (f_X10_putJob a0 v10 1 x2 w14) (fun w15 => hz_ldp w15 a0 0 358 20 (fun b16 => hz_lda w15 b16 0 (fun v17 => hz_bv (f_X10_putJob a0 v10 2 (v17 + x3) w15) (fun w18 => hz_bv (f_X10_putJob a0 v10 3 x4 w18) (fun w19 => hz_bv (f_X10_putJob a0 v10 4 x5 w19) (fun w20 => hz_ldp w20 a0 0 358 20 (fun b21 => hz_lda w20 b21 0 (fun v22 => hz_bv (f_X10_putJob a0 v10 5 ((v22 + x3) + x6) w20) (fun w23 => hz_bv (f_X10_putJob a0 v10 6 x5 w23) (fun w24 => hz_bv (f_X10_putJob a0 v10 7 0 w24) (fun w25 => hz_bv (f_X10_putJob a0 v10 8 0 w25) (fun w26 => some (v10, w26))))))))))))))))))))))) else some (0, w4))))))
set_option maxHeartbeats 4000000 in
set_option maxRecDepth 100000 in
theorem ct_X10_addJob {l : Launch} (hl : l.stackTraces = false) {B : Bt} {a0 : Nat} {x1 : Int32} {x2 : Int32} {x3 : Int32} {x4 : Int32} {x5 : Int32} {x6 : Int32} {w : MW} {r : Int32 × MW} (h : f_X10_addJob a0 x1 x2 x3 x4 x5 x6 w = some r) : hz_Met l B false 358 358 yX10_addJob cX10_addJob 8 (Option.some FieldType.int) 4 0 0 [.ref (B.1 + a0), .int x1, .int x2, .int x3, .int x4, .int x5, .int x6] w (some (.int r.1)) r.2 := by
  refine hz_ofJ (rv := (fun r : Int32 × MW => some (.int r.1))) (wo := (fun r : Int32 × MW => r.2)) (own := RX10) (ini := false) hl (by decide) rfl (Or.inr rfl) (Nat.le_of_ble_eq_true rfl) rfl ?_ h
  intro p e s m args below meth c
  unfold f_X10_addJob
  refine hz_gdr (fun ga0 => ?_)
  refine hz_aload_n (pc' := 1) (j := 0) dX10_addJob_0 rfl rfl rfl ?_
  refine hz_aload_n (pc' := 2) (j := 0) dX10_addJob_1 rfl rfl rfl ?_
  refine hz_iload_n (pc' := 3) (j := 1) dX10_addJob_2 rfl rfl rfl ?_
  refine hz_cVi (pc' := 6) (av := [.int x1]) (rest := [.ref (B.1 + a0)]) vl_X10_274 (fun x w' h => ct_X10_isDomain hl h) ga0 rfl rfl (Nat.le_of_ble_eq_true rfl) (by decide) (by decide) rfl dX10_addJob_3 rfl (fun v2 w1 => ?_)
  refine hz_bindJ (pcJ := 77) (LJ := fun q3 : Int32 × MW => [(0, .ref (B.1 + a0)), (1, .int x1), (2, .int x2), (3, .int x3), (4, .int x4), (5, .int x5), (6, .int x6)]) (stJ := fun q3 : Int32 × MW => [.int q3.1, .ref (B.1 + a0)]) (kJ := 0) (slJ := 0) (nJ := 358) (wJ := fun q3 : Int32 × MW => q3.2) (fun q3 => ?_) (fun hq3 => ?_)
  · refine hz_cVi (pc' := 80) (av := [.int q3.1]) (rest := []) vl_X10_207 (fun x w' h => ct_X10_isWrong hl h) ga0 rfl rfl (Nat.le_of_ble_eq_true rfl) (by decide) (by decide) rfl dX10_addJob_77 rfl (fun v5 w4 => ?_)
    refine hz_ifeq (pc' := 83) (tgt := 85) dX10_addJob_80 (by decide) rfl ?_ ?_
    · refine hz_aload_n (pc' := 86) (j := 0) dX10_addJob_85 rfl rfl rfl ?_
      refine hz_gP (pc' := 89) (c' := 20) fl_X10_7.r ga0 rfl dX10_addJob_86 rfl (fun b6 gb6 => ?_)
      refine hz_iconst (pc' := 90) (v := 2) dX10_addJob_89 rfl (by decide) ?_
      refine hz_iald (pc' := 91) gb6 dX10_addJob_90 rfl (fun v7 => ?_)
      refine hz_bipush (pc' := 93) (v := 24) dX10_addJob_91 rfl (by decide) ?_
      refine hz_icmpne (pc' := 96) (tgt := 99) dX10_addJob_93 (by decide) rfl ?_ ?_
      · refine hz_aload_n (pc' := 100) (j := 0) dX10_addJob_99 rfl rfl rfl ?_
        refine hz_cVv (pc' := 103) (av := []) (rest := []) vl_X10_283 (fun w' h => ct_X10_remember hl h) ga0 rfl rfl (Nat.le_of_ble_eq_true rfl) (by decide) (by decide) rfl dX10_addJob_100 rfl (fun w8 => ?_)
        refine hz_aload_n (pc' := 104) (j := 0) dX10_addJob_103 rfl rfl rfl ?_
        refine hz_gP (pc' := 107) (c' := 20) fl_X10_7.r ga0 rfl dX10_addJob_104 rfl (fun b9 gb9 => ?_)
        refine hz_iconst (pc' := 108) (v := 2) dX10_addJob_107 rfl (by decide) ?_
        refine hz_iald (pc' := 109) gb9 dX10_addJob_108 rfl (fun v10 => ?_)
        refine hz_istore (pc' := 111) (L' := [(7, .int v10), (0, .ref (B.1 + a0)), (1, .int x1), (2, .int x2), (3, .int x3), (4, .int x4), (5, .int x5), (6, .int x6)]) dX10_addJob_109 rfl (by decide) rfl ?_
        refine hz_aload_n (pc' := 112) (j := 1) dX10_addJob_111 rfl rfl rfl ?_
        refine hz_gP (pc' := 115) (c' := 20) fl_X10_7.r ga0 rfl dX10_addJob_112 rfl (fun b11 gb11 => ?_)
        refine hz_iconst (pc' := 116) (v := 2) dX10_addJob_115 rfl (by decide) ?_
        refine hz_dup2 (pc' := 117) dX10_addJob_116 rfl rfl rfl ?_
        refine hz_iald (pc' := 118) gb11 dX10_addJob_117 rfl (fun v12 => ?_)
        refine hz_iconst (pc' := 119) (v := 1) dX10_addJob_118 rfl (by decide) ?_
        refine hz_iadd (pc' := 120) dX10_addJob_119 rfl ?_
        refine hz_iast (pc' := 121) gb11 dX10_addJob_120 rfl (fun w13 => ?_)
        refine hz_aload_n (pc' := 122) (j := 1) dX10_addJob_121 rfl rfl rfl ?_
        refine hz_iload (pc' := 124) (j := 0) dX10_addJob_122 rfl rfl ?_
        refine hz_iconst (pc' := 125) (v := 0) dX10_addJob_124 rfl (by decide) ?_
        refine hz_iload_n (pc' := 126) (j := 2) dX10_addJob_125 rfl rfl rfl ?_
        refine hz_cVv (pc' := 129) (av := [.int v10, .int 0, .int x1]) (rest := []) vl_X10_220 (fun w' h => ct_X10_putJob hl h) ga0 rfl rfl (Nat.le_of_ble_eq_true rfl) (by decide) (by decide) rfl dX10_addJob_126 rfl (fun w14 => ?_)
        refine hz_aload_n (pc' := 130) (j := 1) dX10_addJob_129 rfl rfl rfl ?_
        refine hz_iload (pc' := 132) (j := 0) dX10_addJob_130 rfl rfl ?_
        refine hz_iconst (pc' := 133) (v := 1) dX10_addJob_132 rfl (by decide) ?_
        refine hz_iload_n (pc' := 134) (j := 3) dX10_addJob_133 rfl rfl rfl ?_
        refine hz_cVv (pc' := 137) (av := [.int v10, .int 1, .int x2]) (rest := []) vl_X10_220 (fun w' h => ct_X10_putJob hl h) ga0 rfl rfl (Nat.le_of_ble_eq_true rfl) (by decide) (by decide) rfl dX10_addJob_134 rfl (fun w15 => ?_)
        refine hz_aload_n (pc' := 138) (j := 1) dX10_addJob_137 rfl rfl rfl ?_
        refine hz_iload (pc' := 140) (j := 0) dX10_addJob_138 rfl rfl ?_
        refine hz_iconst (pc' := 141) (v := 2) dX10_addJob_140 rfl (by decide) ?_
        refine hz_aload_n (pc' := 142) (j := 1) dX10_addJob_141 rfl rfl rfl ?_
        refine hz_gP (pc' := 145) (c' := 20) fl_X10_7.r ga0 rfl dX10_addJob_142 rfl (fun b16 gb16 => ?_)
        refine hz_iconst (pc' := 146) (v := 0) dX10_addJob_145 rfl (by decide) ?_
        refine hz_iald (pc' := 147) gb16 dX10_addJob_146 rfl (fun v17 => ?_)
        refine hz_iload_n (pc' := 148) (j := 4) dX10_addJob_147 rfl rfl rfl ?_
        refine hz_iadd (pc' := 149) dX10_addJob_148 rfl ?_
        refine hz_cVv (pc' := 152) (av := [.int v10, .int 2, .int (v17 + x3)]) (rest := []) vl_X10_220 (fun w' h => ct_X10_putJob hl h) ga0 rfl rfl (Nat.le_of_ble_eq_true rfl) (by decide) (by decide) rfl dX10_addJob_149 rfl (fun w18 => ?_)
        refine hz_aload_n (pc' := 153) (j := 1) dX10_addJob_152 rfl rfl rfl ?_
        refine hz_iload (pc' := 155) (j := 0) dX10_addJob_153 rfl rfl ?_
        refine hz_iconst (pc' := 156) (v := 3) dX10_addJob_155 rfl (by decide) ?_
        refine hz_iload (pc' := 158) (j := 5) dX10_addJob_156 rfl rfl ?_
        refine hz_cVv (pc' := 161) (av := [.int v10, .int 3, .int x4]) (rest := []) vl_X10_220 (fun w' h => ct_X10_putJob hl h) ga0 rfl rfl (Nat.le_of_ble_eq_true rfl) (by decide) (by decide) rfl dX10_addJob_158 rfl (fun w19 => ?_)
        refine hz_aload_n (pc' := 162) (j := 1) dX10_addJob_161 rfl rfl rfl ?_
        refine hz_iload (pc' := 164) (j := 0) dX10_addJob_162 rfl rfl ?_
        refine hz_iconst (pc' := 165) (v := 4) dX10_addJob_164 rfl (by decide) ?_
        refine hz_iload (pc' := 167) (j := 6) dX10_addJob_165 rfl rfl ?_
        refine hz_cVv (pc' := 170) (av := [.int v10, .int 4, .int x5]) (rest := []) vl_X10_220 (fun w' h => ct_X10_putJob hl h) ga0 rfl rfl (Nat.le_of_ble_eq_true rfl) (by decide) (by decide) rfl dX10_addJob_167 rfl (fun w20 => ?_)
        refine hz_aload_n (pc' := 171) (j := 1) dX10_addJob_170 rfl rfl rfl ?_
        refine hz_iload (pc' := 173) (j := 0) dX10_addJob_171 rfl rfl ?_
        refine hz_iconst (pc' := 174) (v := 5) dX10_addJob_173 rfl (by decide) ?_
        refine hz_aload_n (pc' := 175) (j := 1) dX10_addJob_174 rfl rfl rfl ?_
        refine hz_gP (pc' := 178) (c' := 20) fl_X10_7.r ga0 rfl dX10_addJob_175 rfl (fun b21 gb21 => ?_)
        refine hz_iconst (pc' := 179) (v := 0) dX10_addJob_178 rfl (by decide) ?_
        refine hz_iald (pc' := 180) gb21 dX10_addJob_179 rfl (fun v22 => ?_)
        refine hz_iload_n (pc' := 181) (j := 4) dX10_addJob_180 rfl rfl rfl ?_
        refine hz_iadd (pc' := 182) dX10_addJob_181 rfl ?_
        refine hz_iload (pc' := 184) (j := 7) dX10_addJob_182 rfl rfl ?_
        refine hz_iadd (pc' := 185) dX10_addJob_184 rfl ?_
        refine hz_cVv (pc' := 188) (av := [.int v10, .int 5, .int ((v22 + x3) + x6)]) (rest := []) vl_X10_220 (fun w' h => ct_X10_putJob hl h) ga0 rfl rfl (Nat.le_of_ble_eq_true rfl) (by decide) (by decide) rfl dX10_addJob_185 rfl (fun w23 => ?_)
        refine hz_aload_n (pc' := 189) (j := 1) dX10_addJob_188 rfl rfl rfl ?_
        refine hz_iload (pc' := 191) (j := 0) dX10_addJob_189 rfl rfl ?_
        refine hz_bipush (pc' := 193) (v := 6) dX10_addJob_191 rfl (by decide) ?_
        refine hz_iload (pc' := 195) (j := 6) dX10_addJob_193 rfl rfl ?_
        refine hz_cVv (pc' := 198) (av := [.int v10, .int 6, .int x5]) (rest := []) vl_X10_220 (fun w' h => ct_X10_putJob hl h) ga0 rfl rfl (Nat.le_of_ble_eq_true rfl) (by decide) (by decide) rfl dX10_addJob_195 rfl (fun w24 => ?_)
        refine hz_aload_n (pc' := 199) (j := 1) dX10_addJob_198 rfl rfl rfl ?_
        refine hz_iload (pc' := 201) (j := 0) dX10_addJob_199 rfl rfl ?_
        refine hz_bipush (pc' := 203) (v := 7) dX10_addJob_201 rfl (by decide) ?_
        refine hz_iconst (pc' := 204) (v := 0) dX10_addJob_203 rfl (by decide) ?_
        refine hz_cVv (pc' := 207) (av := [.int v10, .int 7, .int 0]) (rest := []) vl_X10_220 (fun w' h => ct_X10_putJob hl h) ga0 rfl rfl (Nat.le_of_ble_eq_true rfl) (by decide) (by decide) rfl dX10_addJob_204 rfl (fun w25 => ?_)
        refine hz_aload_n (pc' := 208) (j := 1) dX10_addJob_207 rfl rfl rfl ?_
        refine hz_iload (pc' := 210) (j := 0) dX10_addJob_208 rfl rfl ?_
        refine hz_bipush (pc' := 212) (v := 8) dX10_addJob_210 rfl (by decide) ?_
        refine hz_iconst (pc' := 213) (v := 0) dX10_addJob_212 rfl (by decide) ?_
        refine hz_cVv (pc' := 216) (av := [.int v10, .int 8, .int 0]) (rest := []) vl_X10_220 (fun w' h => ct_X10_putJob hl h) ga0 rfl rfl (Nat.le_of_ble_eq_true rfl) (by decide) (by decide) rfl dX10_addJob_213 rfl (fun w26 => ?_)
        refine hz_iload (pc' := 218) (j := 0) dX10_addJob_216 rfl rfl ?_
        exact hz_reti dX10_addJob_218 rfl (by decide)
      · refine hz_bipush (pc' := 98) (v := (-2)) dX10_addJob_96 rfl (by decide) ?_
        exact hz_reti dX10_addJob_98 rfl (by decide)
    · refine hz_iconst (pc' := 84) (v := 0) dX10_addJob_83 rfl (by decide) ?_
      exact hz_reti dX10_addJob_84 rfl (by decide)
  · refine hz_ifeq (pc' := 9) (tgt := 76) dX10_addJob_6 (by decide) rfl ?_ ?_
    · refine hz_iconst (pc' := 77) (v := 0) dX10_addJob_76 rfl (by decide) ?_
      exact hz_loc [0, 1, 2, 3, 4, 5, 6] rfl (hq3 (0, w1))
    · refine hz_iload_n (pc' := 10) (j := 2) dX10_addJob_9 rfl rfl rfl ?_
      refine hz_i2l (pc' := 11) dX10_addJob_10 rfl ?_
      refine hz_lconst (pc' := 12) (v := 0) dX10_addJob_11 rfl (by decide) ?_
      refine hz_ldc2 (pc' := 15) (v := 7) dX10_addJob_12 rfl hq_1436 ?_
      refine hz_cSi (pc' := 18) (av := [.long (Int32.toInt64 x2), .long 0, .long 7]) (rest := [.ref (B.1 + a0)]) sl_X10_88 (fun x w' h => ct_X10_isIn hl h) rfl rfl (Nat.le_of_ble_eq_true rfl) (by decide) (by decide) rfl dX10_addJob_15 rfl (fun v28 w27 => ?_)
      refine hz_ifeq (pc' := 21) (tgt := 76) dX10_addJob_18 (by decide) rfl ?_ ?_
      · refine hz_iconst (pc' := 77) (v := 0) dX10_addJob_76 rfl (by decide) ?_
        exact hz_loc [0, 1, 2, 3, 4, 5, 6] rfl (hq3 (0, w27))
      · refine hz_iload_n (pc' := 22) (j := 3) dX10_addJob_21 rfl rfl rfl ?_
        refine hz_i2l (pc' := 23) dX10_addJob_22 rfl ?_
        refine hz_lconst (pc' := 24) (v := 0) dX10_addJob_23 rfl (by decide) ?_
        refine hz_ldc2 (pc' := 27) (v := 999) dX10_addJob_24 rfl hq_1437 ?_
        refine hz_cSi (pc' := 30) (av := [.long (Int32.toInt64 x3), .long 0, .long 999]) (rest := [.ref (B.1 + a0)]) sl_X10_88 (fun x w' h => ct_X10_isIn hl h) rfl rfl (Nat.le_of_ble_eq_true rfl) (by decide) (by decide) rfl dX10_addJob_27 rfl (fun v30 w29 => ?_)
        refine hz_ifeq (pc' := 33) (tgt := 76) dX10_addJob_30 (by decide) rfl ?_ ?_
        · refine hz_iconst (pc' := 77) (v := 0) dX10_addJob_76 rfl (by decide) ?_
          exact hz_loc [0, 1, 2, 3, 4, 5, 6] rfl (hq3 (0, w29))
        · refine hz_iload (pc' := 35) (j := 4) dX10_addJob_33 rfl rfl ?_
          refine hz_i2l (pc' := 36) dX10_addJob_35 rfl ?_
          refine hz_lconst (pc' := 37) (v := 0) dX10_addJob_36 rfl (by decide) ?_
          refine hz_ldc2 (pc' := 40) (v := 999) dX10_addJob_37 rfl hq_1437 ?_
          refine hz_cSi (pc' := 43) (av := [.long (Int32.toInt64 x4), .long 0, .long 999]) (rest := [.ref (B.1 + a0)]) sl_X10_88 (fun x w' h => ct_X10_isIn hl h) rfl rfl (Nat.le_of_ble_eq_true rfl) (by decide) (by decide) rfl dX10_addJob_40 rfl (fun v32 w31 => ?_)
          refine hz_ifeq (pc' := 46) (tgt := 76) dX10_addJob_43 (by decide) rfl ?_ ?_
          · refine hz_iconst (pc' := 77) (v := 0) dX10_addJob_76 rfl (by decide) ?_
            exact hz_loc [0, 1, 2, 3, 4, 5, 6] rfl (hq3 (0, w31))
          · refine hz_iload (pc' := 48) (j := 5) dX10_addJob_46 rfl rfl ?_
            refine hz_i2l (pc' := 49) dX10_addJob_48 rfl ?_
            refine hz_lconst (pc' := 50) (v := 1) dX10_addJob_49 rfl (by decide) ?_
            refine hz_ldc2 (pc' := 53) (v := 9999) dX10_addJob_50 rfl hq_1438 ?_
            refine hz_cSi (pc' := 56) (av := [.long (Int32.toInt64 x5), .long 1, .long 9999]) (rest := [.ref (B.1 + a0)]) sl_X10_88 (fun x w' h => ct_X10_isIn hl h) rfl rfl (Nat.le_of_ble_eq_true rfl) (by decide) (by decide) rfl dX10_addJob_53 rfl (fun v34 w33 => ?_)
            refine hz_ifeq (pc' := 59) (tgt := 76) dX10_addJob_56 (by decide) rfl ?_ ?_
            · refine hz_iconst (pc' := 77) (v := 0) dX10_addJob_76 rfl (by decide) ?_
              exact hz_loc [0, 1, 2, 3, 4, 5, 6] rfl (hq3 (0, w33))
            · refine hz_iload (pc' := 61) (j := 6) dX10_addJob_59 rfl rfl ?_
              refine hz_i2l (pc' := 62) dX10_addJob_61 rfl ?_
              refine hz_lconst (pc' := 63) (v := 1) dX10_addJob_62 rfl (by decide) ?_
              refine hz_ldc2 (pc' := 66) (v := 9999) dX10_addJob_63 rfl hq_1438 ?_
              refine hz_cSi (pc' := 69) (av := [.long (Int32.toInt64 x6), .long 1, .long 9999]) (rest := [.ref (B.1 + a0)]) sl_X10_88 (fun x w' h => ct_X10_isIn hl h) rfl rfl (Nat.le_of_ble_eq_true rfl) (by decide) (by decide) rfl dX10_addJob_66 rfl (fun v36 w35 => ?_)
              refine hz_ifeq (pc' := 72) (tgt := 76) dX10_addJob_69 (by decide) rfl ?_ ?_
              · refine hz_iconst (pc' := 77) (v := 0) dX10_addJob_76 rfl (by decide) ?_
                exact hz_loc [0, 1, 2, 3, 4, 5, 6] rfl (hq3 (0, w35))
              · refine hz_iconst (pc' := 73) (v := 1) dX10_addJob_72 rfl (by decide) ?_
                refine hz_goto (tgt := 77) dX10_addJob_73 (by decide) ?_
                exact hz_loc [0, 1, 2, 3, 4, 5, 6] rfl (hq3 (1, w35))
def lp_X10_cancelJob_38 (c0 : Nat) (c1 : Int32) (c2 : Int32) : Nat → (Int32 × MW) → Option (MW)
  | 0, _ => none
  | N + 1, v0 => hz_ldp v0.2 c0 6 358 20 (fun b10 => hz_lda v0.2 b10 c2 (fun v11 => (if v11 ≤ v0.1 then some v0.2 else hz_b (f_X10_of c0 c2 (9 + v0.1) v0.2) (fun v13 w12 => Option.bind ((if v13 = c1 then hz_bv (f_X10_put2 c0 c2 (9 + v0.1) (-1) w12) (fun w16 => some w16) else some w12)) (fun q14 : MW => hz_let (v0.1 + Int32.ofInt 1) (fun v15 => lp_X10_cancelJob_38 c0 c1 c2 N (v15, q14)))))))
def f_X10_cancelJob (a0 : Nat) (x1 : Int32) (w : MW) : Option (Int32 × MW) :=
  hz_gd (hz_g 358 a0 11) (hz_b (f_X10_isJob a0 x1 w) (fun v2 w1 => hz_b (f_X10_isWrong a0 v2 w1) (fun v4 w3 => (if v4 = 0 then hz_b (f_X10_isOver a0 x1 w3) (fun v6 w5 => (if v6 = 0 then hz_bv (f_X10_remember a0 w5) (fun w7 => hz_b (f_X10_ofJob a0 x1 0 w7) (fun v9 w8 => Option.bind (lp_X10_cancelJob_38 a0 x1 v9 3000 (0, w8)) (fun q11 : MW => hz_bv (f_X10_putJob a0 x1 7 4 q11) (fun w12 => hz_b (f_X10_ofJob a0 x1 6 w12) (fun v14 w13 => some (v14, w13)))))) else some ((-2), w5))) else some (0, w3)))))
set_option maxHeartbeats 4000000 in
set_option maxRecDepth 100000 in
theorem ct_X10_cancelJob {l : Launch} (hl : l.stackTraces = false) {B : Bt} {a0 : Nat} {x1 : Int32} {w : MW} {r : Int32 × MW} (h : f_X10_cancelJob a0 x1 w = some r) : hz_Met l B false 358 358 yX10_cancelJob cX10_cancelJob 4 (Option.some FieldType.int) 4 0 0 [.ref (B.1 + a0), .int x1] w (some (.int r.1)) r.2 := by
  refine hz_ofJ (rv := (fun r : Int32 × MW => some (.int r.1))) (wo := (fun r : Int32 × MW => r.2)) (own := RX10) (ini := false) hl (by decide) rfl (Or.inr rfl) (Nat.le_of_ble_eq_true rfl) rfl ?_ h
  intro p e s m args below meth c
  unfold f_X10_cancelJob
  refine hz_gdr (fun ga0 => ?_)
  refine hz_aload_n (pc' := 1) (j := 0) dX10_cancelJob_0 rfl rfl rfl ?_
  refine hz_aload_n (pc' := 2) (j := 0) dX10_cancelJob_1 rfl rfl rfl ?_
  refine hz_iload_n (pc' := 3) (j := 1) dX10_cancelJob_2 rfl rfl rfl ?_
  refine hz_cVi (pc' := 6) (av := [.int x1]) (rest := [.ref (B.1 + a0)]) vl_X10_286 (fun x w' h => ct_X10_isJob hl h) ga0 rfl rfl (Nat.le_of_ble_eq_true rfl) (by decide) (by decide) rfl dX10_cancelJob_3 rfl (fun v2 w1 => ?_)
  refine hz_cVi (pc' := 9) (av := [.int v2]) (rest := []) vl_X10_207 (fun x w' h => ct_X10_isWrong hl h) ga0 rfl rfl (Nat.le_of_ble_eq_true rfl) (by decide) (by decide) rfl dX10_cancelJob_6 rfl (fun v4 w3 => ?_)
  refine hz_ifeq (pc' := 12) (tgt := 14) dX10_cancelJob_9 (by decide) rfl ?_ ?_
  · refine hz_aload_n (pc' := 15) (j := 0) dX10_cancelJob_14 rfl rfl rfl ?_
    refine hz_iload_n (pc' := 16) (j := 1) dX10_cancelJob_15 rfl rfl rfl ?_
    refine hz_cVi (pc' := 19) (av := [.int x1]) (rest := []) vl_X10_289 (fun x w' h => ct_X10_isOver hl h) ga0 rfl rfl (Nat.le_of_ble_eq_true rfl) (by decide) (by decide) rfl dX10_cancelJob_16 rfl (fun v6 w5 => ?_)
    refine hz_ifeq (pc' := 22) (tgt := 25) dX10_cancelJob_19 (by decide) rfl ?_ ?_
    · refine hz_aload_n (pc' := 26) (j := 0) dX10_cancelJob_25 rfl rfl rfl ?_
      refine hz_cVv (pc' := 29) (av := []) (rest := []) vl_X10_283 (fun w' h => ct_X10_remember hl h) ga0 rfl rfl (Nat.le_of_ble_eq_true rfl) (by decide) (by decide) rfl dX10_cancelJob_26 rfl (fun w7 => ?_)
      refine hz_aload_n (pc' := 30) (j := 0) dX10_cancelJob_29 rfl rfl rfl ?_
      refine hz_iload_n (pc' := 31) (j := 1) dX10_cancelJob_30 rfl rfl rfl ?_
      refine hz_iconst (pc' := 32) (v := 0) dX10_cancelJob_31 rfl (by decide) ?_
      refine hz_cVi (pc' := 35) (av := [.int x1, .int 0]) (rest := []) vl_X10_211 (fun x w' h => ct_X10_ofJob hl h) ga0 rfl rfl (Nat.le_of_ble_eq_true rfl) (by decide) (by decide) rfl dX10_cancelJob_32 rfl (fun v9 w8 => ?_)
      refine hz_istore_n (pc' := 36) (L' := [(2, .int v9), (0, .ref (B.1 + a0)), (1, .int x1)]) dX10_cancelJob_35 rfl rfl (by decide) rfl ?_
      refine hz_iconst (pc' := 37) (v := 0) dX10_cancelJob_36 rfl (by decide) ?_
      refine hz_istore_n (pc' := 38) (L' := [(3, .int 0), (2, .int v9), (0, .ref (B.1 + a0)), (1, .int x1)]) dX10_cancelJob_37 rfl rfl (by decide) rfl ?_
      refine hz_bindJ (pcJ := 77) (LJ := fun q11 : MW => [(0, .ref (B.1 + a0)), (1, .int x1)]) (stJ := fun _ => []) (kJ := 0) (slJ := 0) (nJ := 358) (wJ := fun q11 : MW => q11) (fun q11 => ?_) (fun hq11 => ?_)
      · refine hz_aload_n (pc' := 78) (j := 0) dX10_cancelJob_77 rfl rfl rfl ?_
        refine hz_iload_n (pc' := 79) (j := 1) dX10_cancelJob_78 rfl rfl rfl ?_
        refine hz_bipush (pc' := 81) (v := 7) dX10_cancelJob_79 rfl (by decide) ?_
        refine hz_iconst (pc' := 82) (v := 4) dX10_cancelJob_81 rfl (by decide) ?_
        refine hz_cVv (pc' := 85) (av := [.int x1, .int 7, .int 4]) (rest := []) vl_X10_220 (fun w' h => ct_X10_putJob hl h) ga0 rfl rfl (Nat.le_of_ble_eq_true rfl) (by decide) (by decide) rfl dX10_cancelJob_82 rfl (fun w12 => ?_)
        refine hz_aload_n (pc' := 86) (j := 0) dX10_cancelJob_85 rfl rfl rfl ?_
        refine hz_iload_n (pc' := 87) (j := 1) dX10_cancelJob_86 rfl rfl rfl ?_
        refine hz_bipush (pc' := 89) (v := 6) dX10_cancelJob_87 rfl (by decide) ?_
        refine hz_cVi (pc' := 92) (av := [.int x1, .int 6]) (rest := []) vl_X10_211 (fun x w' h => ct_X10_ofJob hl h) ga0 rfl rfl (Nat.le_of_ble_eq_true rfl) (by decide) (by decide) rfl dX10_cancelJob_89 rfl (fun v14 w13 => ?_)
        exact hz_reti dX10_cancelJob_92 rfl (by decide)
      · refine hz_loc [2, 3, 1, 0] rfl (hz_loopJ (lp := lp_X10_cancelJob_38 a0 x1 v9) (Lh := fun v10 : Int32 × MW => [(0, .ref (B.1 + a0)), (1, .int x1), (2, .int v9), (3, .int v10.1)]) (wh := fun v10 : Int32 × MW => v10.2) (fun _ => rfl) (fun Nv10 ihv10 v10 => ?_) 3000 (0, w8))
        rw [lp_X10_cancelJob_38]
        refine hz_iload_n (pc' := 39) (j := 3) dX10_cancelJob_38 rfl rfl rfl ?_
        refine hz_aload_n (pc' := 40) (j := 0) dX10_cancelJob_39 rfl rfl rfl ?_
        refine hz_gP (pc' := 43) (c' := 20) fl_X10_16.r ga0 rfl dX10_cancelJob_40 rfl (fun b15 gb15 => ?_)
        refine hz_iload_n (pc' := 44) (j := 2) dX10_cancelJob_43 rfl rfl rfl ?_
        refine hz_iald (pc' := 45) gb15 dX10_cancelJob_44 rfl (fun v16 => ?_)
        refine hz_icmpge (pc' := 48) (tgt := 77) dX10_cancelJob_45 (by decide) rfl ?_ ?_
        · exact hz_loc [0, 1] rfl (hq11 v10.2)
        · refine hz_aload_n (pc' := 49) (j := 0) dX10_cancelJob_48 rfl rfl rfl ?_
          refine hz_iload_n (pc' := 50) (j := 2) dX10_cancelJob_49 rfl rfl rfl ?_
          refine hz_bipush (pc' := 52) (v := 9) dX10_cancelJob_50 rfl (by decide) ?_
          refine hz_iload_n (pc' := 53) (j := 3) dX10_cancelJob_52 rfl rfl rfl ?_
          refine hz_iadd (pc' := 54) dX10_cancelJob_53 rfl ?_
          refine hz_cVi (pc' := 57) (av := [.int v9, .int (9 + v10.1)]) (rest := []) vl_X10_214 (fun x w' h => ct_X10_of hl h) ga0 rfl rfl (Nat.le_of_ble_eq_true rfl) (by decide) (by decide) rfl dX10_cancelJob_54 rfl (fun v18 w17 => ?_)
          refine hz_iload_n (pc' := 58) (j := 1) dX10_cancelJob_57 rfl rfl rfl ?_
          refine hz_bindJ (pcJ := 71) (LJ := fun q19 : MW => [(0, .ref (B.1 + a0)), (1, .int x1), (2, .int v9), (3, .int v10.1)]) (stJ := fun q19 : MW => []) (kJ := 0) (slJ := 0) (nJ := 358) (wJ := fun q19 : MW => q19) (fun q19 => ?_) (fun hq19 => ?_)
          · refine hz_iincN (pc' := 74) (j := 3) (fun v20 => [(3, .int v20), (0, .ref (B.1 + a0)), (1, .int x1), (2, .int v9)]) dX10_cancelJob_71 rfl rfl (by decide) (fun _ => rfl) (fun v20 => ?_)
            refine hz_goto (tgt := 38) dX10_cancelJob_74 (by decide) ?_
            exact hz_loc [1, 2, 3, 0] rfl (ihv10 (v20, q19))
          · refine hz_icmpne (pc' := 61) (tgt := 71) dX10_cancelJob_58 (by decide) rfl ?_ ?_
            · exact hz_loc [0, 1, 2, 3] rfl (hq19 w17)
            · refine hz_aload_n (pc' := 62) (j := 0) dX10_cancelJob_61 rfl rfl rfl ?_
              refine hz_iload_n (pc' := 63) (j := 2) dX10_cancelJob_62 rfl rfl rfl ?_
              refine hz_bipush (pc' := 65) (v := 9) dX10_cancelJob_63 rfl (by decide) ?_
              refine hz_iload_n (pc' := 66) (j := 3) dX10_cancelJob_65 rfl rfl rfl ?_
              refine hz_iadd (pc' := 67) dX10_cancelJob_66 rfl ?_
              refine hz_iconst (pc' := 68) (v := (-1)) dX10_cancelJob_67 rfl (by decide) ?_
              refine hz_cVv (pc' := 71) (av := [.int v9, .int (9 + v10.1), .int (-1)]) (rest := []) vl_X10_203 (fun w' h => ct_X10_put2 hl h) ga0 rfl rfl (Nat.le_of_ble_eq_true rfl) (by decide) (by decide) rfl dX10_cancelJob_68 rfl (fun w21 => ?_)
              exact hz_loc [0, 1, 2, 3] rfl (hq19 w21)
    · refine hz_bipush (pc' := 24) (v := (-2)) dX10_cancelJob_22 rfl (by decide) ?_
      exact hz_reti dX10_cancelJob_24 rfl (by decide)
  · refine hz_iconst (pc' := 13) (v := 0) dX10_cancelJob_12 rfl (by decide) ?_
    exact hz_reti dX10_cancelJob_13 rfl (by decide)
def f_X10_sets (a0 : Nat) (x1 : Int32) (x2 : Int32) (w : MW) : Option (Int32 × MW) :=
  hz_gd (hz_g 358 a0 11) (hz_bv (f_X10_remember a0 w) (fun w1 => hz_ldp w1 a0 0 358 20 (fun b2 => hz_lda w1 b2 x1 (fun v3 => hz_ldp w1 a0 0 358 20 (fun b4 => hz_sta w1 b4 x1 x2 (fun w5 => some (v3, w5)))))))
set_option maxHeartbeats 4000000 in
set_option maxRecDepth 100000 in
theorem ct_X10_sets {l : Launch} (hl : l.stackTraces = false) {B : Bt} {a0 : Nat} {x1 : Int32} {x2 : Int32} {w : MW} {r : Int32 × MW} (h : f_X10_sets a0 x1 x2 w = some r) : hz_Met l B false 358 358 yX10_sets cX10_sets 4 (Option.some FieldType.int) 3 0 0 [.ref (B.1 + a0), .int x1, .int x2] w (some (.int r.1)) r.2 := by
  refine hz_ofJ (rv := (fun r : Int32 × MW => some (.int r.1))) (wo := (fun r : Int32 × MW => r.2)) (own := RX10) (ini := false) hl (by decide) rfl (Or.inr rfl) (Nat.le_of_ble_eq_true rfl) rfl ?_ h
  intro p e s m args below meth c
  unfold f_X10_sets
  refine hz_gdr (fun ga0 => ?_)
  refine hz_aload_n (pc' := 1) (j := 0) dX10_sets_0 rfl rfl rfl ?_
  refine hz_cVv (pc' := 4) (av := []) (rest := []) vl_X10_283 (fun w' h => ct_X10_remember hl h) ga0 rfl rfl (Nat.le_of_ble_eq_true rfl) (by decide) (by decide) rfl dX10_sets_1 rfl (fun w1 => ?_)
  refine hz_aload_n (pc' := 5) (j := 0) dX10_sets_4 rfl rfl rfl ?_
  refine hz_gP (pc' := 8) (c' := 20) fl_X10_7.r ga0 rfl dX10_sets_5 rfl (fun b2 gb2 => ?_)
  refine hz_iload_n (pc' := 9) (j := 1) dX10_sets_8 rfl rfl rfl ?_
  refine hz_iald (pc' := 10) gb2 dX10_sets_9 rfl (fun v3 => ?_)
  refine hz_istore_n (pc' := 11) (L' := [(3, .int v3), (0, .ref (B.1 + a0)), (1, .int x1), (2, .int x2)]) dX10_sets_10 rfl rfl (by decide) rfl ?_
  refine hz_aload_n (pc' := 12) (j := 1) dX10_sets_11 rfl rfl rfl ?_
  refine hz_gP (pc' := 15) (c' := 20) fl_X10_7.r ga0 rfl dX10_sets_12 rfl (fun b4 gb4 => ?_)
  refine hz_iload_n (pc' := 16) (j := 2) dX10_sets_15 rfl rfl rfl ?_
  refine hz_iload_n (pc' := 17) (j := 3) dX10_sets_16 rfl rfl rfl ?_
  refine hz_iast (pc' := 18) gb4 dX10_sets_17 rfl (fun w5 => ?_)
  refine hz_iload_n (pc' := 19) (j := 0) dX10_sets_18 rfl rfl rfl ?_
  exact hz_reti dX10_sets_19 rfl (by decide)
def f_X10_setPolicy (a0 : Nat) (x1 : Int32) (x2 : Int32) (w : MW) : Option (Int32 × MW) :=
  hz_gd (hz_g 358 a0 11) (hz_b (f_X10_isDomain a0 x1 w) (fun v2 w1 => Option.bind ((if v2 = 0 then some (0, w1) else hz_b (f_X10_isIn (Int32.toInt64 x2) 0 3 w1) (fun v10 w9 => (if v10 = 0 then some (0, w9) else some (1, w9))))) (fun q3 : Int32 × MW => hz_b (f_X10_isWrong a0 q3.1 q3.2) (fun v5 w4 => Option.bind ((if v5 = 0 then hz_b (f_X10_sets a0 ((19 + (13 * x1)) + 1) x2 w4) (fun v8 w7 => some (v8, w7)) else some (0, w4))) (fun q6 : Int32 × MW => some (q6.1, q6.2))))))
set_option maxHeartbeats 4000000 in
set_option maxRecDepth 100000 in
theorem ct_X10_setPolicy {l : Launch} (hl : l.stackTraces = false) {B : Bt} {a0 : Nat} {x1 : Int32} {x2 : Int32} {w : MW} {r : Int32 × MW} (h : f_X10_setPolicy a0 x1 x2 w = some r) : hz_Met l B false 358 358 yX10_setPolicy cX10_setPolicy 3 (Option.some FieldType.int) 4 0 0 [.ref (B.1 + a0), .int x1, .int x2] w (some (.int r.1)) r.2 := by
  refine hz_ofJ (rv := (fun r : Int32 × MW => some (.int r.1))) (wo := (fun r : Int32 × MW => r.2)) (own := RX10) (ini := false) hl (by decide) rfl (Or.inr rfl) (Nat.le_of_ble_eq_true rfl) rfl ?_ h
  intro p e s m args below meth c
  unfold f_X10_setPolicy
  refine hz_gdr (fun ga0 => ?_)
  refine hz_aload_n (pc' := 1) (j := 0) dX10_setPolicy_0 rfl rfl rfl ?_
  refine hz_aload_n (pc' := 2) (j := 0) dX10_setPolicy_1 rfl rfl rfl ?_
  refine hz_iload_n (pc' := 3) (j := 1) dX10_setPolicy_2 rfl rfl rfl ?_
  refine hz_cVi (pc' := 6) (av := [.int x1]) (rest := [.ref (B.1 + a0)]) vl_X10_274 (fun x w' h => ct_X10_isDomain hl h) ga0 rfl rfl (Nat.le_of_ble_eq_true rfl) (by decide) (by decide) rfl dX10_setPolicy_3 rfl (fun v2 w1 => ?_)
  refine hz_bindJ (pcJ := 26) (LJ := fun q3 : Int32 × MW => [(0, .ref (B.1 + a0)), (1, .int x1), (2, .int x2)]) (stJ := fun q3 : Int32 × MW => [.int q3.1, .ref (B.1 + a0)]) (kJ := 0) (slJ := 0) (nJ := 358) (wJ := fun q3 : Int32 × MW => q3.2) (fun q3 => ?_) (fun hq3 => ?_)
  · refine hz_cVi (pc' := 29) (av := [.int q3.1]) (rest := []) vl_X10_207 (fun x w' h => ct_X10_isWrong hl h) ga0 rfl rfl (Nat.le_of_ble_eq_true rfl) (by decide) (by decide) rfl dX10_setPolicy_26 rfl (fun v5 w4 => ?_)
    refine hz_bindJ (pcJ := 50) (LJ := fun q6 : Int32 × MW => []) (stJ := fun q6 : Int32 × MW => [.int q6.1]) (kJ := 0) (slJ := 0) (nJ := 358) (wJ := fun q6 : Int32 × MW => q6.2) (fun q6 => ?_) (fun hq6 => ?_)
    · exact hz_reti dX10_setPolicy_50 rfl (by decide)
    · refine hz_ifeq (pc' := 32) (tgt := 36) dX10_setPolicy_29 (by decide) rfl ?_ ?_
      · refine hz_aload_n (pc' := 37) (j := 0) dX10_setPolicy_36 rfl rfl rfl ?_
        refine hz_bipush (pc' := 39) (v := 19) dX10_setPolicy_37 rfl (by decide) ?_
        refine hz_bipush (pc' := 41) (v := 13) dX10_setPolicy_39 rfl (by decide) ?_
        refine hz_iload_n (pc' := 42) (j := 1) dX10_setPolicy_41 rfl rfl rfl ?_
        refine hz_imul (pc' := 43) dX10_setPolicy_42 rfl ?_
        refine hz_iadd (pc' := 44) dX10_setPolicy_43 rfl ?_
        refine hz_iconst (pc' := 45) (v := 1) dX10_setPolicy_44 rfl (by decide) ?_
        refine hz_iadd (pc' := 46) dX10_setPolicy_45 rfl ?_
        refine hz_iload_n (pc' := 47) (j := 2) dX10_setPolicy_46 rfl rfl rfl ?_
        refine hz_cVi (pc' := 50) (av := [.int ((19 + (13 * x1)) + 1), .int x2]) (rest := []) vl_X10_294 (fun x w' h => ct_X10_sets hl h) ga0 rfl rfl (Nat.le_of_ble_eq_true rfl) (by decide) (by decide) rfl dX10_setPolicy_47 rfl (fun v8 w7 => ?_)
        exact hz_loc [] rfl (hq6 (v8, w7))
      · refine hz_iconst (pc' := 33) (v := 0) dX10_setPolicy_32 rfl (by decide) ?_
        refine hz_goto (tgt := 50) dX10_setPolicy_33 (by decide) ?_
        exact hz_loc [] rfl (hq6 (0, w4))
  · refine hz_ifeq (pc' := 9) (tgt := 25) dX10_setPolicy_6 (by decide) rfl ?_ ?_
    · refine hz_iconst (pc' := 26) (v := 0) dX10_setPolicy_25 rfl (by decide) ?_
      exact hz_loc [0, 1, 2] rfl (hq3 (0, w1))
    · refine hz_iload_n (pc' := 10) (j := 2) dX10_setPolicy_9 rfl rfl rfl ?_
      refine hz_i2l (pc' := 11) dX10_setPolicy_10 rfl ?_
      refine hz_lconst (pc' := 12) (v := 0) dX10_setPolicy_11 rfl (by decide) ?_
      refine hz_ldc2 (pc' := 15) (v := 3) dX10_setPolicy_12 rfl hq_1471 ?_
      refine hz_cSi (pc' := 18) (av := [.long (Int32.toInt64 x2), .long 0, .long 3]) (rest := [.ref (B.1 + a0)]) sl_X10_88 (fun x w' h => ct_X10_isIn hl h) rfl rfl (Nat.le_of_ble_eq_true rfl) (by decide) (by decide) rfl dX10_setPolicy_15 rfl (fun v10 w9 => ?_)
      refine hz_ifeq (pc' := 21) (tgt := 25) dX10_setPolicy_18 (by decide) rfl ?_ ?_
      · refine hz_iconst (pc' := 26) (v := 0) dX10_setPolicy_25 rfl (by decide) ?_
        exact hz_loc [0, 1, 2] rfl (hq3 (0, w9))
      · refine hz_iconst (pc' := 22) (v := 1) dX10_setPolicy_21 rfl (by decide) ?_
        refine hz_goto (tgt := 26) dX10_setPolicy_22 (by decide) ?_
        exact hz_loc [0, 1, 2] rfl (hq3 (1, w9))
def f_X10_setLimit (a0 : Nat) (x1 : Int32) (x2 : Int32) (w : MW) : Option (Int32 × MW) :=
  hz_gd (hz_g 358 a0 11) (hz_b (f_X10_isDomain a0 x1 w) (fun v2 w1 => Option.bind ((if v2 = 0 then some (0, w1) else hz_b (f_X10_isIn (Int32.toInt64 x2) 0 99999 w1) (fun v10 w9 => (if v10 = 0 then some (0, w9) else some (1, w9))))) (fun q3 : Int32 × MW => hz_b (f_X10_isWrong a0 q3.1 q3.2) (fun v5 w4 => Option.bind ((if v5 = 0 then hz_b (f_X10_sets a0 ((19 + (13 * x1)) + 0) x2 w4) (fun v8 w7 => some (v8, w7)) else some (0, w4))) (fun q6 : Int32 × MW => some (q6.1, q6.2))))))
set_option maxHeartbeats 4000000 in
set_option maxRecDepth 100000 in
theorem ct_X10_setLimit {l : Launch} (hl : l.stackTraces = false) {B : Bt} {a0 : Nat} {x1 : Int32} {x2 : Int32} {w : MW} {r : Int32 × MW} (h : f_X10_setLimit a0 x1 x2 w = some r) : hz_Met l B false 358 358 yX10_setLimit cX10_setLimit 3 (Option.some FieldType.int) 4 0 0 [.ref (B.1 + a0), .int x1, .int x2] w (some (.int r.1)) r.2 := by
  refine hz_ofJ (rv := (fun r : Int32 × MW => some (.int r.1))) (wo := (fun r : Int32 × MW => r.2)) (own := RX10) (ini := false) hl (by decide) rfl (Or.inr rfl) (Nat.le_of_ble_eq_true rfl) rfl ?_ h
  intro p e s m args below meth c
  unfold f_X10_setLimit
  refine hz_gdr (fun ga0 => ?_)
  refine hz_aload_n (pc' := 1) (j := 0) dX10_setLimit_0 rfl rfl rfl ?_
  refine hz_aload_n (pc' := 2) (j := 0) dX10_setLimit_1 rfl rfl rfl ?_
  refine hz_iload_n (pc' := 3) (j := 1) dX10_setLimit_2 rfl rfl rfl ?_
  refine hz_cVi (pc' := 6) (av := [.int x1]) (rest := [.ref (B.1 + a0)]) vl_X10_274 (fun x w' h => ct_X10_isDomain hl h) ga0 rfl rfl (Nat.le_of_ble_eq_true rfl) (by decide) (by decide) rfl dX10_setLimit_3 rfl (fun v2 w1 => ?_)
  refine hz_bindJ (pcJ := 26) (LJ := fun q3 : Int32 × MW => [(0, .ref (B.1 + a0)), (1, .int x1), (2, .int x2)]) (stJ := fun q3 : Int32 × MW => [.int q3.1, .ref (B.1 + a0)]) (kJ := 0) (slJ := 0) (nJ := 358) (wJ := fun q3 : Int32 × MW => q3.2) (fun q3 => ?_) (fun hq3 => ?_)
  · refine hz_cVi (pc' := 29) (av := [.int q3.1]) (rest := []) vl_X10_207 (fun x w' h => ct_X10_isWrong hl h) ga0 rfl rfl (Nat.le_of_ble_eq_true rfl) (by decide) (by decide) rfl dX10_setLimit_26 rfl (fun v5 w4 => ?_)
    refine hz_bindJ (pcJ := 50) (LJ := fun q6 : Int32 × MW => []) (stJ := fun q6 : Int32 × MW => [.int q6.1]) (kJ := 0) (slJ := 0) (nJ := 358) (wJ := fun q6 : Int32 × MW => q6.2) (fun q6 => ?_) (fun hq6 => ?_)
    · exact hz_reti dX10_setLimit_50 rfl (by decide)
    · refine hz_ifeq (pc' := 32) (tgt := 36) dX10_setLimit_29 (by decide) rfl ?_ ?_
      · refine hz_aload_n (pc' := 37) (j := 0) dX10_setLimit_36 rfl rfl rfl ?_
        refine hz_bipush (pc' := 39) (v := 19) dX10_setLimit_37 rfl (by decide) ?_
        refine hz_bipush (pc' := 41) (v := 13) dX10_setLimit_39 rfl (by decide) ?_
        refine hz_iload_n (pc' := 42) (j := 1) dX10_setLimit_41 rfl rfl rfl ?_
        refine hz_imul (pc' := 43) dX10_setLimit_42 rfl ?_
        refine hz_iadd (pc' := 44) dX10_setLimit_43 rfl ?_
        refine hz_iconst (pc' := 45) (v := 0) dX10_setLimit_44 rfl (by decide) ?_
        refine hz_iadd (pc' := 46) dX10_setLimit_45 rfl ?_
        refine hz_iload_n (pc' := 47) (j := 2) dX10_setLimit_46 rfl rfl rfl ?_
        refine hz_cVi (pc' := 50) (av := [.int ((19 + (13 * x1)) + 0), .int x2]) (rest := []) vl_X10_294 (fun x w' h => ct_X10_sets hl h) ga0 rfl rfl (Nat.le_of_ble_eq_true rfl) (by decide) (by decide) rfl dX10_setLimit_47 rfl (fun v8 w7 => ?_)
        exact hz_loc [] rfl (hq6 (v8, w7))
      · refine hz_iconst (pc' := 33) (v := 0) dX10_setLimit_32 rfl (by decide) ?_
        refine hz_goto (tgt := 50) dX10_setLimit_33 (by decide) ?_
        exact hz_loc [] rfl (hq6 (0, w4))
  · refine hz_ifeq (pc' := 9) (tgt := 25) dX10_setLimit_6 (by decide) rfl ?_ ?_
    · refine hz_iconst (pc' := 26) (v := 0) dX10_setLimit_25 rfl (by decide) ?_
      exact hz_loc [0, 1, 2] rfl (hq3 (0, w1))
    · refine hz_iload_n (pc' := 10) (j := 2) dX10_setLimit_9 rfl rfl rfl ?_
      refine hz_i2l (pc' := 11) dX10_setLimit_10 rfl ?_
      refine hz_lconst (pc' := 12) (v := 0) dX10_setLimit_11 rfl (by decide) ?_
      refine hz_ldc2 (pc' := 15) (v := 99999) dX10_setLimit_12 rfl hq_1480 ?_
      refine hz_cSi (pc' := 18) (av := [.long (Int32.toInt64 x2), .long 0, .long 99999]) (rest := [.ref (B.1 + a0)]) sl_X10_88 (fun x w' h => ct_X10_isIn hl h) rfl rfl (Nat.le_of_ble_eq_true rfl) (by decide) (by decide) rfl dX10_setLimit_15 rfl (fun v10 w9 => ?_)
      refine hz_ifeq (pc' := 21) (tgt := 25) dX10_setLimit_18 (by decide) rfl ?_ ?_
      · refine hz_iconst (pc' := 26) (v := 0) dX10_setLimit_25 rfl (by decide) ?_
        exact hz_loc [0, 1, 2] rfl (hq3 (0, w9))
      · refine hz_iconst (pc' := 22) (v := 1) dX10_setLimit_21 rfl (by decide) ?_
        refine hz_goto (tgt := 26) dX10_setLimit_22 (by decide) ?_
        exact hz_loc [0, 1, 2] rfl (hq3 (1, w9))
def f_X10_setAmbient (a0 : Nat) (x1 : Int32) (w : MW) : Option (Int32 × MW) :=
  hz_gd (hz_g 358 a0 11) (hz_b (f_X10_isIn (Int32.toInt64 x1) 0 9999 w) (fun v2 w1 => hz_b (f_X10_isWrong a0 v2 w1) (fun v4 w3 => Option.bind ((if v4 = 0 then hz_b (f_X10_sets a0 1 x1 w3) (fun v7 w6 => some (v7, w6)) else some (0, w3))) (fun q5 : Int32 × MW => some (q5.1, q5.2)))))
set_option maxHeartbeats 4000000 in
set_option maxRecDepth 100000 in
theorem ct_X10_setAmbient {l : Launch} (hl : l.stackTraces = false) {B : Bt} {a0 : Nat} {x1 : Int32} {w : MW} {r : Int32 × MW} (h : f_X10_setAmbient a0 x1 w = some r) : hz_Met l B false 358 358 yX10_setAmbient cX10_setAmbient 2 (Option.some FieldType.int) 4 0 0 [.ref (B.1 + a0), .int x1] w (some (.int r.1)) r.2 := by
  refine hz_ofJ (rv := (fun r : Int32 × MW => some (.int r.1))) (wo := (fun r : Int32 × MW => r.2)) (own := RX10) (ini := false) hl (by decide) rfl (Or.inr rfl) (Nat.le_of_ble_eq_true rfl) rfl ?_ h
  intro p e s m args below meth c
  unfold f_X10_setAmbient
  refine hz_gdr (fun ga0 => ?_)
  refine hz_aload_n (pc' := 1) (j := 0) dX10_setAmbient_0 rfl rfl rfl ?_
  refine hz_iload_n (pc' := 2) (j := 1) dX10_setAmbient_1 rfl rfl rfl ?_
  refine hz_i2l (pc' := 3) dX10_setAmbient_2 rfl ?_
  refine hz_lconst (pc' := 4) (v := 0) dX10_setAmbient_3 rfl (by decide) ?_
  refine hz_ldc2 (pc' := 7) (v := 9999) dX10_setAmbient_4 rfl hq_1438 ?_
  refine hz_cSi (pc' := 10) (av := [.long (Int32.toInt64 x1), .long 0, .long 9999]) (rest := [.ref (B.1 + a0)]) sl_X10_88 (fun x w' h => ct_X10_isIn hl h) rfl rfl (Nat.le_of_ble_eq_true rfl) (by decide) (by decide) rfl dX10_setAmbient_7 rfl (fun v2 w1 => ?_)
  refine hz_cVi (pc' := 13) (av := [.int v2]) (rest := []) vl_X10_207 (fun x w' h => ct_X10_isWrong hl h) ga0 rfl rfl (Nat.le_of_ble_eq_true rfl) (by decide) (by decide) rfl dX10_setAmbient_10 rfl (fun v4 w3 => ?_)
  refine hz_bindJ (pcJ := 26) (LJ := fun q5 : Int32 × MW => []) (stJ := fun q5 : Int32 × MW => [.int q5.1]) (kJ := 0) (slJ := 0) (nJ := 358) (wJ := fun q5 : Int32 × MW => q5.2) (fun q5 => ?_) (fun hq5 => ?_)
  · exact hz_reti dX10_setAmbient_26 rfl (by decide)
  · refine hz_ifeq (pc' := 16) (tgt := 20) dX10_setAmbient_13 (by decide) rfl ?_ ?_
    · refine hz_aload_n (pc' := 21) (j := 0) dX10_setAmbient_20 rfl rfl rfl ?_
      refine hz_iconst (pc' := 22) (v := 1) dX10_setAmbient_21 rfl (by decide) ?_
      refine hz_iload_n (pc' := 23) (j := 1) dX10_setAmbient_22 rfl rfl rfl ?_
      refine hz_cVi (pc' := 26) (av := [.int 1, .int x1]) (rest := []) vl_X10_294 (fun x w' h => ct_X10_sets hl h) ga0 rfl rfl (Nat.le_of_ble_eq_true rfl) (by decide) (by decide) rfl dX10_setAmbient_23 rfl (fun v7 w6 => ?_)
      exact hz_loc [] rfl (hq5 (v7, w6))
    · refine hz_iconst (pc' := 17) (v := 0) dX10_setAmbient_16 rfl (by decide) ?_
      refine hz_goto (tgt := 26) dX10_setAmbient_17 (by decide) ?_
      exact hz_loc [] rfl (hq5 (0, w3))
def lp_X10_tick_29 (c0 : Nat) (c1 : Int32) : Nat → (Int32 × MW) → Option (MW)
  | 0, _ => none
  | N + 1, v0 => (if c1 ≤ v0.1 then some v0.2 else hz_bv (f_X10_tickOnce c0 v0.2) (fun w7 => hz_let (v0.1 + Int32.ofInt 1) (fun v8 => lp_X10_tick_29 c0 c1 N (v8, w7))))
def f_X10_tick (a0 : Nat) (x1 : Int32) (w : MW) : Option (Int32 × MW) :=
  hz_gd (hz_g 358 a0 11) (hz_b (f_X10_isIn (Int32.toInt64 x1) 1 500 w) (fun v2 w1 => hz_b (f_X10_isWrong a0 v2 w1) (fun v4 w3 => (if v4 = 0 then hz_bv (f_X10_remember a0 w3) (fun w5 => hz_let (hz_pn w5 a0 31 0) (fun w6 => Option.bind (lp_X10_tick_29 a0 x1 3000 (0, w6)) (fun q8 : MW => some ((q8.1 a0 31), q8)))) else some (0, w3)))))
set_option maxHeartbeats 4000000 in
set_option maxRecDepth 100000 in
theorem ct_X10_tick {l : Launch} (hl : l.stackTraces = false) {B : Bt} {a0 : Nat} {x1 : Int32} {w : MW} {r : Int32 × MW} (h : f_X10_tick a0 x1 w = some r) : hz_Met l B false 358 358 yX10_tick cX10_tick 3 (Option.some FieldType.int) 7 0 0 [.ref (B.1 + a0), .int x1] w (some (.int r.1)) r.2 := by
  refine hz_ofJ (rv := (fun r : Int32 × MW => some (.int r.1))) (wo := (fun r : Int32 × MW => r.2)) (own := RX10) (ini := false) hl (by decide) rfl (Or.inr rfl) (Nat.le_of_ble_eq_true rfl) rfl ?_ h
  intro p e s m args below meth c
  unfold f_X10_tick
  refine hz_gdr (fun ga0 => ?_)
  refine hz_aload_n (pc' := 1) (j := 0) dX10_tick_0 rfl rfl rfl ?_
  refine hz_iload_n (pc' := 2) (j := 1) dX10_tick_1 rfl rfl rfl ?_
  refine hz_i2l (pc' := 3) dX10_tick_2 rfl ?_
  refine hz_lconst (pc' := 4) (v := 1) dX10_tick_3 rfl (by decide) ?_
  refine hz_ldc2 (pc' := 7) (v := 500) dX10_tick_4 rfl hq_1489 ?_
  refine hz_cSi (pc' := 10) (av := [.long (Int32.toInt64 x1), .long 1, .long 500]) (rest := [.ref (B.1 + a0)]) sl_X10_88 (fun x w' h => ct_X10_isIn hl h) rfl rfl (Nat.le_of_ble_eq_true rfl) (by decide) (by decide) rfl dX10_tick_7 rfl (fun v2 w1 => ?_)
  refine hz_cVi (pc' := 13) (av := [.int v2]) (rest := []) vl_X10_207 (fun x w' h => ct_X10_isWrong hl h) ga0 rfl rfl (Nat.le_of_ble_eq_true rfl) (by decide) (by decide) rfl dX10_tick_10 rfl (fun v4 w3 => ?_)
  refine hz_ifeq (pc' := 16) (tgt := 18) dX10_tick_13 (by decide) rfl ?_ ?_
  · refine hz_aload_n (pc' := 19) (j := 0) dX10_tick_18 rfl rfl rfl ?_
    refine hz_cVv (pc' := 22) (av := []) (rest := []) vl_X10_283 (fun w' h => ct_X10_remember hl h) ga0 rfl rfl (Nat.le_of_ble_eq_true rfl) (by decide) (by decide) rfl dX10_tick_19 rfl (fun w5 => ?_)
    refine hz_aload_n (pc' := 23) (j := 0) dX10_tick_22 rfl rfl rfl ?_
    refine hz_iconst (pc' := 24) (v := 0) dX10_tick_23 rfl (by decide) ?_
    refine hz_putI (pc' := 27) fl_X10_253 ga0 rfl dX10_tick_24 rfl (fun w6 => ?_)
    refine hz_iconst (pc' := 28) (v := 0) dX10_tick_27 rfl (by decide) ?_
    refine hz_istore_n (pc' := 29) (L' := [(2, .int 0), (0, .ref (B.1 + a0)), (1, .int x1)]) dX10_tick_28 rfl rfl (by decide) rfl ?_
    refine hz_bindJ (pcJ := 44) (LJ := fun q8 : MW => [(0, .ref (B.1 + a0))]) (stJ := fun _ => []) (kJ := 0) (slJ := 0) (nJ := 358) (wJ := fun q8 : MW => q8) (fun q8 => ?_) (fun hq8 => ?_)
    · refine hz_aload_n (pc' := 45) (j := 0) dX10_tick_44 rfl rfl rfl ?_
      refine hz_gI (pc' := 48) fl_X10_253.r ga0 rfl dX10_tick_45 rfl ?_
      exact hz_reti dX10_tick_48 rfl (by decide)
    · refine hz_loc [1, 2, 0] rfl (hz_loopJ (lp := lp_X10_tick_29 a0 x1) (Lh := fun v7 : Int32 × MW => [(0, .ref (B.1 + a0)), (1, .int x1), (2, .int v7.1)]) (wh := fun v7 : Int32 × MW => v7.2) (fun _ => rfl) (fun Nv7 ihv7 v7 => ?_) 3000 (0, w6))
      rw [lp_X10_tick_29]
      refine hz_iload_n (pc' := 30) (j := 2) dX10_tick_29 rfl rfl rfl ?_
      refine hz_iload_n (pc' := 31) (j := 1) dX10_tick_30 rfl rfl rfl ?_
      refine hz_icmpge (pc' := 34) (tgt := 44) dX10_tick_31 (by decide) rfl ?_ ?_
      · exact hz_loc [0] rfl (hq8 v7.2)
      · refine hz_aload_n (pc' := 35) (j := 0) dX10_tick_34 rfl rfl rfl ?_
        refine hz_cVv (pc' := 38) (av := []) (rest := []) vl_X10_301 (fun w' h => ct_X10_tickOnce hl h) ga0 rfl rfl (Nat.le_of_ble_eq_true rfl) (by decide) (by decide) rfl dX10_tick_35 rfl (fun w9 => ?_)
        refine hz_iincN (pc' := 41) (j := 2) (fun v10 => [(2, .int v10), (0, .ref (B.1 + a0)), (1, .int x1)]) dX10_tick_38 rfl rfl (by decide) (fun _ => rfl) (fun v10 => ?_)
        refine hz_goto (tgt := 29) dX10_tick_41 (by decide) ?_
        exact hz_loc [1, 2, 0] rfl (ihv7 (v10, w9))
  · refine hz_iconst (pc' := 17) (v := 0) dX10_tick_16 rfl (by decide) ?_
    exact hz_reti dX10_tick_17 rfl (by decide)
def f_X10_clock (a0 : Nat) (w : MW) : Option (Int32 × MW) :=
  hz_gd (hz_g 358 a0 11) (hz_b (f_X10_isWrong a0 1 w) (fun v2 w1 => Option.bind ((if v2 = 0 then hz_ldp w1 a0 0 358 20 (fun b4 => hz_lda w1 b4 0 (fun v5 => some v5)) else some 0)) (fun q3 : Int32 => some (q3, w1))))
set_option maxHeartbeats 4000000 in
set_option maxRecDepth 100000 in
theorem ct_X10_clock {l : Launch} (hl : l.stackTraces = false) {B : Bt} {a0 : Nat} {w : MW} {r : Int32 × MW} (h : f_X10_clock a0 w = some r) : hz_Met l B false 358 358 yX10_clock cX10_clock 1 (Option.some FieldType.int) 3 0 0 [.ref (B.1 + a0)] w (some (.int r.1)) r.2 := by
  refine hz_ofJ (rv := (fun r : Int32 × MW => some (.int r.1))) (wo := (fun r : Int32 × MW => r.2)) (own := RX10) (ini := false) hl (by decide) rfl (Or.inr rfl) (Nat.le_of_ble_eq_true rfl) rfl ?_ h
  intro p e s m args below meth c
  unfold f_X10_clock
  refine hz_gdr (fun ga0 => ?_)
  refine hz_aload_n (pc' := 1) (j := 0) dX10_clock_0 rfl rfl rfl ?_
  refine hz_iconst (pc' := 2) (v := 1) dX10_clock_1 rfl (by decide) ?_
  refine hz_cVi (pc' := 5) (av := [.int 1]) (rest := []) vl_X10_207 (fun x w' h => ct_X10_isWrong hl h) ga0 rfl rfl (Nat.le_of_ble_eq_true rfl) (by decide) (by decide) rfl dX10_clock_2 rfl (fun v2 w1 => ?_)
  refine hz_bindJ (pcJ := 18) (LJ := fun q3 : Int32 => []) (stJ := fun q3 : Int32 => [.int q3]) (kJ := 0) (slJ := 0) (nJ := 358) (wJ := fun q3 : Int32 => w1) (fun q3 => ?_) (fun hq3 => ?_)
  · exact hz_reti dX10_clock_18 rfl (by decide)
  · refine hz_ifeq (pc' := 8) (tgt := 12) dX10_clock_5 (by decide) rfl ?_ ?_
    · refine hz_aload_n (pc' := 13) (j := 0) dX10_clock_12 rfl rfl rfl ?_
      refine hz_gP (pc' := 16) (c' := 20) fl_X10_7.r ga0 rfl dX10_clock_13 rfl (fun b4 gb4 => ?_)
      refine hz_iconst (pc' := 17) (v := 0) dX10_clock_16 rfl (by decide) ?_
      refine hz_iald (pc' := 18) gb4 dX10_clock_17 rfl (fun v5 => ?_)
      exact hz_loc [] rfl (hq3 v5)
    · refine hz_iconst (pc' := 9) (v := 0) dX10_clock_8 rfl (by decide) ?_
      refine hz_goto (tgt := 18) dX10_clock_9 (by decide) ?_
      exact hz_loc [] rfl (hq3 0)
def f_X10_temperature (a0 : Nat) (x1 : Int32) (w : MW) : Option (Int32 × MW) :=
  hz_gd (hz_g 358 a0 11) (hz_b (f_X10_isDomain a0 x1 w) (fun v2 w1 => hz_b (f_X10_isWrong a0 v2 w1) (fun v4 w3 => Option.bind ((if v4 = 0 then hz_b (f_X10_of a0 x1 2 w3) (fun v7 w6 => some (v7, w6)) else some (0, w3))) (fun q5 : Int32 × MW => some (q5.1, q5.2)))))
set_option maxHeartbeats 4000000 in
set_option maxRecDepth 100000 in
theorem ct_X10_temperature {l : Launch} (hl : l.stackTraces = false) {B : Bt} {a0 : Nat} {x1 : Int32} {w : MW} {r : Int32 × MW} (h : f_X10_temperature a0 x1 w = some r) : hz_Met l B false 358 358 yX10_temperature cX10_temperature 2 (Option.some FieldType.int) 4 0 0 [.ref (B.1 + a0), .int x1] w (some (.int r.1)) r.2 := by
  refine hz_ofJ (rv := (fun r : Int32 × MW => some (.int r.1))) (wo := (fun r : Int32 × MW => r.2)) (own := RX10) (ini := false) hl (by decide) rfl (Or.inr rfl) (Nat.le_of_ble_eq_true rfl) rfl ?_ h
  intro p e s m args below meth c
  unfold f_X10_temperature
  refine hz_gdr (fun ga0 => ?_)
  refine hz_aload_n (pc' := 1) (j := 0) dX10_temperature_0 rfl rfl rfl ?_
  refine hz_aload_n (pc' := 2) (j := 0) dX10_temperature_1 rfl rfl rfl ?_
  refine hz_iload_n (pc' := 3) (j := 1) dX10_temperature_2 rfl rfl rfl ?_
  refine hz_cVi (pc' := 6) (av := [.int x1]) (rest := [.ref (B.1 + a0)]) vl_X10_274 (fun x w' h => ct_X10_isDomain hl h) ga0 rfl rfl (Nat.le_of_ble_eq_true rfl) (by decide) (by decide) rfl dX10_temperature_3 rfl (fun v2 w1 => ?_)
  refine hz_cVi (pc' := 9) (av := [.int v2]) (rest := []) vl_X10_207 (fun x w' h => ct_X10_isWrong hl h) ga0 rfl rfl (Nat.le_of_ble_eq_true rfl) (by decide) (by decide) rfl dX10_temperature_6 rfl (fun v4 w3 => ?_)
  refine hz_bindJ (pcJ := 22) (LJ := fun q5 : Int32 × MW => []) (stJ := fun q5 : Int32 × MW => [.int q5.1]) (kJ := 0) (slJ := 0) (nJ := 358) (wJ := fun q5 : Int32 × MW => q5.2) (fun q5 => ?_) (fun hq5 => ?_)
  · exact hz_reti dX10_temperature_22 rfl (by decide)
  · refine hz_ifeq (pc' := 12) (tgt := 16) dX10_temperature_9 (by decide) rfl ?_ ?_
    · refine hz_aload_n (pc' := 17) (j := 0) dX10_temperature_16 rfl rfl rfl ?_
      refine hz_iload_n (pc' := 18) (j := 1) dX10_temperature_17 rfl rfl rfl ?_
      refine hz_iconst (pc' := 19) (v := 2) dX10_temperature_18 rfl (by decide) ?_
      refine hz_cVi (pc' := 22) (av := [.int x1, .int 2]) (rest := []) vl_X10_214 (fun x w' h => ct_X10_of hl h) ga0 rfl rfl (Nat.le_of_ble_eq_true rfl) (by decide) (by decide) rfl dX10_temperature_19 rfl (fun v7 w6 => ?_)
      exact hz_loc [] rfl (hq5 (v7, w6))
    · refine hz_iconst (pc' := 13) (v := 0) dX10_temperature_12 rfl (by decide) ?_
      refine hz_goto (tgt := 22) dX10_temperature_13 (by decide) ?_
      exact hz_loc [] rfl (hq5 (0, w3))
def f_X10_level (a0 : Nat) (x1 : Int32) (w : MW) : Option (Int32 × MW) :=
  hz_gd (hz_g 358 a0 11) (hz_b (f_X10_isDomain a0 x1 w) (fun v2 w1 => hz_b (f_X10_isWrong a0 v2 w1) (fun v4 w3 => Option.bind ((if v4 = 0 then hz_b (f_X10_of a0 x1 3 w3) (fun v7 w6 => some (v7, w6)) else some (0, w3))) (fun q5 : Int32 × MW => some (q5.1, q5.2)))))
set_option maxHeartbeats 4000000 in
set_option maxRecDepth 100000 in
theorem ct_X10_level {l : Launch} (hl : l.stackTraces = false) {B : Bt} {a0 : Nat} {x1 : Int32} {w : MW} {r : Int32 × MW} (h : f_X10_level a0 x1 w = some r) : hz_Met l B false 358 358 yX10_level cX10_level 2 (Option.some FieldType.int) 4 0 0 [.ref (B.1 + a0), .int x1] w (some (.int r.1)) r.2 := by
  refine hz_ofJ (rv := (fun r : Int32 × MW => some (.int r.1))) (wo := (fun r : Int32 × MW => r.2)) (own := RX10) (ini := false) hl (by decide) rfl (Or.inr rfl) (Nat.le_of_ble_eq_true rfl) rfl ?_ h
  intro p e s m args below meth c
  unfold f_X10_level
  refine hz_gdr (fun ga0 => ?_)
  refine hz_aload_n (pc' := 1) (j := 0) dX10_level_0 rfl rfl rfl ?_
  refine hz_aload_n (pc' := 2) (j := 0) dX10_level_1 rfl rfl rfl ?_
  refine hz_iload_n (pc' := 3) (j := 1) dX10_level_2 rfl rfl rfl ?_
  refine hz_cVi (pc' := 6) (av := [.int x1]) (rest := [.ref (B.1 + a0)]) vl_X10_274 (fun x w' h => ct_X10_isDomain hl h) ga0 rfl rfl (Nat.le_of_ble_eq_true rfl) (by decide) (by decide) rfl dX10_level_3 rfl (fun v2 w1 => ?_)
  refine hz_cVi (pc' := 9) (av := [.int v2]) (rest := []) vl_X10_207 (fun x w' h => ct_X10_isWrong hl h) ga0 rfl rfl (Nat.le_of_ble_eq_true rfl) (by decide) (by decide) rfl dX10_level_6 rfl (fun v4 w3 => ?_)
  refine hz_bindJ (pcJ := 22) (LJ := fun q5 : Int32 × MW => []) (stJ := fun q5 : Int32 × MW => [.int q5.1]) (kJ := 0) (slJ := 0) (nJ := 358) (wJ := fun q5 : Int32 × MW => q5.2) (fun q5 => ?_) (fun hq5 => ?_)
  · exact hz_reti dX10_level_22 rfl (by decide)
  · refine hz_ifeq (pc' := 12) (tgt := 16) dX10_level_9 (by decide) rfl ?_ ?_
    · refine hz_aload_n (pc' := 17) (j := 0) dX10_level_16 rfl rfl rfl ?_
      refine hz_iload_n (pc' := 18) (j := 1) dX10_level_17 rfl rfl rfl ?_
      refine hz_iconst (pc' := 19) (v := 3) dX10_level_18 rfl (by decide) ?_
      refine hz_cVi (pc' := 22) (av := [.int x1, .int 3]) (rest := []) vl_X10_214 (fun x w' h => ct_X10_of hl h) ga0 rfl rfl (Nat.le_of_ble_eq_true rfl) (by decide) (by decide) rfl dX10_level_19 rfl (fun v7 w6 => ?_)
      exact hz_loc [] rfl (hq5 (v7, w6))
    · refine hz_iconst (pc' := 13) (v := 0) dX10_level_12 rfl (by decide) ?_
      refine hz_goto (tgt := 22) dX10_level_13 (by decide) ?_
      exact hz_loc [] rfl (hq5 (0, w3))
def f_X10_energy (a0 : Nat) (x1 : Int32) (w : MW) : Option (Int32 × MW) :=
  hz_gd (hz_g 358 a0 11) (hz_b (f_X10_isDomain a0 x1 w) (fun v2 w1 => hz_b (f_X10_isWrong a0 v2 w1) (fun v4 w3 => Option.bind ((if v4 = 0 then hz_b (f_X10_of a0 x1 4 w3) (fun v7 w6 => some (v7, w6)) else some (0, w3))) (fun q5 : Int32 × MW => some (q5.1, q5.2)))))
set_option maxHeartbeats 4000000 in
set_option maxRecDepth 100000 in
theorem ct_X10_energy {l : Launch} (hl : l.stackTraces = false) {B : Bt} {a0 : Nat} {x1 : Int32} {w : MW} {r : Int32 × MW} (h : f_X10_energy a0 x1 w = some r) : hz_Met l B false 358 358 yX10_energy cX10_energy 2 (Option.some FieldType.int) 4 0 0 [.ref (B.1 + a0), .int x1] w (some (.int r.1)) r.2 := by
  refine hz_ofJ (rv := (fun r : Int32 × MW => some (.int r.1))) (wo := (fun r : Int32 × MW => r.2)) (own := RX10) (ini := false) hl (by decide) rfl (Or.inr rfl) (Nat.le_of_ble_eq_true rfl) rfl ?_ h
  intro p e s m args below meth c
  unfold f_X10_energy
  refine hz_gdr (fun ga0 => ?_)
  refine hz_aload_n (pc' := 1) (j := 0) dX10_energy_0 rfl rfl rfl ?_
  refine hz_aload_n (pc' := 2) (j := 0) dX10_energy_1 rfl rfl rfl ?_
  refine hz_iload_n (pc' := 3) (j := 1) dX10_energy_2 rfl rfl rfl ?_
  refine hz_cVi (pc' := 6) (av := [.int x1]) (rest := [.ref (B.1 + a0)]) vl_X10_274 (fun x w' h => ct_X10_isDomain hl h) ga0 rfl rfl (Nat.le_of_ble_eq_true rfl) (by decide) (by decide) rfl dX10_energy_3 rfl (fun v2 w1 => ?_)
  refine hz_cVi (pc' := 9) (av := [.int v2]) (rest := []) vl_X10_207 (fun x w' h => ct_X10_isWrong hl h) ga0 rfl rfl (Nat.le_of_ble_eq_true rfl) (by decide) (by decide) rfl dX10_energy_6 rfl (fun v4 w3 => ?_)
  refine hz_bindJ (pcJ := 22) (LJ := fun q5 : Int32 × MW => []) (stJ := fun q5 : Int32 × MW => [.int q5.1]) (kJ := 0) (slJ := 0) (nJ := 358) (wJ := fun q5 : Int32 × MW => q5.2) (fun q5 => ?_) (fun hq5 => ?_)
  · exact hz_reti dX10_energy_22 rfl (by decide)
  · refine hz_ifeq (pc' := 12) (tgt := 16) dX10_energy_9 (by decide) rfl ?_ ?_
    · refine hz_aload_n (pc' := 17) (j := 0) dX10_energy_16 rfl rfl rfl ?_
      refine hz_iload_n (pc' := 18) (j := 1) dX10_energy_17 rfl rfl rfl ?_
      refine hz_iconst (pc' := 19) (v := 4) dX10_energy_18 rfl (by decide) ?_
      refine hz_cVi (pc' := 22) (av := [.int x1, .int 4]) (rest := []) vl_X10_214 (fun x w' h => ct_X10_of hl h) ga0 rfl rfl (Nat.le_of_ble_eq_true rfl) (by decide) (by decide) rfl dX10_energy_19 rfl (fun v7 w6 => ?_)
      exact hz_loc [] rfl (hq5 (v7, w6))
    · refine hz_iconst (pc' := 13) (v := 0) dX10_energy_12 rfl (by decide) ?_
      refine hz_goto (tgt := 22) dX10_energy_13 (by decide) ?_
      exact hz_loc [] rfl (hq5 (0, w3))
def f_X10_domainValue (a0 : Nat) (x1 : Int32) (x2 : Int32) (w : MW) : Option (Int32 × MW) :=
  hz_gd (hz_g 358 a0 11) (hz_b (f_X10_isDomain a0 x1 w) (fun v2 w1 => Option.bind ((if v2 = 0 then some (0, w1) else hz_b (f_X10_isIn (Int32.toInt64 x2) 0 8 w1) (fun v33 w32 => (if v33 = 0 then some (0, w32) else some (1, w32))))) (fun q3 : Int32 × MW => hz_b (f_X10_isWrong a0 q3.1 q3.2) (fun v5 w4 => (if v5 = 0 then (if x2 = 0 then hz_b (f_X10_of a0 x1 5 w4) (fun v7 w6 => some (v7, w6)) else (if x2 = 1 then hz_b (f_X10_of a0 x1 6 w4) (fun v10 w9 => some (v10, w9)) else (if x2 = 2 then hz_b (f_X10_of a0 x1 7 w4) (fun v13 w12 => some (v13, w12)) else (if x2 = 3 then hz_b (f_X10_of a0 x1 8 w4) (fun v16 w15 => some (v16, w15)) else (if x2 = 4 then hz_b (f_X10_of a0 x1 0 w4) (fun v19 w18 => some (v19, w18)) else (if x2 = 5 then hz_b (f_X10_of a0 x1 1 w4) (fun v22 w21 => some (v22, w21)) else (if x2 = 6 then hz_ldp w4 a0 12 358 20 (fun b24 => hz_lda w4 b24 x1 (fun v25 => some (v25, w4))) else (if x2 = 7 then hz_ldp w4 a0 6 358 20 (fun b27 => hz_lda w4 b27 x1 (fun v28 => some (v28, w4))) else hz_ldp w4 a0 10 358 20 (fun b30 => hz_lda w4 b30 x1 (fun v31 => some (v31, w4))))))))))) else some (0, w4))))))
set_option maxHeartbeats 4000000 in
set_option maxRecDepth 100000 in
theorem ct_X10_domainValue {l : Launch} (hl : l.stackTraces = false) {B : Bt} {a0 : Nat} {x1 : Int32} {x2 : Int32} {w : MW} {r : Int32 × MW} (h : f_X10_domainValue a0 x1 x2 w = some r) : hz_Met l B false 358 358 yX10_domainValue cX10_domainValue 3 (Option.some FieldType.int) 4 0 0 [.ref (B.1 + a0), .int x1, .int x2] w (some (.int r.1)) r.2 := by
  refine hz_ofJ (rv := (fun r : Int32 × MW => some (.int r.1))) (wo := (fun r : Int32 × MW => r.2)) (own := RX10) (ini := false) hl (by decide) rfl (Or.inr rfl) (Nat.le_of_ble_eq_true rfl) rfl ?_ h
  intro p e s m args below meth c
  unfold f_X10_domainValue
  refine hz_gdr (fun ga0 => ?_)
  refine hz_aload_n (pc' := 1) (j := 0) dX10_domainValue_0 rfl rfl rfl ?_
  refine hz_aload_n (pc' := 2) (j := 0) dX10_domainValue_1 rfl rfl rfl ?_
  refine hz_iload_n (pc' := 3) (j := 1) dX10_domainValue_2 rfl rfl rfl ?_
  refine hz_cVi (pc' := 6) (av := [.int x1]) (rest := [.ref (B.1 + a0)]) vl_X10_274 (fun x w' h => ct_X10_isDomain hl h) ga0 rfl rfl (Nat.le_of_ble_eq_true rfl) (by decide) (by decide) rfl dX10_domainValue_3 rfl (fun v2 w1 => ?_)
  refine hz_bindJ (pcJ := 26) (LJ := fun q3 : Int32 × MW => [(0, .ref (B.1 + a0)), (1, .int x1), (2, .int x2)]) (stJ := fun q3 : Int32 × MW => [.int q3.1, .ref (B.1 + a0)]) (kJ := 0) (slJ := 0) (nJ := 358) (wJ := fun q3 : Int32 × MW => q3.2) (fun q3 => ?_) (fun hq3 => ?_)
  · refine hz_cVi (pc' := 29) (av := [.int q3.1]) (rest := []) vl_X10_207 (fun x w' h => ct_X10_isWrong hl h) ga0 rfl rfl (Nat.le_of_ble_eq_true rfl) (by decide) (by decide) rfl dX10_domainValue_26 rfl (fun v5 w4 => ?_)
    refine hz_ifeq (pc' := 32) (tgt := 34) dX10_domainValue_29 (by decide) rfl ?_ ?_
    · refine hz_iload_n (pc' := 35) (j := 2) dX10_domainValue_34 rfl rfl rfl ?_
      refine hz_swIn (v := 0) (off := 45) (tgt := 80) dX10_domainValue_35 (by decide) (by decide) (by decide +kernel) (by decide) ?_ (fun hs8 => ?_)
      · refine hz_aload_n (pc' := 81) (j := 0) dX10_domainValue_80 rfl rfl rfl ?_
        refine hz_iload_n (pc' := 82) (j := 1) dX10_domainValue_81 rfl rfl rfl ?_
        refine hz_iconst (pc' := 83) (v := 5) dX10_domainValue_82 rfl (by decide) ?_
        refine hz_cVi (pc' := 86) (av := [.int x1, .int 5]) (rest := []) vl_X10_214 (fun x w' h => ct_X10_of hl h) ga0 rfl rfl (Nat.le_of_ble_eq_true rfl) (by decide) (by decide) rfl dX10_domainValue_83 rfl (fun v7 w6 => ?_)
        exact hz_reti dX10_domainValue_86 rfl (by decide)
      refine hz_swIn (v := 1) (off := 52) (tgt := 87) dX10_domainValue_35 (by decide) (by decide) (by decide +kernel) (by decide) ?_ (fun hs11 => ?_)
      · refine hz_aload_n (pc' := 88) (j := 0) dX10_domainValue_87 rfl rfl rfl ?_
        refine hz_iload_n (pc' := 89) (j := 1) dX10_domainValue_88 rfl rfl rfl ?_
        refine hz_bipush (pc' := 91) (v := 6) dX10_domainValue_89 rfl (by decide) ?_
        refine hz_cVi (pc' := 94) (av := [.int x1, .int 6]) (rest := []) vl_X10_214 (fun x w' h => ct_X10_of hl h) ga0 rfl rfl (Nat.le_of_ble_eq_true rfl) (by decide) (by decide) rfl dX10_domainValue_91 rfl (fun v10 w9 => ?_)
        exact hz_reti dX10_domainValue_94 rfl (by decide)
      refine hz_swIn (v := 2) (off := 60) (tgt := 95) dX10_domainValue_35 (by decide) (by decide) (by decide +kernel) (by decide) ?_ (fun hs14 => ?_)
      · refine hz_aload_n (pc' := 96) (j := 0) dX10_domainValue_95 rfl rfl rfl ?_
        refine hz_iload_n (pc' := 97) (j := 1) dX10_domainValue_96 rfl rfl rfl ?_
        refine hz_bipush (pc' := 99) (v := 7) dX10_domainValue_97 rfl (by decide) ?_
        refine hz_cVi (pc' := 102) (av := [.int x1, .int 7]) (rest := []) vl_X10_214 (fun x w' h => ct_X10_of hl h) ga0 rfl rfl (Nat.le_of_ble_eq_true rfl) (by decide) (by decide) rfl dX10_domainValue_99 rfl (fun v13 w12 => ?_)
        exact hz_reti dX10_domainValue_102 rfl (by decide)
      refine hz_swIn (v := 3) (off := 68) (tgt := 103) dX10_domainValue_35 (by decide) (by decide) (by decide +kernel) (by decide) ?_ (fun hs17 => ?_)
      · refine hz_aload_n (pc' := 104) (j := 0) dX10_domainValue_103 rfl rfl rfl ?_
        refine hz_iload_n (pc' := 105) (j := 1) dX10_domainValue_104 rfl rfl rfl ?_
        refine hz_bipush (pc' := 107) (v := 8) dX10_domainValue_105 rfl (by decide) ?_
        refine hz_cVi (pc' := 110) (av := [.int x1, .int 8]) (rest := []) vl_X10_214 (fun x w' h => ct_X10_of hl h) ga0 rfl rfl (Nat.le_of_ble_eq_true rfl) (by decide) (by decide) rfl dX10_domainValue_107 rfl (fun v16 w15 => ?_)
        exact hz_reti dX10_domainValue_110 rfl (by decide)
      refine hz_swIn (v := 4) (off := 76) (tgt := 111) dX10_domainValue_35 (by decide) (by decide) (by decide +kernel) (by decide) ?_ (fun hs20 => ?_)
      · refine hz_aload_n (pc' := 112) (j := 0) dX10_domainValue_111 rfl rfl rfl ?_
        refine hz_iload_n (pc' := 113) (j := 1) dX10_domainValue_112 rfl rfl rfl ?_
        refine hz_iconst (pc' := 114) (v := 0) dX10_domainValue_113 rfl (by decide) ?_
        refine hz_cVi (pc' := 117) (av := [.int x1, .int 0]) (rest := []) vl_X10_214 (fun x w' h => ct_X10_of hl h) ga0 rfl rfl (Nat.le_of_ble_eq_true rfl) (by decide) (by decide) rfl dX10_domainValue_114 rfl (fun v19 w18 => ?_)
        exact hz_reti dX10_domainValue_117 rfl (by decide)
      refine hz_swIn (v := 5) (off := 83) (tgt := 118) dX10_domainValue_35 (by decide) (by decide) (by decide +kernel) (by decide) ?_ (fun hs23 => ?_)
      · refine hz_aload_n (pc' := 119) (j := 0) dX10_domainValue_118 rfl rfl rfl ?_
        refine hz_iload_n (pc' := 120) (j := 1) dX10_domainValue_119 rfl rfl rfl ?_
        refine hz_iconst (pc' := 121) (v := 1) dX10_domainValue_120 rfl (by decide) ?_
        refine hz_cVi (pc' := 124) (av := [.int x1, .int 1]) (rest := []) vl_X10_214 (fun x w' h => ct_X10_of hl h) ga0 rfl rfl (Nat.le_of_ble_eq_true rfl) (by decide) (by decide) rfl dX10_domainValue_121 rfl (fun v22 w21 => ?_)
        exact hz_reti dX10_domainValue_124 rfl (by decide)
      refine hz_swIn (v := 6) (off := 90) (tgt := 125) dX10_domainValue_35 (by decide) (by decide) (by decide +kernel) (by decide) ?_ (fun hs26 => ?_)
      · refine hz_aload_n (pc' := 126) (j := 0) dX10_domainValue_125 rfl rfl rfl ?_
        refine hz_gP (pc' := 129) (c' := 20) fl_X10_34.r ga0 rfl dX10_domainValue_126 rfl (fun b24 gb24 => ?_)
        refine hz_iload_n (pc' := 130) (j := 1) dX10_domainValue_129 rfl rfl rfl ?_
        refine hz_iald (pc' := 131) gb24 dX10_domainValue_130 rfl (fun v25 => ?_)
        exact hz_reti dX10_domainValue_131 rfl (by decide)
      refine hz_swIn (v := 7) (off := 97) (tgt := 132) dX10_domainValue_35 (by decide) (by decide) (by decide +kernel) (by decide) ?_ (fun hs29 => ?_)
      · refine hz_aload_n (pc' := 133) (j := 0) dX10_domainValue_132 rfl rfl rfl ?_
        refine hz_gP (pc' := 136) (c' := 20) fl_X10_16.r ga0 rfl dX10_domainValue_133 rfl (fun b27 gb27 => ?_)
        refine hz_iload_n (pc' := 137) (j := 1) dX10_domainValue_136 rfl rfl rfl ?_
        refine hz_iald (pc' := 138) gb27 dX10_domainValue_137 rfl (fun v28 => ?_)
        exact hz_reti dX10_domainValue_138 rfl (by decide)
      refine hz_swOut (tgt := 139) dX10_domainValue_35 (by have z0 := lv_neT (a := 0) hs8 (by decide); have z1 := lv_neT (a := 1) hs11 (by decide); have z2 := lv_neT (a := 2) hs14 (by decide); have z3 := lv_neT (a := 3) hs17 (by decide); have z4 := lv_neT (a := 4) hs20 (by decide); have z5 := lv_neT (a := 5) hs23 (by decide); have z6 := lv_neT (a := 6) hs26 (by decide); have z7 := lv_neT (a := 7) hs29 (by decide); omega) (by decide) ?_
      refine hz_aload_n (pc' := 140) (j := 0) dX10_domainValue_139 rfl rfl rfl ?_
      refine hz_gP (pc' := 143) (c' := 20) fl_X10_28.r ga0 rfl dX10_domainValue_140 rfl (fun b30 gb30 => ?_)
      refine hz_iload_n (pc' := 144) (j := 1) dX10_domainValue_143 rfl rfl rfl ?_
      refine hz_iald (pc' := 145) gb30 dX10_domainValue_144 rfl (fun v31 => ?_)
      exact hz_reti dX10_domainValue_145 rfl (by decide)
    · refine hz_iconst (pc' := 33) (v := 0) dX10_domainValue_32 rfl (by decide) ?_
      exact hz_reti dX10_domainValue_33 rfl (by decide)
  · refine hz_ifeq (pc' := 9) (tgt := 25) dX10_domainValue_6 (by decide) rfl ?_ ?_
    · refine hz_iconst (pc' := 26) (v := 0) dX10_domainValue_25 rfl (by decide) ?_
      exact hz_loc [0, 1, 2] rfl (hq3 (0, w1))
    · refine hz_iload_n (pc' := 10) (j := 2) dX10_domainValue_9 rfl rfl rfl ?_
      refine hz_i2l (pc' := 11) dX10_domainValue_10 rfl ?_
      refine hz_lconst (pc' := 12) (v := 0) dX10_domainValue_11 rfl (by decide) ?_
      refine hz_ldc2 (pc' := 15) (v := 8) dX10_domainValue_12 rfl hq_1568 ?_
      refine hz_cSi (pc' := 18) (av := [.long (Int32.toInt64 x2), .long 0, .long 8]) (rest := [.ref (B.1 + a0)]) sl_X10_88 (fun x w' h => ct_X10_isIn hl h) rfl rfl (Nat.le_of_ble_eq_true rfl) (by decide) (by decide) rfl dX10_domainValue_15 rfl (fun v33 w32 => ?_)
      refine hz_ifeq (pc' := 21) (tgt := 25) dX10_domainValue_18 (by decide) rfl ?_ ?_
      · refine hz_iconst (pc' := 26) (v := 0) dX10_domainValue_25 rfl (by decide) ?_
        exact hz_loc [0, 1, 2] rfl (hq3 (0, w32))
      · refine hz_iconst (pc' := 22) (v := 1) dX10_domainValue_21 rfl (by decide) ?_
        refine hz_goto (tgt := 26) dX10_domainValue_22 (by decide) ?_
        exact hz_loc [0, 1, 2] rfl (hq3 (1, w32))
def f_X10_jobOn (a0 : Nat) (x1 : Int32) (x2 : Int32) (w : MW) : Option (Int32 × MW) :=
  hz_gd (hz_g 358 a0 11) (hz_b (f_X10_isDomain a0 x1 w) (fun v2 w1 => Option.bind ((if v2 = 0 then some (0, w1) else hz_b (f_X10_isDomain a0 x1 w1) (fun v12 w11 => Option.bind ((if v12 = 0 then some 0 else hz_ldp w11 a0 6 358 20 (fun b16 => hz_lda w11 b16 x1 (fun v17 => some v17)))) (fun q13 : Int32 => hz_b (f_X10_isIn (Int32.toInt64 x2) 0 (Int32.toInt64 (q13 - 1)) w11) (fun v15 w14 => (if v15 = 0 then some (0, w14) else some (1, w14))))))) (fun q3 : Int32 × MW => hz_b (f_X10_isWrong a0 q3.1 q3.2) (fun v5 w4 => (if v5 = 0 then hz_b (f_X10_of a0 x1 (9 + x2) w4) (fun v7 w6 => Option.bind ((if v7 = (-1) then some ((-2), w6) else hz_b (f_X10_of a0 x1 (9 + x2) w6) (fun v10 w9 => some (v10, w9)))) (fun q8 : Int32 × MW => some (q8.1, q8.2))) else some (0, w4))))))
set_option maxHeartbeats 4000000 in
set_option maxRecDepth 100000 in
theorem ct_X10_jobOn {l : Launch} (hl : l.stackTraces = false) {B : Bt} {a0 : Nat} {x1 : Int32} {x2 : Int32} {w : MW} {r : Int32 × MW} (h : f_X10_jobOn a0 x1 x2 w = some r) : hz_Met l B false 358 358 yX10_jobOn cX10_jobOn 3 (Option.some FieldType.int) 4 0 0 [.ref (B.1 + a0), .int x1, .int x2] w (some (.int r.1)) r.2 := by
  refine hz_ofJ (rv := (fun r : Int32 × MW => some (.int r.1))) (wo := (fun r : Int32 × MW => r.2)) (own := RX10) (ini := false) hl (by decide) rfl (Or.inr rfl) (Nat.le_of_ble_eq_true rfl) rfl ?_ h
  intro p e s m args below meth c
  unfold f_X10_jobOn
  refine hz_gdr (fun ga0 => ?_)
  refine hz_aload_n (pc' := 1) (j := 0) dX10_jobOn_0 rfl rfl rfl ?_
  refine hz_aload_n (pc' := 2) (j := 0) dX10_jobOn_1 rfl rfl rfl ?_
  refine hz_iload_n (pc' := 3) (j := 1) dX10_jobOn_2 rfl rfl rfl ?_
  refine hz_cVi (pc' := 6) (av := [.int x1]) (rest := [.ref (B.1 + a0)]) vl_X10_274 (fun x w' h => ct_X10_isDomain hl h) ga0 rfl rfl (Nat.le_of_ble_eq_true rfl) (by decide) (by decide) rfl dX10_jobOn_3 rfl (fun v2 w1 => ?_)
  refine hz_bindJ (pcJ := 44) (LJ := fun q3 : Int32 × MW => [(0, .ref (B.1 + a0)), (1, .int x1), (2, .int x2)]) (stJ := fun q3 : Int32 × MW => [.int q3.1, .ref (B.1 + a0)]) (kJ := 0) (slJ := 0) (nJ := 358) (wJ := fun q3 : Int32 × MW => q3.2) (fun q3 => ?_) (fun hq3 => ?_)
  · refine hz_cVi (pc' := 47) (av := [.int q3.1]) (rest := []) vl_X10_207 (fun x w' h => ct_X10_isWrong hl h) ga0 rfl rfl (Nat.le_of_ble_eq_true rfl) (by decide) (by decide) rfl dX10_jobOn_44 rfl (fun v5 w4 => ?_)
    refine hz_ifeq (pc' := 50) (tgt := 52) dX10_jobOn_47 (by decide) rfl ?_ ?_
    · refine hz_aload_n (pc' := 53) (j := 0) dX10_jobOn_52 rfl rfl rfl ?_
      refine hz_iload_n (pc' := 54) (j := 1) dX10_jobOn_53 rfl rfl rfl ?_
      refine hz_bipush (pc' := 56) (v := 9) dX10_jobOn_54 rfl (by decide) ?_
      refine hz_iload_n (pc' := 57) (j := 2) dX10_jobOn_56 rfl rfl rfl ?_
      refine hz_iadd (pc' := 58) dX10_jobOn_57 rfl ?_
      refine hz_cVi (pc' := 61) (av := [.int x1, .int (9 + x2)]) (rest := []) vl_X10_214 (fun x w' h => ct_X10_of hl h) ga0 rfl rfl (Nat.le_of_ble_eq_true rfl) (by decide) (by decide) rfl dX10_jobOn_58 rfl (fun v7 w6 => ?_)
      refine hz_iconst (pc' := 62) (v := (-1)) dX10_jobOn_61 rfl (by decide) ?_
      refine hz_bindJ (pcJ := 79) (LJ := fun q8 : Int32 × MW => []) (stJ := fun q8 : Int32 × MW => [.int q8.1]) (kJ := 0) (slJ := 0) (nJ := 358) (wJ := fun q8 : Int32 × MW => q8.2) (fun q8 => ?_) (fun hq8 => ?_)
      · exact hz_reti dX10_jobOn_79 rfl (by decide)
      · refine hz_icmpne (pc' := 65) (tgt := 70) dX10_jobOn_62 (by decide) rfl ?_ ?_
        · refine hz_aload_n (pc' := 71) (j := 0) dX10_jobOn_70 rfl rfl rfl ?_
          refine hz_iload_n (pc' := 72) (j := 1) dX10_jobOn_71 rfl rfl rfl ?_
          refine hz_bipush (pc' := 74) (v := 9) dX10_jobOn_72 rfl (by decide) ?_
          refine hz_iload_n (pc' := 75) (j := 2) dX10_jobOn_74 rfl rfl rfl ?_
          refine hz_iadd (pc' := 76) dX10_jobOn_75 rfl ?_
          refine hz_cVi (pc' := 79) (av := [.int x1, .int (9 + x2)]) (rest := []) vl_X10_214 (fun x w' h => ct_X10_of hl h) ga0 rfl rfl (Nat.le_of_ble_eq_true rfl) (by decide) (by decide) rfl dX10_jobOn_76 rfl (fun v10 w9 => ?_)
          exact hz_loc [] rfl (hq8 (v10, w9))
        · refine hz_bipush (pc' := 67) (v := (-2)) dX10_jobOn_65 rfl (by decide) ?_
          refine hz_goto (tgt := 79) dX10_jobOn_67 (by decide) ?_
          exact hz_loc [] rfl (hq8 ((-2), w6))
    · refine hz_iconst (pc' := 51) (v := 0) dX10_jobOn_50 rfl (by decide) ?_
      exact hz_reti dX10_jobOn_51 rfl (by decide)
  · refine hz_ifeq (pc' := 9) (tgt := 43) dX10_jobOn_6 (by decide) rfl ?_ ?_
    · refine hz_iconst (pc' := 44) (v := 0) dX10_jobOn_43 rfl (by decide) ?_
      exact hz_loc [0, 1, 2] rfl (hq3 (0, w1))
    · refine hz_iload_n (pc' := 10) (j := 2) dX10_jobOn_9 rfl rfl rfl ?_
      refine hz_i2l (pc' := 11) dX10_jobOn_10 rfl ?_
      refine hz_lconst (pc' := 12) (v := 0) dX10_jobOn_11 rfl (by decide) ?_
      refine hz_aload_n (pc' := 13) (j := 0) dX10_jobOn_12 rfl rfl rfl ?_
      refine hz_iload_n (pc' := 14) (j := 1) dX10_jobOn_13 rfl rfl rfl ?_
      refine hz_cVi (pc' := 17) (av := [.int x1]) (rest := [.long 0, .long (Int32.toInt64 x2), .ref (B.1 + a0)]) vl_X10_274 (fun x w' h => ct_X10_isDomain hl h) ga0 rfl rfl (Nat.le_of_ble_eq_true rfl) (by decide) (by decide) rfl dX10_jobOn_14 rfl (fun v12 w11 => ?_)
      refine hz_bindJ (pcJ := 30) (LJ := fun q13 : Int32 => [(0, .ref (B.1 + a0)), (1, .int x1), (2, .int x2)]) (stJ := fun q13 : Int32 => [.int q13, .long 0, .long (Int32.toInt64 x2), .ref (B.1 + a0)]) (kJ := 0) (slJ := 0) (nJ := 358) (wJ := fun q13 : Int32 => w11) (fun q13 => ?_) (fun hq13 => ?_)
      · refine hz_iconst (pc' := 31) (v := 1) dX10_jobOn_30 rfl (by decide) ?_
        refine hz_isub (pc' := 32) dX10_jobOn_31 rfl ?_
        refine hz_i2l (pc' := 33) dX10_jobOn_32 rfl ?_
        refine hz_cSi (pc' := 36) (av := [.long (Int32.toInt64 x2), .long 0, .long (Int32.toInt64 (q13 - 1))]) (rest := [.ref (B.1 + a0)]) sl_X10_88 (fun x w' h => ct_X10_isIn hl h) rfl rfl (Nat.le_of_ble_eq_true rfl) (by decide) (by decide) rfl dX10_jobOn_33 rfl (fun v15 w14 => ?_)
        refine hz_ifeq (pc' := 39) (tgt := 43) dX10_jobOn_36 (by decide) rfl ?_ ?_
        · refine hz_iconst (pc' := 44) (v := 0) dX10_jobOn_43 rfl (by decide) ?_
          exact hz_loc [0, 1, 2] rfl (hq3 (0, w14))
        · refine hz_iconst (pc' := 40) (v := 1) dX10_jobOn_39 rfl (by decide) ?_
          refine hz_goto (tgt := 44) dX10_jobOn_40 (by decide) ?_
          exact hz_loc [0, 1, 2] rfl (hq3 (1, w14))
      · refine hz_ifeq (pc' := 20) (tgt := 29) dX10_jobOn_17 (by decide) rfl ?_ ?_
        · refine hz_iconst (pc' := 30) (v := 0) dX10_jobOn_29 rfl (by decide) ?_
          exact hz_loc [0, 1, 2] rfl (hq13 0)
        · refine hz_aload_n (pc' := 21) (j := 0) dX10_jobOn_20 rfl rfl rfl ?_
          refine hz_gP (pc' := 24) (c' := 20) fl_X10_16.r ga0 rfl dX10_jobOn_21 rfl (fun b16 gb16 => ?_)
          refine hz_iload_n (pc' := 25) (j := 1) dX10_jobOn_24 rfl rfl rfl ?_
          refine hz_iald (pc' := 26) gb16 dX10_jobOn_25 rfl (fun v17 => ?_)
          refine hz_goto (tgt := 30) dX10_jobOn_26 (by decide) ?_
          exact hz_loc [0, 1, 2] rfl (hq13 v17)
def f_X10_room (a0 : Nat) (x1 : Int32) (w : MW) : Option (Int32 × MW) :=
  hz_gd (hz_g 358 a0 11) (hz_b (f_X10_of a0 x1 0 w) (fun v2 w1 => hz_b (f_X10_of a0 x1 2 w1) (fun v4 w3 => some ((v2 - v4), w3))))
set_option maxHeartbeats 4000000 in
set_option maxRecDepth 100000 in
theorem ct_X10_room {l : Launch} (hl : l.stackTraces = false) {B : Bt} {a0 : Nat} {x1 : Int32} {w : MW} {r : Int32 × MW} (h : f_X10_room a0 x1 w = some r) : hz_Met l B false 358 358 yX10_room cX10_room 2 (Option.some FieldType.int) 3 0 0 [.ref (B.1 + a0), .int x1] w (some (.int r.1)) r.2 := by
  refine hz_ofJ (rv := (fun r : Int32 × MW => some (.int r.1))) (wo := (fun r : Int32 × MW => r.2)) (own := RX10) (ini := false) hl (by decide) rfl (Or.inr rfl) (Nat.le_of_ble_eq_true rfl) rfl ?_ h
  intro p e s m args below meth c
  unfold f_X10_room
  refine hz_gdr (fun ga0 => ?_)
  refine hz_aload_n (pc' := 1) (j := 0) dX10_room_0 rfl rfl rfl ?_
  refine hz_iload_n (pc' := 2) (j := 1) dX10_room_1 rfl rfl rfl ?_
  refine hz_iconst (pc' := 3) (v := 0) dX10_room_2 rfl (by decide) ?_
  refine hz_cVi (pc' := 6) (av := [.int x1, .int 0]) (rest := []) vl_X10_214 (fun x w' h => ct_X10_of hl h) ga0 rfl rfl (Nat.le_of_ble_eq_true rfl) (by decide) (by decide) rfl dX10_room_3 rfl (fun v2 w1 => ?_)
  refine hz_aload_n (pc' := 7) (j := 0) dX10_room_6 rfl rfl rfl ?_
  refine hz_iload_n (pc' := 8) (j := 1) dX10_room_7 rfl rfl rfl ?_
  refine hz_iconst (pc' := 9) (v := 2) dX10_room_8 rfl (by decide) ?_
  refine hz_cVi (pc' := 12) (av := [.int x1, .int 2]) (rest := [.int v2]) vl_X10_214 (fun x w' h => ct_X10_of hl h) ga0 rfl rfl (Nat.le_of_ble_eq_true rfl) (by decide) (by decide) rfl dX10_room_9 rfl (fun v4 w3 => ?_)
  refine hz_isub (pc' := 13) dX10_room_12 rfl ?_
  exact hz_reti dX10_room_13 rfl (by decide)
def lp_X10_throttleOrder_33 (c0 : Nat) (c1 : Int32) (c2 : Int32) : Nat → (Int32 × Int32 × MW) → Option (Int32 × MW)
  | 0, _ => none
  | N + 1, v0 => (if (v0.2.2.1 c0 5) ≤ v0.2.1 then some (v0.1, v0.2.2) else hz_b (f_X10_room c0 v0.2.1 v0.2.2) (fun v6 w5 => hz_b (f_X10_room c0 c2 w5) (fun v8 w7 => Option.bind ((if v6 < v8 then some (1, w7) else hz_b (f_X10_room c0 v0.2.1 w7) (fun v13 w12 => hz_b (f_X10_room c0 c2 w12) (fun v15 w14 => (if v13 = v15 then (if c2 ≤ v0.2.1 then some (0, w14) else some (1, w14)) else some (0, w14)))))) (fun q9 : Int32 × MW => hz_let (v0.1 + q9.1) (fun v10 => hz_let (v0.2.1 + Int32.ofInt 1) (fun v11 => lp_X10_throttleOrder_33 c0 c1 c2 N (v10, v11, q9.2)))))))
def lp_X10_throttleOrder_20 (c0 : Nat) (c1 : Int32) : Nat → (Int32 × MW) → Option (Int32 × MW)
  | 0, _ => none
  | N + 1, v0 => (if (v0.2.1 c0 5) ≤ v0.1 then hz_let (hz_pn v0.2 c0 4 3) (fun w4 => some (0, w4)) else Option.bind (lp_X10_throttleOrder_33 c0 c1 v0.1 3000 (0, 0, v0.2)) (fun q6 : Int32 × MW => (if q6.1 = c1 then some (v0.1, q6.2) else hz_let (v0.1 + Int32.ofInt 1) (fun v7 => lp_X10_throttleOrder_20 c0 c1 N (v7, q6.2)))))
def f_X10_throttleOrder (a0 : Nat) (x1 : Int32) (w : MW) : Option (Int32 × MW) :=
  hz_gd (hz_g 358 a0 11) (Option.bind ((if x1 < 0 then some 0 else some 1)) (fun q1 : Int32 => hz_b (f_X10_isWrong a0 q1 w) (fun v3 w2 => (if v3 = 0 then lp_X10_throttleOrder_20 a0 x1 3000 (0, w2) else some (0, w2)))))
set_option maxHeartbeats 4000000 in
set_option maxRecDepth 100000 in
theorem ct_X10_throttleOrder {l : Launch} (hl : l.stackTraces = false) {B : Bt} {a0 : Nat} {x1 : Int32} {w : MW} {r : Int32 × MW} (h : f_X10_throttleOrder a0 x1 w = some r) : hz_Met l B false 358 358 yX10_throttleOrder cX10_throttleOrder 5 (Option.some FieldType.int) 4 0 0 [.ref (B.1 + a0), .int x1] w (some (.int r.1)) r.2 := by
  refine hz_ofJ (rv := (fun r : Int32 × MW => some (.int r.1))) (wo := (fun r : Int32 × MW => r.2)) (own := RX10) (ini := false) hl (by decide) rfl (Or.inr rfl) (Nat.le_of_ble_eq_true rfl) rfl ?_ h
  intro p e s m args below meth c
  unfold f_X10_throttleOrder
  refine hz_gdr (fun ga0 => ?_)
  refine hz_aload_n (pc' := 1) (j := 0) dX10_throttleOrder_0 rfl rfl rfl ?_
  refine hz_iload_n (pc' := 2) (j := 1) dX10_throttleOrder_1 rfl rfl rfl ?_
  refine hz_bindJ (pcJ := 10) (LJ := fun q1 : Int32 => [(0, .ref (B.1 + a0)), (1, .int x1)]) (stJ := fun q1 : Int32 => [.int q1, .ref (B.1 + a0)]) (kJ := 0) (slJ := 0) (nJ := 358) (wJ := fun q1 : Int32 => w) (fun q1 => ?_) (fun hq1 => ?_)
  · refine hz_cVi (pc' := 13) (av := [.int q1]) (rest := []) vl_X10_207 (fun x w' h => ct_X10_isWrong hl h) ga0 rfl rfl (Nat.le_of_ble_eq_true rfl) (by decide) (by decide) rfl dX10_throttleOrder_10 rfl (fun v3 w2 => ?_)
    refine hz_ifeq (pc' := 16) (tgt := 18) dX10_throttleOrder_13 (by decide) rfl ?_ ?_
    · refine hz_iconst (pc' := 19) (v := 0) dX10_throttleOrder_18 rfl (by decide) ?_
      refine hz_istore_n (pc' := 20) (L' := [(2, .int 0), (0, .ref (B.1 + a0)), (1, .int x1)]) dX10_throttleOrder_19 rfl rfl (by decide) rfl ?_
      refine hz_loc [1, 2, 0] rfl (hz_loopJ (lp := lp_X10_throttleOrder_20 a0 x1) (Lh := fun v4 : Int32 × MW => [(0, .ref (B.1 + a0)), (1, .int x1), (2, .int v4.1)]) (wh := fun v4 : Int32 × MW => v4.2) (fun _ => rfl) (fun Nv4 ihv4 v4 => ?_) 3000 (0, w2))
      rw [lp_X10_throttleOrder_20]
      refine hz_iload_n (pc' := 21) (j := 2) dX10_throttleOrder_20 rfl rfl rfl ?_
      refine hz_aload_n (pc' := 22) (j := 0) dX10_throttleOrder_21 rfl rfl rfl ?_
      refine hz_gI (pc' := 25) fl_X10_193.r ga0 rfl dX10_throttleOrder_22 rfl ?_
      refine hz_icmpge (pc' := 28) (tgt := 103) dX10_throttleOrder_25 (by decide) rfl ?_ ?_
      · refine hz_aload_n (pc' := 104) (j := 0) dX10_throttleOrder_103 rfl rfl rfl ?_
        refine hz_iconst (pc' := 105) (v := 3) dX10_throttleOrder_104 rfl (by decide) ?_
        refine hz_putI (pc' := 108) fl_X10_74 ga0 rfl dX10_throttleOrder_105 rfl (fun w5 => ?_)
        refine hz_iconst (pc' := 109) (v := 0) dX10_throttleOrder_108 rfl (by decide) ?_
        exact hz_reti dX10_throttleOrder_109 rfl (by decide)
      · refine hz_iconst (pc' := 29) (v := 0) dX10_throttleOrder_28 rfl (by decide) ?_
        refine hz_istore_n (pc' := 30) (L' := [(3, .int 0), (0, .ref (B.1 + a0)), (1, .int x1), (2, .int v4.1)]) dX10_throttleOrder_29 rfl rfl (by decide) rfl ?_
        refine hz_iconst (pc' := 31) (v := 0) dX10_throttleOrder_30 rfl (by decide) ?_
        refine hz_istore (pc' := 33) (L' := [(4, .int 0), (3, .int 0), (0, .ref (B.1 + a0)), (1, .int x1), (2, .int v4.1)]) dX10_throttleOrder_31 rfl (by decide) rfl ?_
        refine hz_bindJ (pcJ := 90) (LJ := fun q7 : Int32 × MW => [(0, .ref (B.1 + a0)), (1, .int x1), (2, .int v4.1), (3, .int q7.1)]) (stJ := fun _ => []) (kJ := 0) (slJ := 0) (nJ := 358) (wJ := fun q7 : Int32 × MW => q7.2) (fun q7 => ?_) (fun hq7 => ?_)
        · refine hz_iload_n (pc' := 91) (j := 3) dX10_throttleOrder_90 rfl rfl rfl ?_
          refine hz_iload_n (pc' := 92) (j := 1) dX10_throttleOrder_91 rfl rfl rfl ?_
          refine hz_icmpne (pc' := 95) (tgt := 97) dX10_throttleOrder_92 (by decide) rfl ?_ ?_
          · refine hz_iincN (pc' := 100) (j := 2) (fun v8 => [(2, .int v8), (0, .ref (B.1 + a0)), (1, .int x1), (3, .int q7.1)]) dX10_throttleOrder_97 rfl rfl (by decide) (fun _ => rfl) (fun v8 => ?_)
            refine hz_goto (tgt := 20) dX10_throttleOrder_100 (by decide) ?_
            exact hz_loc [1, 2, 0] rfl (ihv4 (v8, q7.2))
          · refine hz_iload_n (pc' := 96) (j := 2) dX10_throttleOrder_95 rfl rfl rfl ?_
            exact hz_reti dX10_throttleOrder_96 rfl (by decide)
        · refine hz_loc [2, 3, 4, 1, 0] rfl (hz_loopJ (lp := lp_X10_throttleOrder_33 a0 x1 v4.1) (Lh := fun v6 : Int32 × Int32 × MW => [(0, .ref (B.1 + a0)), (1, .int x1), (2, .int v4.1), (3, .int v6.1), (4, .int v6.2.1)]) (wh := fun v6 : Int32 × Int32 × MW => v6.2.2) (fun _ => rfl) (fun Nv6 ihv6 v6 => ?_) 3000 (0, 0, v4.2))
          rw [lp_X10_throttleOrder_33]
          refine hz_iload (pc' := 35) (j := 4) dX10_throttleOrder_33 rfl rfl ?_
          refine hz_aload_n (pc' := 36) (j := 0) dX10_throttleOrder_35 rfl rfl rfl ?_
          refine hz_gI (pc' := 39) fl_X10_193.r ga0 rfl dX10_throttleOrder_36 rfl ?_
          refine hz_icmpge (pc' := 42) (tgt := 90) dX10_throttleOrder_39 (by decide) rfl ?_ ?_
          · exact hz_loc [0, 1, 2, 3] rfl (hq7 (v6.1, v6.2.2))
          · refine hz_iload_n (pc' := 43) (j := 3) dX10_throttleOrder_42 rfl rfl rfl ?_
            refine hz_aload_n (pc' := 44) (j := 0) dX10_throttleOrder_43 rfl rfl rfl ?_
            refine hz_iload (pc' := 46) (j := 4) dX10_throttleOrder_44 rfl rfl ?_
            refine hz_cVi (pc' := 49) (av := [.int v6.2.1]) (rest := [.int v6.1]) vl_X10_306 (fun x w' h => ct_X10_room hl h) ga0 rfl rfl (Nat.le_of_ble_eq_true rfl) (by decide) (by decide) rfl dX10_throttleOrder_46 rfl (fun v10 w9 => ?_)
            refine hz_aload_n (pc' := 50) (j := 0) dX10_throttleOrder_49 rfl rfl rfl ?_
            refine hz_iload_n (pc' := 51) (j := 2) dX10_throttleOrder_50 rfl rfl rfl ?_
            refine hz_cVi (pc' := 54) (av := [.int v4.1]) (rest := [.int v10, .int v6.1]) vl_X10_306 (fun x w' h => ct_X10_room hl h) ga0 rfl rfl (Nat.le_of_ble_eq_true rfl) (by decide) (by decide) rfl dX10_throttleOrder_51 rfl (fun v12 w11 => ?_)
            refine hz_bindJ (pcJ := 82) (LJ := fun q13 : Int32 × MW => [(0, .ref (B.1 + a0)), (1, .int x1), (2, .int v4.1), (4, .int v6.2.1)]) (stJ := fun q13 : Int32 × MW => [.int q13.1, .int v6.1]) (kJ := 0) (slJ := 0) (nJ := 358) (wJ := fun q13 : Int32 × MW => q13.2) (fun q13 => ?_) (fun hq13 => ?_)
            · refine hz_iadd (pc' := 83) dX10_throttleOrder_82 rfl ?_
              refine hz_nameI (fun v14 => ?_)
              refine hz_istore_n (pc' := 84) (L' := [(3, .int v14), (0, .ref (B.1 + a0)), (1, .int x1), (2, .int v4.1), (4, .int v6.2.1)]) dX10_throttleOrder_83 rfl rfl (by decide) rfl ?_
              refine hz_iincN (pc' := 87) (j := 4) (fun v15 => [(4, .int v15), (3, .int v14), (0, .ref (B.1 + a0)), (1, .int x1), (2, .int v4.1)]) dX10_throttleOrder_84 rfl rfl (by decide) (fun _ => rfl) (fun v15 => ?_)
              refine hz_goto (tgt := 33) dX10_throttleOrder_87 (by decide) ?_
              exact hz_loc [2, 3, 4, 1, 0] rfl (ihv6 (v14, v15, q13.2))
            · refine hz_icmplt (pc' := 57) (tgt := 77) dX10_throttleOrder_54 (by decide) rfl ?_ ?_
              · refine hz_iconst (pc' := 78) (v := 1) dX10_throttleOrder_77 rfl (by decide) ?_
                refine hz_goto (tgt := 82) dX10_throttleOrder_78 (by decide) ?_
                exact hz_loc [0, 1, 2, 4] rfl (hq13 (1, w11))
              · refine hz_aload_n (pc' := 58) (j := 0) dX10_throttleOrder_57 rfl rfl rfl ?_
                refine hz_iload (pc' := 60) (j := 4) dX10_throttleOrder_58 rfl rfl ?_
                refine hz_cVi (pc' := 63) (av := [.int v6.2.1]) (rest := [.int v6.1]) vl_X10_306 (fun x w' h => ct_X10_room hl h) ga0 rfl rfl (Nat.le_of_ble_eq_true rfl) (by decide) (by decide) rfl dX10_throttleOrder_60 rfl (fun v17 w16 => ?_)
                refine hz_aload_n (pc' := 64) (j := 0) dX10_throttleOrder_63 rfl rfl rfl ?_
                refine hz_iload_n (pc' := 65) (j := 2) dX10_throttleOrder_64 rfl rfl rfl ?_
                refine hz_cVi (pc' := 68) (av := [.int v4.1]) (rest := [.int v17, .int v6.1]) vl_X10_306 (fun x w' h => ct_X10_room hl h) ga0 rfl rfl (Nat.le_of_ble_eq_true rfl) (by decide) (by decide) rfl dX10_throttleOrder_65 rfl (fun v19 w18 => ?_)
                refine hz_icmpne (pc' := 71) (tgt := 81) dX10_throttleOrder_68 (by decide) rfl ?_ ?_
                · refine hz_iconst (pc' := 82) (v := 0) dX10_throttleOrder_81 rfl (by decide) ?_
                  exact hz_loc [0, 1, 2, 4] rfl (hq13 (0, w18))
                · refine hz_iload (pc' := 73) (j := 4) dX10_throttleOrder_71 rfl rfl ?_
                  refine hz_iload_n (pc' := 74) (j := 2) dX10_throttleOrder_73 rfl rfl rfl ?_
                  refine hz_icmpge (pc' := 77) (tgt := 81) dX10_throttleOrder_74 (by decide) rfl ?_ ?_
                  · refine hz_iconst (pc' := 82) (v := 0) dX10_throttleOrder_81 rfl (by decide) ?_
                    exact hz_loc [0, 1, 2, 4] rfl (hq13 (0, w18))
                  · refine hz_iconst (pc' := 78) (v := 1) dX10_throttleOrder_77 rfl (by decide) ?_
                    refine hz_goto (tgt := 82) dX10_throttleOrder_78 (by decide) ?_
                    exact hz_loc [0, 1, 2, 4] rfl (hq13 (1, w18))
    · refine hz_iconst (pc' := 17) (v := 0) dX10_throttleOrder_16 rfl (by decide) ?_
      exact hz_reti dX10_throttleOrder_17 rfl (by decide)
  · refine hz_iflt (pc' := 5) (tgt := 9) dX10_throttleOrder_2 (by decide) rfl ?_ ?_
    · refine hz_iconst (pc' := 10) (v := 0) dX10_throttleOrder_9 rfl (by decide) ?_
      exact hz_loc [0, 1] rfl (hq1 0)
    · refine hz_iconst (pc' := 6) (v := 1) dX10_throttleOrder_5 rfl (by decide) ?_
      refine hz_goto (tgt := 10) dX10_throttleOrder_6 (by decide) ?_
      exact hz_loc [0, 1] rfl (hq1 1)
def f_X10_meanPower (a0 : Nat) (x1 : Int32) (w : MW) : Option (UInt32 × MW) :=
  hz_gd (hz_g 358 a0 11) (hz_b (f_X10_isDomain a0 x1 w) (fun v2 w1 => hz_b (f_X10_isWrong a0 v2 w1) (fun v4 w3 => (if v4 = 0 then hz_ldp w3 a0 0 358 20 (fun b5 => hz_lda w3 b5 0 (fun v6 => Option.bind ((if v6 = 0 then some 3 else some 0)) (fun q7 : Int32 => hz_let (hz_pn w3 a0 4 q7) (fun w8 => Option.bind ((if (w8.1 a0 4) = 3 then some (0, w8) else hz_b (f_X10_of a0 x1 4 w8) (fun v11 w10 => hz_ldp w10 a0 0 358 20 (fun b12 => hz_lda w10 b12 0 (fun v13 => hz_nfl (FP.fdiv (FP.i2f v11) (FP.i2f v13)) (fun v14 => some (v14, w10))))))) (fun q9 : UInt32 × MW => some (q9.1, q9.2)))))) else some (0, w3)))))
set_option maxHeartbeats 4000000 in
set_option maxRecDepth 100000 in
theorem ct_X10_meanPower {l : Launch} (hl : l.stackTraces = false) {B : Bt} {a0 : Nat} {x1 : Int32} {w : MW} {r : UInt32 × MW} (h : f_X10_meanPower a0 x1 w = some r) : hz_Met l B false 358 358 yX10_meanPower cX10_meanPower 2 (Option.some FieldType.float) 4 0 0 [.ref (B.1 + a0), .int x1] w (some (.float r.1)) r.2 := by
  refine hz_ofJ (rv := (fun r : UInt32 × MW => some (.float r.1))) (wo := (fun r : UInt32 × MW => r.2)) (own := RX10) (ini := false) hl (by decide) rfl (Or.inr rfl) (Nat.le_of_ble_eq_true rfl) rfl ?_ h
  intro p e s m args below meth c
  unfold f_X10_meanPower
  refine hz_gdr (fun ga0 => ?_)
  refine hz_aload_n (pc' := 1) (j := 0) dX10_meanPower_0 rfl rfl rfl ?_
  refine hz_aload_n (pc' := 2) (j := 0) dX10_meanPower_1 rfl rfl rfl ?_
  refine hz_iload_n (pc' := 3) (j := 1) dX10_meanPower_2 rfl rfl rfl ?_
  refine hz_cVi (pc' := 6) (av := [.int x1]) (rest := [.ref (B.1 + a0)]) vl_X10_274 (fun x w' h => ct_X10_isDomain hl h) ga0 rfl rfl (Nat.le_of_ble_eq_true rfl) (by decide) (by decide) rfl dX10_meanPower_3 rfl (fun v2 w1 => ?_)
  refine hz_cVi (pc' := 9) (av := [.int v2]) (rest := []) vl_X10_207 (fun x w' h => ct_X10_isWrong hl h) ga0 rfl rfl (Nat.le_of_ble_eq_true rfl) (by decide) (by decide) rfl dX10_meanPower_6 rfl (fun v4 w3 => ?_)
  refine hz_ifeq (pc' := 12) (tgt := 14) dX10_meanPower_9 (by decide) rfl ?_ ?_
  · refine hz_aload_n (pc' := 15) (j := 0) dX10_meanPower_14 rfl rfl rfl ?_
    refine hz_aload_n (pc' := 16) (j := 0) dX10_meanPower_15 rfl rfl rfl ?_
    refine hz_gP (pc' := 19) (c' := 20) fl_X10_7.r ga0 rfl dX10_meanPower_16 rfl (fun b5 gb5 => ?_)
    refine hz_iconst (pc' := 20) (v := 0) dX10_meanPower_19 rfl (by decide) ?_
    refine hz_iald (pc' := 21) gb5 dX10_meanPower_20 rfl (fun v6 => ?_)
    refine hz_bindJ (pcJ := 29) (LJ := fun q7 : Int32 => [(0, .ref (B.1 + a0)), (1, .int x1)]) (stJ := fun q7 : Int32 => [.int q7, .ref (B.1 + a0)]) (kJ := 0) (slJ := 0) (nJ := 358) (wJ := fun q7 : Int32 => w3) (fun q7 => ?_) (fun hq7 => ?_)
    · refine hz_putI (pc' := 32) fl_X10_74 ga0 rfl dX10_meanPower_29 rfl (fun w8 => ?_)
      refine hz_aload_n (pc' := 33) (j := 0) dX10_meanPower_32 rfl rfl rfl ?_
      refine hz_gI (pc' := 36) fl_X10_74.r ga0 rfl dX10_meanPower_33 rfl ?_
      refine hz_iconst (pc' := 37) (v := 3) dX10_meanPower_36 rfl (by decide) ?_
      refine hz_bindJ (pcJ := 59) (LJ := fun q9 : UInt32 × MW => []) (stJ := fun q9 : UInt32 × MW => [.float q9.1]) (kJ := 0) (slJ := 0) (nJ := 358) (wJ := fun q9 : UInt32 × MW => q9.2) (fun q9 => ?_) (fun hq9 => ?_)
      · exact hz_retf dX10_meanPower_59 rfl (by decide)
      · refine hz_icmpne (pc' := 40) (tgt := 44) dX10_meanPower_37 (by decide) rfl ?_ ?_
        · refine hz_aload_n (pc' := 45) (j := 0) dX10_meanPower_44 rfl rfl rfl ?_
          refine hz_iload_n (pc' := 46) (j := 1) dX10_meanPower_45 rfl rfl rfl ?_
          refine hz_iconst (pc' := 47) (v := 4) dX10_meanPower_46 rfl (by decide) ?_
          refine hz_cVi (pc' := 50) (av := [.int x1, .int 4]) (rest := []) vl_X10_214 (fun x w' h => ct_X10_of hl h) ga0 rfl rfl (Nat.le_of_ble_eq_true rfl) (by decide) (by decide) rfl dX10_meanPower_47 rfl (fun v11 w10 => ?_)
          refine hz_i2f (pc' := 51) dX10_meanPower_50 rfl ?_
          refine hz_aload_n (pc' := 52) (j := 0) dX10_meanPower_51 rfl rfl rfl ?_
          refine hz_gP (pc' := 55) (c' := 20) fl_X10_7.r ga0 rfl dX10_meanPower_52 rfl (fun b12 gb12 => ?_)
          refine hz_iconst (pc' := 56) (v := 0) dX10_meanPower_55 rfl (by decide) ?_
          refine hz_iald (pc' := 57) gb12 dX10_meanPower_56 rfl (fun v13 => ?_)
          refine hz_i2f (pc' := 58) dX10_meanPower_57 rfl ?_
          refine hz_fdiv (pc' := 59) dX10_meanPower_58 rfl (fun v14 => ?_)
          exact hz_loc [] rfl (hq9 (v14, w10))
        · refine hz_fconst0 (pc' := 41) dX10_meanPower_40 rfl ?_
          refine hz_goto (tgt := 59) dX10_meanPower_41 (by decide) ?_
          exact hz_loc [] rfl (hq9 (0, w8))
    · refine hz_ifne (pc' := 24) (tgt := 28) dX10_meanPower_21 (by decide) rfl ?_ ?_
      · refine hz_iconst (pc' := 29) (v := 0) dX10_meanPower_28 rfl (by decide) ?_
        exact hz_loc [0, 1] rfl (hq7 0)
      · refine hz_iconst (pc' := 25) (v := 3) dX10_meanPower_24 rfl (by decide) ?_
        refine hz_goto (tgt := 29) dX10_meanPower_25 (by decide) ?_
        exact hz_loc [0, 1] rfl (hq7 3)
  · refine hz_fconst0 (pc' := 13) dX10_meanPower_12 rfl ?_
    exact hz_retf dX10_meanPower_13 rfl (by decide)
def f_X10_jobCount (a0 : Nat) (w : MW) : Option (Int32 × MW) :=
  hz_gd (hz_g 358 a0 11) (hz_b (f_X10_isWrong a0 1 w) (fun v2 w1 => Option.bind ((if v2 = 0 then hz_ldp w1 a0 0 358 20 (fun b4 => hz_lda w1 b4 2 (fun v5 => some v5)) else some 0)) (fun q3 : Int32 => some (q3, w1))))
set_option maxHeartbeats 4000000 in
set_option maxRecDepth 100000 in
theorem ct_X10_jobCount {l : Launch} (hl : l.stackTraces = false) {B : Bt} {a0 : Nat} {w : MW} {r : Int32 × MW} (h : f_X10_jobCount a0 w = some r) : hz_Met l B false 358 358 yX10_jobCount cX10_jobCount 1 (Option.some FieldType.int) 3 0 0 [.ref (B.1 + a0)] w (some (.int r.1)) r.2 := by
  refine hz_ofJ (rv := (fun r : Int32 × MW => some (.int r.1))) (wo := (fun r : Int32 × MW => r.2)) (own := RX10) (ini := false) hl (by decide) rfl (Or.inr rfl) (Nat.le_of_ble_eq_true rfl) rfl ?_ h
  intro p e s m args below meth c
  unfold f_X10_jobCount
  refine hz_gdr (fun ga0 => ?_)
  refine hz_aload_n (pc' := 1) (j := 0) dX10_jobCount_0 rfl rfl rfl ?_
  refine hz_iconst (pc' := 2) (v := 1) dX10_jobCount_1 rfl (by decide) ?_
  refine hz_cVi (pc' := 5) (av := [.int 1]) (rest := []) vl_X10_207 (fun x w' h => ct_X10_isWrong hl h) ga0 rfl rfl (Nat.le_of_ble_eq_true rfl) (by decide) (by decide) rfl dX10_jobCount_2 rfl (fun v2 w1 => ?_)
  refine hz_bindJ (pcJ := 18) (LJ := fun q3 : Int32 => []) (stJ := fun q3 : Int32 => [.int q3]) (kJ := 0) (slJ := 0) (nJ := 358) (wJ := fun q3 : Int32 => w1) (fun q3 => ?_) (fun hq3 => ?_)
  · exact hz_reti dX10_jobCount_18 rfl (by decide)
  · refine hz_ifeq (pc' := 8) (tgt := 12) dX10_jobCount_5 (by decide) rfl ?_ ?_
    · refine hz_aload_n (pc' := 13) (j := 0) dX10_jobCount_12 rfl rfl rfl ?_
      refine hz_gP (pc' := 16) (c' := 20) fl_X10_7.r ga0 rfl dX10_jobCount_13 rfl (fun b4 gb4 => ?_)
      refine hz_iconst (pc' := 17) (v := 2) dX10_jobCount_16 rfl (by decide) ?_
      refine hz_iald (pc' := 18) gb4 dX10_jobCount_17 rfl (fun v5 => ?_)
      exact hz_loc [] rfl (hq3 v5)
    · refine hz_iconst (pc' := 9) (v := 0) dX10_jobCount_8 rfl (by decide) ?_
      refine hz_goto (tgt := 18) dX10_jobCount_9 (by decide) ?_
      exact hz_loc [] rfl (hq3 0)
def f_X10_jobValue (a0 : Nat) (x1 : Int32) (x2 : Int32) (w : MW) : Option (Int32 × MW) :=
  hz_gd (hz_g 358 a0 11) (hz_b (f_X10_isJob a0 x1 w) (fun v2 w1 => Option.bind ((if v2 = 0 then some (0, w1) else hz_b (f_X10_isIn (Int32.toInt64 x2) 0 7 w1) (fun v10 w9 => (if v10 = 0 then some (0, w9) else some (1, w9))))) (fun q3 : Int32 × MW => hz_b (f_X10_isWrong a0 q3.1 q3.2) (fun v5 w4 => Option.bind ((if v5 = 0 then hz_b (f_X10_ofJob a0 x1 x2 w4) (fun v8 w7 => some (v8, w7)) else some (0, w4))) (fun q6 : Int32 × MW => some (q6.1, q6.2))))))
set_option maxHeartbeats 4000000 in
set_option maxRecDepth 100000 in
theorem ct_X10_jobValue {l : Launch} (hl : l.stackTraces = false) {B : Bt} {a0 : Nat} {x1 : Int32} {x2 : Int32} {w : MW} {r : Int32 × MW} (h : f_X10_jobValue a0 x1 x2 w = some r) : hz_Met l B false 358 358 yX10_jobValue cX10_jobValue 3 (Option.some FieldType.int) 4 0 0 [.ref (B.1 + a0), .int x1, .int x2] w (some (.int r.1)) r.2 := by
  refine hz_ofJ (rv := (fun r : Int32 × MW => some (.int r.1))) (wo := (fun r : Int32 × MW => r.2)) (own := RX10) (ini := false) hl (by decide) rfl (Or.inr rfl) (Nat.le_of_ble_eq_true rfl) rfl ?_ h
  intro p e s m args below meth c
  unfold f_X10_jobValue
  refine hz_gdr (fun ga0 => ?_)
  refine hz_aload_n (pc' := 1) (j := 0) dX10_jobValue_0 rfl rfl rfl ?_
  refine hz_aload_n (pc' := 2) (j := 0) dX10_jobValue_1 rfl rfl rfl ?_
  refine hz_iload_n (pc' := 3) (j := 1) dX10_jobValue_2 rfl rfl rfl ?_
  refine hz_cVi (pc' := 6) (av := [.int x1]) (rest := [.ref (B.1 + a0)]) vl_X10_286 (fun x w' h => ct_X10_isJob hl h) ga0 rfl rfl (Nat.le_of_ble_eq_true rfl) (by decide) (by decide) rfl dX10_jobValue_3 rfl (fun v2 w1 => ?_)
  refine hz_bindJ (pcJ := 26) (LJ := fun q3 : Int32 × MW => [(0, .ref (B.1 + a0)), (1, .int x1), (2, .int x2)]) (stJ := fun q3 : Int32 × MW => [.int q3.1, .ref (B.1 + a0)]) (kJ := 0) (slJ := 0) (nJ := 358) (wJ := fun q3 : Int32 × MW => q3.2) (fun q3 => ?_) (fun hq3 => ?_)
  · refine hz_cVi (pc' := 29) (av := [.int q3.1]) (rest := []) vl_X10_207 (fun x w' h => ct_X10_isWrong hl h) ga0 rfl rfl (Nat.le_of_ble_eq_true rfl) (by decide) (by decide) rfl dX10_jobValue_26 rfl (fun v5 w4 => ?_)
    refine hz_bindJ (pcJ := 42) (LJ := fun q6 : Int32 × MW => []) (stJ := fun q6 : Int32 × MW => [.int q6.1]) (kJ := 0) (slJ := 0) (nJ := 358) (wJ := fun q6 : Int32 × MW => q6.2) (fun q6 => ?_) (fun hq6 => ?_)
    · exact hz_reti dX10_jobValue_42 rfl (by decide)
    · refine hz_ifeq (pc' := 32) (tgt := 36) dX10_jobValue_29 (by decide) rfl ?_ ?_
      · refine hz_aload_n (pc' := 37) (j := 0) dX10_jobValue_36 rfl rfl rfl ?_
        refine hz_iload_n (pc' := 38) (j := 1) dX10_jobValue_37 rfl rfl rfl ?_
        refine hz_iload_n (pc' := 39) (j := 2) dX10_jobValue_38 rfl rfl rfl ?_
        refine hz_cVi (pc' := 42) (av := [.int x1, .int x2]) (rest := []) vl_X10_211 (fun x w' h => ct_X10_ofJob hl h) ga0 rfl rfl (Nat.le_of_ble_eq_true rfl) (by decide) (by decide) rfl dX10_jobValue_39 rfl (fun v8 w7 => ?_)
        exact hz_loc [] rfl (hq6 (v8, w7))
      · refine hz_iconst (pc' := 33) (v := 0) dX10_jobValue_32 rfl (by decide) ?_
        refine hz_goto (tgt := 42) dX10_jobValue_33 (by decide) ?_
        exact hz_loc [] rfl (hq6 (0, w4))
  · refine hz_ifeq (pc' := 9) (tgt := 25) dX10_jobValue_6 (by decide) rfl ?_ ?_
    · refine hz_iconst (pc' := 26) (v := 0) dX10_jobValue_25 rfl (by decide) ?_
      exact hz_loc [0, 1, 2] rfl (hq3 (0, w1))
    · refine hz_iload_n (pc' := 10) (j := 2) dX10_jobValue_9 rfl rfl rfl ?_
      refine hz_i2l (pc' := 11) dX10_jobValue_10 rfl ?_
      refine hz_lconst (pc' := 12) (v := 0) dX10_jobValue_11 rfl (by decide) ?_
      refine hz_ldc2 (pc' := 15) (v := 7) dX10_jobValue_12 rfl hq_1436 ?_
      refine hz_cSi (pc' := 18) (av := [.long (Int32.toInt64 x2), .long 0, .long 7]) (rest := [.ref (B.1 + a0)]) sl_X10_88 (fun x w' h => ct_X10_isIn hl h) rfl rfl (Nat.le_of_ble_eq_true rfl) (by decide) (by decide) rfl dX10_jobValue_15 rfl (fun v10 w9 => ?_)
      refine hz_ifeq (pc' := 21) (tgt := 25) dX10_jobValue_18 (by decide) rfl ?_ ?_
      · refine hz_iconst (pc' := 26) (v := 0) dX10_jobValue_25 rfl (by decide) ?_
        exact hz_loc [0, 1, 2] rfl (hq3 (0, w9))
      · refine hz_iconst (pc' := 22) (v := 1) dX10_jobValue_21 rfl (by decide) ?_
        refine hz_goto (tgt := 26) dX10_jobValue_22 (by decide) ?_
        exact hz_loc [0, 1, 2] rfl (hq3 (1, w9))
def f_X10_doneAt (a0 : Nat) (x1 : Int32) (w : MW) : Option (Int32 × MW) :=
  hz_gd (hz_g 358 a0 11) (hz_b (f_X10_isJob a0 x1 w) (fun v2 w1 => hz_b (f_X10_isWrong a0 v2 w1) (fun v4 w3 => (if v4 = 0 then hz_b (f_X10_ofJob a0 x1 7 w3) (fun v6 w5 => Option.bind ((if v6 = 3 then hz_b (f_X10_ofJob a0 x1 8 w5) (fun v9 w8 => some (v9, w8)) else some ((-2), w5))) (fun q7 : Int32 × MW => some (q7.1, q7.2))) else some (0, w3)))))
set_option maxHeartbeats 4000000 in
set_option maxRecDepth 100000 in
theorem ct_X10_doneAt {l : Launch} (hl : l.stackTraces = false) {B : Bt} {a0 : Nat} {x1 : Int32} {w : MW} {r : Int32 × MW} (h : f_X10_doneAt a0 x1 w = some r) : hz_Met l B false 358 358 yX10_doneAt cX10_doneAt 2 (Option.some FieldType.int) 4 0 0 [.ref (B.1 + a0), .int x1] w (some (.int r.1)) r.2 := by
  refine hz_ofJ (rv := (fun r : Int32 × MW => some (.int r.1))) (wo := (fun r : Int32 × MW => r.2)) (own := RX10) (ini := false) hl (by decide) rfl (Or.inr rfl) (Nat.le_of_ble_eq_true rfl) rfl ?_ h
  intro p e s m args below meth c
  unfold f_X10_doneAt
  refine hz_gdr (fun ga0 => ?_)
  refine hz_aload_n (pc' := 1) (j := 0) dX10_doneAt_0 rfl rfl rfl ?_
  refine hz_aload_n (pc' := 2) (j := 0) dX10_doneAt_1 rfl rfl rfl ?_
  refine hz_iload_n (pc' := 3) (j := 1) dX10_doneAt_2 rfl rfl rfl ?_
  refine hz_cVi (pc' := 6) (av := [.int x1]) (rest := [.ref (B.1 + a0)]) vl_X10_286 (fun x w' h => ct_X10_isJob hl h) ga0 rfl rfl (Nat.le_of_ble_eq_true rfl) (by decide) (by decide) rfl dX10_doneAt_3 rfl (fun v2 w1 => ?_)
  refine hz_cVi (pc' := 9) (av := [.int v2]) (rest := []) vl_X10_207 (fun x w' h => ct_X10_isWrong hl h) ga0 rfl rfl (Nat.le_of_ble_eq_true rfl) (by decide) (by decide) rfl dX10_doneAt_6 rfl (fun v4 w3 => ?_)
  refine hz_ifeq (pc' := 12) (tgt := 14) dX10_doneAt_9 (by decide) rfl ?_ ?_
  · refine hz_aload_n (pc' := 15) (j := 0) dX10_doneAt_14 rfl rfl rfl ?_
    refine hz_iload_n (pc' := 16) (j := 1) dX10_doneAt_15 rfl rfl rfl ?_
    refine hz_bipush (pc' := 18) (v := 7) dX10_doneAt_16 rfl (by decide) ?_
    refine hz_cVi (pc' := 21) (av := [.int x1, .int 7]) (rest := []) vl_X10_211 (fun x w' h => ct_X10_ofJob hl h) ga0 rfl rfl (Nat.le_of_ble_eq_true rfl) (by decide) (by decide) rfl dX10_doneAt_18 rfl (fun v6 w5 => ?_)
    refine hz_iconst (pc' := 22) (v := 3) dX10_doneAt_21 rfl (by decide) ?_
    refine hz_bindJ (pcJ := 37) (LJ := fun q7 : Int32 × MW => []) (stJ := fun q7 : Int32 × MW => [.int q7.1]) (kJ := 0) (slJ := 0) (nJ := 358) (wJ := fun q7 : Int32 × MW => q7.2) (fun q7 => ?_) (fun hq7 => ?_)
    · exact hz_reti dX10_doneAt_37 rfl (by decide)
    · refine hz_icmpne (pc' := 25) (tgt := 35) dX10_doneAt_22 (by decide) rfl ?_ ?_
      · refine hz_bipush (pc' := 37) (v := (-2)) dX10_doneAt_35 rfl (by decide) ?_
        exact hz_loc [] rfl (hq7 ((-2), w5))
      · refine hz_aload_n (pc' := 26) (j := 0) dX10_doneAt_25 rfl rfl rfl ?_
        refine hz_iload_n (pc' := 27) (j := 1) dX10_doneAt_26 rfl rfl rfl ?_
        refine hz_bipush (pc' := 29) (v := 8) dX10_doneAt_27 rfl (by decide) ?_
        refine hz_cVi (pc' := 32) (av := [.int x1, .int 8]) (rest := []) vl_X10_211 (fun x w' h => ct_X10_ofJob hl h) ga0 rfl rfl (Nat.le_of_ble_eq_true rfl) (by decide) (by decide) rfl dX10_doneAt_29 rfl (fun v9 w8 => ?_)
        refine hz_goto (tgt := 37) dX10_doneAt_32 (by decide) ?_
        exact hz_loc [] rfl (hq7 (v9, w8))
  · refine hz_iconst (pc' := 13) (v := 0) dX10_doneAt_12 rfl (by decide) ?_
    exact hz_reti dX10_doneAt_13 rfl (by decide)
def f_X10_isLate (a0 : Nat) (x1 : Int32) (w : MW) : Option (Int32 × MW) :=
  hz_gd (hz_g 358 a0 11) (hz_b (f_X10_ofJob a0 x1 7 w) (fun v2 w1 => Option.bind ((if v2 = 3 then hz_b (f_X10_ofJob a0 x1 8 w1) (fun v5 w4 => hz_b (f_X10_ofJob a0 x1 5 w4) (fun v7 w6 => (if v5 ≤ v7 then some (0, w6) else some (1, w6)))) else some (0, w1))) (fun q3 : Int32 × MW => hz_gd (hz_isb q3.1) (some (q3.1, q3.2)))))
set_option maxHeartbeats 4000000 in
set_option maxRecDepth 100000 in
theorem ct_X10_isLate {l : Launch} (hl : l.stackTraces = false) {B : Bt} {a0 : Nat} {x1 : Int32} {w : MW} {r : Int32 × MW} (h : f_X10_isLate a0 x1 w = some r) : hz_Met l B false 358 358 yX10_isLate cX10_isLate 2 (Option.some FieldType.boolean) 3 0 0 [.ref (B.1 + a0), .int x1] w (some (.int r.1)) r.2 := by
  refine hz_ofJ (rv := (fun r : Int32 × MW => some (.int r.1))) (wo := (fun r : Int32 × MW => r.2)) (own := RX10) (ini := false) hl (by decide) rfl (Or.inr rfl) (Nat.le_of_ble_eq_true rfl) rfl ?_ h
  intro p e s m args below meth c
  unfold f_X10_isLate
  refine hz_gdr (fun ga0 => ?_)
  refine hz_aload_n (pc' := 1) (j := 0) dX10_isLate_0 rfl rfl rfl ?_
  refine hz_iload_n (pc' := 2) (j := 1) dX10_isLate_1 rfl rfl rfl ?_
  refine hz_bipush (pc' := 4) (v := 7) dX10_isLate_2 rfl (by decide) ?_
  refine hz_cVi (pc' := 7) (av := [.int x1, .int 7]) (rest := []) vl_X10_211 (fun x w' h => ct_X10_ofJob hl h) ga0 rfl rfl (Nat.le_of_ble_eq_true rfl) (by decide) (by decide) rfl dX10_isLate_4 rfl (fun v2 w1 => ?_)
  refine hz_iconst (pc' := 8) (v := 3) dX10_isLate_7 rfl (by decide) ?_
  refine hz_bindJ (pcJ := 32) (LJ := fun q3 : Int32 × MW => []) (stJ := fun q3 : Int32 × MW => [.int q3.1]) (kJ := 0) (slJ := 0) (nJ := 358) (wJ := fun q3 : Int32 × MW => q3.2) (fun q3 => ?_) (fun hq3 => ?_)
  · exact hz_retz dX10_isLate_32 rfl (by decide)
  · refine hz_icmpne (pc' := 11) (tgt := 31) dX10_isLate_8 (by decide) rfl ?_ ?_
    · refine hz_iconst (pc' := 32) (v := 0) dX10_isLate_31 rfl (by decide) ?_
      exact hz_loc [] rfl (hq3 (0, w1))
    · refine hz_aload_n (pc' := 12) (j := 0) dX10_isLate_11 rfl rfl rfl ?_
      refine hz_iload_n (pc' := 13) (j := 1) dX10_isLate_12 rfl rfl rfl ?_
      refine hz_bipush (pc' := 15) (v := 8) dX10_isLate_13 rfl (by decide) ?_
      refine hz_cVi (pc' := 18) (av := [.int x1, .int 8]) (rest := []) vl_X10_211 (fun x w' h => ct_X10_ofJob hl h) ga0 rfl rfl (Nat.le_of_ble_eq_true rfl) (by decide) (by decide) rfl dX10_isLate_15 rfl (fun v5 w4 => ?_)
      refine hz_aload_n (pc' := 19) (j := 0) dX10_isLate_18 rfl rfl rfl ?_
      refine hz_iload_n (pc' := 20) (j := 1) dX10_isLate_19 rfl rfl rfl ?_
      refine hz_iconst (pc' := 21) (v := 5) dX10_isLate_20 rfl (by decide) ?_
      refine hz_cVi (pc' := 24) (av := [.int x1, .int 5]) (rest := [.int v5]) vl_X10_211 (fun x w' h => ct_X10_ofJob hl h) ga0 rfl rfl (Nat.le_of_ble_eq_true rfl) (by decide) (by decide) rfl dX10_isLate_21 rfl (fun v7 w6 => ?_)
      refine hz_icmple (pc' := 27) (tgt := 31) dX10_isLate_24 (by decide) rfl ?_ ?_
      · refine hz_iconst (pc' := 32) (v := 0) dX10_isLate_31 rfl (by decide) ?_
        exact hz_loc [] rfl (hq3 (0, w6))
      · refine hz_iconst (pc' := 28) (v := 1) dX10_isLate_27 rfl (by decide) ?_
        refine hz_goto (tgt := 32) dX10_isLate_28 (by decide) ?_
        exact hz_loc [] rfl (hq3 (1, w6))
def lp_X10_lateJobs_14 (c0 : Nat) : Nat → (Int32 × Int32 × MW) → Option (Int32 × MW)
  | 0, _ => none
  | N + 1, v0 => hz_ldp v0.2.2 c0 0 358 20 (fun b3 => hz_lda v0.2.2 b3 2 (fun v4 => (if v4 ≤ v0.2.1 then some (v0.1, v0.2.2) else hz_b (f_X10_isLate c0 v0.2.1 v0.2.2) (fun v6 w5 => Option.bind ((if v6 = 0 then some 0 else some ((1 : Int32) <<< (v0.2.1 &&& 31)))) (fun q7 : Int32 => hz_let (v0.1 ||| q7) (fun v8 => hz_let (v0.2.1 + Int32.ofInt 1) (fun v9 => lp_X10_lateJobs_14 c0 N (v8, v9, w5))))))))
def f_X10_lateJobs (a0 : Nat) (w : MW) : Option (Int32 × MW) :=
  hz_gd (hz_g 358 a0 11) (hz_b (f_X10_isWrong a0 1 w) (fun v2 w1 => (if v2 = 0 then Option.bind (lp_X10_lateJobs_14 a0 3000 (0, 0, w1)) (fun q4 : Int32 × MW => some (q4.1, q4.2)) else some (0, w1))))
set_option maxHeartbeats 4000000 in
set_option maxRecDepth 100000 in
theorem ct_X10_lateJobs {l : Launch} (hl : l.stackTraces = false) {B : Bt} {a0 : Nat} {w : MW} {r : Int32 × MW} (h : f_X10_lateJobs a0 w = some r) : hz_Met l B false 358 358 yX10_lateJobs cX10_lateJobs 3 (Option.some FieldType.int) 4 0 0 [.ref (B.1 + a0)] w (some (.int r.1)) r.2 := by
  refine hz_ofJ (rv := (fun r : Int32 × MW => some (.int r.1))) (wo := (fun r : Int32 × MW => r.2)) (own := RX10) (ini := false) hl (by decide) rfl (Or.inr rfl) (Nat.le_of_ble_eq_true rfl) rfl ?_ h
  intro p e s m args below meth c
  unfold f_X10_lateJobs
  refine hz_gdr (fun ga0 => ?_)
  refine hz_aload_n (pc' := 1) (j := 0) dX10_lateJobs_0 rfl rfl rfl ?_
  refine hz_iconst (pc' := 2) (v := 1) dX10_lateJobs_1 rfl (by decide) ?_
  refine hz_cVi (pc' := 5) (av := [.int 1]) (rest := []) vl_X10_207 (fun x w' h => ct_X10_isWrong hl h) ga0 rfl rfl (Nat.le_of_ble_eq_true rfl) (by decide) (by decide) rfl dX10_lateJobs_2 rfl (fun v2 w1 => ?_)
  refine hz_ifeq (pc' := 8) (tgt := 10) dX10_lateJobs_5 (by decide) rfl ?_ ?_
  · refine hz_iconst (pc' := 11) (v := 0) dX10_lateJobs_10 rfl (by decide) ?_
    refine hz_istore_n (pc' := 12) (L' := [(1, .int 0), (0, .ref (B.1 + a0))]) dX10_lateJobs_11 rfl rfl (by decide) rfl ?_
    refine hz_iconst (pc' := 13) (v := 0) dX10_lateJobs_12 rfl (by decide) ?_
    refine hz_istore_n (pc' := 14) (L' := [(2, .int 0), (1, .int 0), (0, .ref (B.1 + a0))]) dX10_lateJobs_13 rfl rfl (by decide) rfl ?_
    refine hz_bindJ (pcJ := 48) (LJ := fun q4 : Int32 × MW => [(1, .int q4.1)]) (stJ := fun _ => []) (kJ := 0) (slJ := 0) (nJ := 358) (wJ := fun q4 : Int32 × MW => q4.2) (fun q4 => ?_) (fun hq4 => ?_)
    · refine hz_iload_n (pc' := 49) (j := 0) dX10_lateJobs_48 rfl rfl rfl ?_
      exact hz_reti dX10_lateJobs_49 rfl (by decide)
    · refine hz_loc [2, 1, 0] rfl (hz_loopJ (lp := lp_X10_lateJobs_14 a0) (Lh := fun v3 : Int32 × Int32 × MW => [(0, .ref (B.1 + a0)), (1, .int v3.1), (2, .int v3.2.1)]) (wh := fun v3 : Int32 × Int32 × MW => v3.2.2) (fun _ => rfl) (fun Nv3 ihv3 v3 => ?_) 3000 (0, 0, w1))
      rw [lp_X10_lateJobs_14]
      refine hz_iload_n (pc' := 15) (j := 2) dX10_lateJobs_14 rfl rfl rfl ?_
      refine hz_aload_n (pc' := 16) (j := 0) dX10_lateJobs_15 rfl rfl rfl ?_
      refine hz_gP (pc' := 19) (c' := 20) fl_X10_7.r ga0 rfl dX10_lateJobs_16 rfl (fun b5 gb5 => ?_)
      refine hz_iconst (pc' := 20) (v := 2) dX10_lateJobs_19 rfl (by decide) ?_
      refine hz_iald (pc' := 21) gb5 dX10_lateJobs_20 rfl (fun v6 => ?_)
      refine hz_icmpge (pc' := 24) (tgt := 48) dX10_lateJobs_21 (by decide) rfl ?_ ?_
      · exact hz_loc [1] rfl (hq4 (v3.1, v3.2.2))
      · refine hz_iload_n (pc' := 25) (j := 1) dX10_lateJobs_24 rfl rfl rfl ?_
        refine hz_aload_n (pc' := 26) (j := 0) dX10_lateJobs_25 rfl rfl rfl ?_
        refine hz_iload_n (pc' := 27) (j := 2) dX10_lateJobs_26 rfl rfl rfl ?_
        refine hz_cVi (pc' := 30) (av := [.int v3.2.1]) (rest := [.int v3.1]) vl_X10_309 (fun x w' h => ct_X10_isLate hl h) ga0 rfl rfl (Nat.le_of_ble_eq_true rfl) (by decide) (by decide) rfl dX10_lateJobs_27 rfl (fun v8 w7 => ?_)
        refine hz_bindJ (pcJ := 40) (LJ := fun q9 : Int32 => [(0, .ref (B.1 + a0)), (2, .int v3.2.1)]) (stJ := fun q9 : Int32 => [.int q9, .int v3.1]) (kJ := 0) (slJ := 0) (nJ := 358) (wJ := fun q9 : Int32 => w7) (fun q9 => ?_) (fun hq9 => ?_)
        · refine hz_ior (pc' := 41) dX10_lateJobs_40 rfl ?_
          refine hz_nameI (fun v10 => ?_)
          refine hz_istore_n (pc' := 42) (L' := [(1, .int v10), (0, .ref (B.1 + a0)), (2, .int v3.2.1)]) dX10_lateJobs_41 rfl rfl (by decide) rfl ?_
          refine hz_iincN (pc' := 45) (j := 2) (fun v11 => [(2, .int v11), (1, .int v10), (0, .ref (B.1 + a0))]) dX10_lateJobs_42 rfl rfl (by decide) (fun _ => rfl) (fun v11 => ?_)
          refine hz_goto (tgt := 14) dX10_lateJobs_45 (by decide) ?_
          exact hz_loc [2, 1, 0] rfl (ihv3 (v10, v11, w7))
        · refine hz_ifeq (pc' := 33) (tgt := 39) dX10_lateJobs_30 (by decide) rfl ?_ ?_
          · refine hz_iconst (pc' := 40) (v := 0) dX10_lateJobs_39 rfl (by decide) ?_
            exact hz_loc [0, 2] rfl (hq9 0)
          · refine hz_iconst (pc' := 34) (v := 1) dX10_lateJobs_33 rfl (by decide) ?_
            refine hz_iload_n (pc' := 35) (j := 2) dX10_lateJobs_34 rfl rfl rfl ?_
            refine hz_ishl (pc' := 36) dX10_lateJobs_35 rfl ?_
            refine hz_goto (tgt := 40) dX10_lateJobs_36 (by decide) ?_
            exact hz_loc [0, 2] rfl (hq9 ((1 : Int32) <<< (v3.2.1 &&& 31)))
  · refine hz_iconst (pc' := 9) (v := 0) dX10_lateJobs_8 rfl (by decide) ?_
    exact hz_reti dX10_lateJobs_9 rfl (by decide)
def f_X10_isQueued (a0 : Nat) (x1 : Int32) (x2 : Int32) (w : MW) : Option (Int32 × MW) :=
  hz_gd (hz_g 358 a0 11) (hz_b (f_X10_ofJob a0 x2 0 w) (fun v2 w1 => Option.bind ((if v2 = x1 then hz_b (f_X10_ofJob a0 x2 7 w1) (fun v5 w4 => (if 1 < v5 then some (0, w4) else some (1, w4))) else some (0, w1))) (fun q3 : Int32 × MW => hz_gd (hz_isb q3.1) (some (q3.1, q3.2)))))
set_option maxHeartbeats 4000000 in
set_option maxRecDepth 100000 in
theorem ct_X10_isQueued {l : Launch} (hl : l.stackTraces = false) {B : Bt} {a0 : Nat} {x1 : Int32} {x2 : Int32} {w : MW} {r : Int32 × MW} (h : f_X10_isQueued a0 x1 x2 w = some r) : hz_Met l B false 358 358 yX10_isQueued cX10_isQueued 3 (Option.some FieldType.boolean) 3 0 0 [.ref (B.1 + a0), .int x1, .int x2] w (some (.int r.1)) r.2 := by
  refine hz_ofJ (rv := (fun r : Int32 × MW => some (.int r.1))) (wo := (fun r : Int32 × MW => r.2)) (own := RX10) (ini := false) hl (by decide) rfl (Or.inr rfl) (Nat.le_of_ble_eq_true rfl) rfl ?_ h
  intro p e s m args below meth c
  unfold f_X10_isQueued
  refine hz_gdr (fun ga0 => ?_)
  refine hz_aload_n (pc' := 1) (j := 0) dX10_isQueued_0 rfl rfl rfl ?_
  refine hz_iload_n (pc' := 2) (j := 2) dX10_isQueued_1 rfl rfl rfl ?_
  refine hz_iconst (pc' := 3) (v := 0) dX10_isQueued_2 rfl (by decide) ?_
  refine hz_cVi (pc' := 6) (av := [.int x2, .int 0]) (rest := []) vl_X10_211 (fun x w' h => ct_X10_ofJob hl h) ga0 rfl rfl (Nat.le_of_ble_eq_true rfl) (by decide) (by decide) rfl dX10_isQueued_3 rfl (fun v2 w1 => ?_)
  refine hz_iload_n (pc' := 7) (j := 1) dX10_isQueued_6 rfl rfl rfl ?_
  refine hz_bindJ (pcJ := 26) (LJ := fun q3 : Int32 × MW => []) (stJ := fun q3 : Int32 × MW => [.int q3.1]) (kJ := 0) (slJ := 0) (nJ := 358) (wJ := fun q3 : Int32 × MW => q3.2) (fun q3 => ?_) (fun hq3 => ?_)
  · exact hz_retz dX10_isQueued_26 rfl (by decide)
  · refine hz_icmpne (pc' := 10) (tgt := 25) dX10_isQueued_7 (by decide) rfl ?_ ?_
    · refine hz_iconst (pc' := 26) (v := 0) dX10_isQueued_25 rfl (by decide) ?_
      exact hz_loc [] rfl (hq3 (0, w1))
    · refine hz_aload_n (pc' := 11) (j := 0) dX10_isQueued_10 rfl rfl rfl ?_
      refine hz_iload_n (pc' := 12) (j := 2) dX10_isQueued_11 rfl rfl rfl ?_
      refine hz_bipush (pc' := 14) (v := 7) dX10_isQueued_12 rfl (by decide) ?_
      refine hz_cVi (pc' := 17) (av := [.int x2, .int 7]) (rest := []) vl_X10_211 (fun x w' h => ct_X10_ofJob hl h) ga0 rfl rfl (Nat.le_of_ble_eq_true rfl) (by decide) (by decide) rfl dX10_isQueued_14 rfl (fun v5 w4 => ?_)
      refine hz_iconst (pc' := 18) (v := 1) dX10_isQueued_17 rfl (by decide) ?_
      refine hz_icmpgt (pc' := 21) (tgt := 25) dX10_isQueued_18 (by decide) rfl ?_ ?_
      · refine hz_iconst (pc' := 26) (v := 0) dX10_isQueued_25 rfl (by decide) ?_
        exact hz_loc [] rfl (hq3 (0, w4))
      · refine hz_iconst (pc' := 22) (v := 1) dX10_isQueued_21 rfl (by decide) ?_
        refine hz_goto (tgt := 26) dX10_isQueued_22 (by decide) ?_
        exact hz_loc [] rfl (hq3 (1, w4))
def lp_X10_queued_44 (c0 : Nat) (c1 : Int32) (c2 : Int32) (c3 : Int32) : Nat → (Int32 × Int32 × MW) → Option (Int32 × MW)
  | 0, _ => none
  | N + 1, v0 => hz_ldp v0.2.2 c0 0 358 20 (fun b9 => hz_lda v0.2.2 b9 2 (fun v10 => (if v10 ≤ v0.2.1 then some (v0.1, v0.2.2) else hz_b (f_X10_ofJob c0 v0.2.1 5 v0.2.2) (fun v12 w11 => hz_b (f_X10_ofJob c0 c3 5 w11) (fun v14 w13 => hz_let (v12 - v14) (fun v15 => hz_b (f_X10_isQueued c0 c1 v0.2.1 w13) (fun v17 w16 => Option.bind ((if v17 = 0 then some 0 else (if v15 < 0 then some 1 else (if v15 = 0 then (if c3 ≤ v0.2.1 then some 0 else some 1) else some 0)))) (fun q18 : Int32 => hz_let (v0.1 + q18) (fun v19 => hz_let (v0.2.1 + Int32.ofInt 1) (fun v20 => lp_X10_queued_44 c0 c1 c2 c3 N (v19, v20, w16)))))))))))
def lp_X10_queued_28 (c0 : Nat) (c1 : Int32) (c2 : Int32) : Nat → (Int32 × MW) → Option (Int32 × MW)
  | 0, _ => none
  | N + 1, v0 => hz_ldp v0.2 c0 0 358 20 (fun b6 => hz_lda v0.2 b6 2 (fun v7 => (if v7 ≤ v0.1 then hz_let (hz_pn v0.2 c0 4 3) (fun w8 => some (0, w8)) else Option.bind (lp_X10_queued_44 c0 c1 c2 v0.1 3000 (0, 0, v0.2)) (fun q10 : Int32 × MW => hz_b (f_X10_isQueued c0 c1 v0.1 q10.2) (fun v12 w11 => (if v12 = 0 then hz_let (v0.1 + Int32.ofInt 1) (fun v13 => lp_X10_queued_28 c0 c1 c2 N (v13, w11)) else (if q10.1 = c2 then some (v0.1, w11) else hz_let (v0.1 + Int32.ofInt 1) (fun v14 => lp_X10_queued_28 c0 c1 c2 N (v14, w11)))))))))
def f_X10_queued (a0 : Nat) (x1 : Int32) (x2 : Int32) (w : MW) : Option (Int32 × MW) :=
  hz_gd (hz_g 358 a0 11) (hz_b (f_X10_isDomain a0 x1 w) (fun v2 w1 => Option.bind ((if v2 = 0 then some 0 else (if x2 < 0 then some 0 else some 1))) (fun q3 : Int32 => hz_b (f_X10_isWrong a0 q3 w1) (fun v5 w4 => (if v5 = 0 then lp_X10_queued_28 a0 x1 x2 3000 (0, w4) else some (0, w4))))))
set_option maxHeartbeats 4000000 in
set_option maxRecDepth 100000 in
theorem ct_X10_queued {l : Launch} (hl : l.stackTraces = false) {B : Bt} {a0 : Nat} {x1 : Int32} {x2 : Int32} {w : MW} {r : Int32 × MW} (h : f_X10_queued a0 x1 x2 w = some r) : hz_Met l B false 358 358 yX10_queued cX10_queued 7 (Option.some FieldType.int) 4 0 0 [.ref (B.1 + a0), .int x1, .int x2] w (some (.int r.1)) r.2 := by
  refine hz_ofJ (rv := (fun r : Int32 × MW => some (.int r.1))) (wo := (fun r : Int32 × MW => r.2)) (own := RX10) (ini := false) hl (by decide) rfl (Or.inr rfl) (Nat.le_of_ble_eq_true rfl) rfl ?_ h
  intro p e s m args below meth c
  unfold f_X10_queued
  refine hz_gdr (fun ga0 => ?_)
  refine hz_aload_n (pc' := 1) (j := 0) dX10_queued_0 rfl rfl rfl ?_
  refine hz_aload_n (pc' := 2) (j := 0) dX10_queued_1 rfl rfl rfl ?_
  refine hz_iload_n (pc' := 3) (j := 1) dX10_queued_2 rfl rfl rfl ?_
  refine hz_cVi (pc' := 6) (av := [.int x1]) (rest := [.ref (B.1 + a0)]) vl_X10_274 (fun x w' h => ct_X10_isDomain hl h) ga0 rfl rfl (Nat.le_of_ble_eq_true rfl) (by decide) (by decide) rfl dX10_queued_3 rfl (fun v2 w1 => ?_)
  refine hz_bindJ (pcJ := 18) (LJ := fun q3 : Int32 => [(0, .ref (B.1 + a0)), (1, .int x1), (2, .int x2)]) (stJ := fun q3 : Int32 => [.int q3, .ref (B.1 + a0)]) (kJ := 0) (slJ := 0) (nJ := 358) (wJ := fun q3 : Int32 => w1) (fun q3 => ?_) (fun hq3 => ?_)
  · refine hz_cVi (pc' := 21) (av := [.int q3]) (rest := []) vl_X10_207 (fun x w' h => ct_X10_isWrong hl h) ga0 rfl rfl (Nat.le_of_ble_eq_true rfl) (by decide) (by decide) rfl dX10_queued_18 rfl (fun v5 w4 => ?_)
    refine hz_ifeq (pc' := 24) (tgt := 26) dX10_queued_21 (by decide) rfl ?_ ?_
    · refine hz_iconst (pc' := 27) (v := 0) dX10_queued_26 rfl (by decide) ?_
      refine hz_istore_n (pc' := 28) (L' := [(3, .int 0), (0, .ref (B.1 + a0)), (1, .int x1), (2, .int x2)]) dX10_queued_27 rfl rfl (by decide) rfl ?_
      refine hz_loc [1, 2, 3, 0] rfl (hz_loopJ (lp := lp_X10_queued_28 a0 x1 x2) (Lh := fun v6 : Int32 × MW => [(0, .ref (B.1 + a0)), (1, .int x1), (2, .int x2), (3, .int v6.1)]) (wh := fun v6 : Int32 × MW => v6.2) (fun _ => rfl) (fun Nv6 ihv6 v6 => ?_) 3000 (0, w4))
      rw [lp_X10_queued_28]
      refine hz_iload_n (pc' := 29) (j := 3) dX10_queued_28 rfl rfl rfl ?_
      refine hz_aload_n (pc' := 30) (j := 0) dX10_queued_29 rfl rfl rfl ?_
      refine hz_gP (pc' := 33) (c' := 20) fl_X10_7.r ga0 rfl dX10_queued_30 rfl (fun b7 gb7 => ?_)
      refine hz_iconst (pc' := 34) (v := 2) dX10_queued_33 rfl (by decide) ?_
      refine hz_iald (pc' := 35) gb7 dX10_queued_34 rfl (fun v8 => ?_)
      refine hz_icmpge (pc' := 38) (tgt := 136) dX10_queued_35 (by decide) rfl ?_ ?_
      · refine hz_aload_n (pc' := 137) (j := 0) dX10_queued_136 rfl rfl rfl ?_
        refine hz_iconst (pc' := 138) (v := 3) dX10_queued_137 rfl (by decide) ?_
        refine hz_putI (pc' := 141) fl_X10_74 ga0 rfl dX10_queued_138 rfl (fun w9 => ?_)
        refine hz_iconst (pc' := 142) (v := 0) dX10_queued_141 rfl (by decide) ?_
        exact hz_reti dX10_queued_142 rfl (by decide)
      · refine hz_iconst (pc' := 39) (v := 0) dX10_queued_38 rfl (by decide) ?_
        refine hz_istore (pc' := 41) (L' := [(4, .int 0), (0, .ref (B.1 + a0)), (1, .int x1), (2, .int x2), (3, .int v6.1)]) dX10_queued_39 rfl (by decide) rfl ?_
        refine hz_iconst (pc' := 42) (v := 0) dX10_queued_41 rfl (by decide) ?_
        refine hz_istore (pc' := 44) (L' := [(5, .int 0), (4, .int 0), (0, .ref (B.1 + a0)), (1, .int x1), (2, .int x2), (3, .int v6.1)]) dX10_queued_42 rfl (by decide) rfl ?_
        refine hz_bindJ (pcJ := 113) (LJ := fun q11 : Int32 × MW => [(0, .ref (B.1 + a0)), (1, .int x1), (2, .int x2), (3, .int v6.1), (4, .int q11.1)]) (stJ := fun _ => []) (kJ := 0) (slJ := 0) (nJ := 358) (wJ := fun q11 : Int32 × MW => q11.2) (fun q11 => ?_) (fun hq11 => ?_)
        · refine hz_aload_n (pc' := 114) (j := 0) dX10_queued_113 rfl rfl rfl ?_
          refine hz_iload_n (pc' := 115) (j := 1) dX10_queued_114 rfl rfl rfl ?_
          refine hz_iload_n (pc' := 116) (j := 3) dX10_queued_115 rfl rfl rfl ?_
          refine hz_cVi (pc' := 119) (av := [.int x1, .int v6.1]) (rest := []) vl_X10_312 (fun x w' h => ct_X10_isQueued hl h) ga0 rfl rfl (Nat.le_of_ble_eq_true rfl) (by decide) (by decide) rfl dX10_queued_116 rfl (fun v13 w12 => ?_)
          refine hz_ifeq (pc' := 122) (tgt := 130) dX10_queued_119 (by decide) rfl ?_ ?_
          · refine hz_iincN (pc' := 133) (j := 3) (fun v14 => [(3, .int v14), (0, .ref (B.1 + a0)), (1, .int x1), (2, .int x2), (4, .int q11.1)]) dX10_queued_130 rfl rfl (by decide) (fun _ => rfl) (fun v14 => ?_)
            refine hz_goto (tgt := 28) dX10_queued_133 (by decide) ?_
            exact hz_loc [1, 2, 3, 0] rfl (ihv6 (v14, w12))
          · refine hz_iload (pc' := 124) (j := 4) dX10_queued_122 rfl rfl ?_
            refine hz_iload_n (pc' := 125) (j := 2) dX10_queued_124 rfl rfl rfl ?_
            refine hz_icmpne (pc' := 128) (tgt := 130) dX10_queued_125 (by decide) rfl ?_ ?_
            · refine hz_iincN (pc' := 133) (j := 3) (fun v15 => [(3, .int v15), (0, .ref (B.1 + a0)), (1, .int x1), (2, .int x2), (4, .int q11.1)]) dX10_queued_130 rfl rfl (by decide) (fun _ => rfl) (fun v15 => ?_)
              refine hz_goto (tgt := 28) dX10_queued_133 (by decide) ?_
              exact hz_loc [1, 2, 3, 0] rfl (ihv6 (v15, w12))
            · refine hz_iload_n (pc' := 129) (j := 3) dX10_queued_128 rfl rfl rfl ?_
              exact hz_reti dX10_queued_129 rfl (by decide)
        · refine hz_loc [2, 3, 4, 5, 1, 0] rfl (hz_loopJ (lp := lp_X10_queued_44 a0 x1 x2 v6.1) (Lh := fun v10 : Int32 × Int32 × MW => [(0, .ref (B.1 + a0)), (1, .int x1), (2, .int x2), (3, .int v6.1), (4, .int v10.1), (5, .int v10.2.1)]) (wh := fun v10 : Int32 × Int32 × MW => v10.2.2) (fun _ => rfl) (fun Nv10 ihv10 v10 => ?_) 3000 (0, 0, v6.2))
          rw [lp_X10_queued_44]
          refine hz_iload (pc' := 46) (j := 5) dX10_queued_44 rfl rfl ?_
          refine hz_aload_n (pc' := 47) (j := 0) dX10_queued_46 rfl rfl rfl ?_
          refine hz_gP (pc' := 50) (c' := 20) fl_X10_7.r ga0 rfl dX10_queued_47 rfl (fun b16 gb16 => ?_)
          refine hz_iconst (pc' := 51) (v := 2) dX10_queued_50 rfl (by decide) ?_
          refine hz_iald (pc' := 52) gb16 dX10_queued_51 rfl (fun v17 => ?_)
          refine hz_icmpge (pc' := 55) (tgt := 113) dX10_queued_52 (by decide) rfl ?_ ?_
          · exact hz_loc [0, 1, 2, 3, 4] rfl (hq11 (v10.1, v10.2.2))
          · refine hz_aload_n (pc' := 56) (j := 0) dX10_queued_55 rfl rfl rfl ?_
            refine hz_iload (pc' := 58) (j := 5) dX10_queued_56 rfl rfl ?_
            refine hz_iconst (pc' := 59) (v := 5) dX10_queued_58 rfl (by decide) ?_
            refine hz_cVi (pc' := 62) (av := [.int v10.2.1, .int 5]) (rest := []) vl_X10_211 (fun x w' h => ct_X10_ofJob hl h) ga0 rfl rfl (Nat.le_of_ble_eq_true rfl) (by decide) (by decide) rfl dX10_queued_59 rfl (fun v19 w18 => ?_)
            refine hz_aload_n (pc' := 63) (j := 0) dX10_queued_62 rfl rfl rfl ?_
            refine hz_iload_n (pc' := 64) (j := 3) dX10_queued_63 rfl rfl rfl ?_
            refine hz_iconst (pc' := 65) (v := 5) dX10_queued_64 rfl (by decide) ?_
            refine hz_cVi (pc' := 68) (av := [.int v6.1, .int 5]) (rest := [.int v19]) vl_X10_211 (fun x w' h => ct_X10_ofJob hl h) ga0 rfl rfl (Nat.le_of_ble_eq_true rfl) (by decide) (by decide) rfl dX10_queued_65 rfl (fun v21 w20 => ?_)
            refine hz_isub (pc' := 69) dX10_queued_68 rfl ?_
            refine hz_nameI (fun v22 => ?_)
            refine hz_istore (pc' := 71) (L' := [(6, .int v22), (0, .ref (B.1 + a0)), (1, .int x1), (2, .int x2), (3, .int v6.1), (4, .int v10.1), (5, .int v10.2.1)]) dX10_queued_69 rfl (by decide) rfl ?_
            refine hz_iload (pc' := 73) (j := 5) dX10_queued_71 rfl rfl ?_
            refine hz_aload_n (pc' := 74) (j := 1) dX10_queued_73 rfl rfl rfl ?_
            refine hz_iload_n (pc' := 75) (j := 2) dX10_queued_74 rfl rfl rfl ?_
            refine hz_iload (pc' := 77) (j := 6) dX10_queued_75 rfl rfl ?_
            refine hz_cVi (pc' := 80) (av := [.int x1, .int v10.2.1]) (rest := [.int v10.1]) vl_X10_312 (fun x w' h => ct_X10_isQueued hl h) ga0 rfl rfl (Nat.le_of_ble_eq_true rfl) (by decide) (by decide) rfl dX10_queued_77 rfl (fun v24 w23 => ?_)
            refine hz_bindJ (pcJ := 104) (LJ := fun q25 : Int32 => [(0, .ref (B.1 + a0)), (1, .int x1), (2, .int x2), (3, .int v6.1), (5, .int v10.2.1)]) (stJ := fun q25 : Int32 => [.int q25, .int v10.1]) (kJ := 0) (slJ := 0) (nJ := 358) (wJ := fun q25 : Int32 => w23) (fun q25 => ?_) (fun hq25 => ?_)
            · refine hz_iadd (pc' := 105) dX10_queued_104 rfl ?_
              refine hz_nameI (fun v26 => ?_)
              refine hz_istore (pc' := 107) (L' := [(4, .int v26), (0, .ref (B.1 + a0)), (1, .int x1), (2, .int x2), (3, .int v6.1), (5, .int v10.2.1)]) dX10_queued_105 rfl (by decide) rfl ?_
              refine hz_iincN (pc' := 110) (j := 5) (fun v27 => [(5, .int v27), (4, .int v26), (0, .ref (B.1 + a0)), (1, .int x1), (2, .int x2), (3, .int v6.1)]) dX10_queued_107 rfl rfl (by decide) (fun _ => rfl) (fun v27 => ?_)
              refine hz_goto (tgt := 44) dX10_queued_110 (by decide) ?_
              exact hz_loc [2, 3, 4, 5, 1, 0] rfl (ihv10 (v26, v27, w23))
            · refine hz_ifeq (pc' := 83) (tgt := 103) dX10_queued_80 (by decide) rfl ?_ ?_
              · refine hz_iconst (pc' := 104) (v := 0) dX10_queued_103 rfl (by decide) ?_
                exact hz_loc [1, 2, 3, 4, 6] rfl (hq25 0)
              · refine hz_iload (pc' := 85) (j := 0) dX10_queued_83 rfl rfl ?_
                refine hz_iflt (pc' := 88) (tgt := 99) dX10_queued_85 (by decide) rfl ?_ ?_
                · refine hz_iconst (pc' := 100) (v := 1) dX10_queued_99 rfl (by decide) ?_
                  refine hz_goto (tgt := 104) dX10_queued_100 (by decide) ?_
                  exact hz_loc [1, 2, 3, 4, 6] rfl (hq25 1)
                · refine hz_iload (pc' := 90) (j := 0) dX10_queued_88 rfl rfl ?_
                  refine hz_ifne (pc' := 93) (tgt := 103) dX10_queued_90 (by decide) rfl ?_ ?_
                  · refine hz_iconst (pc' := 104) (v := 0) dX10_queued_103 rfl (by decide) ?_
                    exact hz_loc [1, 2, 3, 4, 6] rfl (hq25 0)
                  · refine hz_iload (pc' := 95) (j := 6) dX10_queued_93 rfl rfl ?_
                    refine hz_iload_n (pc' := 96) (j := 4) dX10_queued_95 rfl rfl rfl ?_
                    refine hz_icmpge (pc' := 99) (tgt := 103) dX10_queued_96 (by decide) rfl ?_ ?_
                    · refine hz_iconst (pc' := 104) (v := 0) dX10_queued_103 rfl (by decide) ?_
                      exact hz_loc [1, 2, 3, 4, 6] rfl (hq25 0)
                    · refine hz_iconst (pc' := 100) (v := 1) dX10_queued_99 rfl (by decide) ?_
                      refine hz_goto (tgt := 104) dX10_queued_100 (by decide) ?_
                      exact hz_loc [1, 2, 3, 4, 6] rfl (hq25 1)
    · refine hz_iconst (pc' := 25) (v := 0) dX10_queued_24 rfl (by decide) ?_
      exact hz_reti dX10_queued_25 rfl (by decide)
  · refine hz_ifeq (pc' := 9) (tgt := 17) dX10_queued_6 (by decide) rfl ?_ ?_
    · refine hz_iconst (pc' := 18) (v := 0) dX10_queued_17 rfl (by decide) ?_
      exact hz_loc [0, 1, 2] rfl (hq3 0)
    · refine hz_iload_n (pc' := 10) (j := 2) dX10_queued_9 rfl rfl rfl ?_
      refine hz_iflt (pc' := 13) (tgt := 17) dX10_queued_10 (by decide) rfl ?_ ?_
      · refine hz_iconst (pc' := 18) (v := 0) dX10_queued_17 rfl (by decide) ?_
        exact hz_loc [0, 1, 2] rfl (hq3 0)
      · refine hz_iconst (pc' := 14) (v := 1) dX10_queued_13 rfl (by decide) ?_
        refine hz_goto (tgt := 18) dX10_queued_14 (by decide) ?_
        exact hz_loc [0, 1, 2] rfl (hq3 1)
def f_X10_estimate (a0 : Nat) (x1 : Int32) (w : MW) : Option (Int32 × MW) :=
  hz_gd (hz_g 358 a0 11) (hz_b (f_X10_isIn (Int32.toInt64 x1) 0 7 w) (fun v2 w1 => hz_b (f_X10_isWrong a0 v2 w1) (fun v4 w3 => Option.bind ((if v4 = 0 then hz_ldp w3 a0 0 358 20 (fun b6 => hz_lda w3 b6 (3 + x1) (fun v7 => some v7)) else some 0)) (fun q5 : Int32 => some (q5, w3)))))
set_option maxHeartbeats 4000000 in
set_option maxRecDepth 100000 in
theorem ct_X10_estimate {l : Launch} (hl : l.stackTraces = false) {B : Bt} {a0 : Nat} {x1 : Int32} {w : MW} {r : Int32 × MW} (h : f_X10_estimate a0 x1 w = some r) : hz_Met l B false 358 358 yX10_estimate cX10_estimate 2 (Option.some FieldType.int) 3 0 0 [.ref (B.1 + a0), .int x1] w (some (.int r.1)) r.2 := by
  refine hz_ofJ (rv := (fun r : Int32 × MW => some (.int r.1))) (wo := (fun r : Int32 × MW => r.2)) (own := RX10) (ini := false) hl (by decide) rfl (Or.inr rfl) (Nat.le_of_ble_eq_true rfl) rfl ?_ h
  intro p e s m args below meth c
  unfold f_X10_estimate
  refine hz_gdr (fun ga0 => ?_)
  refine hz_aload_n (pc' := 1) (j := 0) dX10_estimate_0 rfl rfl rfl ?_
  refine hz_iload_n (pc' := 2) (j := 1) dX10_estimate_1 rfl rfl rfl ?_
  refine hz_i2l (pc' := 3) dX10_estimate_2 rfl ?_
  refine hz_lconst (pc' := 4) (v := 0) dX10_estimate_3 rfl (by decide) ?_
  refine hz_ldc2 (pc' := 7) (v := 7) dX10_estimate_4 rfl hq_1436 ?_
  refine hz_cSi (pc' := 10) (av := [.long (Int32.toInt64 x1), .long 0, .long 7]) (rest := [.ref (B.1 + a0)]) sl_X10_88 (fun x w' h => ct_X10_isIn hl h) rfl rfl (Nat.le_of_ble_eq_true rfl) (by decide) (by decide) rfl dX10_estimate_7 rfl (fun v2 w1 => ?_)
  refine hz_cVi (pc' := 13) (av := [.int v2]) (rest := []) vl_X10_207 (fun x w' h => ct_X10_isWrong hl h) ga0 rfl rfl (Nat.le_of_ble_eq_true rfl) (by decide) (by decide) rfl dX10_estimate_10 rfl (fun v4 w3 => ?_)
  refine hz_bindJ (pcJ := 28) (LJ := fun q5 : Int32 => []) (stJ := fun q5 : Int32 => [.int q5]) (kJ := 0) (slJ := 0) (nJ := 358) (wJ := fun q5 : Int32 => w3) (fun q5 => ?_) (fun hq5 => ?_)
  · exact hz_reti dX10_estimate_28 rfl (by decide)
  · refine hz_ifeq (pc' := 16) (tgt := 20) dX10_estimate_13 (by decide) rfl ?_ ?_
    · refine hz_aload_n (pc' := 21) (j := 0) dX10_estimate_20 rfl rfl rfl ?_
      refine hz_gP (pc' := 24) (c' := 20) fl_X10_7.r ga0 rfl dX10_estimate_21 rfl (fun b6 gb6 => ?_)
      refine hz_iconst (pc' := 25) (v := 3) dX10_estimate_24 rfl (by decide) ?_
      refine hz_iload_n (pc' := 26) (j := 1) dX10_estimate_25 rfl rfl rfl ?_
      refine hz_iadd (pc' := 27) dX10_estimate_26 rfl ?_
      refine hz_iald (pc' := 28) gb6 dX10_estimate_27 rfl (fun v7 => ?_)
      exact hz_loc [] rfl (hq5 v7)
    · refine hz_iconst (pc' := 17) (v := 0) dX10_estimate_16 rfl (by decide) ?_
      refine hz_goto (tgt := 28) dX10_estimate_17 (by decide) ?_
      exact hz_loc [] rfl (hq5 0)
def lp_X10_deviation_26 (c0 : Nat) (c1 : Int32) : Nat → (Int64 × Int32 × Int32 × MW) → Option (Int64 × Int32 × MW)
  | 0, _ => none
  | N + 1, v0 => hz_ldp v0.2.2.2 c0 0 358 20 (fun b5 => hz_lda v0.2.2.2 b5 2 (fun v6 => (if v6 ≤ v0.2.2.1 then some (v0.1, v0.2.1, v0.2.2.2) else hz_b (f_X10_ofJob c0 v0.2.2.1 1 v0.2.2.2) (fun v8 w7 => Option.bind ((if v8 = c1 then hz_b (f_X10_ofJob c0 v0.2.2.1 7 w7) (fun v12 w11 => (if v12 = 3 then hz_b (f_X10_ofJob c0 v0.2.2.1 4 w11) (fun v14 w13 => hz_ldp w13 c0 0 358 20 (fun b15 => hz_lda w13 b15 (3 + c1) (fun v16 => hz_let (v14 - v16) (fun v17 => Option.bind ((if 0 ≤ v17 then some (Int32.toInt64 v17) else some (Int32.toInt64 (-v17)))) (fun q18 : Int64 => hz_let (v0.1 + q18) (fun v19 => hz_let (v0.2.1 + Int32.ofInt 1) (fun v20 => some (v19, v20, w13)))))))) else some (v0.1, v0.2.1, w11))) else some (v0.1, v0.2.1, w7))) (fun q9 : Int64 × Int32 × MW => hz_let (v0.2.2.1 + Int32.ofInt 1) (fun v10 => lp_X10_deviation_26 c0 c1 N (q9.1, q9.2.1, v10, q9.2.2)))))))
def f_X10_deviation (a0 : Nat) (x1 : Int32) (w : MW) : Option (UInt64 × MW) :=
  hz_gd (hz_g 358 a0 11) (hz_b (f_X10_isIn (Int32.toInt64 x1) 0 7 w) (fun v2 w1 => hz_b (f_X10_isWrong a0 v2 w1) (fun v4 w3 => (if v4 = 0 then Option.bind (lp_X10_deviation_26 a0 x1 3000 (0, 0, 0, w3)) (fun q6 : Int64 × Int32 × MW => Option.bind ((if q6.2.1 = 0 then some 3 else some 0)) (fun q7 : Int32 => hz_let (hz_pn q6.2.2 a0 4 q7) (fun w8 => Option.bind ((if q6.2.1 = 0 then some 0 else hz_nd (FP.ddiv (FP.l2d q6.1) (FP.i2d q6.2.1)) (fun v10 => some v10))) (fun q9 : UInt64 => some (q9, w8))))) else some (0, w3)))))
set_option maxHeartbeats 4000000 in
set_option maxRecDepth 100000 in
theorem ct_X10_deviation {l : Launch} (hl : l.stackTraces = false) {B : Bt} {a0 : Nat} {x1 : Int32} {w : MW} {r : UInt64 × MW} (h : f_X10_deviation a0 x1 w = some r) : hz_Met l B false 358 358 yX10_deviation cX10_deviation 7 (Option.some FieldType.double) 3 0 0 [.ref (B.1 + a0), .int x1] w (some (.double r.1)) r.2 := by
  refine hz_ofJ (rv := (fun r : UInt64 × MW => some (.double r.1))) (wo := (fun r : UInt64 × MW => r.2)) (own := RX10) (ini := false) hl (by decide) rfl (Or.inr rfl) (Nat.le_of_ble_eq_true rfl) rfl ?_ h
  intro p e s m args below meth c
  unfold f_X10_deviation
  refine hz_gdr (fun ga0 => ?_)
  refine hz_aload_n (pc' := 1) (j := 0) dX10_deviation_0 rfl rfl rfl ?_
  refine hz_iload_n (pc' := 2) (j := 1) dX10_deviation_1 rfl rfl rfl ?_
  refine hz_i2l (pc' := 3) dX10_deviation_2 rfl ?_
  refine hz_lconst (pc' := 4) (v := 0) dX10_deviation_3 rfl (by decide) ?_
  refine hz_ldc2 (pc' := 7) (v := 7) dX10_deviation_4 rfl hq_1436 ?_
  refine hz_cSi (pc' := 10) (av := [.long (Int32.toInt64 x1), .long 0, .long 7]) (rest := [.ref (B.1 + a0)]) sl_X10_88 (fun x w' h => ct_X10_isIn hl h) rfl rfl (Nat.le_of_ble_eq_true rfl) (by decide) (by decide) rfl dX10_deviation_7 rfl (fun v2 w1 => ?_)
  refine hz_cVi (pc' := 13) (av := [.int v2]) (rest := []) vl_X10_207 (fun x w' h => ct_X10_isWrong hl h) ga0 rfl rfl (Nat.le_of_ble_eq_true rfl) (by decide) (by decide) rfl dX10_deviation_10 rfl (fun v4 w3 => ?_)
  refine hz_ifeq (pc' := 16) (tgt := 18) dX10_deviation_13 (by decide) rfl ?_ ?_
  · refine hz_lconst (pc' := 19) (v := 0) dX10_deviation_18 rfl (by decide) ?_
    refine hz_lstore_n (pc' := 20) (L' := [(2, .long 0), (0, .ref (B.1 + a0)), (1, .int x1)]) dX10_deviation_19 rfl rfl (by decide) rfl ?_
    refine hz_iconst (pc' := 21) (v := 0) dX10_deviation_20 rfl (by decide) ?_
    refine hz_istore (pc' := 23) (L' := [(4, .int 0), (2, .long 0), (0, .ref (B.1 + a0)), (1, .int x1)]) dX10_deviation_21 rfl (by decide) rfl ?_
    refine hz_iconst (pc' := 24) (v := 0) dX10_deviation_23 rfl (by decide) ?_
    refine hz_istore (pc' := 26) (L' := [(5, .int 0), (4, .int 0), (2, .long 0), (0, .ref (B.1 + a0)), (1, .int x1)]) dX10_deviation_24 rfl (by decide) rfl ?_
    refine hz_bindJ (pcJ := 105) (LJ := fun q6 : Int64 × Int32 × MW => [(0, .ref (B.1 + a0)), (2, .long q6.1), (4, .int q6.2.1)]) (stJ := fun _ => []) (kJ := 0) (slJ := 0) (nJ := 358) (wJ := fun q6 : Int64 × Int32 × MW => q6.2.2) (fun q6 => ?_) (fun hq6 => ?_)
    · refine hz_aload_n (pc' := 106) (j := 0) dX10_deviation_105 rfl rfl rfl ?_
      refine hz_iload (pc' := 108) (j := 2) dX10_deviation_106 rfl rfl ?_
      refine hz_bindJ (pcJ := 116) (LJ := fun q7 : Int32 => [(2, .long q6.1), (4, .int q6.2.1)]) (stJ := fun q7 : Int32 => [.int q7, .ref (B.1 + a0)]) (kJ := 0) (slJ := 0) (nJ := 358) (wJ := fun q7 : Int32 => q6.2.2) (fun q7 => ?_) (fun hq7 => ?_)
      · refine hz_putI (pc' := 119) fl_X10_74 ga0 rfl dX10_deviation_116 rfl (fun w8 => ?_)
        refine hz_iload (pc' := 121) (j := 1) dX10_deviation_119 rfl rfl ?_
        refine hz_bindJ (pcJ := 134) (LJ := fun q9 : UInt64 => []) (stJ := fun q9 : UInt64 => [.double q9]) (kJ := 0) (slJ := 0) (nJ := 358) (wJ := fun q9 : UInt64 => w8) (fun q9 => ?_) (fun hq9 => ?_)
        · exact hz_retd dX10_deviation_134 rfl (by decide)
        · refine hz_ifne (pc' := 124) (tgt := 128) dX10_deviation_121 (by decide) rfl ?_ ?_
          · refine hz_lload_n (pc' := 129) (j := 0) dX10_deviation_128 rfl rfl rfl ?_
            refine hz_l2d (pc' := 130) dX10_deviation_129 rfl ?_
            refine hz_iload (pc' := 132) (j := 1) dX10_deviation_130 rfl rfl ?_
            refine hz_i2d (pc' := 133) dX10_deviation_132 rfl ?_
            refine hz_ddiv (pc' := 134) dX10_deviation_133 rfl (fun v10 => ?_)
            exact hz_loc [] rfl (hq9 v10)
          · refine hz_dconst0 (pc' := 125) dX10_deviation_124 rfl ?_
            refine hz_goto (tgt := 134) dX10_deviation_125 (by decide) ?_
            exact hz_loc [] rfl (hq9 0)
      · refine hz_ifne (pc' := 111) (tgt := 115) dX10_deviation_108 (by decide) rfl ?_ ?_
        · refine hz_iconst (pc' := 116) (v := 0) dX10_deviation_115 rfl (by decide) ?_
          exact hz_loc [1, 2] rfl (hq7 0)
        · refine hz_iconst (pc' := 112) (v := 3) dX10_deviation_111 rfl (by decide) ?_
          refine hz_goto (tgt := 116) dX10_deviation_112 (by decide) ?_
          exact hz_loc [1, 2] rfl (hq7 3)
    · refine hz_loc [3, 4, 2, 1, 0] rfl (hz_loopJ (lp := lp_X10_deviation_26 a0 x1) (Lh := fun v5 : Int64 × Int32 × Int32 × MW => [(0, .ref (B.1 + a0)), (1, .int x1), (2, .long v5.1), (4, .int v5.2.1), (5, .int v5.2.2.1)]) (wh := fun v5 : Int64 × Int32 × Int32 × MW => v5.2.2.2) (fun _ => rfl) (fun Nv5 ihv5 v5 => ?_) 3000 (0, 0, 0, w3))
      rw [lp_X10_deviation_26]
      refine hz_iload (pc' := 28) (j := 4) dX10_deviation_26 rfl rfl ?_
      refine hz_aload_n (pc' := 29) (j := 0) dX10_deviation_28 rfl rfl rfl ?_
      refine hz_gP (pc' := 32) (c' := 20) fl_X10_7.r ga0 rfl dX10_deviation_29 rfl (fun b11 gb11 => ?_)
      refine hz_iconst (pc' := 33) (v := 2) dX10_deviation_32 rfl (by decide) ?_
      refine hz_iald (pc' := 34) gb11 dX10_deviation_33 rfl (fun v12 => ?_)
      refine hz_icmpge (pc' := 37) (tgt := 105) dX10_deviation_34 (by decide) rfl ?_ ?_
      · exact hz_loc [0, 2, 3] rfl (hq6 (v5.1, v5.2.1, v5.2.2.2))
      · refine hz_aload_n (pc' := 38) (j := 0) dX10_deviation_37 rfl rfl rfl ?_
        refine hz_iload (pc' := 40) (j := 4) dX10_deviation_38 rfl rfl ?_
        refine hz_iconst (pc' := 41) (v := 1) dX10_deviation_40 rfl (by decide) ?_
        refine hz_cVi (pc' := 44) (av := [.int v5.2.2.1, .int 1]) (rest := []) vl_X10_211 (fun x w' h => ct_X10_ofJob hl h) ga0 rfl rfl (Nat.le_of_ble_eq_true rfl) (by decide) (by decide) rfl dX10_deviation_41 rfl (fun v14 w13 => ?_)
        refine hz_iload_n (pc' := 45) (j := 1) dX10_deviation_44 rfl rfl rfl ?_
        refine hz_bindJ (pcJ := 99) (LJ := fun q15 : Int64 × Int32 × MW => [(0, .ref (B.1 + a0)), (1, .int x1), (2, .long q15.1), (4, .int q15.2.1), (5, .int v5.2.2.1)]) (stJ := fun q15 : Int64 × Int32 × MW => []) (kJ := 0) (slJ := 0) (nJ := 358) (wJ := fun q15 : Int64 × Int32 × MW => q15.2.2) (fun q15 => ?_) (fun hq15 => ?_)
        · refine hz_iincN (pc' := 102) (j := 4) (fun v16 => [(5, .int v16), (0, .ref (B.1 + a0)), (1, .int x1), (2, .long q15.1), (4, .int q15.2.1)]) dX10_deviation_99 rfl rfl (by decide) (fun _ => rfl) (fun v16 => ?_)
          refine hz_goto (tgt := 26) dX10_deviation_102 (by decide) ?_
          exact hz_loc [1, 2, 3, 4, 0] rfl (ihv5 (q15.1, q15.2.1, v16, q15.2.2))
        · refine hz_icmpne (pc' := 48) (tgt := 99) dX10_deviation_45 (by decide) rfl ?_ ?_
          · exact hz_loc [0, 1, 2, 3, 4] rfl (hq15 (v5.1, v5.2.1, w13))
          · refine hz_aload_n (pc' := 49) (j := 0) dX10_deviation_48 rfl rfl rfl ?_
            refine hz_iload (pc' := 51) (j := 4) dX10_deviation_49 rfl rfl ?_
            refine hz_bipush (pc' := 53) (v := 7) dX10_deviation_51 rfl (by decide) ?_
            refine hz_cVi (pc' := 56) (av := [.int v5.2.2.1, .int 7]) (rest := []) vl_X10_211 (fun x w' h => ct_X10_ofJob hl h) ga0 rfl rfl (Nat.le_of_ble_eq_true rfl) (by decide) (by decide) rfl dX10_deviation_53 rfl (fun v18 w17 => ?_)
            refine hz_iconst (pc' := 57) (v := 3) dX10_deviation_56 rfl (by decide) ?_
            refine hz_icmpne (pc' := 60) (tgt := 99) dX10_deviation_57 (by decide) rfl ?_ ?_
            · exact hz_loc [0, 1, 2, 3, 4] rfl (hq15 (v5.1, v5.2.1, w17))
            · refine hz_aload_n (pc' := 61) (j := 0) dX10_deviation_60 rfl rfl rfl ?_
              refine hz_iload (pc' := 63) (j := 4) dX10_deviation_61 rfl rfl ?_
              refine hz_iconst (pc' := 64) (v := 4) dX10_deviation_63 rfl (by decide) ?_
              refine hz_cVi (pc' := 67) (av := [.int v5.2.2.1, .int 4]) (rest := []) vl_X10_211 (fun x w' h => ct_X10_ofJob hl h) ga0 rfl rfl (Nat.le_of_ble_eq_true rfl) (by decide) (by decide) rfl dX10_deviation_64 rfl (fun v20 w19 => ?_)
              refine hz_aload_n (pc' := 68) (j := 0) dX10_deviation_67 rfl rfl rfl ?_
              refine hz_gP (pc' := 71) (c' := 20) fl_X10_7.r ga0 rfl dX10_deviation_68 rfl (fun b21 gb21 => ?_)
              refine hz_iconst (pc' := 72) (v := 3) dX10_deviation_71 rfl (by decide) ?_
              refine hz_iload_n (pc' := 73) (j := 1) dX10_deviation_72 rfl rfl rfl ?_
              refine hz_iadd (pc' := 74) dX10_deviation_73 rfl ?_
              refine hz_iald (pc' := 75) gb21 dX10_deviation_74 rfl (fun v22 => ?_)
              refine hz_isub (pc' := 76) dX10_deviation_75 rfl ?_
              refine hz_nameI (fun v23 => ?_)
              refine hz_istore (pc' := 78) (L' := [(6, .int v23), (0, .ref (B.1 + a0)), (1, .int x1), (2, .long v5.1), (4, .int v5.2.1), (5, .int v5.2.2.1)]) dX10_deviation_76 rfl (by decide) rfl ?_
              refine hz_lload_n (pc' := 79) (j := 3) dX10_deviation_78 rfl rfl rfl ?_
              refine hz_iload (pc' := 81) (j := 0) dX10_deviation_79 rfl rfl ?_
              refine hz_bindJ (pcJ := 94) (LJ := fun q24 : Int64 => [(0, .ref (B.1 + a0)), (1, .int x1), (4, .int v5.2.1), (5, .int v5.2.2.1)]) (stJ := fun q24 : Int64 => [.long q24, .long v5.1]) (kJ := 0) (slJ := 0) (nJ := 358) (wJ := fun q24 : Int64 => w19) (fun q24 => ?_) (fun hq24 => ?_)
              · refine hz_ladd (pc' := 95) dX10_deviation_94 rfl ?_
                refine hz_nameL (fun v25 => ?_)
                refine hz_lstore_n (pc' := 96) (L' := [(2, .long v25), (0, .ref (B.1 + a0)), (1, .int x1), (4, .int v5.2.1), (5, .int v5.2.2.1)]) dX10_deviation_95 rfl rfl (by decide) rfl ?_
                refine hz_iincN (pc' := 99) (j := 3) (fun v26 => [(4, .int v26), (2, .long v25), (0, .ref (B.1 + a0)), (1, .int x1), (5, .int v5.2.2.1)]) dX10_deviation_96 rfl rfl (by decide) (fun _ => rfl) (fun v26 => ?_)
                exact hz_loc [2, 3, 1, 0, 4] rfl (hq15 (v25, v26, w19))
              · refine hz_ifge (pc' := 84) (tgt := 91) dX10_deviation_81 (by decide) rfl ?_ ?_
                · refine hz_iload (pc' := 93) (j := 0) dX10_deviation_91 rfl rfl ?_
                  refine hz_i2l (pc' := 94) dX10_deviation_93 rfl ?_
                  exact hz_loc [1, 2, 4, 5] rfl (hq24 (Int32.toInt64 v23))
                · refine hz_iload (pc' := 86) (j := 0) dX10_deviation_84 rfl rfl ?_
                  refine hz_ineg (pc' := 87) dX10_deviation_86 rfl ?_
                  refine hz_i2l (pc' := 88) dX10_deviation_87 rfl ?_
                  refine hz_goto (tgt := 94) dX10_deviation_88 (by decide) ?_
                  exact hz_loc [1, 2, 4, 5] rfl (hq24 (Int32.toInt64 (-v23)))
  · refine hz_dconst0 (pc' := 17) dX10_deviation_16 rfl ?_
    exact hz_retd dX10_deviation_17 rfl (by decide)
def lp_X10_areOver_4 (c0 : Nat) : Nat → (Int32 × Int32 × MW) → Option (Int32 × MW)
  | 0, _ => none
  | N + 1, v0 => hz_ldp v0.2.2 c0 0 358 20 (fun b1 => hz_lda v0.2.2 b1 2 (fun v2 => (if v2 ≤ v0.2.1 then some (v0.1, v0.2.2) else Option.bind ((if v0.1 = 0 then some (0, v0.2.2) else hz_b (f_X10_isOver c0 v0.2.1 v0.2.2) (fun v6 w5 => (if v6 = 0 then some (0, w5) else some (1, w5))))) (fun q3 : Int32 × MW => hz_let (v0.2.1 + Int32.ofInt 1) (fun v4 => lp_X10_areOver_4 c0 N (q3.1, v4, q3.2))))))
def f_X10_areOver (a0 : Nat) (w : MW) : Option (Int32 × MW) :=
  hz_gd (hz_g 358 a0 11) (Option.bind (lp_X10_areOver_4 a0 3000 (1, 0, w)) (fun q2 : Int32 × MW => hz_gd (hz_isb q2.1) (some (q2.1, q2.2))))
set_option maxHeartbeats 4000000 in
set_option maxRecDepth 100000 in
theorem ct_X10_areOver {l : Launch} (hl : l.stackTraces = false) {B : Bt} {a0 : Nat} {w : MW} {r : Int32 × MW} (h : f_X10_areOver a0 w = some r) : hz_Met l B false 358 358 yX10_areOver cX10_areOver 3 (Option.some FieldType.boolean) 4 0 0 [.ref (B.1 + a0)] w (some (.int r.1)) r.2 := by
  refine hz_ofJ (rv := (fun r : Int32 × MW => some (.int r.1))) (wo := (fun r : Int32 × MW => r.2)) (own := RX10) (ini := false) hl (by decide) rfl (Or.inr rfl) (Nat.le_of_ble_eq_true rfl) rfl ?_ h
  intro p e s m args below meth c
  unfold f_X10_areOver
  refine hz_gdr (fun ga0 => ?_)
  refine hz_iconst (pc' := 1) (v := 1) dX10_areOver_0 rfl (by decide) ?_
  refine hz_istore_n (pc' := 2) (L' := [(1, .int 1), (0, .ref (B.1 + a0))]) dX10_areOver_1 rfl rfl (by decide) rfl ?_
  refine hz_iconst (pc' := 3) (v := 0) dX10_areOver_2 rfl (by decide) ?_
  refine hz_istore_n (pc' := 4) (L' := [(2, .int 0), (1, .int 1), (0, .ref (B.1 + a0))]) dX10_areOver_3 rfl rfl (by decide) rfl ?_
  refine hz_bindJ (pcJ := 38) (LJ := fun q2 : Int32 × MW => [(1, .int q2.1)]) (stJ := fun _ => []) (kJ := 0) (slJ := 0) (nJ := 358) (wJ := fun q2 : Int32 × MW => q2.2) (fun q2 => ?_) (fun hq2 => ?_)
  · refine hz_iload_n (pc' := 39) (j := 0) dX10_areOver_38 rfl rfl rfl ?_
    exact hz_retz dX10_areOver_39 rfl (by decide)
  · refine hz_loc [2, 1, 0] rfl (hz_loopJ (lp := lp_X10_areOver_4 a0) (Lh := fun v1 : Int32 × Int32 × MW => [(0, .ref (B.1 + a0)), (1, .int v1.1), (2, .int v1.2.1)]) (wh := fun v1 : Int32 × Int32 × MW => v1.2.2) (fun _ => rfl) (fun Nv1 ihv1 v1 => ?_) 3000 (1, 0, w))
    rw [lp_X10_areOver_4]
    refine hz_iload_n (pc' := 5) (j := 2) dX10_areOver_4 rfl rfl rfl ?_
    refine hz_aload_n (pc' := 6) (j := 0) dX10_areOver_5 rfl rfl rfl ?_
    refine hz_gP (pc' := 9) (c' := 20) fl_X10_7.r ga0 rfl dX10_areOver_6 rfl (fun b3 gb3 => ?_)
    refine hz_iconst (pc' := 10) (v := 2) dX10_areOver_9 rfl (by decide) ?_
    refine hz_iald (pc' := 11) gb3 dX10_areOver_10 rfl (fun v4 => ?_)
    refine hz_icmpge (pc' := 14) (tgt := 38) dX10_areOver_11 (by decide) rfl ?_ ?_
    · exact hz_loc [1] rfl (hq2 (v1.1, v1.2.2))
    · refine hz_iload_n (pc' := 15) (j := 1) dX10_areOver_14 rfl rfl rfl ?_
      refine hz_bindJ (pcJ := 31) (LJ := fun q5 : Int32 × MW => [(0, .ref (B.1 + a0)), (2, .int v1.2.1)]) (stJ := fun q5 : Int32 × MW => [.int q5.1]) (kJ := 0) (slJ := 0) (nJ := 358) (wJ := fun q5 : Int32 × MW => q5.2) (fun q5 => ?_) (fun hq5 => ?_)
      · refine hz_istore_n (pc' := 32) (L' := [(1, .int q5.1), (0, .ref (B.1 + a0)), (2, .int v1.2.1)]) dX10_areOver_31 rfl rfl (by decide) rfl ?_
        refine hz_iincN (pc' := 35) (j := 2) (fun v6 => [(2, .int v6), (1, .int q5.1), (0, .ref (B.1 + a0))]) dX10_areOver_32 rfl rfl (by decide) (fun _ => rfl) (fun v6 => ?_)
        refine hz_goto (tgt := 4) dX10_areOver_35 (by decide) ?_
        exact hz_loc [2, 1, 0] rfl (ihv1 (q5.1, v6, q5.2))
      · refine hz_ifeq (pc' := 18) (tgt := 30) dX10_areOver_15 (by decide) rfl ?_ ?_
        · refine hz_iconst (pc' := 31) (v := 0) dX10_areOver_30 rfl (by decide) ?_
          exact hz_loc [0, 2] rfl (hq5 (0, v1.2.2))
        · refine hz_aload_n (pc' := 19) (j := 0) dX10_areOver_18 rfl rfl rfl ?_
          refine hz_iload_n (pc' := 20) (j := 2) dX10_areOver_19 rfl rfl rfl ?_
          refine hz_cVi (pc' := 23) (av := [.int v1.2.1]) (rest := []) vl_X10_289 (fun x w' h => ct_X10_isOver hl h) ga0 rfl rfl (Nat.le_of_ble_eq_true rfl) (by decide) (by decide) rfl dX10_areOver_20 rfl (fun v8 w7 => ?_)
          refine hz_ifeq (pc' := 26) (tgt := 30) dX10_areOver_23 (by decide) rfl ?_ ?_
          · refine hz_iconst (pc' := 31) (v := 0) dX10_areOver_30 rfl (by decide) ?_
            exact hz_loc [0, 2] rfl (hq5 (0, w7))
          · refine hz_iconst (pc' := 27) (v := 1) dX10_areOver_26 rfl (by decide) ?_
            refine hz_goto (tgt := 31) dX10_areOver_27 (by decide) ?_
            exact hz_loc [0, 2] rfl (hq5 (1, w7))
def lp_X10_passAll_2 (c0 : Nat) : Nat → (Int32 × MW) → Option (MW)
  | 0, _ => none
  | N + 1, v0 => (if 1000 ≤ v0.1 then some v0.2 else hz_b (f_X10_areOver c0 v0.2) (fun v2 w1 => (if v2 = 0 then hz_bv (f_X10_tickOnce c0 w1) (fun w3 => hz_let (v0.1 + Int32.ofInt 1) (fun v4 => lp_X10_passAll_2 c0 N (v4, w3))) else some w1)))
def f_X10_passAll (a0 : Nat) (w : MW) : Option (MW) :=
  hz_gd (hz_g 358 a0 11) (Option.bind (lp_X10_passAll_2 a0 3000 (0, w)) (fun q2 : MW => some q2))
set_option maxHeartbeats 4000000 in
set_option maxRecDepth 100000 in
theorem ct_X10_passAll {l : Launch} (hl : l.stackTraces = false) {B : Bt} {a0 : Nat} {w : MW} {r : MW} (h : f_X10_passAll a0 w = some r) : hz_Met l B false 358 358 yX10_passAll cX10_passAll 2 (Option.none : Option FieldType) 7 0 0 [.ref (B.1 + a0)] w none r := by
  refine hz_ofJ (rv := (fun _ : MW => none)) (wo := (fun r : MW => r)) (own := RX10) (ini := false) hl (by decide) rfl (Or.inr rfl) (Nat.le_of_ble_eq_true rfl) rfl ?_ h
  intro p e s m args below meth c
  unfold f_X10_passAll
  refine hz_gdr (fun ga0 => ?_)
  refine hz_iconst (pc' := 1) (v := 0) dX10_passAll_0 rfl (by decide) ?_
  refine hz_istore_n (pc' := 2) (L' := [(1, .int 0), (0, .ref (B.1 + a0))]) dX10_passAll_1 rfl rfl (by decide) rfl ?_
  refine hz_bindJ (pcJ := 26) (LJ := fun q2 : MW => []) (stJ := fun _ => []) (kJ := 0) (slJ := 0) (nJ := 358) (wJ := fun q2 : MW => q2) (fun q2 => ?_) (fun hq2 => ?_)
  · exact hz_retv dX10_passAll_26 rfl (by decide)
  · refine hz_loc [1, 0] rfl (hz_loopJ (lp := lp_X10_passAll_2 a0) (Lh := fun v1 : Int32 × MW => [(0, .ref (B.1 + a0)), (1, .int v1.1)]) (wh := fun v1 : Int32 × MW => v1.2) (fun _ => rfl) (fun Nv1 ihv1 v1 => ?_) 3000 (0, w))
    rw [lp_X10_passAll_2]
    refine hz_iload_n (pc' := 3) (j := 1) dX10_passAll_2 rfl rfl rfl ?_
    refine hz_sipush (pc' := 6) (v := 1000) dX10_passAll_3 rfl (by decide) ?_
    refine hz_icmpge (pc' := 9) (tgt := 26) dX10_passAll_6 (by decide) rfl ?_ ?_
    · exact hz_loc [] rfl (hq2 v1.2)
    · refine hz_aload_n (pc' := 10) (j := 0) dX10_passAll_9 rfl rfl rfl ?_
      refine hz_cVi (pc' := 13) (av := []) (rest := []) vl_X10_316 (fun x w' h => ct_X10_areOver hl h) ga0 rfl rfl (Nat.le_of_ble_eq_true rfl) (by decide) (by decide) rfl dX10_passAll_10 rfl (fun v4 w3 => ?_)
      refine hz_ifne (pc' := 16) (tgt := 26) dX10_passAll_13 (by decide) rfl ?_ ?_
      · exact hz_loc [] rfl (hq2 w3)
      · refine hz_aload_n (pc' := 17) (j := 0) dX10_passAll_16 rfl rfl rfl ?_
        refine hz_cVv (pc' := 20) (av := []) (rest := []) vl_X10_301 (fun w' h => ct_X10_tickOnce hl h) ga0 rfl rfl (Nat.le_of_ble_eq_true rfl) (by decide) (by decide) rfl dX10_passAll_17 rfl (fun w5 => ?_)
        refine hz_iincN (pc' := 23) (j := 1) (fun v6 => [(1, .int v6), (0, .ref (B.1 + a0))]) dX10_passAll_20 rfl rfl (by decide) (fun _ => rfl) (fun v6 => ?_)
        refine hz_goto (tgt := 2) dX10_passAll_23 (by decide) ?_
        exact hz_loc [1, 0] rfl (ihv1 (v6, w5))
def lp_X10_willBeDone_20 (c0 : Nat) (c1 : Int32) : Nat → (Int32 × MW) → Option (MW)
  | 0, _ => none
  | N + 1, v0 => (if 1000 ≤ v0.1 then some v0.2 else hz_b (f_X10_isOver c0 c1 v0.2) (fun v7 w6 => (if v7 = 0 then hz_bv (f_X10_tickOnce c0 w6) (fun w8 => hz_let (v0.1 + Int32.ofInt 1) (fun v9 => lp_X10_willBeDone_20 c0 c1 N (v9, w8))) else some w6)))
def f_X10_willBeDone (a0 : Nat) (x1 : Int32) (w : MW) : Option (Int32 × MW) :=
  hz_gd (hz_g 358 a0 11) (hz_b (f_X10_isJob a0 x1 w) (fun v2 w1 => hz_b (f_X10_isWrong a0 v2 w1) (fun v4 w3 => (if v4 = 0 then hz_bv (f_X10_putAside a0 w3) (fun w5 => Option.bind (lp_X10_willBeDone_20 a0 x1 3000 (0, w5)) (fun q7 : MW => hz_b (f_X10_ofJob a0 x1 7 q7) (fun v9 w8 => Option.bind ((if v9 = 3 then hz_b (f_X10_ofJob a0 x1 8 w8) (fun v13 w12 => some (v13, w12)) else some ((-2), w8))) (fun q10 : Int32 × MW => hz_bv (f_X10_takeBack a0 q10.2) (fun w11 => some (q10.1, w11)))))) else some (0, w3)))))
set_option maxHeartbeats 4000000 in
set_option maxRecDepth 100000 in
theorem ct_X10_willBeDone {l : Launch} (hl : l.stackTraces = false) {B : Bt} {a0 : Nat} {x1 : Int32} {w : MW} {r : Int32 × MW} (h : f_X10_willBeDone a0 x1 w = some r) : hz_Met l B false 358 358 yX10_willBeDone cX10_willBeDone 3 (Option.some FieldType.int) 7 0 0 [.ref (B.1 + a0), .int x1] w (some (.int r.1)) r.2 := by
  refine hz_ofJ (rv := (fun r : Int32 × MW => some (.int r.1))) (wo := (fun r : Int32 × MW => r.2)) (own := RX10) (ini := false) hl (by decide) rfl (Or.inr rfl) (Nat.le_of_ble_eq_true rfl) rfl ?_ h
  intro p e s m args below meth c
  unfold f_X10_willBeDone
  refine hz_gdr (fun ga0 => ?_)
  refine hz_aload_n (pc' := 1) (j := 0) dX10_willBeDone_0 rfl rfl rfl ?_
  refine hz_aload_n (pc' := 2) (j := 0) dX10_willBeDone_1 rfl rfl rfl ?_
  refine hz_iload_n (pc' := 3) (j := 1) dX10_willBeDone_2 rfl rfl rfl ?_
  refine hz_cVi (pc' := 6) (av := [.int x1]) (rest := [.ref (B.1 + a0)]) vl_X10_286 (fun x w' h => ct_X10_isJob hl h) ga0 rfl rfl (Nat.le_of_ble_eq_true rfl) (by decide) (by decide) rfl dX10_willBeDone_3 rfl (fun v2 w1 => ?_)
  refine hz_cVi (pc' := 9) (av := [.int v2]) (rest := []) vl_X10_207 (fun x w' h => ct_X10_isWrong hl h) ga0 rfl rfl (Nat.le_of_ble_eq_true rfl) (by decide) (by decide) rfl dX10_willBeDone_6 rfl (fun v4 w3 => ?_)
  refine hz_ifeq (pc' := 12) (tgt := 14) dX10_willBeDone_9 (by decide) rfl ?_ ?_
  · refine hz_aload_n (pc' := 15) (j := 0) dX10_willBeDone_14 rfl rfl rfl ?_
    refine hz_cVv (pc' := 18) (av := []) (rest := []) vl_X10_319 (fun w' h => ct_X10_putAside hl h) ga0 rfl rfl (Nat.le_of_ble_eq_true rfl) (by decide) (by decide) rfl dX10_willBeDone_15 rfl (fun w5 => ?_)
    refine hz_iconst (pc' := 19) (v := 0) dX10_willBeDone_18 rfl (by decide) ?_
    refine hz_istore_n (pc' := 20) (L' := [(2, .int 0), (0, .ref (B.1 + a0)), (1, .int x1)]) dX10_willBeDone_19 rfl rfl (by decide) rfl ?_
    refine hz_bindJ (pcJ := 45) (LJ := fun q7 : MW => [(0, .ref (B.1 + a0)), (1, .int x1)]) (stJ := fun _ => []) (kJ := 0) (slJ := 0) (nJ := 358) (wJ := fun q7 : MW => q7) (fun q7 => ?_) (fun hq7 => ?_)
    · refine hz_aload_n (pc' := 46) (j := 0) dX10_willBeDone_45 rfl rfl rfl ?_
      refine hz_iload_n (pc' := 47) (j := 1) dX10_willBeDone_46 rfl rfl rfl ?_
      refine hz_bipush (pc' := 49) (v := 7) dX10_willBeDone_47 rfl (by decide) ?_
      refine hz_cVi (pc' := 52) (av := [.int x1, .int 7]) (rest := []) vl_X10_211 (fun x w' h => ct_X10_ofJob hl h) ga0 rfl rfl (Nat.le_of_ble_eq_true rfl) (by decide) (by decide) rfl dX10_willBeDone_49 rfl (fun v9 w8 => ?_)
      refine hz_iconst (pc' := 53) (v := 3) dX10_willBeDone_52 rfl (by decide) ?_
      refine hz_bindJ (pcJ := 68) (LJ := fun q10 : Int32 × MW => [(0, .ref (B.1 + a0))]) (stJ := fun q10 : Int32 × MW => [.int q10.1]) (kJ := 0) (slJ := 0) (nJ := 358) (wJ := fun q10 : Int32 × MW => q10.2) (fun q10 => ?_) (fun hq10 => ?_)
      · refine hz_istore_n (pc' := 69) (L' := [(2, .int q10.1), (0, .ref (B.1 + a0))]) dX10_willBeDone_68 rfl rfl (by decide) rfl ?_
        refine hz_aload_n (pc' := 70) (j := 1) dX10_willBeDone_69 rfl rfl rfl ?_
        refine hz_cVv (pc' := 73) (av := []) (rest := []) vl_X10_322 (fun w' h => ct_X10_takeBack hl h) ga0 rfl rfl (Nat.le_of_ble_eq_true rfl) (by decide) (by decide) rfl dX10_willBeDone_70 rfl (fun w11 => ?_)
        refine hz_iload_n (pc' := 74) (j := 0) dX10_willBeDone_73 rfl rfl rfl ?_
        exact hz_reti dX10_willBeDone_74 rfl (by decide)
      · refine hz_icmpne (pc' := 56) (tgt := 66) dX10_willBeDone_53 (by decide) rfl ?_ ?_
        · refine hz_bipush (pc' := 68) (v := (-2)) dX10_willBeDone_66 rfl (by decide) ?_
          exact hz_loc [0] rfl (hq10 ((-2), w8))
        · refine hz_aload_n (pc' := 57) (j := 0) dX10_willBeDone_56 rfl rfl rfl ?_
          refine hz_iload_n (pc' := 58) (j := 1) dX10_willBeDone_57 rfl rfl rfl ?_
          refine hz_bipush (pc' := 60) (v := 8) dX10_willBeDone_58 rfl (by decide) ?_
          refine hz_cVi (pc' := 63) (av := [.int x1, .int 8]) (rest := []) vl_X10_211 (fun x w' h => ct_X10_ofJob hl h) ga0 rfl rfl (Nat.le_of_ble_eq_true rfl) (by decide) (by decide) rfl dX10_willBeDone_60 rfl (fun v13 w12 => ?_)
          refine hz_goto (tgt := 68) dX10_willBeDone_63 (by decide) ?_
          exact hz_loc [0] rfl (hq10 (v13, w12))
    · refine hz_loc [1, 2, 0] rfl (hz_loopJ (lp := lp_X10_willBeDone_20 a0 x1) (Lh := fun v6 : Int32 × MW => [(0, .ref (B.1 + a0)), (1, .int x1), (2, .int v6.1)]) (wh := fun v6 : Int32 × MW => v6.2) (fun _ => rfl) (fun Nv6 ihv6 v6 => ?_) 3000 (0, w5))
      rw [lp_X10_willBeDone_20]
      refine hz_iload_n (pc' := 21) (j := 2) dX10_willBeDone_20 rfl rfl rfl ?_
      refine hz_sipush (pc' := 24) (v := 1000) dX10_willBeDone_21 rfl (by decide) ?_
      refine hz_icmpge (pc' := 27) (tgt := 45) dX10_willBeDone_24 (by decide) rfl ?_ ?_
      · exact hz_loc [0, 1] rfl (hq7 v6.2)
      · refine hz_aload_n (pc' := 28) (j := 0) dX10_willBeDone_27 rfl rfl rfl ?_
        refine hz_iload_n (pc' := 29) (j := 1) dX10_willBeDone_28 rfl rfl rfl ?_
        refine hz_cVi (pc' := 32) (av := [.int x1]) (rest := []) vl_X10_289 (fun x w' h => ct_X10_isOver hl h) ga0 rfl rfl (Nat.le_of_ble_eq_true rfl) (by decide) (by decide) rfl dX10_willBeDone_29 rfl (fun v15 w14 => ?_)
        refine hz_ifne (pc' := 35) (tgt := 45) dX10_willBeDone_32 (by decide) rfl ?_ ?_
        · exact hz_loc [0, 1] rfl (hq7 w14)
        · refine hz_aload_n (pc' := 36) (j := 0) dX10_willBeDone_35 rfl rfl rfl ?_
          refine hz_cVv (pc' := 39) (av := []) (rest := []) vl_X10_301 (fun w' h => ct_X10_tickOnce hl h) ga0 rfl rfl (Nat.le_of_ble_eq_true rfl) (by decide) (by decide) rfl dX10_willBeDone_36 rfl (fun w16 => ?_)
          refine hz_iincN (pc' := 42) (j := 2) (fun v17 => [(2, .int v17), (0, .ref (B.1 + a0)), (1, .int x1)]) dX10_willBeDone_39 rfl rfl (by decide) (fun _ => rfl) (fun v17 => ?_)
          refine hz_goto (tgt := 20) dX10_willBeDone_42 (by decide) ?_
          exact hz_loc [1, 2, 0] rfl (ihv6 (v17, w16))
  · refine hz_iconst (pc' := 13) (v := 0) dX10_willBeDone_12 rfl (by decide) ?_
    exact hz_reti dX10_willBeDone_13 rfl (by decide)
def f_X10_allOver (a0 : Nat) (w : MW) : Option (Int32 × MW) :=
  hz_gd (hz_g 358 a0 11) (hz_b (f_X10_isWrong a0 1 w) (fun v2 w1 => (if v2 = 0 then hz_bv (f_X10_putAside a0 w1) (fun w3 => hz_bv (f_X10_passAll a0 w3) (fun w4 => hz_b (f_X10_areOver a0 w4) (fun v6 w5 => Option.bind ((if v6 = 0 then some (-2) else hz_ldp w5 a0 0 358 20 (fun b9 => hz_lda w5 b9 0 (fun v10 => some v10)))) (fun q7 : Int32 => hz_bv (f_X10_takeBack a0 w5) (fun w8 => some (q7, w8)))))) else some (0, w1))))
set_option maxHeartbeats 4000000 in
set_option maxRecDepth 100000 in
theorem ct_X10_allOver {l : Launch} (hl : l.stackTraces = false) {B : Bt} {a0 : Nat} {w : MW} {r : Int32 × MW} (h : f_X10_allOver a0 w = some r) : hz_Met l B false 358 358 yX10_allOver cX10_allOver 2 (Option.some FieldType.int) 8 0 0 [.ref (B.1 + a0)] w (some (.int r.1)) r.2 := by
  refine hz_ofJ (rv := (fun r : Int32 × MW => some (.int r.1))) (wo := (fun r : Int32 × MW => r.2)) (own := RX10) (ini := false) hl (by decide) rfl (Or.inr rfl) (Nat.le_of_ble_eq_true rfl) rfl ?_ h
  intro p e s m args below meth c
  unfold f_X10_allOver
  refine hz_gdr (fun ga0 => ?_)
  refine hz_aload_n (pc' := 1) (j := 0) dX10_allOver_0 rfl rfl rfl ?_
  refine hz_iconst (pc' := 2) (v := 1) dX10_allOver_1 rfl (by decide) ?_
  refine hz_cVi (pc' := 5) (av := [.int 1]) (rest := []) vl_X10_207 (fun x w' h => ct_X10_isWrong hl h) ga0 rfl rfl (Nat.le_of_ble_eq_true rfl) (by decide) (by decide) rfl dX10_allOver_2 rfl (fun v2 w1 => ?_)
  refine hz_ifeq (pc' := 8) (tgt := 10) dX10_allOver_5 (by decide) rfl ?_ ?_
  · refine hz_aload_n (pc' := 11) (j := 0) dX10_allOver_10 rfl rfl rfl ?_
    refine hz_cVv (pc' := 14) (av := []) (rest := []) vl_X10_319 (fun w' h => ct_X10_putAside hl h) ga0 rfl rfl (Nat.le_of_ble_eq_true rfl) (by decide) (by decide) rfl dX10_allOver_11 rfl (fun w3 => ?_)
    refine hz_aload_n (pc' := 15) (j := 0) dX10_allOver_14 rfl rfl rfl ?_
    refine hz_cVv (pc' := 18) (av := []) (rest := []) vl_X10_325 (fun w' h => ct_X10_passAll hl h) ga0 rfl rfl (Nat.le_of_ble_eq_true rfl) (by decide) (by decide) rfl dX10_allOver_15 rfl (fun w4 => ?_)
    refine hz_aload_n (pc' := 19) (j := 0) dX10_allOver_18 rfl rfl rfl ?_
    refine hz_cVi (pc' := 22) (av := []) (rest := []) vl_X10_316 (fun x w' h => ct_X10_areOver hl h) ga0 rfl rfl (Nat.le_of_ble_eq_true rfl) (by decide) (by decide) rfl dX10_allOver_19 rfl (fun v6 w5 => ?_)
    refine hz_bindJ (pcJ := 36) (LJ := fun q7 : Int32 => [(0, .ref (B.1 + a0))]) (stJ := fun q7 : Int32 => [.int q7]) (kJ := 0) (slJ := 0) (nJ := 358) (wJ := fun q7 : Int32 => w5) (fun q7 => ?_) (fun hq7 => ?_)
    · refine hz_istore_n (pc' := 37) (L' := [(1, .int q7), (0, .ref (B.1 + a0))]) dX10_allOver_36 rfl rfl (by decide) rfl ?_
      refine hz_aload_n (pc' := 38) (j := 1) dX10_allOver_37 rfl rfl rfl ?_
      refine hz_cVv (pc' := 41) (av := []) (rest := []) vl_X10_322 (fun w' h => ct_X10_takeBack hl h) ga0 rfl rfl (Nat.le_of_ble_eq_true rfl) (by decide) (by decide) rfl dX10_allOver_38 rfl (fun w8 => ?_)
      refine hz_iload_n (pc' := 42) (j := 0) dX10_allOver_41 rfl rfl rfl ?_
      exact hz_reti dX10_allOver_42 rfl (by decide)
    · refine hz_ifeq (pc' := 25) (tgt := 34) dX10_allOver_22 (by decide) rfl ?_ ?_
      · refine hz_bipush (pc' := 36) (v := (-2)) dX10_allOver_34 rfl (by decide) ?_
        exact hz_loc [0] rfl (hq7 (-2))
      · refine hz_aload_n (pc' := 26) (j := 0) dX10_allOver_25 rfl rfl rfl ?_
        refine hz_gP (pc' := 29) (c' := 20) fl_X10_7.r ga0 rfl dX10_allOver_26 rfl (fun b9 gb9 => ?_)
        refine hz_iconst (pc' := 30) (v := 0) dX10_allOver_29 rfl (by decide) ?_
        refine hz_iald (pc' := 31) gb9 dX10_allOver_30 rfl (fun v10 => ?_)
        refine hz_goto (tgt := 36) dX10_allOver_31 (by decide) ?_
        exact hz_loc [0] rfl (hq7 v10)
  · refine hz_iconst (pc' := 9) (v := 0) dX10_allOver_8 rfl (by decide) ?_
    exact hz_reti dX10_allOver_9 rfl (by decide)
def lp_X10_lateOrOpen_4 (c0 : Nat) : Nat → (Int32 × Int32 × MW) → Option (Int32 × MW)
  | 0, _ => none
  | N + 1, v0 => hz_ldp v0.2.2 c0 0 358 20 (fun b1 => hz_lda v0.2.2 b1 2 (fun v2 => (if v2 ≤ v0.2.1 then some (v0.1, v0.2.2) else hz_b (f_X10_isLate c0 v0.2.1 v0.2.2) (fun v4 w3 => Option.bind ((if v4 = 0 then hz_b (f_X10_isOver c0 v0.2.1 w3) (fun v9 w8 => (if v9 = 0 then some (((1 : Int32) <<< (v0.2.1 &&& 31)), w8) else some (0, w8))) else some (((1 : Int32) <<< (v0.2.1 &&& 31)), w3))) (fun q5 : Int32 × MW => hz_let (v0.1 ||| q5.1) (fun v6 => hz_let (v0.2.1 + Int32.ofInt 1) (fun v7 => lp_X10_lateOrOpen_4 c0 N (v6, v7, q5.2))))))))
def f_X10_lateOrOpen (a0 : Nat) (w : MW) : Option (Int32 × MW) :=
  hz_gd (hz_g 358 a0 11) (Option.bind (lp_X10_lateOrOpen_4 a0 3000 (0, 0, w)) (fun q2 : Int32 × MW => some (q2.1, q2.2)))
set_option maxHeartbeats 4000000 in
set_option maxRecDepth 100000 in
theorem ct_X10_lateOrOpen {l : Launch} (hl : l.stackTraces = false) {B : Bt} {a0 : Nat} {w : MW} {r : Int32 × MW} (h : f_X10_lateOrOpen a0 w = some r) : hz_Met l B false 358 358 yX10_lateOrOpen cX10_lateOrOpen 3 (Option.some FieldType.int) 4 0 0 [.ref (B.1 + a0)] w (some (.int r.1)) r.2 := by
  refine hz_ofJ (rv := (fun r : Int32 × MW => some (.int r.1))) (wo := (fun r : Int32 × MW => r.2)) (own := RX10) (ini := false) hl (by decide) rfl (Or.inr rfl) (Nat.le_of_ble_eq_true rfl) rfl ?_ h
  intro p e s m args below meth c
  unfold f_X10_lateOrOpen
  refine hz_gdr (fun ga0 => ?_)
  refine hz_iconst (pc' := 1) (v := 0) dX10_lateOrOpen_0 rfl (by decide) ?_
  refine hz_istore_n (pc' := 2) (L' := [(1, .int 0), (0, .ref (B.1 + a0))]) dX10_lateOrOpen_1 rfl rfl (by decide) rfl ?_
  refine hz_iconst (pc' := 3) (v := 0) dX10_lateOrOpen_2 rfl (by decide) ?_
  refine hz_istore_n (pc' := 4) (L' := [(2, .int 0), (1, .int 0), (0, .ref (B.1 + a0))]) dX10_lateOrOpen_3 rfl rfl (by decide) rfl ?_
  refine hz_bindJ (pcJ := 46) (LJ := fun q2 : Int32 × MW => [(1, .int q2.1)]) (stJ := fun _ => []) (kJ := 0) (slJ := 0) (nJ := 358) (wJ := fun q2 : Int32 × MW => q2.2) (fun q2 => ?_) (fun hq2 => ?_)
  · refine hz_iload_n (pc' := 47) (j := 0) dX10_lateOrOpen_46 rfl rfl rfl ?_
    exact hz_reti dX10_lateOrOpen_47 rfl (by decide)
  · refine hz_loc [2, 1, 0] rfl (hz_loopJ (lp := lp_X10_lateOrOpen_4 a0) (Lh := fun v1 : Int32 × Int32 × MW => [(0, .ref (B.1 + a0)), (1, .int v1.1), (2, .int v1.2.1)]) (wh := fun v1 : Int32 × Int32 × MW => v1.2.2) (fun _ => rfl) (fun Nv1 ihv1 v1 => ?_) 3000 (0, 0, w))
    rw [lp_X10_lateOrOpen_4]
    refine hz_iload_n (pc' := 5) (j := 2) dX10_lateOrOpen_4 rfl rfl rfl ?_
    refine hz_aload_n (pc' := 6) (j := 0) dX10_lateOrOpen_5 rfl rfl rfl ?_
    refine hz_gP (pc' := 9) (c' := 20) fl_X10_7.r ga0 rfl dX10_lateOrOpen_6 rfl (fun b3 gb3 => ?_)
    refine hz_iconst (pc' := 10) (v := 2) dX10_lateOrOpen_9 rfl (by decide) ?_
    refine hz_iald (pc' := 11) gb3 dX10_lateOrOpen_10 rfl (fun v4 => ?_)
    refine hz_icmpge (pc' := 14) (tgt := 46) dX10_lateOrOpen_11 (by decide) rfl ?_ ?_
    · exact hz_loc [1] rfl (hq2 (v1.1, v1.2.2))
    · refine hz_iload_n (pc' := 15) (j := 1) dX10_lateOrOpen_14 rfl rfl rfl ?_
      refine hz_aload_n (pc' := 16) (j := 0) dX10_lateOrOpen_15 rfl rfl rfl ?_
      refine hz_iload_n (pc' := 17) (j := 2) dX10_lateOrOpen_16 rfl rfl rfl ?_
      refine hz_cVi (pc' := 20) (av := [.int v1.2.1]) (rest := [.int v1.1]) vl_X10_309 (fun x w' h => ct_X10_isLate hl h) ga0 rfl rfl (Nat.le_of_ble_eq_true rfl) (by decide) (by decide) rfl dX10_lateOrOpen_17 rfl (fun v6 w5 => ?_)
      refine hz_bindJ (pcJ := 38) (LJ := fun q7 : Int32 × MW => [(0, .ref (B.1 + a0)), (2, .int v1.2.1)]) (stJ := fun q7 : Int32 × MW => [.int q7.1, .int v1.1]) (kJ := 0) (slJ := 0) (nJ := 358) (wJ := fun q7 : Int32 × MW => q7.2) (fun q7 => ?_) (fun hq7 => ?_)
      · refine hz_ior (pc' := 39) dX10_lateOrOpen_38 rfl ?_
        refine hz_nameI (fun v8 => ?_)
        refine hz_istore_n (pc' := 40) (L' := [(1, .int v8), (0, .ref (B.1 + a0)), (2, .int v1.2.1)]) dX10_lateOrOpen_39 rfl rfl (by decide) rfl ?_
        refine hz_iincN (pc' := 43) (j := 2) (fun v9 => [(2, .int v9), (1, .int v8), (0, .ref (B.1 + a0))]) dX10_lateOrOpen_40 rfl rfl (by decide) (fun _ => rfl) (fun v9 => ?_)
        refine hz_goto (tgt := 4) dX10_lateOrOpen_43 (by decide) ?_
        exact hz_loc [2, 1, 0] rfl (ihv1 (v8, v9, q7.2))
      · refine hz_ifne (pc' := 23) (tgt := 31) dX10_lateOrOpen_20 (by decide) rfl ?_ ?_
        · refine hz_iconst (pc' := 32) (v := 1) dX10_lateOrOpen_31 rfl (by decide) ?_
          refine hz_iload_n (pc' := 33) (j := 2) dX10_lateOrOpen_32 rfl rfl rfl ?_
          refine hz_ishl (pc' := 34) dX10_lateOrOpen_33 rfl ?_
          refine hz_goto (tgt := 38) dX10_lateOrOpen_34 (by decide) ?_
          exact hz_loc [0, 2] rfl (hq7 (((1 : Int32) <<< (v1.2.1 &&& 31)), w5))
        · refine hz_aload_n (pc' := 24) (j := 0) dX10_lateOrOpen_23 rfl rfl rfl ?_
          refine hz_iload_n (pc' := 25) (j := 2) dX10_lateOrOpen_24 rfl rfl rfl ?_
          refine hz_cVi (pc' := 28) (av := [.int v1.2.1]) (rest := [.int v1.1]) vl_X10_289 (fun x w' h => ct_X10_isOver hl h) ga0 rfl rfl (Nat.le_of_ble_eq_true rfl) (by decide) (by decide) rfl dX10_lateOrOpen_25 rfl (fun v11 w10 => ?_)
          refine hz_ifne (pc' := 31) (tgt := 37) dX10_lateOrOpen_28 (by decide) rfl ?_ ?_
          · refine hz_iconst (pc' := 38) (v := 0) dX10_lateOrOpen_37 rfl (by decide) ?_
            exact hz_loc [0, 2] rfl (hq7 (0, w10))
          · refine hz_iconst (pc' := 32) (v := 1) dX10_lateOrOpen_31 rfl (by decide) ?_
            refine hz_iload_n (pc' := 33) (j := 2) dX10_lateOrOpen_32 rfl rfl rfl ?_
            refine hz_ishl (pc' := 34) dX10_lateOrOpen_33 rfl ?_
            refine hz_goto (tgt := 38) dX10_lateOrOpen_34 (by decide) ?_
            exact hz_loc [0, 2] rfl (hq7 (((1 : Int32) <<< (v1.2.1 &&& 31)), w10))
def f_X10_willBeLate (a0 : Nat) (w : MW) : Option (Int32 × MW) :=
  hz_gd (hz_g 358 a0 11) (hz_b (f_X10_isWrong a0 1 w) (fun v2 w1 => (if v2 = 0 then hz_bv (f_X10_putAside a0 w1) (fun w3 => hz_bv (f_X10_passAll a0 w3) (fun w4 => hz_b (f_X10_lateOrOpen a0 w4) (fun v6 w5 => hz_bv (f_X10_takeBack a0 w5) (fun w7 => some (v6, w7))))) else some (0, w1))))
set_option maxHeartbeats 4000000 in
set_option maxRecDepth 100000 in
theorem ct_X10_willBeLate {l : Launch} (hl : l.stackTraces = false) {B : Bt} {a0 : Nat} {w : MW} {r : Int32 × MW} (h : f_X10_willBeLate a0 w = some r) : hz_Met l B false 358 358 yX10_willBeLate cX10_willBeLate 2 (Option.some FieldType.int) 8 0 0 [.ref (B.1 + a0)] w (some (.int r.1)) r.2 := by
  refine hz_ofJ (rv := (fun r : Int32 × MW => some (.int r.1))) (wo := (fun r : Int32 × MW => r.2)) (own := RX10) (ini := false) hl (by decide) rfl (Or.inr rfl) (Nat.le_of_ble_eq_true rfl) rfl ?_ h
  intro p e s m args below meth c
  unfold f_X10_willBeLate
  refine hz_gdr (fun ga0 => ?_)
  refine hz_aload_n (pc' := 1) (j := 0) dX10_willBeLate_0 rfl rfl rfl ?_
  refine hz_iconst (pc' := 2) (v := 1) dX10_willBeLate_1 rfl (by decide) ?_
  refine hz_cVi (pc' := 5) (av := [.int 1]) (rest := []) vl_X10_207 (fun x w' h => ct_X10_isWrong hl h) ga0 rfl rfl (Nat.le_of_ble_eq_true rfl) (by decide) (by decide) rfl dX10_willBeLate_2 rfl (fun v2 w1 => ?_)
  refine hz_ifeq (pc' := 8) (tgt := 10) dX10_willBeLate_5 (by decide) rfl ?_ ?_
  · refine hz_aload_n (pc' := 11) (j := 0) dX10_willBeLate_10 rfl rfl rfl ?_
    refine hz_cVv (pc' := 14) (av := []) (rest := []) vl_X10_319 (fun w' h => ct_X10_putAside hl h) ga0 rfl rfl (Nat.le_of_ble_eq_true rfl) (by decide) (by decide) rfl dX10_willBeLate_11 rfl (fun w3 => ?_)
    refine hz_aload_n (pc' := 15) (j := 0) dX10_willBeLate_14 rfl rfl rfl ?_
    refine hz_cVv (pc' := 18) (av := []) (rest := []) vl_X10_325 (fun w' h => ct_X10_passAll hl h) ga0 rfl rfl (Nat.le_of_ble_eq_true rfl) (by decide) (by decide) rfl dX10_willBeLate_15 rfl (fun w4 => ?_)
    refine hz_aload_n (pc' := 19) (j := 0) dX10_willBeLate_18 rfl rfl rfl ?_
    refine hz_cVi (pc' := 22) (av := []) (rest := []) vl_X10_328 (fun x w' h => ct_X10_lateOrOpen hl h) ga0 rfl rfl (Nat.le_of_ble_eq_true rfl) (by decide) (by decide) rfl dX10_willBeLate_19 rfl (fun v6 w5 => ?_)
    refine hz_istore_n (pc' := 23) (L' := [(1, .int v6), (0, .ref (B.1 + a0))]) dX10_willBeLate_22 rfl rfl (by decide) rfl ?_
    refine hz_aload_n (pc' := 24) (j := 1) dX10_willBeLate_23 rfl rfl rfl ?_
    refine hz_cVv (pc' := 27) (av := []) (rest := []) vl_X10_322 (fun w' h => ct_X10_takeBack hl h) ga0 rfl rfl (Nat.le_of_ble_eq_true rfl) (by decide) (by decide) rfl dX10_willBeLate_24 rfl (fun w7 => ?_)
    refine hz_iload_n (pc' := 28) (j := 0) dX10_willBeLate_27 rfl rfl rfl ?_
    exact hz_reti dX10_willBeLate_28 rfl (by decide)
  · refine hz_iconst (pc' := 9) (v := 0) dX10_willBeLate_8 rfl (by decide) ?_
    exact hz_reti dX10_willBeLate_9 rfl (by decide)
def lp_X10_peak_48 (c0 : Nat) (c1 : Int32) (c2 : Int32) : Nat → (Int32 × Int32 × MW) → Option (Int32 × MW)
  | 0, _ => none
  | N + 1, v0 => (if c2 ≤ v0.2.1 then some (v0.1, v0.2.2) else hz_bv (f_X10_tickOnce c0 v0.2.2) (fun w9 => hz_b (f_X10_of c0 c1 2 w9) (fun v11 w10 => hz_let (if v0.1 < v11 then v11 else v0.1) (fun v12 => hz_let (v0.2.1 + Int32.ofInt 1) (fun v13 => lp_X10_peak_48 c0 c1 c2 N (v12, v13, w10))))))
def f_X10_peak (a0 : Nat) (x1 : Int32) (x2 : Int32) (w : MW) : Option (Int32 × MW) :=
  hz_gd (hz_g 358 a0 11) (hz_b (f_X10_isDomain a0 x1 w) (fun v2 w1 => Option.bind ((if v2 = 0 then some (0, w1) else hz_b (f_X10_isIn (Int32.toInt64 x2) 1 500 w1) (fun v18 w17 => (if v18 = 0 then some (0, w17) else some (1, w17))))) (fun q3 : Int32 × MW => hz_b (f_X10_isWrong a0 q3.1 q3.2) (fun v5 w4 => (if v5 = 0 then hz_bv (f_X10_putAside a0 w4) (fun w6 => hz_b (f_X10_of a0 x1 2 w6) (fun v8 w7 => Option.bind (lp_X10_peak_48 a0 x1 x2 3000 (v8, 0, w7)) (fun q10 : Int32 × MW => hz_bv (f_X10_takeBack a0 q10.2) (fun w11 => some (q10.1, w11))))) else some (0, w4))))))
set_option maxHeartbeats 4000000 in
set_option maxRecDepth 100000 in
theorem ct_X10_peak {l : Launch} (hl : l.stackTraces = false) {B : Bt} {a0 : Nat} {x1 : Int32} {x2 : Int32} {w : MW} {r : Int32 × MW} (h : f_X10_peak a0 x1 x2 w = some r) : hz_Met l B false 358 358 yX10_peak cX10_peak 5 (Option.some FieldType.int) 7 0 0 [.ref (B.1 + a0), .int x1, .int x2] w (some (.int r.1)) r.2 := by
  refine hz_ofJ (rv := (fun r : Int32 × MW => some (.int r.1))) (wo := (fun r : Int32 × MW => r.2)) (own := RX10) (ini := false) hl (by decide) rfl (Or.inr rfl) (Nat.le_of_ble_eq_true rfl) rfl ?_ h
  intro p e s m args below meth c
  unfold f_X10_peak
  refine hz_gdr (fun ga0 => ?_)
  refine hz_aload_n (pc' := 1) (j := 0) dX10_peak_0 rfl rfl rfl ?_
  refine hz_aload_n (pc' := 2) (j := 0) dX10_peak_1 rfl rfl rfl ?_
  refine hz_iload_n (pc' := 3) (j := 1) dX10_peak_2 rfl rfl rfl ?_
  refine hz_cVi (pc' := 6) (av := [.int x1]) (rest := [.ref (B.1 + a0)]) vl_X10_274 (fun x w' h => ct_X10_isDomain hl h) ga0 rfl rfl (Nat.le_of_ble_eq_true rfl) (by decide) (by decide) rfl dX10_peak_3 rfl (fun v2 w1 => ?_)
  refine hz_bindJ (pcJ := 26) (LJ := fun q3 : Int32 × MW => [(0, .ref (B.1 + a0)), (1, .int x1), (2, .int x2)]) (stJ := fun q3 : Int32 × MW => [.int q3.1, .ref (B.1 + a0)]) (kJ := 0) (slJ := 0) (nJ := 358) (wJ := fun q3 : Int32 × MW => q3.2) (fun q3 => ?_) (fun hq3 => ?_)
  · refine hz_cVi (pc' := 29) (av := [.int q3.1]) (rest := []) vl_X10_207 (fun x w' h => ct_X10_isWrong hl h) ga0 rfl rfl (Nat.le_of_ble_eq_true rfl) (by decide) (by decide) rfl dX10_peak_26 rfl (fun v5 w4 => ?_)
    refine hz_ifeq (pc' := 32) (tgt := 34) dX10_peak_29 (by decide) rfl ?_ ?_
    · refine hz_aload_n (pc' := 35) (j := 0) dX10_peak_34 rfl rfl rfl ?_
      refine hz_cVv (pc' := 38) (av := []) (rest := []) vl_X10_319 (fun w' h => ct_X10_putAside hl h) ga0 rfl rfl (Nat.le_of_ble_eq_true rfl) (by decide) (by decide) rfl dX10_peak_35 rfl (fun w6 => ?_)
      refine hz_aload_n (pc' := 39) (j := 0) dX10_peak_38 rfl rfl rfl ?_
      refine hz_iload_n (pc' := 40) (j := 1) dX10_peak_39 rfl rfl rfl ?_
      refine hz_iconst (pc' := 41) (v := 2) dX10_peak_40 rfl (by decide) ?_
      refine hz_cVi (pc' := 44) (av := [.int x1, .int 2]) (rest := []) vl_X10_214 (fun x w' h => ct_X10_of hl h) ga0 rfl rfl (Nat.le_of_ble_eq_true rfl) (by decide) (by decide) rfl dX10_peak_41 rfl (fun v8 w7 => ?_)
      refine hz_istore_n (pc' := 45) (L' := [(3, .int v8), (0, .ref (B.1 + a0)), (1, .int x1), (2, .int x2)]) dX10_peak_44 rfl rfl (by decide) rfl ?_
      refine hz_iconst (pc' := 46) (v := 0) dX10_peak_45 rfl (by decide) ?_
      refine hz_istore (pc' := 48) (L' := [(4, .int 0), (3, .int v8), (0, .ref (B.1 + a0)), (1, .int x1), (2, .int x2)]) dX10_peak_46 rfl (by decide) rfl ?_
      refine hz_bindJ (pcJ := 75) (LJ := fun q10 : Int32 × MW => [(0, .ref (B.1 + a0)), (3, .int q10.1)]) (stJ := fun _ => []) (kJ := 0) (slJ := 0) (nJ := 358) (wJ := fun q10 : Int32 × MW => q10.2) (fun q10 => ?_) (fun hq10 => ?_)
      · refine hz_aload_n (pc' := 76) (j := 0) dX10_peak_75 rfl rfl rfl ?_
        refine hz_cVv (pc' := 79) (av := []) (rest := []) vl_X10_322 (fun w' h => ct_X10_takeBack hl h) ga0 rfl rfl (Nat.le_of_ble_eq_true rfl) (by decide) (by decide) rfl dX10_peak_76 rfl (fun w11 => ?_)
        refine hz_iload_n (pc' := 80) (j := 1) dX10_peak_79 rfl rfl rfl ?_
        exact hz_reti dX10_peak_80 rfl (by decide)
      · refine hz_loc [2, 3, 4, 1, 0] rfl (hz_loopJ (lp := lp_X10_peak_48 a0 x1 x2) (Lh := fun v9 : Int32 × Int32 × MW => [(0, .ref (B.1 + a0)), (1, .int x1), (2, .int x2), (3, .int v9.1), (4, .int v9.2.1)]) (wh := fun v9 : Int32 × Int32 × MW => v9.2.2) (fun _ => rfl) (fun Nv9 ihv9 v9 => ?_) 3000 (v8, 0, w7))
        rw [lp_X10_peak_48]
        refine hz_iload (pc' := 50) (j := 4) dX10_peak_48 rfl rfl ?_
        refine hz_iload_n (pc' := 51) (j := 2) dX10_peak_50 rfl rfl rfl ?_
        refine hz_icmpge (pc' := 54) (tgt := 75) dX10_peak_51 (by decide) rfl ?_ ?_
        · exact hz_loc [0, 3] rfl (hq10 (v9.1, v9.2.2))
        · refine hz_aload_n (pc' := 55) (j := 0) dX10_peak_54 rfl rfl rfl ?_
          refine hz_cVv (pc' := 58) (av := []) (rest := []) vl_X10_301 (fun w' h => ct_X10_tickOnce hl h) ga0 rfl rfl (Nat.le_of_ble_eq_true rfl) (by decide) (by decide) rfl dX10_peak_55 rfl (fun w12 => ?_)
          refine hz_iload_n (pc' := 59) (j := 3) dX10_peak_58 rfl rfl rfl ?_
          refine hz_aload_n (pc' := 60) (j := 0) dX10_peak_59 rfl rfl rfl ?_
          refine hz_iload_n (pc' := 61) (j := 1) dX10_peak_60 rfl rfl rfl ?_
          refine hz_iconst (pc' := 62) (v := 2) dX10_peak_61 rfl (by decide) ?_
          refine hz_cVi (pc' := 65) (av := [.int x1, .int 2]) (rest := [.int v9.1]) vl_X10_214 (fun x w' h => ct_X10_of hl h) ga0 rfl rfl (Nat.le_of_ble_eq_true rfl) (by decide) (by decide) rfl dX10_peak_62 rfl (fun v14 w13 => ?_)
          refine hz_mmax (pc' := 68) hq_1526 hq_824 hq_17 hq_825 ⟨Nat.le_of_ble_eq_true rfl, Nat.le_of_ble_eq_true rfl⟩ (by decide) dX10_peak_65 rfl ?_
          refine hz_nameI (fun v15 => ?_)
          refine hz_istore_n (pc' := 69) (L' := [(3, .int v15), (0, .ref (B.1 + a0)), (1, .int x1), (2, .int x2), (4, .int v9.2.1)]) dX10_peak_68 rfl rfl (by decide) rfl ?_
          refine hz_iincN (pc' := 72) (j := 4) (fun v16 => [(4, .int v16), (3, .int v15), (0, .ref (B.1 + a0)), (1, .int x1), (2, .int x2)]) dX10_peak_69 rfl rfl (by decide) (fun _ => rfl) (fun v16 => ?_)
          refine hz_goto (tgt := 48) dX10_peak_72 (by decide) ?_
          exact hz_loc [2, 3, 4, 1, 0] rfl (ihv9 (v15, v16, w13))
    · refine hz_iconst (pc' := 33) (v := 0) dX10_peak_32 rfl (by decide) ?_
      exact hz_reti dX10_peak_33 rfl (by decide)
  · refine hz_ifeq (pc' := 9) (tgt := 25) dX10_peak_6 (by decide) rfl ?_ ?_
    · refine hz_iconst (pc' := 26) (v := 0) dX10_peak_25 rfl (by decide) ?_
      exact hz_loc [0, 1, 2] rfl (hq3 (0, w1))
    · refine hz_iload_n (pc' := 10) (j := 2) dX10_peak_9 rfl rfl rfl ?_
      refine hz_i2l (pc' := 11) dX10_peak_10 rfl ?_
      refine hz_lconst (pc' := 12) (v := 1) dX10_peak_11 rfl (by decide) ?_
      refine hz_ldc2 (pc' := 15) (v := 500) dX10_peak_12 rfl hq_1489 ?_
      refine hz_cSi (pc' := 18) (av := [.long (Int32.toInt64 x2), .long 1, .long 500]) (rest := [.ref (B.1 + a0)]) sl_X10_88 (fun x w' h => ct_X10_isIn hl h) rfl rfl (Nat.le_of_ble_eq_true rfl) (by decide) (by decide) rfl dX10_peak_15 rfl (fun v18 w17 => ?_)
      refine hz_ifeq (pc' := 21) (tgt := 25) dX10_peak_18 (by decide) rfl ?_ ?_
      · refine hz_iconst (pc' := 26) (v := 0) dX10_peak_25 rfl (by decide) ?_
        exact hz_loc [0, 1, 2] rfl (hq3 (0, w17))
      · refine hz_iconst (pc' := 22) (v := 1) dX10_peak_21 rfl (by decide) ?_
        refine hz_goto (tgt := 26) dX10_peak_22 (by decide) ?_
        exact hz_loc [0, 1, 2] rfl (hq3 (1, w17))
def lp_X10_allEnergy_4 (c0 : Nat) : Nat → (Int32 × Int32 × MW) → Option (Int32 × MW)
  | 0, _ => none
  | N + 1, v0 => (if (v0.2.2.1 c0 5) ≤ v0.2.1 then some (v0.1, v0.2.2) else hz_b (f_X10_of c0 v0.2.1 4 v0.2.2) (fun v2 w1 => hz_let (v0.1 + v2) (fun v3 => hz_let (v0.2.1 + Int32.ofInt 1) (fun v4 => lp_X10_allEnergy_4 c0 N (v3, v4, w1)))))
def f_X10_allEnergy (a0 : Nat) (w : MW) : Option (Int32 × MW) :=
  hz_gd (hz_g 358 a0 11) (Option.bind (lp_X10_allEnergy_4 a0 3000 (0, 0, w)) (fun q2 : Int32 × MW => some (q2.1, q2.2)))
set_option maxHeartbeats 4000000 in
set_option maxRecDepth 100000 in
theorem ct_X10_allEnergy {l : Launch} (hl : l.stackTraces = false) {B : Bt} {a0 : Nat} {w : MW} {r : Int32 × MW} (h : f_X10_allEnergy a0 w = some r) : hz_Met l B false 358 358 yX10_allEnergy cX10_allEnergy 3 (Option.some FieldType.int) 3 0 0 [.ref (B.1 + a0)] w (some (.int r.1)) r.2 := by
  refine hz_ofJ (rv := (fun r : Int32 × MW => some (.int r.1))) (wo := (fun r : Int32 × MW => r.2)) (own := RX10) (ini := false) hl (by decide) rfl (Or.inr rfl) (Nat.le_of_ble_eq_true rfl) rfl ?_ h
  intro p e s m args below meth c
  unfold f_X10_allEnergy
  refine hz_gdr (fun ga0 => ?_)
  refine hz_iconst (pc' := 1) (v := 0) dX10_allEnergy_0 rfl (by decide) ?_
  refine hz_istore_n (pc' := 2) (L' := [(1, .int 0), (0, .ref (B.1 + a0))]) dX10_allEnergy_1 rfl rfl (by decide) rfl ?_
  refine hz_iconst (pc' := 3) (v := 0) dX10_allEnergy_2 rfl (by decide) ?_
  refine hz_istore_n (pc' := 4) (L' := [(2, .int 0), (1, .int 0), (0, .ref (B.1 + a0))]) dX10_allEnergy_3 rfl rfl (by decide) rfl ?_
  refine hz_bindJ (pcJ := 27) (LJ := fun q2 : Int32 × MW => [(1, .int q2.1)]) (stJ := fun _ => []) (kJ := 0) (slJ := 0) (nJ := 358) (wJ := fun q2 : Int32 × MW => q2.2) (fun q2 => ?_) (fun hq2 => ?_)
  · refine hz_iload_n (pc' := 28) (j := 0) dX10_allEnergy_27 rfl rfl rfl ?_
    exact hz_reti dX10_allEnergy_28 rfl (by decide)
  · refine hz_loc [2, 1, 0] rfl (hz_loopJ (lp := lp_X10_allEnergy_4 a0) (Lh := fun v1 : Int32 × Int32 × MW => [(0, .ref (B.1 + a0)), (1, .int v1.1), (2, .int v1.2.1)]) (wh := fun v1 : Int32 × Int32 × MW => v1.2.2) (fun _ => rfl) (fun Nv1 ihv1 v1 => ?_) 3000 (0, 0, w))
    rw [lp_X10_allEnergy_4]
    refine hz_iload_n (pc' := 5) (j := 2) dX10_allEnergy_4 rfl rfl rfl ?_
    refine hz_aload_n (pc' := 6) (j := 0) dX10_allEnergy_5 rfl rfl rfl ?_
    refine hz_gI (pc' := 9) fl_X10_193.r ga0 rfl dX10_allEnergy_6 rfl ?_
    refine hz_icmpge (pc' := 12) (tgt := 27) dX10_allEnergy_9 (by decide) rfl ?_ ?_
    · exact hz_loc [1] rfl (hq2 (v1.1, v1.2.2))
    · refine hz_iload_n (pc' := 13) (j := 1) dX10_allEnergy_12 rfl rfl rfl ?_
      refine hz_aload_n (pc' := 14) (j := 0) dX10_allEnergy_13 rfl rfl rfl ?_
      refine hz_iload_n (pc' := 15) (j := 2) dX10_allEnergy_14 rfl rfl rfl ?_
      refine hz_iconst (pc' := 16) (v := 4) dX10_allEnergy_15 rfl (by decide) ?_
      refine hz_cVi (pc' := 19) (av := [.int v1.2.1, .int 4]) (rest := [.int v1.1]) vl_X10_214 (fun x w' h => ct_X10_of hl h) ga0 rfl rfl (Nat.le_of_ble_eq_true rfl) (by decide) (by decide) rfl dX10_allEnergy_16 rfl (fun v4 w3 => ?_)
      refine hz_iadd (pc' := 20) dX10_allEnergy_19 rfl ?_
      refine hz_nameI (fun v5 => ?_)
      refine hz_istore_n (pc' := 21) (L' := [(1, .int v5), (0, .ref (B.1 + a0)), (2, .int v1.2.1)]) dX10_allEnergy_20 rfl rfl (by decide) rfl ?_
      refine hz_iincN (pc' := 24) (j := 2) (fun v6 => [(2, .int v6), (1, .int v5), (0, .ref (B.1 + a0))]) dX10_allEnergy_21 rfl rfl (by decide) (fun _ => rfl) (fun v6 => ?_)
      refine hz_goto (tgt := 4) dX10_allEnergy_24 (by decide) ?_
      exact hz_loc [2, 1, 0] rfl (ihv1 (v5, v6, w3))
def lp_X10_energyIn_29 (c0 : Nat) (c1 : Int32) (c2 : Int32) : Nat → (Int32 × MW) → Option (MW)
  | 0, _ => none
  | N + 1, v0 => (if c1 ≤ v0.1 then some v0.2 else hz_bv (f_X10_tickOnce c0 v0.2) (fun w8 => hz_let (v0.1 + Int32.ofInt 1) (fun v9 => lp_X10_energyIn_29 c0 c1 c2 N (v9, w8))))
def f_X10_energyIn (a0 : Nat) (x1 : Int32) (w : MW) : Option (Int32 × MW) :=
  hz_gd (hz_g 358 a0 11) (hz_b (f_X10_isIn (Int32.toInt64 x1) 1 500 w) (fun v2 w1 => hz_b (f_X10_isWrong a0 v2 w1) (fun v4 w3 => (if v4 = 0 then hz_bv (f_X10_putAside a0 w3) (fun w5 => hz_b (f_X10_allEnergy a0 w5) (fun v7 w6 => Option.bind (lp_X10_energyIn_29 a0 x1 v7 3000 (0, w6)) (fun q9 : MW => hz_b (f_X10_allEnergy a0 q9) (fun v11 w10 => hz_let (v11 - v7) (fun v12 => hz_bv (f_X10_takeBack a0 w10) (fun w13 => some (v12, w13))))))) else some (0, w3)))))
set_option maxHeartbeats 4000000 in
set_option maxRecDepth 100000 in
theorem ct_X10_energyIn {l : Launch} (hl : l.stackTraces = false) {B : Bt} {a0 : Nat} {x1 : Int32} {w : MW} {r : Int32 × MW} (h : f_X10_energyIn a0 x1 w = some r) : hz_Met l B false 358 358 yX10_energyIn cX10_energyIn 4 (Option.some FieldType.int) 7 0 0 [.ref (B.1 + a0), .int x1] w (some (.int r.1)) r.2 := by
  refine hz_ofJ (rv := (fun r : Int32 × MW => some (.int r.1))) (wo := (fun r : Int32 × MW => r.2)) (own := RX10) (ini := false) hl (by decide) rfl (Or.inr rfl) (Nat.le_of_ble_eq_true rfl) rfl ?_ h
  intro p e s m args below meth c
  unfold f_X10_energyIn
  refine hz_gdr (fun ga0 => ?_)
  refine hz_aload_n (pc' := 1) (j := 0) dX10_energyIn_0 rfl rfl rfl ?_
  refine hz_iload_n (pc' := 2) (j := 1) dX10_energyIn_1 rfl rfl rfl ?_
  refine hz_i2l (pc' := 3) dX10_energyIn_2 rfl ?_
  refine hz_lconst (pc' := 4) (v := 1) dX10_energyIn_3 rfl (by decide) ?_
  refine hz_ldc2 (pc' := 7) (v := 500) dX10_energyIn_4 rfl hq_1489 ?_
  refine hz_cSi (pc' := 10) (av := [.long (Int32.toInt64 x1), .long 1, .long 500]) (rest := [.ref (B.1 + a0)]) sl_X10_88 (fun x w' h => ct_X10_isIn hl h) rfl rfl (Nat.le_of_ble_eq_true rfl) (by decide) (by decide) rfl dX10_energyIn_7 rfl (fun v2 w1 => ?_)
  refine hz_cVi (pc' := 13) (av := [.int v2]) (rest := []) vl_X10_207 (fun x w' h => ct_X10_isWrong hl h) ga0 rfl rfl (Nat.le_of_ble_eq_true rfl) (by decide) (by decide) rfl dX10_energyIn_10 rfl (fun v4 w3 => ?_)
  refine hz_ifeq (pc' := 16) (tgt := 18) dX10_energyIn_13 (by decide) rfl ?_ ?_
  · refine hz_aload_n (pc' := 19) (j := 0) dX10_energyIn_18 rfl rfl rfl ?_
    refine hz_cVv (pc' := 22) (av := []) (rest := []) vl_X10_319 (fun w' h => ct_X10_putAside hl h) ga0 rfl rfl (Nat.le_of_ble_eq_true rfl) (by decide) (by decide) rfl dX10_energyIn_19 rfl (fun w5 => ?_)
    refine hz_aload_n (pc' := 23) (j := 0) dX10_energyIn_22 rfl rfl rfl ?_
    refine hz_cVi (pc' := 26) (av := []) (rest := []) vl_X10_331 (fun x w' h => ct_X10_allEnergy hl h) ga0 rfl rfl (Nat.le_of_ble_eq_true rfl) (by decide) (by decide) rfl dX10_energyIn_23 rfl (fun v7 w6 => ?_)
    refine hz_istore_n (pc' := 27) (L' := [(2, .int v7), (0, .ref (B.1 + a0)), (1, .int x1)]) dX10_energyIn_26 rfl rfl (by decide) rfl ?_
    refine hz_iconst (pc' := 28) (v := 0) dX10_energyIn_27 rfl (by decide) ?_
    refine hz_istore_n (pc' := 29) (L' := [(3, .int 0), (2, .int v7), (0, .ref (B.1 + a0)), (1, .int x1)]) dX10_energyIn_28 rfl rfl (by decide) rfl ?_
    refine hz_bindJ (pcJ := 44) (LJ := fun q9 : MW => [(0, .ref (B.1 + a0)), (2, .int v7)]) (stJ := fun _ => []) (kJ := 0) (slJ := 0) (nJ := 358) (wJ := fun q9 : MW => q9) (fun q9 => ?_) (fun hq9 => ?_)
    · refine hz_aload_n (pc' := 45) (j := 0) dX10_energyIn_44 rfl rfl rfl ?_
      refine hz_cVi (pc' := 48) (av := []) (rest := []) vl_X10_331 (fun x w' h => ct_X10_allEnergy hl h) ga0 rfl rfl (Nat.le_of_ble_eq_true rfl) (by decide) (by decide) rfl dX10_energyIn_45 rfl (fun v11 w10 => ?_)
      refine hz_iload_n (pc' := 49) (j := 1) dX10_energyIn_48 rfl rfl rfl ?_
      refine hz_isub (pc' := 50) dX10_energyIn_49 rfl ?_
      refine hz_nameI (fun v12 => ?_)
      refine hz_istore_n (pc' := 51) (L' := [(3, .int v12), (0, .ref (B.1 + a0)), (2, .int v7)]) dX10_energyIn_50 rfl rfl (by decide) rfl ?_
      refine hz_aload_n (pc' := 52) (j := 1) dX10_energyIn_51 rfl rfl rfl ?_
      refine hz_cVv (pc' := 55) (av := []) (rest := []) vl_X10_322 (fun w' h => ct_X10_takeBack hl h) ga0 rfl rfl (Nat.le_of_ble_eq_true rfl) (by decide) (by decide) rfl dX10_energyIn_52 rfl (fun w13 => ?_)
      refine hz_iload_n (pc' := 56) (j := 0) dX10_energyIn_55 rfl rfl rfl ?_
      exact hz_reti dX10_energyIn_56 rfl (by decide)
    · refine hz_loc [2, 3, 1, 0] rfl (hz_loopJ (lp := lp_X10_energyIn_29 a0 x1 v7) (Lh := fun v8 : Int32 × MW => [(0, .ref (B.1 + a0)), (1, .int x1), (2, .int v7), (3, .int v8.1)]) (wh := fun v8 : Int32 × MW => v8.2) (fun _ => rfl) (fun Nv8 ihv8 v8 => ?_) 3000 (0, w6))
      rw [lp_X10_energyIn_29]
      refine hz_iload_n (pc' := 30) (j := 3) dX10_energyIn_29 rfl rfl rfl ?_
      refine hz_iload_n (pc' := 31) (j := 1) dX10_energyIn_30 rfl rfl rfl ?_
      refine hz_icmpge (pc' := 34) (tgt := 44) dX10_energyIn_31 (by decide) rfl ?_ ?_
      · exact hz_loc [0, 2] rfl (hq9 v8.2)
      · refine hz_aload_n (pc' := 35) (j := 0) dX10_energyIn_34 rfl rfl rfl ?_
        refine hz_cVv (pc' := 38) (av := []) (rest := []) vl_X10_301 (fun w' h => ct_X10_tickOnce hl h) ga0 rfl rfl (Nat.le_of_ble_eq_true rfl) (by decide) (by decide) rfl dX10_energyIn_35 rfl (fun w14 => ?_)
        refine hz_iincN (pc' := 41) (j := 3) (fun v15 => [(3, .int v15), (0, .ref (B.1 + a0)), (1, .int x1), (2, .int v7)]) dX10_energyIn_38 rfl rfl (by decide) (fun _ => rfl) (fun v15 => ?_)
        refine hz_goto (tgt := 29) dX10_energyIn_41 (by decide) ?_
        exact hz_loc [1, 2, 3, 0] rfl (ihv8 (v15, w14))
  · refine hz_iconst (pc' := 17) (v := 0) dX10_energyIn_16 rfl (by decide) ?_
    exact hz_reti dX10_energyIn_17 rfl (by decide)
def lp_X10_nextThrottle_40 (c0 : Nat) (c1 : Int32) (c2 : Int32) : Nat → (Int32 × Int32 × MW) → Option (Int32 × MW)
  | 0, _ => none
  | N + 1, v0 => (if 1000 < v0.2.1 then some (v0.1, v0.2.2) else (if v0.1 = (-2) then hz_bv (f_X10_tickOnce c0 v0.2.2) (fun w11 => hz_b (f_X10_of c0 c1 6 w11) (fun v13 w12 => hz_b (f_X10_of c0 c1 7 w12) (fun v15 w14 => Option.bind ((if (v13 + v15) ≤ c2 then some (-2) else some v0.2.1)) (fun q16 : Int32 => hz_let (v0.2.1 + Int32.ofInt 1) (fun v17 => lp_X10_nextThrottle_40 c0 c1 c2 N (q16, v17, w14)))))) else some (v0.1, v0.2.2)))
def f_X10_nextThrottle (a0 : Nat) (x1 : Int32) (w : MW) : Option (Int32 × MW) :=
  hz_gd (hz_g 358 a0 11) (hz_b (f_X10_isDomain a0 x1 w) (fun v2 w1 => hz_b (f_X10_isWrong a0 v2 w1) (fun v4 w3 => (if v4 = 0 then hz_bv (f_X10_putAside a0 w3) (fun w5 => hz_b (f_X10_of a0 x1 6 w5) (fun v7 w6 => hz_b (f_X10_of a0 x1 7 w6) (fun v9 w8 => hz_let (v7 + v9) (fun v10 => Option.bind (lp_X10_nextThrottle_40 a0 x1 v10 3000 ((-2), 1, w8)) (fun q12 : Int32 × MW => hz_bv (f_X10_takeBack a0 q12.2) (fun w13 => some (q12.1, w13))))))) else some (0, w3)))))
set_option maxHeartbeats 4000000 in
set_option maxRecDepth 100000 in
theorem ct_X10_nextThrottle {l : Launch} (hl : l.stackTraces = false) {B : Bt} {a0 : Nat} {x1 : Int32} {w : MW} {r : Int32 × MW} (h : f_X10_nextThrottle a0 x1 w = some r) : hz_Met l B false 358 358 yX10_nextThrottle cX10_nextThrottle 5 (Option.some FieldType.int) 7 0 0 [.ref (B.1 + a0), .int x1] w (some (.int r.1)) r.2 := by
  refine hz_ofJ (rv := (fun r : Int32 × MW => some (.int r.1))) (wo := (fun r : Int32 × MW => r.2)) (own := RX10) (ini := false) hl (by decide) rfl (Or.inr rfl) (Nat.le_of_ble_eq_true rfl) rfl ?_ h
  intro p e s m args below meth c
  unfold f_X10_nextThrottle
  refine hz_gdr (fun ga0 => ?_)
  refine hz_aload_n (pc' := 1) (j := 0) dX10_nextThrottle_0 rfl rfl rfl ?_
  refine hz_aload_n (pc' := 2) (j := 0) dX10_nextThrottle_1 rfl rfl rfl ?_
  refine hz_iload_n (pc' := 3) (j := 1) dX10_nextThrottle_2 rfl rfl rfl ?_
  refine hz_cVi (pc' := 6) (av := [.int x1]) (rest := [.ref (B.1 + a0)]) vl_X10_274 (fun x w' h => ct_X10_isDomain hl h) ga0 rfl rfl (Nat.le_of_ble_eq_true rfl) (by decide) (by decide) rfl dX10_nextThrottle_3 rfl (fun v2 w1 => ?_)
  refine hz_cVi (pc' := 9) (av := [.int v2]) (rest := []) vl_X10_207 (fun x w' h => ct_X10_isWrong hl h) ga0 rfl rfl (Nat.le_of_ble_eq_true rfl) (by decide) (by decide) rfl dX10_nextThrottle_6 rfl (fun v4 w3 => ?_)
  refine hz_ifeq (pc' := 12) (tgt := 14) dX10_nextThrottle_9 (by decide) rfl ?_ ?_
  · refine hz_aload_n (pc' := 15) (j := 0) dX10_nextThrottle_14 rfl rfl rfl ?_
    refine hz_cVv (pc' := 18) (av := []) (rest := []) vl_X10_319 (fun w' h => ct_X10_putAside hl h) ga0 rfl rfl (Nat.le_of_ble_eq_true rfl) (by decide) (by decide) rfl dX10_nextThrottle_15 rfl (fun w5 => ?_)
    refine hz_aload_n (pc' := 19) (j := 0) dX10_nextThrottle_18 rfl rfl rfl ?_
    refine hz_iload_n (pc' := 20) (j := 1) dX10_nextThrottle_19 rfl rfl rfl ?_
    refine hz_bipush (pc' := 22) (v := 6) dX10_nextThrottle_20 rfl (by decide) ?_
    refine hz_cVi (pc' := 25) (av := [.int x1, .int 6]) (rest := []) vl_X10_214 (fun x w' h => ct_X10_of hl h) ga0 rfl rfl (Nat.le_of_ble_eq_true rfl) (by decide) (by decide) rfl dX10_nextThrottle_22 rfl (fun v7 w6 => ?_)
    refine hz_aload_n (pc' := 26) (j := 0) dX10_nextThrottle_25 rfl rfl rfl ?_
    refine hz_iload_n (pc' := 27) (j := 1) dX10_nextThrottle_26 rfl rfl rfl ?_
    refine hz_bipush (pc' := 29) (v := 7) dX10_nextThrottle_27 rfl (by decide) ?_
    refine hz_cVi (pc' := 32) (av := [.int x1, .int 7]) (rest := [.int v7]) vl_X10_214 (fun x w' h => ct_X10_of hl h) ga0 rfl rfl (Nat.le_of_ble_eq_true rfl) (by decide) (by decide) rfl dX10_nextThrottle_29 rfl (fun v9 w8 => ?_)
    refine hz_iadd (pc' := 33) dX10_nextThrottle_32 rfl ?_
    refine hz_nameI (fun v10 => ?_)
    refine hz_istore_n (pc' := 34) (L' := [(2, .int v10), (0, .ref (B.1 + a0)), (1, .int x1)]) dX10_nextThrottle_33 rfl rfl (by decide) rfl ?_
    refine hz_bipush (pc' := 36) (v := (-2)) dX10_nextThrottle_34 rfl (by decide) ?_
    refine hz_istore_n (pc' := 37) (L' := [(3, .int (-2)), (2, .int v10), (0, .ref (B.1 + a0)), (1, .int x1)]) dX10_nextThrottle_36 rfl rfl (by decide) rfl ?_
    refine hz_iconst (pc' := 38) (v := 1) dX10_nextThrottle_37 rfl (by decide) ?_
    refine hz_istore (pc' := 40) (L' := [(4, .int 1), (3, .int (-2)), (2, .int v10), (0, .ref (B.1 + a0)), (1, .int x1)]) dX10_nextThrottle_38 rfl (by decide) rfl ?_
    refine hz_bindJ (pcJ := 91) (LJ := fun q12 : Int32 × MW => [(0, .ref (B.1 + a0)), (3, .int q12.1)]) (stJ := fun _ => []) (kJ := 0) (slJ := 0) (nJ := 358) (wJ := fun q12 : Int32 × MW => q12.2) (fun q12 => ?_) (fun hq12 => ?_)
    · refine hz_aload_n (pc' := 92) (j := 0) dX10_nextThrottle_91 rfl rfl rfl ?_
      refine hz_cVv (pc' := 95) (av := []) (rest := []) vl_X10_322 (fun w' h => ct_X10_takeBack hl h) ga0 rfl rfl (Nat.le_of_ble_eq_true rfl) (by decide) (by decide) rfl dX10_nextThrottle_92 rfl (fun w13 => ?_)
      refine hz_iload_n (pc' := 96) (j := 1) dX10_nextThrottle_95 rfl rfl rfl ?_
      exact hz_reti dX10_nextThrottle_96 rfl (by decide)
    · refine hz_loc [3, 4, 2, 1, 0] rfl (hz_loopJ (lp := lp_X10_nextThrottle_40 a0 x1 v10) (Lh := fun v11 : Int32 × Int32 × MW => [(0, .ref (B.1 + a0)), (1, .int x1), (2, .int v10), (3, .int v11.1), (4, .int v11.2.1)]) (wh := fun v11 : Int32 × Int32 × MW => v11.2.2) (fun _ => rfl) (fun Nv11 ihv11 v11 => ?_) 3000 ((-2), 1, w8))
      rw [lp_X10_nextThrottle_40]
      refine hz_iload (pc' := 42) (j := 4) dX10_nextThrottle_40 rfl rfl ?_
      refine hz_sipush (pc' := 45) (v := 1000) dX10_nextThrottle_42 rfl (by decide) ?_
      refine hz_icmpgt (pc' := 48) (tgt := 91) dX10_nextThrottle_45 (by decide) rfl ?_ ?_
      · exact hz_loc [0, 3] rfl (hq12 (v11.1, v11.2.2))
      · refine hz_iload_n (pc' := 49) (j := 3) dX10_nextThrottle_48 rfl rfl rfl ?_
        refine hz_bipush (pc' := 51) (v := (-2)) dX10_nextThrottle_49 rfl (by decide) ?_
        refine hz_icmpne (pc' := 54) (tgt := 91) dX10_nextThrottle_51 (by decide) rfl ?_ ?_
        · exact hz_loc [0, 3] rfl (hq12 (v11.1, v11.2.2))
        · refine hz_aload_n (pc' := 55) (j := 0) dX10_nextThrottle_54 rfl rfl rfl ?_
          refine hz_cVv (pc' := 58) (av := []) (rest := []) vl_X10_301 (fun w' h => ct_X10_tickOnce hl h) ga0 rfl rfl (Nat.le_of_ble_eq_true rfl) (by decide) (by decide) rfl dX10_nextThrottle_55 rfl (fun w14 => ?_)
          refine hz_aload_n (pc' := 59) (j := 0) dX10_nextThrottle_58 rfl rfl rfl ?_
          refine hz_iload_n (pc' := 60) (j := 1) dX10_nextThrottle_59 rfl rfl rfl ?_
          refine hz_bipush (pc' := 62) (v := 6) dX10_nextThrottle_60 rfl (by decide) ?_
          refine hz_cVi (pc' := 65) (av := [.int x1, .int 6]) (rest := []) vl_X10_214 (fun x w' h => ct_X10_of hl h) ga0 rfl rfl (Nat.le_of_ble_eq_true rfl) (by decide) (by decide) rfl dX10_nextThrottle_62 rfl (fun v16 w15 => ?_)
          refine hz_aload_n (pc' := 66) (j := 0) dX10_nextThrottle_65 rfl rfl rfl ?_
          refine hz_iload_n (pc' := 67) (j := 1) dX10_nextThrottle_66 rfl rfl rfl ?_
          refine hz_bipush (pc' := 69) (v := 7) dX10_nextThrottle_67 rfl (by decide) ?_
          refine hz_cVi (pc' := 72) (av := [.int x1, .int 7]) (rest := [.int v16]) vl_X10_214 (fun x w' h => ct_X10_of hl h) ga0 rfl rfl (Nat.le_of_ble_eq_true rfl) (by decide) (by decide) rfl dX10_nextThrottle_69 rfl (fun v18 w17 => ?_)
          refine hz_iadd (pc' := 73) dX10_nextThrottle_72 rfl ?_
          refine hz_iload_n (pc' := 74) (j := 2) dX10_nextThrottle_73 rfl rfl rfl ?_
          refine hz_bindJ (pcJ := 84) (LJ := fun q19 : Int32 => [(0, .ref (B.1 + a0)), (1, .int x1), (2, .int v10), (4, .int v11.2.1)]) (stJ := fun q19 : Int32 => [.int q19]) (kJ := 0) (slJ := 0) (nJ := 358) (wJ := fun q19 : Int32 => w17) (fun q19 => ?_) (fun hq19 => ?_)
          · refine hz_istore_n (pc' := 85) (L' := [(3, .int q19), (0, .ref (B.1 + a0)), (1, .int x1), (2, .int v10), (4, .int v11.2.1)]) dX10_nextThrottle_84 rfl rfl (by decide) rfl ?_
            refine hz_iincN (pc' := 88) (j := 4) (fun v20 => [(4, .int v20), (3, .int q19), (0, .ref (B.1 + a0)), (1, .int x1), (2, .int v10)]) dX10_nextThrottle_85 rfl rfl (by decide) (fun _ => rfl) (fun v20 => ?_)
            refine hz_goto (tgt := 40) dX10_nextThrottle_88 (by decide) ?_
            exact hz_loc [2, 3, 4, 1, 0] rfl (ihv11 (q19, v20, w17))
          · refine hz_icmple (pc' := 77) (tgt := 82) dX10_nextThrottle_74 (by decide) rfl ?_ ?_
            · refine hz_bipush (pc' := 84) (v := (-2)) dX10_nextThrottle_82 rfl (by decide) ?_
              exact hz_loc [0, 1, 2, 4] rfl (hq19 (-2))
            · refine hz_iload (pc' := 79) (j := 4) dX10_nextThrottle_77 rfl rfl ?_
              refine hz_goto (tgt := 84) dX10_nextThrottle_79 (by decide) ?_
              exact hz_loc [0, 1, 2, 4] rfl (hq19 v11.2.1)
  · refine hz_iconst (pc' := 13) (v := 0) dX10_nextThrottle_12 rfl (by decide) ?_
    exact hz_reti dX10_nextThrottle_13 rfl (by decide)
def lp_X10_bestPolicy_28 (c0 : Nat) (c1 : Int32) : Nat → (Int32 × Int32 × Int32 × Int32 × MW) → Option (Int32 × MW)
  | 0, _ => none
  | N + 1, v0 => (if 3 < v0.2.2.2.1 then some (v0.1, v0.2.2.2.2) else hz_bv (f_X10_put2 c0 c1 1 v0.2.2.2.1 v0.2.2.2.2) (fun w6 => hz_bv (f_X10_passAll c0 w6) (fun w7 => hz_b (f_X10_lateOrOpen c0 w7) (fun v9 w8 => hz_b (f_X10_many v9 w8) (fun v11 w10 => hz_b (f_X10_allEnergy c0 w10) (fun v13 w12 => Option.bind ((if v0.1 = (-1) then some (v0.2.2.2.1, v11, v13) else (if v11 < v0.2.1 then some (v0.2.2.2.1, v11, v13) else (if v11 = v0.2.1 then (if v0.2.2.1 ≤ v13 then some (v0.1, v0.2.1, v0.2.2.1) else some (v0.2.2.2.1, v11, v13)) else some (v0.1, v0.2.1, v0.2.2.1))))) (fun q14 : Int32 × Int32 × Int32 => hz_bv (f_X10_takeBack c0 w12) (fun w15 => hz_let (v0.2.2.2.1 + Int32.ofInt 1) (fun v16 => lp_X10_bestPolicy_28 c0 c1 N (q14.1, q14.2.1, q14.2.2, v16, w15))))))))))
def f_X10_bestPolicy (a0 : Nat) (x1 : Int32) (w : MW) : Option (Int32 × MW) :=
  hz_gd (hz_g 358 a0 11) (hz_b (f_X10_isDomain a0 x1 w) (fun v2 w1 => hz_b (f_X10_isWrong a0 v2 w1) (fun v4 w3 => (if v4 = 0 then hz_bv (f_X10_putAside a0 w3) (fun w5 => Option.bind (lp_X10_bestPolicy_28 a0 x1 3000 ((-1), 0, 0, 0, w5)) (fun q7 : Int32 × MW => some (q7.1, q7.2))) else some (0, w3)))))
set_option maxHeartbeats 4000000 in
set_option maxRecDepth 100000 in
theorem ct_X10_bestPolicy {l : Launch} (hl : l.stackTraces = false) {B : Bt} {a0 : Nat} {x1 : Int32} {w : MW} {r : Int32 × MW} (h : f_X10_bestPolicy a0 x1 w = some r) : hz_Met l B false 358 358 yX10_bestPolicy cX10_bestPolicy 8 (Option.some FieldType.int) 8 0 0 [.ref (B.1 + a0), .int x1] w (some (.int r.1)) r.2 := by
  refine hz_ofJ (rv := (fun r : Int32 × MW => some (.int r.1))) (wo := (fun r : Int32 × MW => r.2)) (own := RX10) (ini := false) hl (by decide) rfl (Or.inr rfl) (Nat.le_of_ble_eq_true rfl) rfl ?_ h
  intro p e s m args below meth c
  unfold f_X10_bestPolicy
  refine hz_gdr (fun ga0 => ?_)
  refine hz_aload_n (pc' := 1) (j := 0) dX10_bestPolicy_0 rfl rfl rfl ?_
  refine hz_aload_n (pc' := 2) (j := 0) dX10_bestPolicy_1 rfl rfl rfl ?_
  refine hz_iload_n (pc' := 3) (j := 1) dX10_bestPolicy_2 rfl rfl rfl ?_
  refine hz_cVi (pc' := 6) (av := [.int x1]) (rest := [.ref (B.1 + a0)]) vl_X10_274 (fun x w' h => ct_X10_isDomain hl h) ga0 rfl rfl (Nat.le_of_ble_eq_true rfl) (by decide) (by decide) rfl dX10_bestPolicy_3 rfl (fun v2 w1 => ?_)
  refine hz_cVi (pc' := 9) (av := [.int v2]) (rest := []) vl_X10_207 (fun x w' h => ct_X10_isWrong hl h) ga0 rfl rfl (Nat.le_of_ble_eq_true rfl) (by decide) (by decide) rfl dX10_bestPolicy_6 rfl (fun v4 w3 => ?_)
  refine hz_ifeq (pc' := 12) (tgt := 14) dX10_bestPolicy_9 (by decide) rfl ?_ ?_
  · refine hz_aload_n (pc' := 15) (j := 0) dX10_bestPolicy_14 rfl rfl rfl ?_
    refine hz_cVv (pc' := 18) (av := []) (rest := []) vl_X10_319 (fun w' h => ct_X10_putAside hl h) ga0 rfl rfl (Nat.le_of_ble_eq_true rfl) (by decide) (by decide) rfl dX10_bestPolicy_15 rfl (fun w5 => ?_)
    refine hz_iconst (pc' := 19) (v := (-1)) dX10_bestPolicy_18 rfl (by decide) ?_
    refine hz_istore_n (pc' := 20) (L' := [(2, .int (-1)), (0, .ref (B.1 + a0)), (1, .int x1)]) dX10_bestPolicy_19 rfl rfl (by decide) rfl ?_
    refine hz_iconst (pc' := 21) (v := 0) dX10_bestPolicy_20 rfl (by decide) ?_
    refine hz_istore_n (pc' := 22) (L' := [(3, .int 0), (2, .int (-1)), (0, .ref (B.1 + a0)), (1, .int x1)]) dX10_bestPolicy_21 rfl rfl (by decide) rfl ?_
    refine hz_iconst (pc' := 23) (v := 0) dX10_bestPolicy_22 rfl (by decide) ?_
    refine hz_istore (pc' := 25) (L' := [(4, .int 0), (3, .int 0), (2, .int (-1)), (0, .ref (B.1 + a0)), (1, .int x1)]) dX10_bestPolicy_23 rfl (by decide) rfl ?_
    refine hz_iconst (pc' := 26) (v := 0) dX10_bestPolicy_25 rfl (by decide) ?_
    refine hz_istore (pc' := 28) (L' := [(5, .int 0), (4, .int 0), (3, .int 0), (2, .int (-1)), (0, .ref (B.1 + a0)), (1, .int x1)]) dX10_bestPolicy_26 rfl (by decide) rfl ?_
    refine hz_bindJ (pcJ := 105) (LJ := fun q7 : Int32 × MW => [(2, .int q7.1)]) (stJ := fun _ => []) (kJ := 0) (slJ := 0) (nJ := 358) (wJ := fun q7 : Int32 × MW => q7.2) (fun q7 => ?_) (fun hq7 => ?_)
    · refine hz_iload_n (pc' := 106) (j := 0) dX10_bestPolicy_105 rfl rfl rfl ?_
      exact hz_reti dX10_bestPolicy_106 rfl (by decide)
    · refine hz_loc [4, 5, 3, 2, 1, 0] rfl (hz_loopJ (lp := lp_X10_bestPolicy_28 a0 x1) (Lh := fun v6 : Int32 × Int32 × Int32 × Int32 × MW => [(0, .ref (B.1 + a0)), (1, .int x1), (2, .int v6.1), (3, .int v6.2.1), (4, .int v6.2.2.1), (5, .int v6.2.2.2.1)]) (wh := fun v6 : Int32 × Int32 × Int32 × Int32 × MW => v6.2.2.2.2) (fun _ => rfl) (fun Nv6 ihv6 v6 => ?_) 3000 ((-1), 0, 0, 0, w5))
      rw [lp_X10_bestPolicy_28]
      refine hz_iload (pc' := 30) (j := 5) dX10_bestPolicy_28 rfl rfl ?_
      refine hz_iconst (pc' := 31) (v := 3) dX10_bestPolicy_30 rfl (by decide) ?_
      refine hz_icmpgt (pc' := 34) (tgt := 105) dX10_bestPolicy_31 (by decide) rfl ?_ ?_
      · exact hz_loc [2] rfl (hq7 (v6.1, v6.2.2.2.2))
      · refine hz_aload_n (pc' := 35) (j := 0) dX10_bestPolicy_34 rfl rfl rfl ?_
        refine hz_iload_n (pc' := 36) (j := 1) dX10_bestPolicy_35 rfl rfl rfl ?_
        refine hz_iconst (pc' := 37) (v := 1) dX10_bestPolicy_36 rfl (by decide) ?_
        refine hz_iload (pc' := 39) (j := 5) dX10_bestPolicy_37 rfl rfl ?_
        refine hz_cVv (pc' := 42) (av := [.int x1, .int 1, .int v6.2.2.2.1]) (rest := []) vl_X10_203 (fun w' h => ct_X10_put2 hl h) ga0 rfl rfl (Nat.le_of_ble_eq_true rfl) (by decide) (by decide) rfl dX10_bestPolicy_39 rfl (fun w8 => ?_)
        refine hz_aload_n (pc' := 43) (j := 0) dX10_bestPolicy_42 rfl rfl rfl ?_
        refine hz_cVv (pc' := 46) (av := []) (rest := []) vl_X10_325 (fun w' h => ct_X10_passAll hl h) ga0 rfl rfl (Nat.le_of_ble_eq_true rfl) (by decide) (by decide) rfl dX10_bestPolicy_43 rfl (fun w9 => ?_)
        refine hz_aload_n (pc' := 47) (j := 0) dX10_bestPolicy_46 rfl rfl rfl ?_
        refine hz_cVi (pc' := 50) (av := []) (rest := []) vl_X10_328 (fun x w' h => ct_X10_lateOrOpen hl h) ga0 rfl rfl (Nat.le_of_ble_eq_true rfl) (by decide) (by decide) rfl dX10_bestPolicy_47 rfl (fun v11 w10 => ?_)
        refine hz_cSi (pc' := 53) (av := [.int v11]) (rest := []) sl_X10_334 (fun x w' h => ct_X10_many hl h) rfl rfl (Nat.le_of_ble_eq_true rfl) (by decide) (by decide) rfl dX10_bestPolicy_50 rfl (fun v13 w12 => ?_)
        refine hz_istore (pc' := 55) (L' := [(6, .int v13), (0, .ref (B.1 + a0)), (1, .int x1), (2, .int v6.1), (3, .int v6.2.1), (4, .int v6.2.2.1), (5, .int v6.2.2.2.1)]) dX10_bestPolicy_53 rfl (by decide) rfl ?_
        refine hz_aload_n (pc' := 56) (j := 1) dX10_bestPolicy_55 rfl rfl rfl ?_
        refine hz_cVi (pc' := 59) (av := []) (rest := []) vl_X10_331 (fun x w' h => ct_X10_allEnergy hl h) ga0 rfl rfl (Nat.le_of_ble_eq_true rfl) (by decide) (by decide) rfl dX10_bestPolicy_56 rfl (fun v15 w14 => ?_)
        refine hz_istore (pc' := 61) (L' := [(7, .int v15), (6, .int v13), (0, .ref (B.1 + a0)), (1, .int x1), (2, .int v6.1), (3, .int v6.2.1), (4, .int v6.2.2.1), (5, .int v6.2.2.2.1)]) dX10_bestPolicy_59 rfl (by decide) rfl ?_
        refine hz_iload_n (pc' := 62) (j := 4) dX10_bestPolicy_61 rfl rfl rfl ?_
        refine hz_iconst (pc' := 63) (v := (-1)) dX10_bestPolicy_62 rfl (by decide) ?_
        refine hz_bindJ (pcJ := 95) (LJ := fun q16 : Int32 × Int32 × Int32 => [(0, .ref (B.1 + a0)), (1, .int x1), (2, .int q16.1), (3, .int q16.2.1), (4, .int q16.2.2), (5, .int v6.2.2.2.1)]) (stJ := fun q16 : Int32 × Int32 × Int32 => []) (kJ := 0) (slJ := 0) (nJ := 358) (wJ := fun q16 : Int32 × Int32 × Int32 => w14) (fun q16 => ?_) (fun hq16 => ?_)
        · refine hz_aload_n (pc' := 96) (j := 0) dX10_bestPolicy_95 rfl rfl rfl ?_
          refine hz_cVv (pc' := 99) (av := []) (rest := []) vl_X10_322 (fun w' h => ct_X10_takeBack hl h) ga0 rfl rfl (Nat.le_of_ble_eq_true rfl) (by decide) (by decide) rfl dX10_bestPolicy_96 rfl (fun w17 => ?_)
          refine hz_iincN (pc' := 102) (j := 5) (fun v18 => [(5, .int v18), (0, .ref (B.1 + a0)), (1, .int x1), (2, .int q16.1), (3, .int q16.2.1), (4, .int q16.2.2)]) dX10_bestPolicy_99 rfl rfl (by decide) (fun _ => rfl) (fun v18 => ?_)
          refine hz_goto (tgt := 28) dX10_bestPolicy_102 (by decide) ?_
          exact hz_loc [1, 2, 3, 4, 5, 0] rfl (ihv6 (q16.1, q16.2.1, q16.2.2, v18, w17))
        · refine hz_icmpeq (pc' := 66) (tgt := 85) dX10_bestPolicy_63 (by decide) rfl ?_ ?_
          · refine hz_iload (pc' := 87) (j := 7) dX10_bestPolicy_85 rfl rfl ?_
            refine hz_istore_n (pc' := 88) (L' := [(2, .int v6.2.2.2.1), (7, .int v15), (6, .int v13), (0, .ref (B.1 + a0)), (1, .int x1), (3, .int v6.2.1), (4, .int v6.2.2.1), (5, .int v6.2.2.2.1)]) dX10_bestPolicy_87 rfl rfl (by decide) rfl ?_
            refine hz_iload (pc' := 90) (j := 2) dX10_bestPolicy_88 rfl rfl ?_
            refine hz_istore_n (pc' := 91) (L' := [(3, .int v13), (2, .int v6.2.2.2.1), (7, .int v15), (6, .int v13), (0, .ref (B.1 + a0)), (1, .int x1), (4, .int v6.2.2.1), (5, .int v6.2.2.2.1)]) dX10_bestPolicy_90 rfl rfl (by decide) rfl ?_
            refine hz_iload (pc' := 93) (j := 2) dX10_bestPolicy_91 rfl rfl ?_
            refine hz_istore (pc' := 95) (L' := [(4, .int v15), (3, .int v13), (2, .int v6.2.2.2.1), (7, .int v15), (6, .int v13), (0, .ref (B.1 + a0)), (1, .int x1), (5, .int v6.2.2.2.1)]) dX10_bestPolicy_93 rfl (by decide) rfl ?_
            exact hz_loc [5, 6, 2, 1, 0, 7] rfl (hq16 (v6.2.2.2.1, v13, v15))
          · refine hz_iload (pc' := 68) (j := 1) dX10_bestPolicy_66 rfl rfl ?_
            refine hz_iload_n (pc' := 69) (j := 5) dX10_bestPolicy_68 rfl rfl rfl ?_
            refine hz_icmplt (pc' := 72) (tgt := 85) dX10_bestPolicy_69 (by decide) rfl ?_ ?_
            · refine hz_iload (pc' := 87) (j := 7) dX10_bestPolicy_85 rfl rfl ?_
              refine hz_istore_n (pc' := 88) (L' := [(2, .int v6.2.2.2.1), (7, .int v15), (6, .int v13), (0, .ref (B.1 + a0)), (1, .int x1), (3, .int v6.2.1), (4, .int v6.2.2.1), (5, .int v6.2.2.2.1)]) dX10_bestPolicy_87 rfl rfl (by decide) rfl ?_
              refine hz_iload (pc' := 90) (j := 2) dX10_bestPolicy_88 rfl rfl ?_
              refine hz_istore_n (pc' := 91) (L' := [(3, .int v13), (2, .int v6.2.2.2.1), (7, .int v15), (6, .int v13), (0, .ref (B.1 + a0)), (1, .int x1), (4, .int v6.2.2.1), (5, .int v6.2.2.2.1)]) dX10_bestPolicy_90 rfl rfl (by decide) rfl ?_
              refine hz_iload (pc' := 93) (j := 2) dX10_bestPolicy_91 rfl rfl ?_
              refine hz_istore (pc' := 95) (L' := [(4, .int v15), (3, .int v13), (2, .int v6.2.2.2.1), (7, .int v15), (6, .int v13), (0, .ref (B.1 + a0)), (1, .int x1), (5, .int v6.2.2.2.1)]) dX10_bestPolicy_93 rfl (by decide) rfl ?_
              exact hz_loc [5, 6, 2, 1, 0, 7] rfl (hq16 (v6.2.2.2.1, v13, v15))
            · refine hz_iload (pc' := 74) (j := 1) dX10_bestPolicy_72 rfl rfl ?_
              refine hz_iload_n (pc' := 75) (j := 5) dX10_bestPolicy_74 rfl rfl rfl ?_
              refine hz_icmpne (pc' := 78) (tgt := 95) dX10_bestPolicy_75 (by decide) rfl ?_ ?_
              · exact hz_loc [2, 3, 4, 5, 6, 7] rfl (hq16 (v6.1, v6.2.1, v6.2.2.1))
              · refine hz_iload (pc' := 80) (j := 0) dX10_bestPolicy_78 rfl rfl ?_
                refine hz_iload (pc' := 82) (j := 6) dX10_bestPolicy_80 rfl rfl ?_
                refine hz_icmpge (pc' := 85) (tgt := 95) dX10_bestPolicy_82 (by decide) rfl ?_ ?_
                · exact hz_loc [2, 3, 4, 5, 6, 7] rfl (hq16 (v6.1, v6.2.1, v6.2.2.1))
                · refine hz_iload (pc' := 87) (j := 7) dX10_bestPolicy_85 rfl rfl ?_
                  refine hz_istore_n (pc' := 88) (L' := [(2, .int v6.2.2.2.1), (7, .int v15), (6, .int v13), (0, .ref (B.1 + a0)), (1, .int x1), (3, .int v6.2.1), (4, .int v6.2.2.1), (5, .int v6.2.2.2.1)]) dX10_bestPolicy_87 rfl rfl (by decide) rfl ?_
                  refine hz_iload (pc' := 90) (j := 2) dX10_bestPolicy_88 rfl rfl ?_
                  refine hz_istore_n (pc' := 91) (L' := [(3, .int v13), (2, .int v6.2.2.2.1), (7, .int v15), (6, .int v13), (0, .ref (B.1 + a0)), (1, .int x1), (4, .int v6.2.2.1), (5, .int v6.2.2.2.1)]) dX10_bestPolicy_90 rfl rfl (by decide) rfl ?_
                  refine hz_iload (pc' := 93) (j := 2) dX10_bestPolicy_91 rfl rfl ?_
                  refine hz_istore (pc' := 95) (L' := [(4, .int v15), (3, .int v13), (2, .int v6.2.2.2.1), (7, .int v15), (6, .int v13), (0, .ref (B.1 + a0)), (1, .int x1), (5, .int v6.2.2.2.1)]) dX10_bestPolicy_93 rfl (by decide) rfl ?_
                  exact hz_loc [5, 6, 2, 1, 0, 7] rfl (hq16 (v6.2.2.2.1, v13, v15))
  · refine hz_iconst (pc' := 13) (v := 0) dX10_bestPolicy_12 rfl (by decide) ?_
    exact hz_reti dX10_bestPolicy_13 rfl (by decide)
def f_X10_coolLimit (a0 : Nat) (x1 : Int32) (w : MW) : Option (Int32 × MW) :=
  hz_gd (hz_g 358 a0 11) (hz_b (f_X10_isDomain a0 x1 w) (fun v2 w1 => hz_b (f_X10_isWrong a0 v2 w1) (fun v4 w3 => (if v4 = 0 then hz_bv (f_X10_putAside a0 w3) (fun w5 => hz_bv (f_X10_put2 a0 x1 0 1000000000 w5) (fun w6 => hz_let (hz_pn w6 a0 32 x1) (fun w7 => hz_let (hz_pn w7 a0 30 0) (fun w8 => hz_bv (f_X10_passAll a0 w8) (fun w9 => hz_let (hz_pn w9 a0 32 (-1)) (fun w10 => hz_bv (f_X10_takeBack a0 w10) (fun w11 => Option.bind ((if (w11.1 a0 30) ≤ 99999 then some (w11.1 a0 30) else some (-2))) (fun q12 : Int32 => some (q12, w11))))))))) else some (0, w3)))))
set_option maxHeartbeats 4000000 in
set_option maxRecDepth 100000 in
theorem ct_X10_coolLimit {l : Launch} (hl : l.stackTraces = false) {B : Bt} {a0 : Nat} {x1 : Int32} {w : MW} {r : Int32 × MW} (h : f_X10_coolLimit a0 x1 w = some r) : hz_Met l B false 358 358 yX10_coolLimit cX10_coolLimit 2 (Option.some FieldType.int) 8 0 0 [.ref (B.1 + a0), .int x1] w (some (.int r.1)) r.2 := by
  refine hz_ofJ (rv := (fun r : Int32 × MW => some (.int r.1))) (wo := (fun r : Int32 × MW => r.2)) (own := RX10) (ini := false) hl (by decide) rfl (Or.inr rfl) (Nat.le_of_ble_eq_true rfl) rfl ?_ h
  intro p e s m args below meth c
  unfold f_X10_coolLimit
  refine hz_gdr (fun ga0 => ?_)
  refine hz_aload_n (pc' := 1) (j := 0) dX10_coolLimit_0 rfl rfl rfl ?_
  refine hz_aload_n (pc' := 2) (j := 0) dX10_coolLimit_1 rfl rfl rfl ?_
  refine hz_iload_n (pc' := 3) (j := 1) dX10_coolLimit_2 rfl rfl rfl ?_
  refine hz_cVi (pc' := 6) (av := [.int x1]) (rest := [.ref (B.1 + a0)]) vl_X10_274 (fun x w' h => ct_X10_isDomain hl h) ga0 rfl rfl (Nat.le_of_ble_eq_true rfl) (by decide) (by decide) rfl dX10_coolLimit_3 rfl (fun v2 w1 => ?_)
  refine hz_cVi (pc' := 9) (av := [.int v2]) (rest := []) vl_X10_207 (fun x w' h => ct_X10_isWrong hl h) ga0 rfl rfl (Nat.le_of_ble_eq_true rfl) (by decide) (by decide) rfl dX10_coolLimit_6 rfl (fun v4 w3 => ?_)
  refine hz_ifeq (pc' := 12) (tgt := 14) dX10_coolLimit_9 (by decide) rfl ?_ ?_
  · refine hz_aload_n (pc' := 15) (j := 0) dX10_coolLimit_14 rfl rfl rfl ?_
    refine hz_cVv (pc' := 18) (av := []) (rest := []) vl_X10_319 (fun w' h => ct_X10_putAside hl h) ga0 rfl rfl (Nat.le_of_ble_eq_true rfl) (by decide) (by decide) rfl dX10_coolLimit_15 rfl (fun w5 => ?_)
    refine hz_aload_n (pc' := 19) (j := 0) dX10_coolLimit_18 rfl rfl rfl ?_
    refine hz_iload_n (pc' := 20) (j := 1) dX10_coolLimit_19 rfl rfl rfl ?_
    refine hz_iconst (pc' := 21) (v := 0) dX10_coolLimit_20 rfl (by decide) ?_
    refine hz_ldcw (pc' := 24) (v := 1000000000) dX10_coolLimit_21 rfl hq_1680 ?_
    refine hz_cVv (pc' := 27) (av := [.int x1, .int 0, .int 1000000000]) (rest := []) vl_X10_203 (fun w' h => ct_X10_put2 hl h) ga0 rfl rfl (Nat.le_of_ble_eq_true rfl) (by decide) (by decide) rfl dX10_coolLimit_24 rfl (fun w6 => ?_)
    refine hz_aload_n (pc' := 28) (j := 0) dX10_coolLimit_27 rfl rfl rfl ?_
    refine hz_iload_n (pc' := 29) (j := 1) dX10_coolLimit_28 rfl rfl rfl ?_
    refine hz_putI (pc' := 32) fl_X10_59 ga0 rfl dX10_coolLimit_29 rfl (fun w7 => ?_)
    refine hz_aload_n (pc' := 33) (j := 0) dX10_coolLimit_32 rfl rfl rfl ?_
    refine hz_iconst (pc' := 34) (v := 0) dX10_coolLimit_33 rfl (by decide) ?_
    refine hz_putI (pc' := 37) fl_X10_259 ga0 rfl dX10_coolLimit_34 rfl (fun w8 => ?_)
    refine hz_aload_n (pc' := 38) (j := 0) dX10_coolLimit_37 rfl rfl rfl ?_
    refine hz_cVv (pc' := 41) (av := []) (rest := []) vl_X10_325 (fun w' h => ct_X10_passAll hl h) ga0 rfl rfl (Nat.le_of_ble_eq_true rfl) (by decide) (by decide) rfl dX10_coolLimit_38 rfl (fun w9 => ?_)
    refine hz_aload_n (pc' := 42) (j := 0) dX10_coolLimit_41 rfl rfl rfl ?_
    refine hz_iconst (pc' := 43) (v := (-1)) dX10_coolLimit_42 rfl (by decide) ?_
    refine hz_putI (pc' := 46) fl_X10_59 ga0 rfl dX10_coolLimit_43 rfl (fun w10 => ?_)
    refine hz_aload_n (pc' := 47) (j := 0) dX10_coolLimit_46 rfl rfl rfl ?_
    refine hz_cVv (pc' := 50) (av := []) (rest := []) vl_X10_322 (fun w' h => ct_X10_takeBack hl h) ga0 rfl rfl (Nat.le_of_ble_eq_true rfl) (by decide) (by decide) rfl dX10_coolLimit_47 rfl (fun w11 => ?_)
    refine hz_aload_n (pc' := 51) (j := 0) dX10_coolLimit_50 rfl rfl rfl ?_
    refine hz_gI (pc' := 54) fl_X10_259.r ga0 rfl dX10_coolLimit_51 rfl ?_
    refine hz_ldc (pc' := 56) (v := 99999) dX10_coolLimit_54 rfl hq_1393 ?_
    refine hz_bindJ (pcJ := 68) (LJ := fun q12 : Int32 => []) (stJ := fun q12 : Int32 => [.int q12]) (kJ := 0) (slJ := 0) (nJ := 358) (wJ := fun q12 : Int32 => w11) (fun q12 => ?_) (fun hq12 => ?_)
    · exact hz_reti dX10_coolLimit_68 rfl (by decide)
    · refine hz_icmple (pc' := 59) (tgt := 64) dX10_coolLimit_56 (by decide) rfl ?_ ?_
      · refine hz_aload_n (pc' := 65) (j := 0) dX10_coolLimit_64 rfl rfl rfl ?_
        refine hz_gI (pc' := 68) fl_X10_259.r ga0 rfl dX10_coolLimit_65 rfl ?_
        exact hz_loc [] rfl (hq12 (w11.1 a0 30))
      · refine hz_bipush (pc' := 61) (v := (-2)) dX10_coolLimit_59 rfl (by decide) ?_
        refine hz_goto (tgt := 68) dX10_coolLimit_61 (by decide) ?_
        exact hz_loc [] rfl (hq12 (-2))
  · refine hz_iconst (pc' := 13) (v := 0) dX10_coolLimit_12 rfl (by decide) ?_
    exact hz_reti dX10_coolLimit_13 rfl (by decide)
def f_X10_costOf (a0 : Nat) (x1 : Int32) (x2 : Int32) (x3 : Int32) (x4 : Int32) (w : MW) : Option (Int32 × MW) :=
  hz_gd (hz_g 358 a0 11) (hz_ldp w a0 13 358 20 (fun b1 => hz_lda w b1 ((5 * x1) + x2) (fun v2 => hz_b (f_X10_upward x3 v2 w) (fun v4 w3 => Option.bind ((if v4 ≤ x4 then hz_ldp w3 a0 14 358 20 (fun b6 => hz_lda w3 b6 ((5 * x1) + x2) (fun v7 => hz_ldp w3 a0 9 358 20 (fun b8 => hz_lda w3 b8 x1 (fun v9 => some ((v4 * v7) + ((x4 - v4) * v9)))))) else some (-2))) (fun q5 : Int32 => some (q5, w3))))))
set_option maxHeartbeats 4000000 in
set_option maxRecDepth 100000 in
theorem ct_X10_costOf {l : Launch} (hl : l.stackTraces = false) {B : Bt} {a0 : Nat} {x1 : Int32} {x2 : Int32} {x3 : Int32} {x4 : Int32} {w : MW} {r : Int32 × MW} (h : f_X10_costOf a0 x1 x2 x3 x4 w = some r) : hz_Met l B false 358 358 yX10_costOf cX10_costOf 6 (Option.some FieldType.int) 3 0 0 [.ref (B.1 + a0), .int x1, .int x2, .int x3, .int x4] w (some (.int r.1)) r.2 := by
  refine hz_ofJ (rv := (fun r : Int32 × MW => some (.int r.1))) (wo := (fun r : Int32 × MW => r.2)) (own := RX10) (ini := false) hl (by decide) rfl (Or.inr rfl) (Nat.le_of_ble_eq_true rfl) rfl ?_ h
  intro p e s m args below meth c
  unfold f_X10_costOf
  refine hz_gdr (fun ga0 => ?_)
  refine hz_iload_n (pc' := 1) (j := 3) dX10_costOf_0 rfl rfl rfl ?_
  refine hz_aload_n (pc' := 2) (j := 0) dX10_costOf_1 rfl rfl rfl ?_
  refine hz_gP (pc' := 5) (c' := 20) fl_X10_37.r ga0 rfl dX10_costOf_2 rfl (fun b1 gb1 => ?_)
  refine hz_iconst (pc' := 6) (v := 5) dX10_costOf_5 rfl (by decide) ?_
  refine hz_iload_n (pc' := 7) (j := 1) dX10_costOf_6 rfl rfl rfl ?_
  refine hz_imul (pc' := 8) dX10_costOf_7 rfl ?_
  refine hz_iload_n (pc' := 9) (j := 2) dX10_costOf_8 rfl rfl rfl ?_
  refine hz_iadd (pc' := 10) dX10_costOf_9 rfl ?_
  refine hz_iald (pc' := 11) gb1 dX10_costOf_10 rfl (fun v2 => ?_)
  refine hz_cSi (pc' := 14) (av := [.int x3, .int v2]) (rest := []) sl_X10_228 (fun x w' h => ct_X10_upward hl h) rfl rfl (Nat.le_of_ble_eq_true rfl) (by decide) (by decide) rfl dX10_costOf_11 rfl (fun v4 w3 => ?_)
  refine hz_istore (pc' := 16) (L' := [(5, .int v4), (0, .ref (B.1 + a0)), (1, .int x1), (2, .int x2), (3, .int x3), (4, .int x4)]) dX10_costOf_14 rfl (by decide) rfl ?_
  refine hz_iload (pc' := 18) (j := 0) dX10_costOf_16 rfl rfl ?_
  refine hz_iload (pc' := 20) (j := 5) dX10_costOf_18 rfl rfl ?_
  refine hz_bindJ (pcJ := 54) (LJ := fun q5 : Int32 => []) (stJ := fun q5 : Int32 => [.int q5]) (kJ := 0) (slJ := 0) (nJ := 358) (wJ := fun q5 : Int32 => w3) (fun q5 => ?_) (fun hq5 => ?_)
  · exact hz_reti dX10_costOf_54 rfl (by decide)
  · refine hz_icmple (pc' := 23) (tgt := 28) dX10_costOf_20 (by decide) rfl ?_ ?_
    · refine hz_iload (pc' := 30) (j := 0) dX10_costOf_28 rfl rfl ?_
      refine hz_aload_n (pc' := 31) (j := 1) dX10_costOf_30 rfl rfl rfl ?_
      refine hz_gP (pc' := 34) (c' := 20) fl_X10_40.r ga0 rfl dX10_costOf_31 rfl (fun b6 gb6 => ?_)
      refine hz_iconst (pc' := 35) (v := 5) dX10_costOf_34 rfl (by decide) ?_
      refine hz_iload_n (pc' := 36) (j := 2) dX10_costOf_35 rfl rfl rfl ?_
      refine hz_imul (pc' := 37) dX10_costOf_36 rfl ?_
      refine hz_iload_n (pc' := 38) (j := 3) dX10_costOf_37 rfl rfl rfl ?_
      refine hz_iadd (pc' := 39) dX10_costOf_38 rfl ?_
      refine hz_iald (pc' := 40) gb6 dX10_costOf_39 rfl (fun v7 => ?_)
      refine hz_imul (pc' := 41) dX10_costOf_40 rfl ?_
      refine hz_iload (pc' := 43) (j := 5) dX10_costOf_41 rfl rfl ?_
      refine hz_iload (pc' := 45) (j := 0) dX10_costOf_43 rfl rfl ?_
      refine hz_isub (pc' := 46) dX10_costOf_45 rfl ?_
      refine hz_aload_n (pc' := 47) (j := 1) dX10_costOf_46 rfl rfl rfl ?_
      refine hz_gP (pc' := 50) (c' := 20) fl_X10_25.r ga0 rfl dX10_costOf_47 rfl (fun b8 gb8 => ?_)
      refine hz_iload_n (pc' := 51) (j := 2) dX10_costOf_50 rfl rfl rfl ?_
      refine hz_iald (pc' := 52) gb8 dX10_costOf_51 rfl (fun v9 => ?_)
      refine hz_imul (pc' := 53) dX10_costOf_52 rfl ?_
      refine hz_iadd (pc' := 54) dX10_costOf_53 rfl ?_
      exact hz_loc [] rfl (hq5 ((v4 * v7) + ((x4 - v4) * v9)))
    · refine hz_bipush (pc' := 25) (v := (-2)) dX10_costOf_23 rfl (by decide) ?_
      refine hz_goto (tgt := 54) dX10_costOf_25 (by decide) ?_
      exact hz_loc [] rfl (hq5 (-2))
def f_X10_isTask (a0 : Nat) (x1 : Int32) (x2 : Int32) (x3 : Int32) (x4 : Int32) (x5 : Int32) (w : MW) : Option (Int32 × MW) :=
  hz_gd (hz_g 358 a0 11) (hz_b (f_X10_isDomain a0 x1 w) (fun v2 w1 => Option.bind ((if v2 = 0 then some (0, w1) else hz_b (f_X10_isIn (Int32.toInt64 x2) 1 (Int32.toInt64 x3) w1) (fun v5 w4 => (if v5 = 0 then some (0, w4) else hz_b (f_X10_isIn (Int32.toInt64 x4) 1 (Int32.toInt64 x5) w4) (fun v7 w6 => (if v7 = 0 then some (0, w6) else some (1, w6))))))) (fun q3 : Int32 × MW => hz_gd (hz_isb q3.1) (some (q3.1, q3.2)))))
set_option maxHeartbeats 4000000 in
set_option maxRecDepth 100000 in
theorem ct_X10_isTask {l : Launch} (hl : l.stackTraces = false) {B : Bt} {a0 : Nat} {x1 : Int32} {x2 : Int32} {x3 : Int32} {x4 : Int32} {x5 : Int32} {w : MW} {r : Int32 × MW} (h : f_X10_isTask a0 x1 x2 x3 x4 x5 w = some r) : hz_Met l B false 358 358 yX10_isTask cX10_isTask 6 (Option.some FieldType.boolean) 4 0 0 [.ref (B.1 + a0), .int x1, .int x2, .int x3, .int x4, .int x5] w (some (.int r.1)) r.2 := by
  refine hz_ofJ (rv := (fun r : Int32 × MW => some (.int r.1))) (wo := (fun r : Int32 × MW => r.2)) (own := RX10) (ini := false) hl (by decide) rfl (Or.inr rfl) (Nat.le_of_ble_eq_true rfl) rfl ?_ h
  intro p e s m args below meth c
  unfold f_X10_isTask
  refine hz_gdr (fun ga0 => ?_)
  refine hz_aload_n (pc' := 1) (j := 0) dX10_isTask_0 rfl rfl rfl ?_
  refine hz_iload_n (pc' := 2) (j := 1) dX10_isTask_1 rfl rfl rfl ?_
  refine hz_cVi (pc' := 5) (av := [.int x1]) (rest := []) vl_X10_274 (fun x w' h => ct_X10_isDomain hl h) ga0 rfl rfl (Nat.le_of_ble_eq_true rfl) (by decide) (by decide) rfl dX10_isTask_2 rfl (fun v2 w1 => ?_)
  refine hz_bindJ (pcJ := 37) (LJ := fun q3 : Int32 × MW => []) (stJ := fun q3 : Int32 × MW => [.int q3.1]) (kJ := 0) (slJ := 0) (nJ := 358) (wJ := fun q3 : Int32 × MW => q3.2) (fun q3 => ?_) (fun hq3 => ?_)
  · exact hz_retz dX10_isTask_37 rfl (by decide)
  · refine hz_ifeq (pc' := 8) (tgt := 36) dX10_isTask_5 (by decide) rfl ?_ ?_
    · refine hz_iconst (pc' := 37) (v := 0) dX10_isTask_36 rfl (by decide) ?_
      exact hz_loc [] rfl (hq3 (0, w1))
    · refine hz_iload_n (pc' := 9) (j := 2) dX10_isTask_8 rfl rfl rfl ?_
      refine hz_i2l (pc' := 10) dX10_isTask_9 rfl ?_
      refine hz_lconst (pc' := 11) (v := 1) dX10_isTask_10 rfl (by decide) ?_
      refine hz_iload_n (pc' := 12) (j := 3) dX10_isTask_11 rfl rfl rfl ?_
      refine hz_i2l (pc' := 13) dX10_isTask_12 rfl ?_
      refine hz_cSi (pc' := 16) (av := [.long (Int32.toInt64 x2), .long 1, .long (Int32.toInt64 x3)]) (rest := []) sl_X10_88 (fun x w' h => ct_X10_isIn hl h) rfl rfl (Nat.le_of_ble_eq_true rfl) (by decide) (by decide) rfl dX10_isTask_13 rfl (fun v5 w4 => ?_)
      refine hz_ifeq (pc' := 19) (tgt := 36) dX10_isTask_16 (by decide) rfl ?_ ?_
      · refine hz_iconst (pc' := 37) (v := 0) dX10_isTask_36 rfl (by decide) ?_
        exact hz_loc [] rfl (hq3 (0, w4))
      · refine hz_iload (pc' := 21) (j := 4) dX10_isTask_19 rfl rfl ?_
        refine hz_i2l (pc' := 22) dX10_isTask_21 rfl ?_
        refine hz_lconst (pc' := 23) (v := 1) dX10_isTask_22 rfl (by decide) ?_
        refine hz_iload (pc' := 25) (j := 5) dX10_isTask_23 rfl rfl ?_
        refine hz_i2l (pc' := 26) dX10_isTask_25 rfl ?_
        refine hz_cSi (pc' := 29) (av := [.long (Int32.toInt64 x4), .long 1, .long (Int32.toInt64 x5)]) (rest := []) sl_X10_88 (fun x w' h => ct_X10_isIn hl h) rfl rfl (Nat.le_of_ble_eq_true rfl) (by decide) (by decide) rfl dX10_isTask_26 rfl (fun v7 w6 => ?_)
        refine hz_ifeq (pc' := 32) (tgt := 36) dX10_isTask_29 (by decide) rfl ?_ ?_
        · refine hz_iconst (pc' := 37) (v := 0) dX10_isTask_36 rfl (by decide) ?_
          exact hz_loc [] rfl (hq3 (0, w6))
        · refine hz_iconst (pc' := 33) (v := 1) dX10_isTask_32 rfl (by decide) ?_
          refine hz_goto (tgt := 37) dX10_isTask_33 (by decide) ?_
          exact hz_loc [] rfl (hq3 (1, w6))
def f_X10_levelEnergy (a0 : Nat) (x1 : Int32) (x2 : Int32) (x3 : Int32) (x4 : Int32) (w : MW) : Option (Int32 × MW) :=
  hz_gd (hz_g 358 a0 11) (hz_b (f_X10_isTask a0 x1 x3 9999 x4 9999 w) (fun v2 w1 => Option.bind ((if v2 = 0 then some (0, w1) else hz_b (f_X10_isDomain a0 x1 w1) (fun v9 w8 => Option.bind ((if v9 = 0 then some 0 else hz_ldp w8 a0 12 358 20 (fun b13 => hz_lda w8 b13 x1 (fun v14 => some v14)))) (fun q10 : Int32 => hz_b (f_X10_isIn (Int32.toInt64 x2) 0 (Int32.toInt64 (q10 - 1)) w8) (fun v12 w11 => (if v12 = 0 then some (0, w11) else some (1, w11))))))) (fun q3 : Int32 × MW => hz_b (f_X10_isWrong a0 q3.1 q3.2) (fun v5 w4 => (if v5 = 0 then hz_b (f_X10_costOf a0 x1 x2 x3 x4 w4) (fun v7 w6 => some (v7, w6)) else some (0, w4))))))
set_option maxHeartbeats 4000000 in
set_option maxRecDepth 100000 in
theorem ct_X10_levelEnergy {l : Launch} (hl : l.stackTraces = false) {B : Bt} {a0 : Nat} {x1 : Int32} {x2 : Int32} {x3 : Int32} {x4 : Int32} {w : MW} {r : Int32 × MW} (h : f_X10_levelEnergy a0 x1 x2 x3 x4 w = some r) : hz_Met l B false 358 358 yX10_levelEnergy cX10_levelEnergy 5 (Option.some FieldType.int) 5 0 0 [.ref (B.1 + a0), .int x1, .int x2, .int x3, .int x4] w (some (.int r.1)) r.2 := by
  refine hz_ofJ (rv := (fun r : Int32 × MW => some (.int r.1))) (wo := (fun r : Int32 × MW => r.2)) (own := RX10) (ini := false) hl (by decide) rfl (Or.inr rfl) (Nat.le_of_ble_eq_true rfl) rfl ?_ h
  intro p e s m args below meth c
  unfold f_X10_levelEnergy
  refine hz_gdr (fun ga0 => ?_)
  refine hz_aload_n (pc' := 1) (j := 0) dX10_levelEnergy_0 rfl rfl rfl ?_
  refine hz_aload_n (pc' := 2) (j := 0) dX10_levelEnergy_1 rfl rfl rfl ?_
  refine hz_iload_n (pc' := 3) (j := 1) dX10_levelEnergy_2 rfl rfl rfl ?_
  refine hz_iload_n (pc' := 4) (j := 3) dX10_levelEnergy_3 rfl rfl rfl ?_
  refine hz_sipush (pc' := 7) (v := 9999) dX10_levelEnergy_4 rfl (by decide) ?_
  refine hz_iload (pc' := 9) (j := 4) dX10_levelEnergy_7 rfl rfl ?_
  refine hz_sipush (pc' := 12) (v := 9999) dX10_levelEnergy_9 rfl (by decide) ?_
  refine hz_cVi (pc' := 15) (av := [.int x1, .int x3, .int 9999, .int x4, .int 9999]) (rest := [.ref (B.1 + a0)]) vl_X10_338 (fun x w' h => ct_X10_isTask hl h) ga0 rfl rfl (Nat.le_of_ble_eq_true rfl) (by decide) (by decide) rfl dX10_levelEnergy_12 rfl (fun v2 w1 => ?_)
  refine hz_bindJ (pcJ := 53) (LJ := fun q3 : Int32 × MW => [(0, .ref (B.1 + a0)), (1, .int x1), (2, .int x2), (3, .int x3), (4, .int x4)]) (stJ := fun q3 : Int32 × MW => [.int q3.1, .ref (B.1 + a0)]) (kJ := 0) (slJ := 0) (nJ := 358) (wJ := fun q3 : Int32 × MW => q3.2) (fun q3 => ?_) (fun hq3 => ?_)
  · refine hz_cVi (pc' := 56) (av := [.int q3.1]) (rest := []) vl_X10_207 (fun x w' h => ct_X10_isWrong hl h) ga0 rfl rfl (Nat.le_of_ble_eq_true rfl) (by decide) (by decide) rfl dX10_levelEnergy_53 rfl (fun v5 w4 => ?_)
    refine hz_ifeq (pc' := 59) (tgt := 61) dX10_levelEnergy_56 (by decide) rfl ?_ ?_
    · refine hz_aload_n (pc' := 62) (j := 0) dX10_levelEnergy_61 rfl rfl rfl ?_
      refine hz_iload_n (pc' := 63) (j := 1) dX10_levelEnergy_62 rfl rfl rfl ?_
      refine hz_iload_n (pc' := 64) (j := 2) dX10_levelEnergy_63 rfl rfl rfl ?_
      refine hz_iload_n (pc' := 65) (j := 3) dX10_levelEnergy_64 rfl rfl rfl ?_
      refine hz_iload (pc' := 67) (j := 4) dX10_levelEnergy_65 rfl rfl ?_
      refine hz_cVi (pc' := 70) (av := [.int x1, .int x2, .int x3, .int x4]) (rest := []) vl_X10_342 (fun x w' h => ct_X10_costOf hl h) ga0 rfl rfl (Nat.le_of_ble_eq_true rfl) (by decide) (by decide) rfl dX10_levelEnergy_67 rfl (fun v7 w6 => ?_)
      exact hz_reti dX10_levelEnergy_70 rfl (by decide)
    · refine hz_iconst (pc' := 60) (v := 0) dX10_levelEnergy_59 rfl (by decide) ?_
      exact hz_reti dX10_levelEnergy_60 rfl (by decide)
  · refine hz_ifeq (pc' := 18) (tgt := 52) dX10_levelEnergy_15 (by decide) rfl ?_ ?_
    · refine hz_iconst (pc' := 53) (v := 0) dX10_levelEnergy_52 rfl (by decide) ?_
      exact hz_loc [0, 1, 2, 3, 4] rfl (hq3 (0, w1))
    · refine hz_iload_n (pc' := 19) (j := 2) dX10_levelEnergy_18 rfl rfl rfl ?_
      refine hz_i2l (pc' := 20) dX10_levelEnergy_19 rfl ?_
      refine hz_lconst (pc' := 21) (v := 0) dX10_levelEnergy_20 rfl (by decide) ?_
      refine hz_aload_n (pc' := 22) (j := 0) dX10_levelEnergy_21 rfl rfl rfl ?_
      refine hz_iload_n (pc' := 23) (j := 1) dX10_levelEnergy_22 rfl rfl rfl ?_
      refine hz_cVi (pc' := 26) (av := [.int x1]) (rest := [.long 0, .long (Int32.toInt64 x2), .ref (B.1 + a0)]) vl_X10_274 (fun x w' h => ct_X10_isDomain hl h) ga0 rfl rfl (Nat.le_of_ble_eq_true rfl) (by decide) (by decide) rfl dX10_levelEnergy_23 rfl (fun v9 w8 => ?_)
      refine hz_bindJ (pcJ := 39) (LJ := fun q10 : Int32 => [(0, .ref (B.1 + a0)), (1, .int x1), (2, .int x2), (3, .int x3), (4, .int x4)]) (stJ := fun q10 : Int32 => [.int q10, .long 0, .long (Int32.toInt64 x2), .ref (B.1 + a0)]) (kJ := 0) (slJ := 0) (nJ := 358) (wJ := fun q10 : Int32 => w8) (fun q10 => ?_) (fun hq10 => ?_)
      · refine hz_iconst (pc' := 40) (v := 1) dX10_levelEnergy_39 rfl (by decide) ?_
        refine hz_isub (pc' := 41) dX10_levelEnergy_40 rfl ?_
        refine hz_i2l (pc' := 42) dX10_levelEnergy_41 rfl ?_
        refine hz_cSi (pc' := 45) (av := [.long (Int32.toInt64 x2), .long 0, .long (Int32.toInt64 (q10 - 1))]) (rest := [.ref (B.1 + a0)]) sl_X10_88 (fun x w' h => ct_X10_isIn hl h) rfl rfl (Nat.le_of_ble_eq_true rfl) (by decide) (by decide) rfl dX10_levelEnergy_42 rfl (fun v12 w11 => ?_)
        refine hz_ifeq (pc' := 48) (tgt := 52) dX10_levelEnergy_45 (by decide) rfl ?_ ?_
        · refine hz_iconst (pc' := 53) (v := 0) dX10_levelEnergy_52 rfl (by decide) ?_
          exact hz_loc [0, 1, 2, 3, 4] rfl (hq3 (0, w11))
        · refine hz_iconst (pc' := 49) (v := 1) dX10_levelEnergy_48 rfl (by decide) ?_
          refine hz_goto (tgt := 53) dX10_levelEnergy_49 (by decide) ?_
          exact hz_loc [0, 1, 2, 3, 4] rfl (hq3 (1, w11))
      · refine hz_ifeq (pc' := 29) (tgt := 38) dX10_levelEnergy_26 (by decide) rfl ?_ ?_
        · refine hz_iconst (pc' := 39) (v := 0) dX10_levelEnergy_38 rfl (by decide) ?_
          exact hz_loc [0, 1, 2, 3, 4] rfl (hq10 0)
        · refine hz_aload_n (pc' := 30) (j := 0) dX10_levelEnergy_29 rfl rfl rfl ?_
          refine hz_gP (pc' := 33) (c' := 20) fl_X10_34.r ga0 rfl dX10_levelEnergy_30 rfl (fun b13 gb13 => ?_)
          refine hz_iload_n (pc' := 34) (j := 1) dX10_levelEnergy_33 rfl rfl rfl ?_
          refine hz_iald (pc' := 35) gb13 dX10_levelEnergy_34 rfl (fun v14 => ?_)
          refine hz_goto (tgt := 39) dX10_levelEnergy_35 (by decide) ?_
          exact hz_loc [0, 1, 2, 3, 4] rfl (hq10 v14)
def lp_X10_bestLevel_39 (c0 : Nat) (c1 : Int32) (c2 : Int32) (c3 : Int32) : Nat → (Int32 × Int32 × Int32 × MW) → Option (Int32 × MW)
  | 0, _ => none
  | N + 1, v0 => (if v0.2.2.1 < 0 then some (v0.1, v0.2.2.2) else hz_b (f_X10_costOf c0 c1 v0.2.2.1 c2 c3 v0.2.2.2) (fun v9 w8 => Option.bind ((if v9 = (-2) then some (v0.1, v0.2.1) else (if v0.1 = (-2) then some (v0.2.2.1, v9) else (if v0.2.1 ≤ v9 then some (v0.1, v0.2.1) else some (v0.2.2.1, v9))))) (fun q10 : Int32 × Int32 => hz_let (v0.2.2.1 + Int32.ofInt (-1)) (fun v11 => lp_X10_bestLevel_39 c0 c1 c2 c3 N (q10.1, q10.2, v11, w8)))))
def f_X10_bestLevel (a0 : Nat) (x1 : Int32) (x2 : Int32) (x3 : Int32) (w : MW) : Option (Int32 × MW) :=
  hz_gd (hz_g 358 a0 11) (hz_b (f_X10_isTask a0 x1 x2 9999 x3 9999 w) (fun v2 w1 => hz_b (f_X10_isWrong a0 v2 w1) (fun v4 w3 => (if v4 = 0 then hz_ldp w3 a0 12 358 20 (fun b5 => hz_lda w3 b5 x1 (fun v6 => hz_let (v6 - 1) (fun v7 => Option.bind (lp_X10_bestLevel_39 a0 x1 x2 x3 3000 ((-2), 0, v7, w3)) (fun q9 : Int32 × MW => some (q9.1, q9.2))))) else some (0, w3)))))
set_option maxHeartbeats 4000000 in
set_option maxRecDepth 100000 in
theorem ct_X10_bestLevel {l : Launch} (hl : l.stackTraces = false) {B : Bt} {a0 : Nat} {x1 : Int32} {x2 : Int32} {x3 : Int32} {w : MW} {r : Int32 × MW} (h : f_X10_bestLevel a0 x1 x2 x3 w = some r) : hz_Met l B false 358 358 yX10_bestLevel cX10_bestLevel 8 (Option.some FieldType.int) 5 0 0 [.ref (B.1 + a0), .int x1, .int x2, .int x3] w (some (.int r.1)) r.2 := by
  refine hz_ofJ (rv := (fun r : Int32 × MW => some (.int r.1))) (wo := (fun r : Int32 × MW => r.2)) (own := RX10) (ini := false) hl (by decide) rfl (Or.inr rfl) (Nat.le_of_ble_eq_true rfl) rfl ?_ h
  intro p e s m args below meth c
  unfold f_X10_bestLevel
  refine hz_gdr (fun ga0 => ?_)
  refine hz_aload_n (pc' := 1) (j := 0) dX10_bestLevel_0 rfl rfl rfl ?_
  refine hz_aload_n (pc' := 2) (j := 0) dX10_bestLevel_1 rfl rfl rfl ?_
  refine hz_iload_n (pc' := 3) (j := 1) dX10_bestLevel_2 rfl rfl rfl ?_
  refine hz_iload_n (pc' := 4) (j := 2) dX10_bestLevel_3 rfl rfl rfl ?_
  refine hz_sipush (pc' := 7) (v := 9999) dX10_bestLevel_4 rfl (by decide) ?_
  refine hz_iload_n (pc' := 8) (j := 3) dX10_bestLevel_7 rfl rfl rfl ?_
  refine hz_sipush (pc' := 11) (v := 9999) dX10_bestLevel_8 rfl (by decide) ?_
  refine hz_cVi (pc' := 14) (av := [.int x1, .int x2, .int 9999, .int x3, .int 9999]) (rest := [.ref (B.1 + a0)]) vl_X10_338 (fun x w' h => ct_X10_isTask hl h) ga0 rfl rfl (Nat.le_of_ble_eq_true rfl) (by decide) (by decide) rfl dX10_bestLevel_11 rfl (fun v2 w1 => ?_)
  refine hz_cVi (pc' := 17) (av := [.int v2]) (rest := []) vl_X10_207 (fun x w' h => ct_X10_isWrong hl h) ga0 rfl rfl (Nat.le_of_ble_eq_true rfl) (by decide) (by decide) rfl dX10_bestLevel_14 rfl (fun v4 w3 => ?_)
  refine hz_ifeq (pc' := 20) (tgt := 22) dX10_bestLevel_17 (by decide) rfl ?_ ?_
  · refine hz_bipush (pc' := 24) (v := (-2)) dX10_bestLevel_22 rfl (by decide) ?_
    refine hz_istore (pc' := 26) (L' := [(4, .int (-2)), (0, .ref (B.1 + a0)), (1, .int x1), (2, .int x2), (3, .int x3)]) dX10_bestLevel_24 rfl (by decide) rfl ?_
    refine hz_iconst (pc' := 27) (v := 0) dX10_bestLevel_26 rfl (by decide) ?_
    refine hz_istore (pc' := 29) (L' := [(5, .int 0), (4, .int (-2)), (0, .ref (B.1 + a0)), (1, .int x1), (2, .int x2), (3, .int x3)]) dX10_bestLevel_27 rfl (by decide) rfl ?_
    refine hz_aload_n (pc' := 30) (j := 2) dX10_bestLevel_29 rfl rfl rfl ?_
    refine hz_gP (pc' := 33) (c' := 20) fl_X10_34.r ga0 rfl dX10_bestLevel_30 rfl (fun b5 gb5 => ?_)
    refine hz_iload_n (pc' := 34) (j := 3) dX10_bestLevel_33 rfl rfl rfl ?_
    refine hz_iald (pc' := 35) gb5 dX10_bestLevel_34 rfl (fun v6 => ?_)
    refine hz_iconst (pc' := 36) (v := 1) dX10_bestLevel_35 rfl (by decide) ?_
    refine hz_isub (pc' := 37) dX10_bestLevel_36 rfl ?_
    refine hz_nameI (fun v7 => ?_)
    refine hz_istore (pc' := 39) (L' := [(6, .int v7), (5, .int 0), (4, .int (-2)), (0, .ref (B.1 + a0)), (1, .int x1), (2, .int x2), (3, .int x3)]) dX10_bestLevel_37 rfl (by decide) rfl ?_
    refine hz_bindJ (pcJ := 90) (LJ := fun q9 : Int32 × MW => [(4, .int q9.1)]) (stJ := fun _ => []) (kJ := 0) (slJ := 0) (nJ := 358) (wJ := fun q9 : Int32 × MW => q9.2) (fun q9 => ?_) (fun hq9 => ?_)
    · refine hz_iload (pc' := 92) (j := 0) dX10_bestLevel_90 rfl rfl ?_
      exact hz_reti dX10_bestLevel_92 rfl (by decide)
    · refine hz_loc [3, 4, 5, 6, 2, 1, 0] rfl (hz_loopJ (lp := lp_X10_bestLevel_39 a0 x1 x2 x3) (Lh := fun v8 : Int32 × Int32 × Int32 × MW => [(0, .ref (B.1 + a0)), (1, .int x1), (2, .int x2), (3, .int x3), (4, .int v8.1), (5, .int v8.2.1), (6, .int v8.2.2.1)]) (wh := fun v8 : Int32 × Int32 × Int32 × MW => v8.2.2.2) (fun _ => rfl) (fun Nv8 ihv8 v8 => ?_) 3000 ((-2), 0, v7, w3))
      rw [lp_X10_bestLevel_39]
      refine hz_iload (pc' := 41) (j := 6) dX10_bestLevel_39 rfl rfl ?_
      refine hz_iflt (pc' := 44) (tgt := 90) dX10_bestLevel_41 (by decide) rfl ?_ ?_
      · exact hz_loc [4] rfl (hq9 (v8.1, v8.2.2.2))
      · refine hz_aload_n (pc' := 45) (j := 0) dX10_bestLevel_44 rfl rfl rfl ?_
        refine hz_iload_n (pc' := 46) (j := 1) dX10_bestLevel_45 rfl rfl rfl ?_
        refine hz_iload (pc' := 48) (j := 6) dX10_bestLevel_46 rfl rfl ?_
        refine hz_iload_n (pc' := 49) (j := 2) dX10_bestLevel_48 rfl rfl rfl ?_
        refine hz_iload_n (pc' := 50) (j := 3) dX10_bestLevel_49 rfl rfl rfl ?_
        refine hz_cVi (pc' := 53) (av := [.int x1, .int v8.2.2.1, .int x2, .int x3]) (rest := []) vl_X10_342 (fun x w' h => ct_X10_costOf hl h) ga0 rfl rfl (Nat.le_of_ble_eq_true rfl) (by decide) (by decide) rfl dX10_bestLevel_50 rfl (fun v11 w10 => ?_)
        refine hz_istore (pc' := 55) (L' := [(7, .int v11), (0, .ref (B.1 + a0)), (1, .int x1), (2, .int x2), (3, .int x3), (4, .int v8.1), (5, .int v8.2.1), (6, .int v8.2.2.1)]) dX10_bestLevel_53 rfl (by decide) rfl ?_
        refine hz_iload (pc' := 57) (j := 0) dX10_bestLevel_55 rfl rfl ?_
        refine hz_bipush (pc' := 59) (v := (-2)) dX10_bestLevel_57 rfl (by decide) ?_
        refine hz_bindJ (pcJ := 84) (LJ := fun q12 : Int32 × Int32 => [(0, .ref (B.1 + a0)), (1, .int x1), (2, .int x2), (3, .int x3), (4, .int q12.1), (5, .int q12.2), (6, .int v8.2.2.1)]) (stJ := fun q12 : Int32 × Int32 => []) (kJ := 0) (slJ := 0) (nJ := 358) (wJ := fun q12 : Int32 × Int32 => w10) (fun q12 => ?_) (fun hq12 => ?_)
        · refine hz_iincN (pc' := 87) (j := 6) (fun v13 => [(6, .int v13), (0, .ref (B.1 + a0)), (1, .int x1), (2, .int x2), (3, .int x3), (4, .int q12.1), (5, .int q12.2)]) dX10_bestLevel_84 rfl rfl (by decide) (fun _ => rfl) (fun v13 => ?_)
          refine hz_goto (tgt := 39) dX10_bestLevel_87 (by decide) ?_
          exact hz_loc [1, 2, 3, 4, 5, 6, 0] rfl (ihv8 (q12.1, q12.2, v13, w10))
        · refine hz_icmpeq (pc' := 62) (tgt := 84) dX10_bestLevel_59 (by decide) rfl ?_ ?_
          · exact hz_loc [1, 2, 3, 4, 5, 6, 7] rfl (hq12 (v8.1, v8.2.1))
          · refine hz_iload (pc' := 64) (j := 5) dX10_bestLevel_62 rfl rfl ?_
            refine hz_bipush (pc' := 66) (v := (-2)) dX10_bestLevel_64 rfl (by decide) ?_
            refine hz_icmpeq (pc' := 69) (tgt := 76) dX10_bestLevel_66 (by decide) rfl ?_ ?_
            · refine hz_iload (pc' := 78) (j := 7) dX10_bestLevel_76 rfl rfl ?_
              refine hz_istore (pc' := 80) (L' := [(4, .int v8.2.2.1), (7, .int v11), (0, .ref (B.1 + a0)), (1, .int x1), (2, .int x2), (3, .int x3), (5, .int v8.2.1), (6, .int v8.2.2.1)]) dX10_bestLevel_78 rfl (by decide) rfl ?_
              refine hz_iload (pc' := 82) (j := 1) dX10_bestLevel_80 rfl rfl ?_
              refine hz_istore (pc' := 84) (L' := [(5, .int v11), (4, .int v8.2.2.1), (7, .int v11), (0, .ref (B.1 + a0)), (1, .int x1), (2, .int x2), (3, .int x3), (6, .int v8.2.2.1)]) dX10_bestLevel_82 rfl (by decide) rfl ?_
              exact hz_loc [3, 4, 5, 6, 1, 0, 7] rfl (hq12 (v8.2.2.1, v11))
            · refine hz_iload (pc' := 71) (j := 0) dX10_bestLevel_69 rfl rfl ?_
              refine hz_iload (pc' := 73) (j := 6) dX10_bestLevel_71 rfl rfl ?_
              refine hz_icmpge (pc' := 76) (tgt := 84) dX10_bestLevel_73 (by decide) rfl ?_ ?_
              · exact hz_loc [1, 2, 3, 4, 5, 6, 7] rfl (hq12 (v8.1, v8.2.1))
              · refine hz_iload (pc' := 78) (j := 7) dX10_bestLevel_76 rfl rfl ?_
                refine hz_istore (pc' := 80) (L' := [(4, .int v8.2.2.1), (7, .int v11), (0, .ref (B.1 + a0)), (1, .int x1), (2, .int x2), (3, .int x3), (5, .int v8.2.1), (6, .int v8.2.2.1)]) dX10_bestLevel_78 rfl (by decide) rfl ?_
                refine hz_iload (pc' := 82) (j := 1) dX10_bestLevel_80 rfl rfl ?_
                refine hz_istore (pc' := 84) (L' := [(5, .int v11), (4, .int v8.2.2.1), (7, .int v11), (0, .ref (B.1 + a0)), (1, .int x1), (2, .int x2), (3, .int x3), (6, .int v8.2.2.1)]) dX10_bestLevel_82 rfl (by decide) rfl ?_
                exact hz_loc [3, 4, 5, 6, 1, 0, 7] rfl (hq12 (v8.2.2.1, v11))
  · refine hz_iconst (pc' := 21) (v := 0) dX10_bestLevel_20 rfl (by decide) ?_
    exact hz_reti dX10_bestLevel_21 rfl (by decide)
def lp_X10_mixedEnergy_24 (c0 : Nat) (c1 : Int32) (c2 : Int32) (c3 : Int32) : Nat → (Int32 × MW) → Option (MW)
  | 0, _ => none
  | N + 1, v0 => (if c2 < v0.1 then some v0.2 else hz_ldp v0.2 c0 33 358 20 (fun b5 => Option.bind ((if v0.1 = 0 then some 0 else some 1000000000)) (fun q6 : Int32 => hz_sta v0.2 b5 v0.1 q6 (fun w7 => hz_let (v0.1 + Int32.ofInt 1) (fun v8 => lp_X10_mixedEnergy_24 c0 c1 c2 c3 N (v8, w7))))))
def lp_X10_mixedEnergy_92 (c0 : Nat) (c1 : Int32) (c2 : Int32) (c3 : Int32) (c4 : Int32) (c5 : Int32) (cw : MW) : Nat → (Int32 × Int32) → Option (Int32)
  | 0, _ => none
  | N + 1, v0 => hz_ldp cw c0 12 358 20 (fun b12 => hz_lda cw b12 c1 (fun v13 => (if v13 ≤ v0.2 then some v0.1 else hz_ldp cw c0 33 358 20 (fun b14 => hz_ldp cw c0 13 358 20 (fun b15 => hz_lda cw b15 ((5 * c1) + v0.2) (fun v16 => hz_lda cw b14 (if 0 < (c5 - v16) then (c5 - v16) else 0) (fun v17 => hz_ldp cw c0 14 358 20 (fun b18 => hz_lda cw b18 ((5 * c1) + v0.2) (fun v19 => hz_let (if (v17 + v19) < v0.1 then (v17 + v19) else v0.1) (fun v20 => hz_let (v0.2 + Int32.ofInt 1) (fun v21 => lp_X10_mixedEnergy_92 c0 c1 c2 c3 c4 c5 cw N (v20, v21))))))))))))
def lp_X10_mixedEnergy_67 (c0 : Nat) (c1 : Int32) (c2 : Int32) (c3 : Int32) (c4 : Int32) : Nat → (Int32 × MW) → Option (MW)
  | 0, _ => none
  | N + 1, v0 => (if c2 < v0.1 then some v0.2 else hz_ldp v0.2 c0 33 358 20 (fun b7 => hz_lda v0.2 b7 v0.1 (fun v8 => hz_ldp v0.2 c0 9 358 20 (fun b9 => hz_lda v0.2 b9 c1 (fun v10 => hz_let (v8 + v10) (fun v11 => Option.bind (lp_X10_mixedEnergy_92 c0 c1 c2 c3 c4 v0.1 v0.2 3000 (v11, 0)) (fun q13 : Int32 => hz_ldp v0.2 c0 34 358 20 (fun b14 => hz_sta v0.2 b14 v0.1 (if q13 < 1000000000 then q13 else 1000000000) (fun w15 => hz_let (v0.1 + Int32.ofInt 1) (fun v16 => lp_X10_mixedEnergy_67 c0 c1 c2 c3 c4 N (v16, w15)))))))))))
def lp_X10_mixedEnergy_175 (c0 : Nat) (c1 : Int32) (c2 : Int32) (c3 : Int32) (c4 : Int32) : Nat → (Int32 × MW) → Option (MW)
  | 0, _ => none
  | N + 1, v0 => (if c2 < v0.1 then some v0.2 else hz_ldp v0.2 c0 33 358 20 (fun b9 => hz_ldp v0.2 c0 34 358 20 (fun b10 => hz_lda v0.2 b10 v0.1 (fun v11 => hz_sta v0.2 b9 v0.1 v11 (fun w12 => hz_let (v0.1 + Int32.ofInt 1) (fun v13 => lp_X10_mixedEnergy_175 c0 c1 c2 c3 c4 N (v13, w12)))))))
def lp_X10_mixedEnergy_58 (c0 : Nat) (c1 : Int32) (c2 : Int32) (c3 : Int32) : Nat → (Int32 × MW) → Option (MW)
  | 0, _ => none
  | N + 1, v0 => (if c3 ≤ v0.1 then some v0.2 else Option.bind (lp_X10_mixedEnergy_67 c0 c1 c2 c3 v0.1 3000 (0, v0.2)) (fun q8 : MW => Option.bind (lp_X10_mixedEnergy_175 c0 c1 c2 c3 v0.1 3000 (0, q8)) (fun q10 : MW => hz_let (v0.1 + Int32.ofInt 1) (fun v11 => lp_X10_mixedEnergy_58 c0 c1 c2 c3 N (v11, q10)))))
def f_X10_mixedEnergy (a0 : Nat) (x1 : Int32) (x2 : Int32) (x3 : Int32) (w : MW) : Option (Int32 × MW) :=
  hz_gd (hz_g 358 a0 11) (hz_b (f_X10_isTask a0 x1 x2 500 x3 100 w) (fun v2 w1 => hz_b (f_X10_isWrong a0 v2 w1) (fun v4 w3 => (if v4 = 0 then Option.bind (lp_X10_mixedEnergy_24 a0 x1 x2 x3 3000 (0, w3)) (fun q6 : MW => Option.bind (lp_X10_mixedEnergy_58 a0 x1 x2 x3 3000 (0, q6)) (fun q8 : MW => hz_ldp q8 a0 33 358 20 (fun b9 => hz_lda q8 b9 x2 (fun v10 => Option.bind ((if v10 = 1000000000 then some (-2) else hz_ldp q8 a0 33 358 20 (fun b12 => hz_lda q8 b12 x2 (fun v13 => some v13)))) (fun q11 : Int32 => some (q11, q8)))))) else some (0, w3)))))
set_option maxHeartbeats 4000000 in
set_option maxRecDepth 100000 in
theorem ct_X10_mixedEnergy {l : Launch} (hl : l.stackTraces = false) {B : Bt} {a0 : Nat} {x1 : Int32} {x2 : Int32} {x3 : Int32} {w : MW} {r : Int32 × MW} (h : f_X10_mixedEnergy a0 x1 x2 x3 w = some r) : hz_Met l B false 358 358 yX10_mixedEnergy cX10_mixedEnergy 8 (Option.some FieldType.int) 5 0 0 [.ref (B.1 + a0), .int x1, .int x2, .int x3] w (some (.int r.1)) r.2 := by
  refine hz_ofJ (rv := (fun r : Int32 × MW => some (.int r.1))) (wo := (fun r : Int32 × MW => r.2)) (own := RX10) (ini := false) hl (by decide) rfl (Or.inr rfl) (Nat.le_of_ble_eq_true rfl) rfl ?_ h
  intro p e s m args below meth c
  unfold f_X10_mixedEnergy
  refine hz_gdr (fun ga0 => ?_)
  refine hz_aload_n (pc' := 1) (j := 0) dX10_mixedEnergy_0 rfl rfl rfl ?_
  refine hz_aload_n (pc' := 2) (j := 0) dX10_mixedEnergy_1 rfl rfl rfl ?_
  refine hz_iload_n (pc' := 3) (j := 1) dX10_mixedEnergy_2 rfl rfl rfl ?_
  refine hz_iload_n (pc' := 4) (j := 2) dX10_mixedEnergy_3 rfl rfl rfl ?_
  refine hz_sipush (pc' := 7) (v := 500) dX10_mixedEnergy_4 rfl (by decide) ?_
  refine hz_iload_n (pc' := 8) (j := 3) dX10_mixedEnergy_7 rfl rfl rfl ?_
  refine hz_bipush (pc' := 10) (v := 100) dX10_mixedEnergy_8 rfl (by decide) ?_
  refine hz_cVi (pc' := 13) (av := [.int x1, .int x2, .int 500, .int x3, .int 100]) (rest := [.ref (B.1 + a0)]) vl_X10_338 (fun x w' h => ct_X10_isTask hl h) ga0 rfl rfl (Nat.le_of_ble_eq_true rfl) (by decide) (by decide) rfl dX10_mixedEnergy_10 rfl (fun v2 w1 => ?_)
  refine hz_cVi (pc' := 16) (av := [.int v2]) (rest := []) vl_X10_207 (fun x w' h => ct_X10_isWrong hl h) ga0 rfl rfl (Nat.le_of_ble_eq_true rfl) (by decide) (by decide) rfl dX10_mixedEnergy_13 rfl (fun v4 w3 => ?_)
  refine hz_ifeq (pc' := 19) (tgt := 21) dX10_mixedEnergy_16 (by decide) rfl ?_ ?_
  · refine hz_iconst (pc' := 22) (v := 0) dX10_mixedEnergy_21 rfl (by decide) ?_
    refine hz_istore (pc' := 24) (L' := [(4, .int 0), (0, .ref (B.1 + a0)), (1, .int x1), (2, .int x2), (3, .int x3)]) dX10_mixedEnergy_22 rfl (by decide) rfl ?_
    refine hz_bindJ (pcJ := 55) (LJ := fun q6 : MW => [(0, .ref (B.1 + a0)), (1, .int x1), (2, .int x2), (3, .int x3)]) (stJ := fun _ => []) (kJ := 0) (slJ := 0) (nJ := 358) (wJ := fun q6 : MW => q6) (fun q6 => ?_) (fun hq6 => ?_)
    · refine hz_iconst (pc' := 56) (v := 0) dX10_mixedEnergy_55 rfl (by decide) ?_
      refine hz_istore (pc' := 58) (L' := [(4, .int 0), (0, .ref (B.1 + a0)), (1, .int x1), (2, .int x2), (3, .int x3)]) dX10_mixedEnergy_56 rfl (by decide) rfl ?_
      refine hz_bindJ (pcJ := 207) (LJ := fun q8 : MW => [(0, .ref (B.1 + a0)), (2, .int x2)]) (stJ := fun _ => []) (kJ := 0) (slJ := 0) (nJ := 358) (wJ := fun q8 : MW => q8) (fun q8 => ?_) (fun hq8 => ?_)
      · refine hz_aload_n (pc' := 208) (j := 0) dX10_mixedEnergy_207 rfl rfl rfl ?_
        refine hz_gP (pc' := 211) (c' := 20) fl_X10_62.r ga0 rfl dX10_mixedEnergy_208 rfl (fun b9 gb9 => ?_)
        refine hz_iload_n (pc' := 212) (j := 1) dX10_mixedEnergy_211 rfl rfl rfl ?_
        refine hz_iald (pc' := 213) gb9 dX10_mixedEnergy_212 rfl (fun v10 => ?_)
        refine hz_ldcw (pc' := 216) (v := 1000000000) dX10_mixedEnergy_213 rfl hq_1680 ?_
        refine hz_bindJ (pcJ := 230) (LJ := fun q11 : Int32 => []) (stJ := fun q11 : Int32 => [.int q11]) (kJ := 0) (slJ := 0) (nJ := 358) (wJ := fun q11 : Int32 => q8) (fun q11 => ?_) (fun hq11 => ?_)
        · exact hz_reti dX10_mixedEnergy_230 rfl (by decide)
        · refine hz_icmpne (pc' := 219) (tgt := 224) dX10_mixedEnergy_216 (by decide) rfl ?_ ?_
          · refine hz_aload_n (pc' := 225) (j := 0) dX10_mixedEnergy_224 rfl rfl rfl ?_
            refine hz_gP (pc' := 228) (c' := 20) fl_X10_62.r ga0 rfl dX10_mixedEnergy_225 rfl (fun b12 gb12 => ?_)
            refine hz_iload_n (pc' := 229) (j := 1) dX10_mixedEnergy_228 rfl rfl rfl ?_
            refine hz_iald (pc' := 230) gb12 dX10_mixedEnergy_229 rfl (fun v13 => ?_)
            exact hz_loc [] rfl (hq11 v13)
          · refine hz_bipush (pc' := 221) (v := (-2)) dX10_mixedEnergy_219 rfl (by decide) ?_
            refine hz_goto (tgt := 230) dX10_mixedEnergy_221 (by decide) ?_
            exact hz_loc [] rfl (hq11 (-2))
      · refine hz_loc [1, 2, 3, 4, 0] rfl (hz_loopJ (lp := lp_X10_mixedEnergy_58 a0 x1 x2 x3) (Lh := fun v7 : Int32 × MW => [(0, .ref (B.1 + a0)), (1, .int x1), (2, .int x2), (3, .int x3), (4, .int v7.1)]) (wh := fun v7 : Int32 × MW => v7.2) (fun _ => rfl) (fun Nv7 ihv7 v7 => ?_) 3000 (0, q6))
        rw [lp_X10_mixedEnergy_58]
        refine hz_iload (pc' := 60) (j := 4) dX10_mixedEnergy_58 rfl rfl ?_
        refine hz_iload_n (pc' := 61) (j := 3) dX10_mixedEnergy_60 rfl rfl rfl ?_
        refine hz_icmpge (pc' := 64) (tgt := 207) dX10_mixedEnergy_61 (by decide) rfl ?_ ?_
        · exact hz_loc [0, 2] rfl (hq8 v7.2)
        · refine hz_iconst (pc' := 65) (v := 0) dX10_mixedEnergy_64 rfl (by decide) ?_
          refine hz_istore (pc' := 67) (L' := [(5, .int 0), (0, .ref (B.1 + a0)), (1, .int x1), (2, .int x2), (3, .int x3), (4, .int v7.1)]) dX10_mixedEnergy_65 rfl (by decide) rfl ?_
          refine hz_bindJ (pcJ := 172) (LJ := fun q15 : MW => [(0, .ref (B.1 + a0)), (1, .int x1), (2, .int x2), (3, .int x3), (4, .int v7.1)]) (stJ := fun _ => []) (kJ := 0) (slJ := 0) (nJ := 358) (wJ := fun q15 : MW => q15) (fun q15 => ?_) (fun hq15 => ?_)
          · refine hz_iconst (pc' := 173) (v := 0) dX10_mixedEnergy_172 rfl (by decide) ?_
            refine hz_istore (pc' := 175) (L' := [(5, .int 0), (0, .ref (B.1 + a0)), (1, .int x1), (2, .int x2), (3, .int x3), (4, .int v7.1)]) dX10_mixedEnergy_173 rfl (by decide) rfl ?_
            refine hz_bindJ (pcJ := 201) (LJ := fun q17 : MW => [(0, .ref (B.1 + a0)), (1, .int x1), (2, .int x2), (3, .int x3), (4, .int v7.1)]) (stJ := fun _ => []) (kJ := 0) (slJ := 0) (nJ := 358) (wJ := fun q17 : MW => q17) (fun q17 => ?_) (fun hq17 => ?_)
            · refine hz_iincN (pc' := 204) (j := 4) (fun v18 => [(4, .int v18), (0, .ref (B.1 + a0)), (1, .int x1), (2, .int x2), (3, .int x3)]) dX10_mixedEnergy_201 rfl rfl (by decide) (fun _ => rfl) (fun v18 => ?_)
              refine hz_goto (tgt := 58) dX10_mixedEnergy_204 (by decide) ?_
              exact hz_loc [1, 2, 3, 4, 0] rfl (ihv7 (v18, q17))
            · refine hz_loc [1, 2, 3, 4, 5, 0] rfl (hz_loopJ (lp := lp_X10_mixedEnergy_175 a0 x1 x2 x3 v7.1) (Lh := fun v16 : Int32 × MW => [(0, .ref (B.1 + a0)), (1, .int x1), (2, .int x2), (3, .int x3), (4, .int v7.1), (5, .int v16.1)]) (wh := fun v16 : Int32 × MW => v16.2) (fun _ => rfl) (fun Nv16 ihv16 v16 => ?_) 3000 (0, q15))
              rw [lp_X10_mixedEnergy_175]
              refine hz_iload (pc' := 177) (j := 5) dX10_mixedEnergy_175 rfl rfl ?_
              refine hz_iload_n (pc' := 178) (j := 2) dX10_mixedEnergy_177 rfl rfl rfl ?_
              refine hz_icmpgt (pc' := 181) (tgt := 201) dX10_mixedEnergy_178 (by decide) rfl ?_ ?_
              · exact hz_loc [0, 1, 2, 3, 4] rfl (hq17 v16.2)
              · refine hz_aload_n (pc' := 182) (j := 0) dX10_mixedEnergy_181 rfl rfl rfl ?_
                refine hz_gP (pc' := 185) (c' := 20) fl_X10_62.r ga0 rfl dX10_mixedEnergy_182 rfl (fun b19 gb19 => ?_)
                refine hz_iload (pc' := 187) (j := 5) dX10_mixedEnergy_185 rfl rfl ?_
                refine hz_aload_n (pc' := 188) (j := 0) dX10_mixedEnergy_187 rfl rfl rfl ?_
                refine hz_gP (pc' := 191) (c' := 20) fl_X10_65.r ga0 rfl dX10_mixedEnergy_188 rfl (fun b20 gb20 => ?_)
                refine hz_iload (pc' := 193) (j := 5) dX10_mixedEnergy_191 rfl rfl ?_
                refine hz_iald (pc' := 194) gb20 dX10_mixedEnergy_193 rfl (fun v21 => ?_)
                refine hz_iast (pc' := 195) gb19 dX10_mixedEnergy_194 rfl (fun w22 => ?_)
                refine hz_iincN (pc' := 198) (j := 5) (fun v23 => [(5, .int v23), (0, .ref (B.1 + a0)), (1, .int x1), (2, .int x2), (3, .int x3), (4, .int v7.1)]) dX10_mixedEnergy_195 rfl rfl (by decide) (fun _ => rfl) (fun v23 => ?_)
                refine hz_goto (tgt := 175) dX10_mixedEnergy_198 (by decide) ?_
                exact hz_loc [1, 2, 3, 4, 5, 0] rfl (ihv16 (v23, w22))
          · refine hz_loc [1, 2, 3, 4, 5, 0] rfl (hz_loopJ (lp := lp_X10_mixedEnergy_67 a0 x1 x2 x3 v7.1) (Lh := fun v14 : Int32 × MW => [(0, .ref (B.1 + a0)), (1, .int x1), (2, .int x2), (3, .int x3), (4, .int v7.1), (5, .int v14.1)]) (wh := fun v14 : Int32 × MW => v14.2) (fun _ => rfl) (fun Nv14 ihv14 v14 => ?_) 3000 (0, v7.2))
            rw [lp_X10_mixedEnergy_67]
            refine hz_iload (pc' := 69) (j := 5) dX10_mixedEnergy_67 rfl rfl ?_
            refine hz_iload_n (pc' := 70) (j := 2) dX10_mixedEnergy_69 rfl rfl rfl ?_
            refine hz_icmpgt (pc' := 73) (tgt := 172) dX10_mixedEnergy_70 (by decide) rfl ?_ ?_
            · exact hz_loc [0, 1, 2, 3, 4] rfl (hq15 v14.2)
            · refine hz_aload_n (pc' := 74) (j := 0) dX10_mixedEnergy_73 rfl rfl rfl ?_
              refine hz_gP (pc' := 77) (c' := 20) fl_X10_62.r ga0 rfl dX10_mixedEnergy_74 rfl (fun b24 gb24 => ?_)
              refine hz_iload (pc' := 79) (j := 5) dX10_mixedEnergy_77 rfl rfl ?_
              refine hz_iald (pc' := 80) gb24 dX10_mixedEnergy_79 rfl (fun v25 => ?_)
              refine hz_aload_n (pc' := 81) (j := 0) dX10_mixedEnergy_80 rfl rfl rfl ?_
              refine hz_gP (pc' := 84) (c' := 20) fl_X10_25.r ga0 rfl dX10_mixedEnergy_81 rfl (fun b26 gb26 => ?_)
              refine hz_iload_n (pc' := 85) (j := 1) dX10_mixedEnergy_84 rfl rfl rfl ?_
              refine hz_iald (pc' := 86) gb26 dX10_mixedEnergy_85 rfl (fun v27 => ?_)
              refine hz_iadd (pc' := 87) dX10_mixedEnergy_86 rfl ?_
              refine hz_nameI (fun v28 => ?_)
              refine hz_istore (pc' := 89) (L' := [(6, .int v28), (0, .ref (B.1 + a0)), (1, .int x1), (2, .int x2), (3, .int x3), (4, .int v7.1), (5, .int v14.1)]) dX10_mixedEnergy_87 rfl (by decide) rfl ?_
              refine hz_iconst (pc' := 90) (v := 0) dX10_mixedEnergy_89 rfl (by decide) ?_
              refine hz_istore (pc' := 92) (L' := [(7, .int 0), (6, .int v28), (0, .ref (B.1 + a0)), (1, .int x1), (2, .int x2), (3, .int x3), (4, .int v7.1), (5, .int v14.1)]) dX10_mixedEnergy_90 rfl (by decide) rfl ?_
              refine hz_bindJ (pcJ := 151) (LJ := fun q30 : Int32 => [(0, .ref (B.1 + a0)), (1, .int x1), (2, .int x2), (3, .int x3), (4, .int v7.1), (5, .int v14.1), (6, .int q30)]) (stJ := fun _ => []) (kJ := 0) (slJ := 0) (nJ := 358) (wJ := fun q30 : Int32 => v14.2) (fun q30 => ?_) (fun hq30 => ?_)
              · refine hz_aload_n (pc' := 152) (j := 0) dX10_mixedEnergy_151 rfl rfl rfl ?_
                refine hz_gP (pc' := 155) (c' := 20) fl_X10_65.r ga0 rfl dX10_mixedEnergy_152 rfl (fun b31 gb31 => ?_)
                refine hz_iload (pc' := 157) (j := 5) dX10_mixedEnergy_155 rfl rfl ?_
                refine hz_ldcw (pc' := 160) (v := 1000000000) dX10_mixedEnergy_157 rfl hq_1680 ?_
                refine hz_iload (pc' := 162) (j := 6) dX10_mixedEnergy_160 rfl rfl ?_
                refine hz_mmin (pc' := 165) hq_1411 hq_422 hq_17 hq_423 ⟨Nat.le_of_ble_eq_true rfl, Nat.le_of_ble_eq_true rfl⟩ (by decide) dX10_mixedEnergy_162 rfl ?_
                refine hz_iast (pc' := 166) gb31 dX10_mixedEnergy_165 rfl (fun w32 => ?_)
                refine hz_iincN (pc' := 169) (j := 5) (fun v33 => [(5, .int v33), (0, .ref (B.1 + a0)), (1, .int x1), (2, .int x2), (3, .int x3), (4, .int v7.1), (6, .int q30)]) dX10_mixedEnergy_166 rfl rfl (by decide) (fun _ => rfl) (fun v33 => ?_)
                refine hz_goto (tgt := 67) dX10_mixedEnergy_169 (by decide) ?_
                exact hz_loc [1, 2, 3, 4, 5, 0] rfl (ihv14 (v33, w32))
              · refine hz_loc [2, 3, 4, 5, 6, 7, 1, 0] rfl (hz_loopJ (lp := lp_X10_mixedEnergy_92 a0 x1 x2 x3 v7.1 v14.1 v14.2) (Lh := fun v29 : Int32 × Int32 => [(0, .ref (B.1 + a0)), (1, .int x1), (2, .int x2), (3, .int x3), (4, .int v7.1), (5, .int v14.1), (6, .int v29.1), (7, .int v29.2)]) (wh := fun v29 : Int32 × Int32 => v14.2) (fun _ => rfl) (fun Nv29 ihv29 v29 => ?_) 3000 (v28, 0))
                rw [lp_X10_mixedEnergy_92]
                refine hz_iload (pc' := 94) (j := 7) dX10_mixedEnergy_92 rfl rfl ?_
                refine hz_aload_n (pc' := 95) (j := 0) dX10_mixedEnergy_94 rfl rfl rfl ?_
                refine hz_gP (pc' := 98) (c' := 20) fl_X10_34.r ga0 rfl dX10_mixedEnergy_95 rfl (fun b34 gb34 => ?_)
                refine hz_iload_n (pc' := 99) (j := 1) dX10_mixedEnergy_98 rfl rfl rfl ?_
                refine hz_iald (pc' := 100) gb34 dX10_mixedEnergy_99 rfl (fun v35 => ?_)
                refine hz_icmpge (pc' := 103) (tgt := 151) dX10_mixedEnergy_100 (by decide) rfl ?_ ?_
                · exact hz_loc [0, 1, 2, 3, 4, 5, 6] rfl (hq30 v29.1)
                · refine hz_iload (pc' := 105) (j := 6) dX10_mixedEnergy_103 rfl rfl ?_
                  refine hz_aload_n (pc' := 106) (j := 0) dX10_mixedEnergy_105 rfl rfl rfl ?_
                  refine hz_gP (pc' := 109) (c' := 20) fl_X10_62.r ga0 rfl dX10_mixedEnergy_106 rfl (fun b36 gb36 => ?_)
                  refine hz_iconst (pc' := 110) (v := 0) dX10_mixedEnergy_109 rfl (by decide) ?_
                  refine hz_iload (pc' := 112) (j := 5) dX10_mixedEnergy_110 rfl rfl ?_
                  refine hz_aload_n (pc' := 113) (j := 0) dX10_mixedEnergy_112 rfl rfl rfl ?_
                  refine hz_gP (pc' := 116) (c' := 20) fl_X10_37.r ga0 rfl dX10_mixedEnergy_113 rfl (fun b37 gb37 => ?_)
                  refine hz_iconst (pc' := 117) (v := 5) dX10_mixedEnergy_116 rfl (by decide) ?_
                  refine hz_iload_n (pc' := 118) (j := 1) dX10_mixedEnergy_117 rfl rfl rfl ?_
                  refine hz_imul (pc' := 119) dX10_mixedEnergy_118 rfl ?_
                  refine hz_iload (pc' := 121) (j := 7) dX10_mixedEnergy_119 rfl rfl ?_
                  refine hz_iadd (pc' := 122) dX10_mixedEnergy_121 rfl ?_
                  refine hz_iald (pc' := 123) gb37 dX10_mixedEnergy_122 rfl (fun v38 => ?_)
                  refine hz_isub (pc' := 124) dX10_mixedEnergy_123 rfl ?_
                  refine hz_mmax (pc' := 127) hq_1526 hq_824 hq_17 hq_825 ⟨Nat.le_of_ble_eq_true rfl, Nat.le_of_ble_eq_true rfl⟩ (by decide) dX10_mixedEnergy_124 rfl ?_
                  refine hz_iald (pc' := 128) gb36 dX10_mixedEnergy_127 rfl (fun v39 => ?_)
                  refine hz_aload_n (pc' := 129) (j := 0) dX10_mixedEnergy_128 rfl rfl rfl ?_
                  refine hz_gP (pc' := 132) (c' := 20) fl_X10_40.r ga0 rfl dX10_mixedEnergy_129 rfl (fun b40 gb40 => ?_)
                  refine hz_iconst (pc' := 133) (v := 5) dX10_mixedEnergy_132 rfl (by decide) ?_
                  refine hz_iload_n (pc' := 134) (j := 1) dX10_mixedEnergy_133 rfl rfl rfl ?_
                  refine hz_imul (pc' := 135) dX10_mixedEnergy_134 rfl ?_
                  refine hz_iload (pc' := 137) (j := 7) dX10_mixedEnergy_135 rfl rfl ?_
                  refine hz_iadd (pc' := 138) dX10_mixedEnergy_137 rfl ?_
                  refine hz_iald (pc' := 139) gb40 dX10_mixedEnergy_138 rfl (fun v41 => ?_)
                  refine hz_iadd (pc' := 140) dX10_mixedEnergy_139 rfl ?_
                  refine hz_mmin (pc' := 143) hq_1411 hq_422 hq_17 hq_423 ⟨Nat.le_of_ble_eq_true rfl, Nat.le_of_ble_eq_true rfl⟩ (by decide) dX10_mixedEnergy_140 rfl ?_
                  refine hz_nameI (fun v42 => ?_)
                  refine hz_istore (pc' := 145) (L' := [(6, .int v42), (0, .ref (B.1 + a0)), (1, .int x1), (2, .int x2), (3, .int x3), (4, .int v7.1), (5, .int v14.1), (7, .int v29.2)]) dX10_mixedEnergy_143 rfl (by decide) rfl ?_
                  refine hz_iincN (pc' := 148) (j := 7) (fun v43 => [(7, .int v43), (6, .int v42), (0, .ref (B.1 + a0)), (1, .int x1), (2, .int x2), (3, .int x3), (4, .int v7.1), (5, .int v14.1)]) dX10_mixedEnergy_145 rfl rfl (by decide) (fun _ => rfl) (fun v43 => ?_)
                  refine hz_goto (tgt := 92) dX10_mixedEnergy_148 (by decide) ?_
                  exact hz_loc [2, 3, 4, 5, 6, 7, 1, 0] rfl (ihv29 (v42, v43))
    · refine hz_loc [1, 2, 3, 4, 0] rfl (hz_loopJ (lp := lp_X10_mixedEnergy_24 a0 x1 x2 x3) (Lh := fun v5 : Int32 × MW => [(0, .ref (B.1 + a0)), (1, .int x1), (2, .int x2), (3, .int x3), (4, .int v5.1)]) (wh := fun v5 : Int32 × MW => v5.2) (fun _ => rfl) (fun Nv5 ihv5 v5 => ?_) 3000 (0, w3))
      rw [lp_X10_mixedEnergy_24]
      refine hz_iload (pc' := 26) (j := 4) dX10_mixedEnergy_24 rfl rfl ?_
      refine hz_iload_n (pc' := 27) (j := 2) dX10_mixedEnergy_26 rfl rfl rfl ?_
      refine hz_icmpgt (pc' := 30) (tgt := 55) dX10_mixedEnergy_27 (by decide) rfl ?_ ?_
      · exact hz_loc [0, 1, 2, 3] rfl (hq6 v5.2)
      · refine hz_aload_n (pc' := 31) (j := 0) dX10_mixedEnergy_30 rfl rfl rfl ?_
        refine hz_gP (pc' := 34) (c' := 20) fl_X10_62.r ga0 rfl dX10_mixedEnergy_31 rfl (fun b44 gb44 => ?_)
        refine hz_iload (pc' := 36) (j := 4) dX10_mixedEnergy_34 rfl rfl ?_
        refine hz_iload (pc' := 38) (j := 4) dX10_mixedEnergy_36 rfl rfl ?_
        refine hz_bindJ (pcJ := 48) (LJ := fun q45 : Int32 => [(0, .ref (B.1 + a0)), (1, .int x1), (2, .int x2), (3, .int x3), (4, .int v5.1)]) (stJ := fun q45 : Int32 => [.int q45, .int v5.1, .ref (B.1 + b44)]) (kJ := 0) (slJ := 0) (nJ := 358) (wJ := fun q45 : Int32 => v5.2) (fun q45 => ?_) (fun hq45 => ?_)
        · refine hz_iast (pc' := 49) gb44 dX10_mixedEnergy_48 rfl (fun w46 => ?_)
          refine hz_iincN (pc' := 52) (j := 4) (fun v47 => [(4, .int v47), (0, .ref (B.1 + a0)), (1, .int x1), (2, .int x2), (3, .int x3)]) dX10_mixedEnergy_49 rfl rfl (by decide) (fun _ => rfl) (fun v47 => ?_)
          refine hz_goto (tgt := 24) dX10_mixedEnergy_52 (by decide) ?_
          exact hz_loc [1, 2, 3, 4, 0] rfl (ihv5 (v47, w46))
        · refine hz_ifne (pc' := 41) (tgt := 45) dX10_mixedEnergy_38 (by decide) rfl ?_ ?_
          · refine hz_ldcw (pc' := 48) (v := 1000000000) dX10_mixedEnergy_45 rfl hq_1680 ?_
            exact hz_loc [0, 1, 2, 3, 4] rfl (hq45 1000000000)
          · refine hz_iconst (pc' := 42) (v := 0) dX10_mixedEnergy_41 rfl (by decide) ?_
            refine hz_goto (tgt := 48) dX10_mixedEnergy_42 (by decide) ?_
            exact hz_loc [0, 1, 2, 3, 4] rfl (hq45 0)
  · refine hz_iconst (pc' := 20) (v := 0) dX10_mixedEnergy_19 rfl (by decide) ?_
    exact hz_reti dX10_mixedEnergy_20 rfl (by decide)
def f_X10_fromOf (a0 : Nat) (x1 : Int32) (w : MW) : Option (Int32 × MW) :=
  hz_gd (hz_g 358 a0 11) (hz_ldp w a0 0 358 20 (fun b1 => hz_lda w b1 0 (fun v2 => hz_b (f_X10_ofJob a0 x1 2 w) (fun v4 w3 => some ((if v2 < v4 then v4 else v2), w3)))))
set_option maxHeartbeats 4000000 in
set_option maxRecDepth 100000 in
theorem ct_X10_fromOf {l : Launch} (hl : l.stackTraces = false) {B : Bt} {a0 : Nat} {x1 : Int32} {w : MW} {r : Int32 × MW} (h : f_X10_fromOf a0 x1 w = some r) : hz_Met l B false 358 358 yX10_fromOf cX10_fromOf 2 (Option.some FieldType.int) 3 0 0 [.ref (B.1 + a0), .int x1] w (some (.int r.1)) r.2 := by
  refine hz_ofJ (rv := (fun r : Int32 × MW => some (.int r.1))) (wo := (fun r : Int32 × MW => r.2)) (own := RX10) (ini := false) hl (by decide) rfl (Or.inr rfl) (Nat.le_of_ble_eq_true rfl) rfl ?_ h
  intro p e s m args below meth c
  unfold f_X10_fromOf
  refine hz_gdr (fun ga0 => ?_)
  refine hz_aload_n (pc' := 1) (j := 0) dX10_fromOf_0 rfl rfl rfl ?_
  refine hz_gP (pc' := 4) (c' := 20) fl_X10_7.r ga0 rfl dX10_fromOf_1 rfl (fun b1 gb1 => ?_)
  refine hz_iconst (pc' := 5) (v := 0) dX10_fromOf_4 rfl (by decide) ?_
  refine hz_iald (pc' := 6) gb1 dX10_fromOf_5 rfl (fun v2 => ?_)
  refine hz_aload_n (pc' := 7) (j := 0) dX10_fromOf_6 rfl rfl rfl ?_
  refine hz_iload_n (pc' := 8) (j := 1) dX10_fromOf_7 rfl rfl rfl ?_
  refine hz_iconst (pc' := 9) (v := 2) dX10_fromOf_8 rfl (by decide) ?_
  refine hz_cVi (pc' := 12) (av := [.int x1, .int 2]) (rest := [.int v2]) vl_X10_211 (fun x w' h => ct_X10_ofJob hl h) ga0 rfl rfl (Nat.le_of_ble_eq_true rfl) (by decide) (by decide) rfl dX10_fromOf_9 rfl (fun v4 w3 => ?_)
  refine hz_mmax (pc' := 15) hq_1526 hq_824 hq_17 hq_825 ⟨Nat.le_of_ble_eq_true rfl, Nat.le_of_ble_eq_true rfl⟩ (by decide) dX10_fromOf_12 rfl ?_
  exact hz_reti dX10_fromOf_15 rfl (by decide)
def f_X10_toOf (a0 : Nat) (x1 : Int32) (w : MW) : Option (Int32 × MW) :=
  hz_gd (hz_g 358 a0 11) (hz_ldp w a0 0 358 20 (fun b1 => hz_lda w b1 0 (fun v2 => hz_b (f_X10_ofJob a0 x1 2 w) (fun v4 w3 => hz_b (f_X10_ofJob a0 x1 3 w3) (fun v6 w5 => some ((if v2 < (v4 + v6) then (v4 + v6) else v2), w5))))))
set_option maxHeartbeats 4000000 in
set_option maxRecDepth 100000 in
theorem ct_X10_toOf {l : Launch} (hl : l.stackTraces = false) {B : Bt} {a0 : Nat} {x1 : Int32} {w : MW} {r : Int32 × MW} (h : f_X10_toOf a0 x1 w = some r) : hz_Met l B false 358 358 yX10_toOf cX10_toOf 2 (Option.some FieldType.int) 3 0 0 [.ref (B.1 + a0), .int x1] w (some (.int r.1)) r.2 := by
  refine hz_ofJ (rv := (fun r : Int32 × MW => some (.int r.1))) (wo := (fun r : Int32 × MW => r.2)) (own := RX10) (ini := false) hl (by decide) rfl (Or.inr rfl) (Nat.le_of_ble_eq_true rfl) rfl ?_ h
  intro p e s m args below meth c
  unfold f_X10_toOf
  refine hz_gdr (fun ga0 => ?_)
  refine hz_aload_n (pc' := 1) (j := 0) dX10_toOf_0 rfl rfl rfl ?_
  refine hz_gP (pc' := 4) (c' := 20) fl_X10_7.r ga0 rfl dX10_toOf_1 rfl (fun b1 gb1 => ?_)
  refine hz_iconst (pc' := 5) (v := 0) dX10_toOf_4 rfl (by decide) ?_
  refine hz_iald (pc' := 6) gb1 dX10_toOf_5 rfl (fun v2 => ?_)
  refine hz_aload_n (pc' := 7) (j := 0) dX10_toOf_6 rfl rfl rfl ?_
  refine hz_iload_n (pc' := 8) (j := 1) dX10_toOf_7 rfl rfl rfl ?_
  refine hz_iconst (pc' := 9) (v := 2) dX10_toOf_8 rfl (by decide) ?_
  refine hz_cVi (pc' := 12) (av := [.int x1, .int 2]) (rest := [.int v2]) vl_X10_211 (fun x w' h => ct_X10_ofJob hl h) ga0 rfl rfl (Nat.le_of_ble_eq_true rfl) (by decide) (by decide) rfl dX10_toOf_9 rfl (fun v4 w3 => ?_)
  refine hz_aload_n (pc' := 13) (j := 0) dX10_toOf_12 rfl rfl rfl ?_
  refine hz_iload_n (pc' := 14) (j := 1) dX10_toOf_13 rfl rfl rfl ?_
  refine hz_iconst (pc' := 15) (v := 3) dX10_toOf_14 rfl (by decide) ?_
  refine hz_cVi (pc' := 18) (av := [.int x1, .int 3]) (rest := [.int v4, .int v2]) vl_X10_211 (fun x w' h => ct_X10_ofJob hl h) ga0 rfl rfl (Nat.le_of_ble_eq_true rfl) (by decide) (by decide) rfl dX10_toOf_15 rfl (fun v6 w5 => ?_)
  refine hz_iadd (pc' := 19) dX10_toOf_18 rfl ?_
  refine hz_mmax (pc' := 22) hq_1526 hq_824 hq_17 hq_825 ⟨Nat.le_of_ble_eq_true rfl, Nat.le_of_ble_eq_true rfl⟩ (by decide) dX10_toOf_19 rfl ?_
  exact hz_reti dX10_toOf_22 rfl (by decide)
def lp_X10_firstEnd_5 (c0 : Nat) (c1 : Int32) (c2 : Int32) : Nat → (Int32 × Int32 × MW) → Option (Int32 × MW)
  | 0, _ => none
  | N + 1, v0 => hz_ldp v0.2.2 c0 0 358 20 (fun b1 => hz_lda v0.2.2 b1 2 (fun v2 => (if v2 ≤ v0.2.1 then some (v0.1, v0.2.2) else hz_b (f_X10_ofJob c0 v0.2.1 0 v0.2.2) (fun v4 w3 => Option.bind ((if v4 = c1 then hz_b (f_X10_ofJob c0 v0.2.1 7 w3) (fun v13 w12 => (if v13 = 0 then (if (((c2 : Int32) >>> (v0.2.1 &&& 31)) &&& 1) = 0 then some (1, w12) else some (0, w12)) else some (0, w12))) else some (0, w3))) (fun q5 : Int32 × MW => Option.bind ((if q5.1 = 0 then some (v0.1, q5.2) else (if v0.1 = (-1) then some (v0.2.1, q5.2) else hz_b (f_X10_toOf c0 v0.2.1 q5.2) (fun v9 w8 => hz_b (f_X10_toOf c0 v0.1 w8) (fun v11 w10 => (if v11 ≤ v9 then some (v0.1, w10) else some (v0.2.1, w10))))))) (fun q6 : Int32 × MW => hz_let (v0.2.1 + Int32.ofInt 1) (fun v7 => lp_X10_firstEnd_5 c0 c1 c2 N (q6.1, v7, q6.2))))))))
def f_X10_firstEnd (a0 : Nat) (x1 : Int32) (x2 : Int32) (w : MW) : Option (Int32 × MW) :=
  hz_gd (hz_g 358 a0 11) (Option.bind (lp_X10_firstEnd_5 a0 x1 x2 3000 ((-1), 0, w)) (fun q2 : Int32 × MW => some (q2.1, q2.2)))
set_option maxHeartbeats 4000000 in
set_option maxRecDepth 100000 in
theorem ct_X10_firstEnd {l : Launch} (hl : l.stackTraces = false) {B : Bt} {a0 : Nat} {x1 : Int32} {x2 : Int32} {w : MW} {r : Int32 × MW} (h : f_X10_firstEnd a0 x1 x2 w = some r) : hz_Met l B false 358 358 yX10_firstEnd cX10_firstEnd 6 (Option.some FieldType.int) 4 0 0 [.ref (B.1 + a0), .int x1, .int x2] w (some (.int r.1)) r.2 := by
  refine hz_ofJ (rv := (fun r : Int32 × MW => some (.int r.1))) (wo := (fun r : Int32 × MW => r.2)) (own := RX10) (ini := false) hl (by decide) rfl (Or.inr rfl) (Nat.le_of_ble_eq_true rfl) rfl ?_ h
  intro p e s m args below meth c
  unfold f_X10_firstEnd
  refine hz_gdr (fun ga0 => ?_)
  refine hz_iconst (pc' := 1) (v := (-1)) dX10_firstEnd_0 rfl (by decide) ?_
  refine hz_istore_n (pc' := 2) (L' := [(3, .int (-1)), (0, .ref (B.1 + a0)), (1, .int x1), (2, .int x2)]) dX10_firstEnd_1 rfl rfl (by decide) rfl ?_
  refine hz_iconst (pc' := 3) (v := 0) dX10_firstEnd_2 rfl (by decide) ?_
  refine hz_istore (pc' := 5) (L' := [(4, .int 0), (3, .int (-1)), (0, .ref (B.1 + a0)), (1, .int x1), (2, .int x2)]) dX10_firstEnd_3 rfl (by decide) rfl ?_
  refine hz_bindJ (pcJ := 91) (LJ := fun q2 : Int32 × MW => [(3, .int q2.1)]) (stJ := fun _ => []) (kJ := 0) (slJ := 0) (nJ := 358) (wJ := fun q2 : Int32 × MW => q2.2) (fun q2 => ?_) (fun hq2 => ?_)
  · refine hz_iload_n (pc' := 92) (j := 0) dX10_firstEnd_91 rfl rfl rfl ?_
    exact hz_reti dX10_firstEnd_92 rfl (by decide)
  · refine hz_loc [2, 3, 4, 1, 0] rfl (hz_loopJ (lp := lp_X10_firstEnd_5 a0 x1 x2) (Lh := fun v1 : Int32 × Int32 × MW => [(0, .ref (B.1 + a0)), (1, .int x1), (2, .int x2), (3, .int v1.1), (4, .int v1.2.1)]) (wh := fun v1 : Int32 × Int32 × MW => v1.2.2) (fun _ => rfl) (fun Nv1 ihv1 v1 => ?_) 3000 ((-1), 0, w))
    rw [lp_X10_firstEnd_5]
    refine hz_iload (pc' := 7) (j := 4) dX10_firstEnd_5 rfl rfl ?_
    refine hz_aload_n (pc' := 8) (j := 0) dX10_firstEnd_7 rfl rfl rfl ?_
    refine hz_gP (pc' := 11) (c' := 20) fl_X10_7.r ga0 rfl dX10_firstEnd_8 rfl (fun b3 gb3 => ?_)
    refine hz_iconst (pc' := 12) (v := 2) dX10_firstEnd_11 rfl (by decide) ?_
    refine hz_iald (pc' := 13) gb3 dX10_firstEnd_12 rfl (fun v4 => ?_)
    refine hz_icmpge (pc' := 16) (tgt := 91) dX10_firstEnd_13 (by decide) rfl ?_ ?_
    · exact hz_loc [3] rfl (hq2 (v1.1, v1.2.2))
    · refine hz_aload_n (pc' := 17) (j := 0) dX10_firstEnd_16 rfl rfl rfl ?_
      refine hz_iload (pc' := 19) (j := 4) dX10_firstEnd_17 rfl rfl ?_
      refine hz_iconst (pc' := 20) (v := 0) dX10_firstEnd_19 rfl (by decide) ?_
      refine hz_cVi (pc' := 23) (av := [.int v1.2.1, .int 0]) (rest := []) vl_X10_211 (fun x w' h => ct_X10_ofJob hl h) ga0 rfl rfl (Nat.le_of_ble_eq_true rfl) (by decide) (by decide) rfl dX10_firstEnd_20 rfl (fun v6 w5 => ?_)
      refine hz_iload_n (pc' := 24) (j := 1) dX10_firstEnd_23 rfl rfl rfl ?_
      refine hz_bindJ (pcJ := 52) (LJ := fun q7 : Int32 × MW => [(0, .ref (B.1 + a0)), (1, .int x1), (2, .int x2), (3, .int v1.1), (4, .int v1.2.1)]) (stJ := fun q7 : Int32 × MW => [.int q7.1]) (kJ := 0) (slJ := 0) (nJ := 358) (wJ := fun q7 : Int32 × MW => q7.2) (fun q7 => ?_) (fun hq7 => ?_)
      · refine hz_istore (pc' := 54) (L' := [(5, .int q7.1), (0, .ref (B.1 + a0)), (1, .int x1), (2, .int x2), (3, .int v1.1), (4, .int v1.2.1)]) dX10_firstEnd_52 rfl (by decide) rfl ?_
        refine hz_iload (pc' := 56) (j := 0) dX10_firstEnd_54 rfl rfl ?_
        refine hz_bindJ (pcJ := 84) (LJ := fun q8 : Int32 × MW => [(0, .ref (B.1 + a0)), (1, .int x1), (2, .int x2), (4, .int v1.2.1)]) (stJ := fun q8 : Int32 × MW => [.int q8.1]) (kJ := 0) (slJ := 0) (nJ := 358) (wJ := fun q8 : Int32 × MW => q8.2) (fun q8 => ?_) (fun hq8 => ?_)
        · refine hz_istore_n (pc' := 85) (L' := [(3, .int q8.1), (0, .ref (B.1 + a0)), (1, .int x1), (2, .int x2), (4, .int v1.2.1)]) dX10_firstEnd_84 rfl rfl (by decide) rfl ?_
          refine hz_iincN (pc' := 88) (j := 4) (fun v9 => [(4, .int v9), (3, .int q8.1), (0, .ref (B.1 + a0)), (1, .int x1), (2, .int x2)]) dX10_firstEnd_85 rfl rfl (by decide) (fun _ => rfl) (fun v9 => ?_)
          refine hz_goto (tgt := 5) dX10_firstEnd_88 (by decide) ?_
          exact hz_loc [2, 3, 4, 1, 0] rfl (ihv1 (q8.1, v9, q8.2))
        · refine hz_ifeq (pc' := 59) (tgt := 83) dX10_firstEnd_56 (by decide) rfl ?_ ?_
          · refine hz_iload_n (pc' := 84) (j := 4) dX10_firstEnd_83 rfl rfl rfl ?_
            exact hz_loc [1, 2, 3, 5] rfl (hq8 (v1.1, q7.2))
          · refine hz_iload_n (pc' := 60) (j := 4) dX10_firstEnd_59 rfl rfl rfl ?_
            refine hz_iconst (pc' := 61) (v := (-1)) dX10_firstEnd_60 rfl (by decide) ?_
            refine hz_icmpeq (pc' := 64) (tgt := 78) dX10_firstEnd_61 (by decide) rfl ?_ ?_
            · refine hz_iload (pc' := 80) (j := 5) dX10_firstEnd_78 rfl rfl ?_
              refine hz_goto (tgt := 84) dX10_firstEnd_80 (by decide) ?_
              exact hz_loc [1, 2, 3, 5] rfl (hq8 (v1.2.1, q7.2))
            · refine hz_aload_n (pc' := 65) (j := 1) dX10_firstEnd_64 rfl rfl rfl ?_
              refine hz_iload (pc' := 67) (j := 5) dX10_firstEnd_65 rfl rfl ?_
              refine hz_cVi (pc' := 70) (av := [.int v1.2.1]) (rest := []) vl_X10_346 (fun x w' h => ct_X10_toOf hl h) ga0 rfl rfl (Nat.le_of_ble_eq_true rfl) (by decide) (by decide) rfl dX10_firstEnd_67 rfl (fun v11 w10 => ?_)
              refine hz_aload_n (pc' := 71) (j := 1) dX10_firstEnd_70 rfl rfl rfl ?_
              refine hz_iload_n (pc' := 72) (j := 4) dX10_firstEnd_71 rfl rfl rfl ?_
              refine hz_cVi (pc' := 75) (av := [.int v1.1]) (rest := [.int v11]) vl_X10_346 (fun x w' h => ct_X10_toOf hl h) ga0 rfl rfl (Nat.le_of_ble_eq_true rfl) (by decide) (by decide) rfl dX10_firstEnd_72 rfl (fun v13 w12 => ?_)
              refine hz_icmpge (pc' := 78) (tgt := 83) dX10_firstEnd_75 (by decide) rfl ?_ ?_
              · refine hz_iload_n (pc' := 84) (j := 4) dX10_firstEnd_83 rfl rfl rfl ?_
                exact hz_loc [1, 2, 3, 5] rfl (hq8 (v1.1, w12))
              · refine hz_iload (pc' := 80) (j := 5) dX10_firstEnd_78 rfl rfl ?_
                refine hz_goto (tgt := 84) dX10_firstEnd_80 (by decide) ?_
                exact hz_loc [1, 2, 3, 5] rfl (hq8 (v1.2.1, w12))
      · refine hz_icmpne (pc' := 27) (tgt := 51) dX10_firstEnd_24 (by decide) rfl ?_ ?_
        · refine hz_iconst (pc' := 52) (v := 0) dX10_firstEnd_51 rfl (by decide) ?_
          exact hz_loc [0, 1, 2, 3, 4] rfl (hq7 (0, w5))
        · refine hz_aload_n (pc' := 28) (j := 0) dX10_firstEnd_27 rfl rfl rfl ?_
          refine hz_iload (pc' := 30) (j := 4) dX10_firstEnd_28 rfl rfl ?_
          refine hz_bipush (pc' := 32) (v := 7) dX10_firstEnd_30 rfl (by decide) ?_
          refine hz_cVi (pc' := 35) (av := [.int v1.2.1, .int 7]) (rest := []) vl_X10_211 (fun x w' h => ct_X10_ofJob hl h) ga0 rfl rfl (Nat.le_of_ble_eq_true rfl) (by decide) (by decide) rfl dX10_firstEnd_32 rfl (fun v15 w14 => ?_)
          refine hz_ifne (pc' := 38) (tgt := 51) dX10_firstEnd_35 (by decide) rfl ?_ ?_
          · refine hz_iconst (pc' := 52) (v := 0) dX10_firstEnd_51 rfl (by decide) ?_
            exact hz_loc [0, 1, 2, 3, 4] rfl (hq7 (0, w14))
          · refine hz_iload_n (pc' := 39) (j := 2) dX10_firstEnd_38 rfl rfl rfl ?_
            refine hz_iload (pc' := 41) (j := 4) dX10_firstEnd_39 rfl rfl ?_
            refine hz_ishr (pc' := 42) dX10_firstEnd_41 rfl ?_
            refine hz_iconst (pc' := 43) (v := 1) dX10_firstEnd_42 rfl (by decide) ?_
            refine hz_iand (pc' := 44) dX10_firstEnd_43 rfl ?_
            refine hz_ifne (pc' := 47) (tgt := 51) dX10_firstEnd_44 (by decide) rfl ?_ ?_
            · refine hz_iconst (pc' := 52) (v := 0) dX10_firstEnd_51 rfl (by decide) ?_
              exact hz_loc [0, 1, 2, 3, 4] rfl (hq7 (0, w14))
            · refine hz_iconst (pc' := 48) (v := 1) dX10_firstEnd_47 rfl (by decide) ?_
              refine hz_goto (tgt := 52) dX10_firstEnd_48 (by decide) ?_
              exact hz_loc [0, 1, 2, 3, 4] rfl (hq7 (1, w14))
def lp_X10_pack_32 (c0 : Nat) (c1 : Int32) (c2 : Int32) (c4 : Int32) : Nat → (Int32 × Int32 × MW) → Option (Int32 × MW)
  | 0, _ => none
  | N + 1, v0 => hz_ldp v0.2.2 c0 0 358 20 (fun b6 => hz_lda v0.2.2 b6 2 (fun v7 => (if v7 ≤ v0.2.1 then some (v0.1, v0.2.2) else hz_b (f_X10_ofJob c0 v0.2.1 0 v0.2.2) (fun v9 w8 => Option.bind ((if v9 = c1 then hz_b (f_X10_ofJob c0 v0.2.1 7 w8) (fun v21 w20 => (if v21 = 0 then (if (((c2 : Int32) >>> (v0.2.1 &&& 31)) &&& 1) = 0 then some (1, w20) else some (0, w20)) else some (0, w20))) else some (0, w8))) (fun q10 : Int32 × MW => Option.bind ((if q10.1 = 0 then some (0, q10.2) else hz_b (f_X10_fromOf c0 v0.2.1 q10.2) (fun v15 w14 => hz_b (f_X10_toOf c0 v0.2.1 w14) (fun v17 w16 => hz_b (f_X10_isIn (Int32.toInt64 c4) (Int32.toInt64 v15) (Int32.toInt64 v17) w16) (fun v19 w18 => (if v19 = 0 then some (0, w18) else some (((1 : Int32) <<< (v0.2.1 &&& 31)), w18))))))) (fun q11 : Int32 × MW => hz_let (v0.1 ||| q11.1) (fun v12 => hz_let (v0.2.1 + Int32.ofInt 1) (fun v13 => lp_X10_pack_32 c0 c1 c2 c4 N (v12, v13, q11.2)))))))))
def lp_X10_pack_14 (c0 : Nat) (c1 : Int32) : Nat → (Int32 × Int32 × MW) → Option (MW)
  | 0, _ => none
  | N + 1, v0 => (if v0.2.1 = (-1) then some v0.2.2 else hz_b (f_X10_toOf c0 v0.2.1 v0.2.2) (fun v5 w4 => Option.bind (lp_X10_pack_32 c0 c1 v0.1 v5 3000 (0, 0, w4)) (fun q7 : Int32 × MW => hz_ldp q7.2 c0 35 358 20 (fun b8 => hz_sta q7.2 b8 (q7.2.1 c0 37) v5 (fun w9 => hz_ldp w9 c0 36 358 20 (fun b10 => hz_sta w9 b10 (w9.1 c0 37) q7.1 (fun w11 => hz_let (hz_pn w11 c0 37 ((w11.1 c0 37) + 1)) (fun w12 => hz_let (v0.1 ||| q7.1) (fun v13 => hz_b (f_X10_firstEnd c0 c1 v13 w12) (fun v15 w14 => lp_X10_pack_14 c0 c1 N (v13, v15, w14)))))))))))
def f_X10_pack (a0 : Nat) (x1 : Int32) (w : MW) : Option (MW) :=
  hz_gd (hz_g 358 a0 11) (hz_let (hz_pn w a0 37 0) (fun w1 => hz_b (f_X10_firstEnd a0 x1 0 w1) (fun v3 w2 => Option.bind (lp_X10_pack_14 a0 x1 3000 (0, v3, w2)) (fun q5 : MW => some q5))))
set_option maxHeartbeats 4000000 in
set_option maxRecDepth 100000 in
theorem ct_X10_pack {l : Launch} (hl : l.stackTraces = false) {B : Bt} {a0 : Nat} {x1 : Int32} {w : MW} {r : MW} (h : f_X10_pack a0 x1 w = some r) : hz_Met l B false 358 358 yX10_pack cX10_pack 8 (Option.none : Option FieldType) 5 0 0 [.ref (B.1 + a0), .int x1] w none r := by
  refine hz_ofJ (rv := (fun _ : MW => none)) (wo := (fun r : MW => r)) (own := RX10) (ini := false) hl (by decide) rfl (Or.inr rfl) (Nat.le_of_ble_eq_true rfl) rfl ?_ h
  intro p e s m args below meth c
  unfold f_X10_pack
  refine hz_gdr (fun ga0 => ?_)
  refine hz_aload_n (pc' := 1) (j := 0) dX10_pack_0 rfl rfl rfl ?_
  refine hz_iconst (pc' := 2) (v := 0) dX10_pack_1 rfl (by decide) ?_
  refine hz_putI (pc' := 5) fl_X10_349 ga0 rfl dX10_pack_2 rfl (fun w1 => ?_)
  refine hz_iconst (pc' := 6) (v := 0) dX10_pack_5 rfl (by decide) ?_
  refine hz_istore_n (pc' := 7) (L' := [(2, .int 0), (0, .ref (B.1 + a0)), (1, .int x1)]) dX10_pack_6 rfl rfl (by decide) rfl ?_
  refine hz_aload_n (pc' := 8) (j := 1) dX10_pack_7 rfl rfl rfl ?_
  refine hz_iload_n (pc' := 9) (j := 2) dX10_pack_8 rfl rfl rfl ?_
  refine hz_iload_n (pc' := 10) (j := 0) dX10_pack_9 rfl rfl rfl ?_
  refine hz_cVi (pc' := 13) (av := [.int x1, .int 0]) (rest := []) vl_X10_352 (fun x w' h => ct_X10_firstEnd hl h) ga0 rfl rfl (Nat.le_of_ble_eq_true rfl) (by decide) (by decide) rfl dX10_pack_10 rfl (fun v3 w2 => ?_)
  refine hz_istore_n (pc' := 14) (L' := [(3, .int v3), (2, .int 0), (0, .ref (B.1 + a0)), (1, .int x1)]) dX10_pack_13 rfl rfl (by decide) rfl ?_
  refine hz_bindJ (pcJ := 175) (LJ := fun q5 : MW => []) (stJ := fun _ => []) (kJ := 0) (slJ := 0) (nJ := 358) (wJ := fun q5 : MW => q5) (fun q5 => ?_) (fun hq5 => ?_)
  · exact hz_retv dX10_pack_175 rfl (by decide)
  · refine hz_loc [2, 3, 1, 0] rfl (hz_loopJ (lp := lp_X10_pack_14 a0 x1) (Lh := fun v4 : Int32 × Int32 × MW => [(0, .ref (B.1 + a0)), (1, .int x1), (2, .int v4.1), (3, .int v4.2.1)]) (wh := fun v4 : Int32 × Int32 × MW => v4.2.2) (fun _ => rfl) (fun Nv4 ihv4 v4 => ?_) 3000 (0, v3, w2))
    rw [lp_X10_pack_14]
    refine hz_iload_n (pc' := 15) (j := 3) dX10_pack_14 rfl rfl rfl ?_
    refine hz_iconst (pc' := 16) (v := (-1)) dX10_pack_15 rfl (by decide) ?_
    refine hz_icmpeq (pc' := 19) (tgt := 175) dX10_pack_16 (by decide) rfl ?_ ?_
    · exact hz_loc [] rfl (hq5 v4.2.2)
    · refine hz_aload_n (pc' := 20) (j := 0) dX10_pack_19 rfl rfl rfl ?_
      refine hz_iload_n (pc' := 21) (j := 3) dX10_pack_20 rfl rfl rfl ?_
      refine hz_cVi (pc' := 24) (av := [.int v4.2.1]) (rest := []) vl_X10_346 (fun x w' h => ct_X10_toOf hl h) ga0 rfl rfl (Nat.le_of_ble_eq_true rfl) (by decide) (by decide) rfl dX10_pack_21 rfl (fun v7 w6 => ?_)
      refine hz_istore (pc' := 26) (L' := [(4, .int v7), (0, .ref (B.1 + a0)), (1, .int x1), (2, .int v4.1), (3, .int v4.2.1)]) dX10_pack_24 rfl (by decide) rfl ?_
      refine hz_iconst (pc' := 27) (v := 0) dX10_pack_26 rfl (by decide) ?_
      refine hz_istore (pc' := 29) (L' := [(5, .int 0), (4, .int v7), (0, .ref (B.1 + a0)), (1, .int x1), (2, .int v4.1), (3, .int v4.2.1)]) dX10_pack_27 rfl (by decide) rfl ?_
      refine hz_iconst (pc' := 30) (v := 0) dX10_pack_29 rfl (by decide) ?_
      refine hz_istore (pc' := 32) (L' := [(6, .int 0), (5, .int 0), (4, .int v7), (0, .ref (B.1 + a0)), (1, .int x1), (2, .int v4.1), (3, .int v4.2.1)]) dX10_pack_30 rfl (by decide) rfl ?_
      refine hz_bindJ (pcJ := 128) (LJ := fun q9 : Int32 × MW => [(0, .ref (B.1 + a0)), (1, .int x1), (2, .int v4.1), (4, .int v7), (5, .int q9.1)]) (stJ := fun _ => []) (kJ := 0) (slJ := 0) (nJ := 358) (wJ := fun q9 : Int32 × MW => q9.2) (fun q9 => ?_) (fun hq9 => ?_)
      · refine hz_aload_n (pc' := 129) (j := 0) dX10_pack_128 rfl rfl rfl ?_
        refine hz_gP (pc' := 132) (c' := 20) fl_X10_68.r ga0 rfl dX10_pack_129 rfl (fun b10 gb10 => ?_)
        refine hz_aload_n (pc' := 133) (j := 0) dX10_pack_132 rfl rfl rfl ?_
        refine hz_gI (pc' := 136) fl_X10_349.r ga0 rfl dX10_pack_133 rfl ?_
        refine hz_iload (pc' := 138) (j := 3) dX10_pack_136 rfl rfl ?_
        refine hz_iast (pc' := 139) gb10 dX10_pack_138 rfl (fun w11 => ?_)
        refine hz_aload_n (pc' := 140) (j := 0) dX10_pack_139 rfl rfl rfl ?_
        refine hz_gP (pc' := 143) (c' := 20) fl_X10_71.r ga0 rfl dX10_pack_140 rfl (fun b12 gb12 => ?_)
        refine hz_aload_n (pc' := 144) (j := 0) dX10_pack_143 rfl rfl rfl ?_
        refine hz_gI (pc' := 147) fl_X10_349.r ga0 rfl dX10_pack_144 rfl ?_
        refine hz_iload (pc' := 149) (j := 4) dX10_pack_147 rfl rfl ?_
        refine hz_iast (pc' := 150) gb12 dX10_pack_149 rfl (fun w13 => ?_)
        refine hz_aload_n (pc' := 151) (j := 0) dX10_pack_150 rfl rfl rfl ?_
        refine hz_dup (pc' := 152) dX10_pack_151 rfl rfl ?_
        refine hz_gI (pc' := 155) fl_X10_349.r ga0 rfl dX10_pack_152 rfl ?_
        refine hz_iconst (pc' := 156) (v := 1) dX10_pack_155 rfl (by decide) ?_
        refine hz_iadd (pc' := 157) dX10_pack_156 rfl ?_
        refine hz_putI (pc' := 160) fl_X10_349 ga0 rfl dX10_pack_157 rfl (fun w14 => ?_)
        refine hz_iload_n (pc' := 161) (j := 2) dX10_pack_160 rfl rfl rfl ?_
        refine hz_iload (pc' := 163) (j := 4) dX10_pack_161 rfl rfl ?_
        refine hz_ior (pc' := 164) dX10_pack_163 rfl ?_
        refine hz_nameI (fun v15 => ?_)
        refine hz_istore_n (pc' := 165) (L' := [(2, .int v15), (0, .ref (B.1 + a0)), (1, .int x1), (4, .int v7), (5, .int q9.1)]) dX10_pack_164 rfl rfl (by decide) rfl ?_
        refine hz_aload_n (pc' := 166) (j := 1) dX10_pack_165 rfl rfl rfl ?_
        refine hz_iload_n (pc' := 167) (j := 2) dX10_pack_166 rfl rfl rfl ?_
        refine hz_iload_n (pc' := 168) (j := 0) dX10_pack_167 rfl rfl rfl ?_
        refine hz_cVi (pc' := 171) (av := [.int x1, .int v15]) (rest := []) vl_X10_352 (fun x w' h => ct_X10_firstEnd hl h) ga0 rfl rfl (Nat.le_of_ble_eq_true rfl) (by decide) (by decide) rfl dX10_pack_168 rfl (fun v17 w16 => ?_)
        refine hz_istore_n (pc' := 172) (L' := [(3, .int v17), (2, .int v15), (0, .ref (B.1 + a0)), (1, .int x1), (4, .int v7), (5, .int q9.1)]) dX10_pack_171 rfl rfl (by decide) rfl ?_
        refine hz_goto (tgt := 14) dX10_pack_172 (by decide) ?_
        exact hz_loc [2, 3, 1, 0] rfl (ihv4 (v15, v17, w16))
      · refine hz_loc [3, 4, 5, 2, 1, 0] rfl (hz_loopJ (lp := lp_X10_pack_32 a0 x1 v4.1 v7) (Lh := fun v8 : Int32 × Int32 × MW => [(0, .ref (B.1 + a0)), (1, .int x1), (2, .int v4.1), (4, .int v7), (5, .int v8.1), (6, .int v8.2.1)]) (wh := fun v8 : Int32 × Int32 × MW => v8.2.2) (fun _ => rfl) (fun Nv8 ihv8 v8 => ?_) 3000 (0, 0, w6))
        rw [lp_X10_pack_32]
        refine hz_iload (pc' := 34) (j := 5) dX10_pack_32 rfl rfl ?_
        refine hz_aload_n (pc' := 35) (j := 0) dX10_pack_34 rfl rfl rfl ?_
        refine hz_gP (pc' := 38) (c' := 20) fl_X10_7.r ga0 rfl dX10_pack_35 rfl (fun b18 gb18 => ?_)
        refine hz_iconst (pc' := 39) (v := 2) dX10_pack_38 rfl (by decide) ?_
        refine hz_iald (pc' := 40) gb18 dX10_pack_39 rfl (fun v19 => ?_)
        refine hz_icmpge (pc' := 43) (tgt := 128) dX10_pack_40 (by decide) rfl ?_ ?_
        · exact hz_loc [0, 1, 2, 3, 4] rfl (hq9 (v8.1, v8.2.2))
        · refine hz_aload_n (pc' := 44) (j := 0) dX10_pack_43 rfl rfl rfl ?_
          refine hz_iload (pc' := 46) (j := 5) dX10_pack_44 rfl rfl ?_
          refine hz_iconst (pc' := 47) (v := 0) dX10_pack_46 rfl (by decide) ?_
          refine hz_cVi (pc' := 50) (av := [.int v8.2.1, .int 0]) (rest := []) vl_X10_211 (fun x w' h => ct_X10_ofJob hl h) ga0 rfl rfl (Nat.le_of_ble_eq_true rfl) (by decide) (by decide) rfl dX10_pack_47 rfl (fun v21 w20 => ?_)
          refine hz_iload_n (pc' := 51) (j := 1) dX10_pack_50 rfl rfl rfl ?_
          refine hz_bindJ (pcJ := 79) (LJ := fun q22 : Int32 × MW => [(0, .ref (B.1 + a0)), (1, .int x1), (2, .int v4.1), (4, .int v7), (5, .int v8.1), (6, .int v8.2.1)]) (stJ := fun q22 : Int32 × MW => [.int q22.1]) (kJ := 0) (slJ := 0) (nJ := 358) (wJ := fun q22 : Int32 × MW => q22.2) (fun q22 => ?_) (fun hq22 => ?_)
          · refine hz_istore (pc' := 81) (L' := [(7, .int q22.1), (0, .ref (B.1 + a0)), (1, .int x1), (2, .int v4.1), (4, .int v7), (5, .int v8.1), (6, .int v8.2.1)]) dX10_pack_79 rfl (by decide) rfl ?_
            refine hz_iload (pc' := 83) (j := 5) dX10_pack_81 rfl rfl ?_
            refine hz_iload (pc' := 85) (j := 0) dX10_pack_83 rfl rfl ?_
            refine hz_bindJ (pcJ := 119) (LJ := fun q23 : Int32 × MW => [(0, .ref (B.1 + a0)), (1, .int x1), (2, .int v4.1), (4, .int v7), (6, .int v8.2.1)]) (stJ := fun q23 : Int32 × MW => [.int q23.1, .int v8.1]) (kJ := 0) (slJ := 0) (nJ := 358) (wJ := fun q23 : Int32 × MW => q23.2) (fun q23 => ?_) (fun hq23 => ?_)
            · refine hz_ior (pc' := 120) dX10_pack_119 rfl ?_
              refine hz_nameI (fun v24 => ?_)
              refine hz_istore (pc' := 122) (L' := [(5, .int v24), (0, .ref (B.1 + a0)), (1, .int x1), (2, .int v4.1), (4, .int v7), (6, .int v8.2.1)]) dX10_pack_120 rfl (by decide) rfl ?_
              refine hz_iincN (pc' := 125) (j := 5) (fun v25 => [(6, .int v25), (5, .int v24), (0, .ref (B.1 + a0)), (1, .int x1), (2, .int v4.1), (4, .int v7)]) dX10_pack_122 rfl rfl (by decide) (fun _ => rfl) (fun v25 => ?_)
              refine hz_goto (tgt := 32) dX10_pack_125 (by decide) ?_
              exact hz_loc [2, 3, 4, 5, 1, 0] rfl (ihv8 (v24, v25, q23.2))
            · refine hz_ifeq (pc' := 88) (tgt := 118) dX10_pack_85 (by decide) rfl ?_ ?_
              · refine hz_iconst (pc' := 119) (v := 0) dX10_pack_118 rfl (by decide) ?_
                exact hz_loc [1, 2, 3, 4, 6] rfl (hq23 (0, q22.2))
              · refine hz_iload (pc' := 90) (j := 4) dX10_pack_88 rfl rfl ?_
                refine hz_i2l (pc' := 91) dX10_pack_90 rfl ?_
                refine hz_aload_n (pc' := 92) (j := 1) dX10_pack_91 rfl rfl rfl ?_
                refine hz_iload (pc' := 94) (j := 6) dX10_pack_92 rfl rfl ?_
                refine hz_cVi (pc' := 97) (av := [.int v8.2.1]) (rest := [.long (Int32.toInt64 v7), .int v8.1]) vl_X10_355 (fun x w' h => ct_X10_fromOf hl h) ga0 rfl rfl (Nat.le_of_ble_eq_true rfl) (by decide) (by decide) rfl dX10_pack_94 rfl (fun v27 w26 => ?_)
                refine hz_i2l (pc' := 98) dX10_pack_97 rfl ?_
                refine hz_aload_n (pc' := 99) (j := 1) dX10_pack_98 rfl rfl rfl ?_
                refine hz_iload (pc' := 101) (j := 6) dX10_pack_99 rfl rfl ?_
                refine hz_cVi (pc' := 104) (av := [.int v8.2.1]) (rest := [.long (Int32.toInt64 v27), .long (Int32.toInt64 v7), .int v8.1]) vl_X10_346 (fun x w' h => ct_X10_toOf hl h) ga0 rfl rfl (Nat.le_of_ble_eq_true rfl) (by decide) (by decide) rfl dX10_pack_101 rfl (fun v29 w28 => ?_)
                refine hz_i2l (pc' := 105) dX10_pack_104 rfl ?_
                refine hz_cSi (pc' := 108) (av := [.long (Int32.toInt64 v7), .long (Int32.toInt64 v27), .long (Int32.toInt64 v29)]) (rest := [.int v8.1]) sl_X10_88 (fun x w' h => ct_X10_isIn hl h) rfl rfl (Nat.le_of_ble_eq_true rfl) (by decide) (by decide) rfl dX10_pack_105 rfl (fun v31 w30 => ?_)
                refine hz_ifeq (pc' := 111) (tgt := 118) dX10_pack_108 (by decide) rfl ?_ ?_
                · refine hz_iconst (pc' := 119) (v := 0) dX10_pack_118 rfl (by decide) ?_
                  exact hz_loc [1, 2, 3, 4, 6] rfl (hq23 (0, w30))
                · refine hz_iconst (pc' := 112) (v := 1) dX10_pack_111 rfl (by decide) ?_
                  refine hz_iload (pc' := 114) (j := 6) dX10_pack_112 rfl rfl ?_
                  refine hz_ishl (pc' := 115) dX10_pack_114 rfl ?_
                  refine hz_goto (tgt := 119) dX10_pack_115 (by decide) ?_
                  exact hz_loc [1, 2, 3, 4, 6] rfl (hq23 (((1 : Int32) <<< (v8.2.1 &&& 31)), w30))
          · refine hz_icmpne (pc' := 54) (tgt := 78) dX10_pack_51 (by decide) rfl ?_ ?_
            · refine hz_iconst (pc' := 79) (v := 0) dX10_pack_78 rfl (by decide) ?_
              exact hz_loc [0, 1, 2, 3, 4, 5] rfl (hq22 (0, w20))
            · refine hz_aload_n (pc' := 55) (j := 0) dX10_pack_54 rfl rfl rfl ?_
              refine hz_iload (pc' := 57) (j := 5) dX10_pack_55 rfl rfl ?_
              refine hz_bipush (pc' := 59) (v := 7) dX10_pack_57 rfl (by decide) ?_
              refine hz_cVi (pc' := 62) (av := [.int v8.2.1, .int 7]) (rest := []) vl_X10_211 (fun x w' h => ct_X10_ofJob hl h) ga0 rfl rfl (Nat.le_of_ble_eq_true rfl) (by decide) (by decide) rfl dX10_pack_59 rfl (fun v33 w32 => ?_)
              refine hz_ifne (pc' := 65) (tgt := 78) dX10_pack_62 (by decide) rfl ?_ ?_
              · refine hz_iconst (pc' := 79) (v := 0) dX10_pack_78 rfl (by decide) ?_
                exact hz_loc [0, 1, 2, 3, 4, 5] rfl (hq22 (0, w32))
              · refine hz_iload_n (pc' := 66) (j := 2) dX10_pack_65 rfl rfl rfl ?_
                refine hz_iload (pc' := 68) (j := 5) dX10_pack_66 rfl rfl ?_
                refine hz_ishr (pc' := 69) dX10_pack_68 rfl ?_
                refine hz_iconst (pc' := 70) (v := 1) dX10_pack_69 rfl (by decide) ?_
                refine hz_iand (pc' := 71) dX10_pack_70 rfl ?_
                refine hz_ifne (pc' := 74) (tgt := 78) dX10_pack_71 (by decide) rfl ?_ ?_
                · refine hz_iconst (pc' := 79) (v := 0) dX10_pack_78 rfl (by decide) ?_
                  exact hz_loc [0, 1, 2, 3, 4, 5] rfl (hq22 (0, w32))
                · refine hz_iconst (pc' := 75) (v := 1) dX10_pack_74 rfl (by decide) ?_
                  refine hz_goto (tgt := 79) dX10_pack_75 (by decide) ?_
                  exact hz_loc [0, 1, 2, 3, 4, 5] rfl (hq22 (1, w32))
def f_X10_packedWakeUps (a0 : Nat) (x1 : Int32) (w : MW) : Option (Int32 × MW) :=
  hz_gd (hz_g 358 a0 11) (hz_b (f_X10_isDomain a0 x1 w) (fun v2 w1 => hz_b (f_X10_isWrong a0 v2 w1) (fun v4 w3 => (if v4 = 0 then hz_bv (f_X10_pack a0 x1 w3) (fun w5 => some ((w5.1 a0 37), w5)) else some (0, w3)))))
set_option maxHeartbeats 4000000 in
set_option maxRecDepth 100000 in
theorem ct_X10_packedWakeUps {l : Launch} (hl : l.stackTraces = false) {B : Bt} {a0 : Nat} {x1 : Int32} {w : MW} {r : Int32 × MW} (h : f_X10_packedWakeUps a0 x1 w = some r) : hz_Met l B false 358 358 yX10_packedWakeUps cX10_packedWakeUps 2 (Option.some FieldType.int) 6 0 0 [.ref (B.1 + a0), .int x1] w (some (.int r.1)) r.2 := by
  refine hz_ofJ (rv := (fun r : Int32 × MW => some (.int r.1))) (wo := (fun r : Int32 × MW => r.2)) (own := RX10) (ini := false) hl (by decide) rfl (Or.inr rfl) (Nat.le_of_ble_eq_true rfl) rfl ?_ h
  intro p e s m args below meth c
  unfold f_X10_packedWakeUps
  refine hz_gdr (fun ga0 => ?_)
  refine hz_aload_n (pc' := 1) (j := 0) dX10_packedWakeUps_0 rfl rfl rfl ?_
  refine hz_aload_n (pc' := 2) (j := 0) dX10_packedWakeUps_1 rfl rfl rfl ?_
  refine hz_iload_n (pc' := 3) (j := 1) dX10_packedWakeUps_2 rfl rfl rfl ?_
  refine hz_cVi (pc' := 6) (av := [.int x1]) (rest := [.ref (B.1 + a0)]) vl_X10_274 (fun x w' h => ct_X10_isDomain hl h) ga0 rfl rfl (Nat.le_of_ble_eq_true rfl) (by decide) (by decide) rfl dX10_packedWakeUps_3 rfl (fun v2 w1 => ?_)
  refine hz_cVi (pc' := 9) (av := [.int v2]) (rest := []) vl_X10_207 (fun x w' h => ct_X10_isWrong hl h) ga0 rfl rfl (Nat.le_of_ble_eq_true rfl) (by decide) (by decide) rfl dX10_packedWakeUps_6 rfl (fun v4 w3 => ?_)
  refine hz_ifeq (pc' := 12) (tgt := 14) dX10_packedWakeUps_9 (by decide) rfl ?_ ?_
  · refine hz_aload_n (pc' := 15) (j := 0) dX10_packedWakeUps_14 rfl rfl rfl ?_
    refine hz_iload_n (pc' := 16) (j := 1) dX10_packedWakeUps_15 rfl rfl rfl ?_
    refine hz_cVv (pc' := 19) (av := [.int x1]) (rest := []) vl_X10_358 (fun w' h => ct_X10_pack hl h) ga0 rfl rfl (Nat.le_of_ble_eq_true rfl) (by decide) (by decide) rfl dX10_packedWakeUps_16 rfl (fun w5 => ?_)
    refine hz_aload_n (pc' := 20) (j := 0) dX10_packedWakeUps_19 rfl rfl rfl ?_
    refine hz_gI (pc' := 23) fl_X10_349.r ga0 rfl dX10_packedWakeUps_20 rfl ?_
    exact hz_reti dX10_packedWakeUps_23 rfl (by decide)
  · refine hz_iconst (pc' := 13) (v := 0) dX10_packedWakeUps_12 rfl (by decide) ?_
    exact hz_reti dX10_packedWakeUps_13 rfl (by decide)
def f_X10_packedTick (a0 : Nat) (x1 : Int32) (x2 : Int32) (w : MW) : Option (Int32 × MW) :=
  hz_gd (hz_g 358 a0 11) (hz_b (f_X10_isDomain a0 x1 w) (fun v2 w1 => Option.bind ((if v2 = 0 then some 0 else (if x2 < 0 then some 0 else some 1))) (fun q3 : Int32 => hz_b (f_X10_isWrong a0 q3 w1) (fun v5 w4 => (if v5 = 0 then hz_bv (f_X10_pack a0 x1 w4) (fun w6 => Option.bind ((if (w6.1 a0 37) ≤ x2 then some (-2) else hz_ldp w6 a0 35 358 20 (fun b8 => hz_lda w6 b8 x2 (fun v9 => some v9)))) (fun q7 : Int32 => some (q7, w6))) else some (0, w4))))))
set_option maxHeartbeats 4000000 in
set_option maxRecDepth 100000 in
theorem ct_X10_packedTick {l : Launch} (hl : l.stackTraces = false) {B : Bt} {a0 : Nat} {x1 : Int32} {x2 : Int32} {w : MW} {r : Int32 × MW} (h : f_X10_packedTick a0 x1 x2 w = some r) : hz_Met l B false 358 358 yX10_packedTick cX10_packedTick 3 (Option.some FieldType.int) 6 0 0 [.ref (B.1 + a0), .int x1, .int x2] w (some (.int r.1)) r.2 := by
  refine hz_ofJ (rv := (fun r : Int32 × MW => some (.int r.1))) (wo := (fun r : Int32 × MW => r.2)) (own := RX10) (ini := false) hl (by decide) rfl (Or.inr rfl) (Nat.le_of_ble_eq_true rfl) rfl ?_ h
  intro p e s m args below meth c
  unfold f_X10_packedTick
  refine hz_gdr (fun ga0 => ?_)
  refine hz_aload_n (pc' := 1) (j := 0) dX10_packedTick_0 rfl rfl rfl ?_
  refine hz_aload_n (pc' := 2) (j := 0) dX10_packedTick_1 rfl rfl rfl ?_
  refine hz_iload_n (pc' := 3) (j := 1) dX10_packedTick_2 rfl rfl rfl ?_
  refine hz_cVi (pc' := 6) (av := [.int x1]) (rest := [.ref (B.1 + a0)]) vl_X10_274 (fun x w' h => ct_X10_isDomain hl h) ga0 rfl rfl (Nat.le_of_ble_eq_true rfl) (by decide) (by decide) rfl dX10_packedTick_3 rfl (fun v2 w1 => ?_)
  refine hz_bindJ (pcJ := 18) (LJ := fun q3 : Int32 => [(0, .ref (B.1 + a0)), (1, .int x1), (2, .int x2)]) (stJ := fun q3 : Int32 => [.int q3, .ref (B.1 + a0)]) (kJ := 0) (slJ := 0) (nJ := 358) (wJ := fun q3 : Int32 => w1) (fun q3 => ?_) (fun hq3 => ?_)
  · refine hz_cVi (pc' := 21) (av := [.int q3]) (rest := []) vl_X10_207 (fun x w' h => ct_X10_isWrong hl h) ga0 rfl rfl (Nat.le_of_ble_eq_true rfl) (by decide) (by decide) rfl dX10_packedTick_18 rfl (fun v5 w4 => ?_)
    refine hz_ifeq (pc' := 24) (tgt := 26) dX10_packedTick_21 (by decide) rfl ?_ ?_
    · refine hz_aload_n (pc' := 27) (j := 0) dX10_packedTick_26 rfl rfl rfl ?_
      refine hz_iload_n (pc' := 28) (j := 1) dX10_packedTick_27 rfl rfl rfl ?_
      refine hz_cVv (pc' := 31) (av := [.int x1]) (rest := []) vl_X10_358 (fun w' h => ct_X10_pack hl h) ga0 rfl rfl (Nat.le_of_ble_eq_true rfl) (by decide) (by decide) rfl dX10_packedTick_28 rfl (fun w6 => ?_)
      refine hz_iload_n (pc' := 32) (j := 2) dX10_packedTick_31 rfl rfl rfl ?_
      refine hz_aload_n (pc' := 33) (j := 0) dX10_packedTick_32 rfl rfl rfl ?_
      refine hz_gI (pc' := 36) fl_X10_349.r ga0 rfl dX10_packedTick_33 rfl ?_
      refine hz_bindJ (pcJ := 50) (LJ := fun q7 : Int32 => []) (stJ := fun q7 : Int32 => [.int q7]) (kJ := 0) (slJ := 0) (nJ := 358) (wJ := fun q7 : Int32 => w6) (fun q7 => ?_) (fun hq7 => ?_)
      · exact hz_reti dX10_packedTick_50 rfl (by decide)
      · refine hz_icmpge (pc' := 39) (tgt := 48) dX10_packedTick_36 (by decide) rfl ?_ ?_
        · refine hz_bipush (pc' := 50) (v := (-2)) dX10_packedTick_48 rfl (by decide) ?_
          exact hz_loc [] rfl (hq7 (-2))
        · refine hz_aload_n (pc' := 40) (j := 0) dX10_packedTick_39 rfl rfl rfl ?_
          refine hz_gP (pc' := 43) (c' := 20) fl_X10_68.r ga0 rfl dX10_packedTick_40 rfl (fun b8 gb8 => ?_)
          refine hz_iload_n (pc' := 44) (j := 2) dX10_packedTick_43 rfl rfl rfl ?_
          refine hz_iald (pc' := 45) gb8 dX10_packedTick_44 rfl (fun v9 => ?_)
          refine hz_goto (tgt := 50) dX10_packedTick_45 (by decide) ?_
          exact hz_loc [] rfl (hq7 v9)
    · refine hz_iconst (pc' := 25) (v := 0) dX10_packedTick_24 rfl (by decide) ?_
      exact hz_reti dX10_packedTick_25 rfl (by decide)
  · refine hz_ifeq (pc' := 9) (tgt := 17) dX10_packedTick_6 (by decide) rfl ?_ ?_
    · refine hz_iconst (pc' := 18) (v := 0) dX10_packedTick_17 rfl (by decide) ?_
      exact hz_loc [0, 1, 2] rfl (hq3 0)
    · refine hz_iload_n (pc' := 10) (j := 2) dX10_packedTick_9 rfl rfl rfl ?_
      refine hz_iflt (pc' := 13) (tgt := 17) dX10_packedTick_10 (by decide) rfl ?_ ?_
      · refine hz_iconst (pc' := 18) (v := 0) dX10_packedTick_17 rfl (by decide) ?_
        exact hz_loc [0, 1, 2] rfl (hq3 0)
      · refine hz_iconst (pc' := 14) (v := 1) dX10_packedTick_13 rfl (by decide) ?_
        refine hz_goto (tgt := 18) dX10_packedTick_14 (by decide) ?_
        exact hz_loc [0, 1, 2] rfl (hq3 1)
def f_X10_packedJobs (a0 : Nat) (x1 : Int32) (x2 : Int32) (w : MW) : Option (Int32 × MW) :=
  hz_gd (hz_g 358 a0 11) (hz_b (f_X10_isDomain a0 x1 w) (fun v2 w1 => Option.bind ((if v2 = 0 then some 0 else (if x2 < 0 then some 0 else some 1))) (fun q3 : Int32 => hz_b (f_X10_isWrong a0 q3 w1) (fun v5 w4 => (if v5 = 0 then hz_bv (f_X10_pack a0 x1 w4) (fun w6 => Option.bind ((if (w6.1 a0 37) ≤ x2 then some (-2) else hz_ldp w6 a0 36 358 20 (fun b8 => hz_lda w6 b8 x2 (fun v9 => some v9)))) (fun q7 : Int32 => some (q7, w6))) else some (0, w4))))))
set_option maxHeartbeats 4000000 in
set_option maxRecDepth 100000 in
theorem ct_X10_packedJobs {l : Launch} (hl : l.stackTraces = false) {B : Bt} {a0 : Nat} {x1 : Int32} {x2 : Int32} {w : MW} {r : Int32 × MW} (h : f_X10_packedJobs a0 x1 x2 w = some r) : hz_Met l B false 358 358 yX10_packedJobs cX10_packedJobs 3 (Option.some FieldType.int) 6 0 0 [.ref (B.1 + a0), .int x1, .int x2] w (some (.int r.1)) r.2 := by
  refine hz_ofJ (rv := (fun r : Int32 × MW => some (.int r.1))) (wo := (fun r : Int32 × MW => r.2)) (own := RX10) (ini := false) hl (by decide) rfl (Or.inr rfl) (Nat.le_of_ble_eq_true rfl) rfl ?_ h
  intro p e s m args below meth c
  unfold f_X10_packedJobs
  refine hz_gdr (fun ga0 => ?_)
  refine hz_aload_n (pc' := 1) (j := 0) dX10_packedJobs_0 rfl rfl rfl ?_
  refine hz_aload_n (pc' := 2) (j := 0) dX10_packedJobs_1 rfl rfl rfl ?_
  refine hz_iload_n (pc' := 3) (j := 1) dX10_packedJobs_2 rfl rfl rfl ?_
  refine hz_cVi (pc' := 6) (av := [.int x1]) (rest := [.ref (B.1 + a0)]) vl_X10_274 (fun x w' h => ct_X10_isDomain hl h) ga0 rfl rfl (Nat.le_of_ble_eq_true rfl) (by decide) (by decide) rfl dX10_packedJobs_3 rfl (fun v2 w1 => ?_)
  refine hz_bindJ (pcJ := 18) (LJ := fun q3 : Int32 => [(0, .ref (B.1 + a0)), (1, .int x1), (2, .int x2)]) (stJ := fun q3 : Int32 => [.int q3, .ref (B.1 + a0)]) (kJ := 0) (slJ := 0) (nJ := 358) (wJ := fun q3 : Int32 => w1) (fun q3 => ?_) (fun hq3 => ?_)
  · refine hz_cVi (pc' := 21) (av := [.int q3]) (rest := []) vl_X10_207 (fun x w' h => ct_X10_isWrong hl h) ga0 rfl rfl (Nat.le_of_ble_eq_true rfl) (by decide) (by decide) rfl dX10_packedJobs_18 rfl (fun v5 w4 => ?_)
    refine hz_ifeq (pc' := 24) (tgt := 26) dX10_packedJobs_21 (by decide) rfl ?_ ?_
    · refine hz_aload_n (pc' := 27) (j := 0) dX10_packedJobs_26 rfl rfl rfl ?_
      refine hz_iload_n (pc' := 28) (j := 1) dX10_packedJobs_27 rfl rfl rfl ?_
      refine hz_cVv (pc' := 31) (av := [.int x1]) (rest := []) vl_X10_358 (fun w' h => ct_X10_pack hl h) ga0 rfl rfl (Nat.le_of_ble_eq_true rfl) (by decide) (by decide) rfl dX10_packedJobs_28 rfl (fun w6 => ?_)
      refine hz_iload_n (pc' := 32) (j := 2) dX10_packedJobs_31 rfl rfl rfl ?_
      refine hz_aload_n (pc' := 33) (j := 0) dX10_packedJobs_32 rfl rfl rfl ?_
      refine hz_gI (pc' := 36) fl_X10_349.r ga0 rfl dX10_packedJobs_33 rfl ?_
      refine hz_bindJ (pcJ := 50) (LJ := fun q7 : Int32 => []) (stJ := fun q7 : Int32 => [.int q7]) (kJ := 0) (slJ := 0) (nJ := 358) (wJ := fun q7 : Int32 => w6) (fun q7 => ?_) (fun hq7 => ?_)
      · exact hz_reti dX10_packedJobs_50 rfl (by decide)
      · refine hz_icmpge (pc' := 39) (tgt := 48) dX10_packedJobs_36 (by decide) rfl ?_ ?_
        · refine hz_bipush (pc' := 50) (v := (-2)) dX10_packedJobs_48 rfl (by decide) ?_
          exact hz_loc [] rfl (hq7 (-2))
        · refine hz_aload_n (pc' := 40) (j := 0) dX10_packedJobs_39 rfl rfl rfl ?_
          refine hz_gP (pc' := 43) (c' := 20) fl_X10_71.r ga0 rfl dX10_packedJobs_40 rfl (fun b8 gb8 => ?_)
          refine hz_iload_n (pc' := 44) (j := 2) dX10_packedJobs_43 rfl rfl rfl ?_
          refine hz_iald (pc' := 45) gb8 dX10_packedJobs_44 rfl (fun v9 => ?_)
          refine hz_goto (tgt := 50) dX10_packedJobs_45 (by decide) ?_
          exact hz_loc [] rfl (hq7 v9)
    · refine hz_iconst (pc' := 25) (v := 0) dX10_packedJobs_24 rfl (by decide) ?_
      exact hz_reti dX10_packedJobs_25 rfl (by decide)
  · refine hz_ifeq (pc' := 9) (tgt := 17) dX10_packedJobs_6 (by decide) rfl ?_ ?_
    · refine hz_iconst (pc' := 18) (v := 0) dX10_packedJobs_17 rfl (by decide) ?_
      exact hz_loc [0, 1, 2] rfl (hq3 0)
    · refine hz_iload_n (pc' := 10) (j := 2) dX10_packedJobs_9 rfl rfl rfl ?_
      refine hz_iflt (pc' := 13) (tgt := 17) dX10_packedJobs_10 (by decide) rfl ?_ ?_
      · refine hz_iconst (pc' := 18) (v := 0) dX10_packedJobs_17 rfl (by decide) ?_
        exact hz_loc [0, 1, 2] rfl (hq3 0)
      · refine hz_iconst (pc' := 14) (v := 1) dX10_packedJobs_13 rfl (by decide) ?_
        refine hz_goto (tgt := 18) dX10_packedJobs_14 (by decide) ?_
        exact hz_loc [0, 1, 2] rfl (hq3 1)
