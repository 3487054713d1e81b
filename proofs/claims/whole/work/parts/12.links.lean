def hz_FLr (own : String) (z ci fk : Nat) : Prop := ∃ (C : String) (T : u_T) (N : Nat), vwCl[ci]? = some (C, T, N) ∧ hz_nf ci = N ∧ fk < N ∧ ci < 20 ∧ (∀ w ∈ u_ws C T N, w ∈ hz_good) ∧ Cond.fieldLink own z (T fk).1 (T fk).2.1 (T fk).2.2.1 ∈ hz_good
theorem cl_L_8 : hz_CL RL 8 10 := ⟨RX9, TX9, 10, tyX9, rfl, rfl, by decide, hz_inX9, tyX9_ok, hq_26, hq_27, hq_1, by decide +kernel⟩
theorem il_L_140 : hz_IL RL 140 yX9_init cX9_init 1 0 := ⟨hq_28, hq_29, hq_1, hq_30, rfl, ⟨by decide, by decide, by decide +kernel⟩⟩
theorem cl_X9_7 : hz_CL RX9 7 5 := ⟨RX4, TX4, 2, tyX4, rfl, rfl, by decide, hz_inX4, tyX4_ok, hq_34, hq_35, hq_2, by decide +kernel⟩
theorem inl_X9_9 : hz_INL RX9 9 yX4_init "ThermalCoreScheduler" cX4_init 1 0 := ⟨List.mem_of_getElem? (i := 0) (by decide +kernel), hq_37, hq_2, hq_38, rfl, ⟨by decide, by decide, by decide +kernel⟩⟩
theorem fl_X4_9 : hz_FL RX4 9 5 0 (.array .byte) true := ⟨RX4, TX4, 2, tyX4, rfl, rfl, by decide, by decide, hz_inX4, hq_40, tyX4_ok, nmX4, by decide +kernel, rfl, fun _ => rfl⟩
theorem fl_X9_73 : hz_FL RX9 73 5 1 .int false := ⟨RX4, TX4, 2, tyX4, rfl, rfl, by decide, by decide, hz_inX4, hq_41, tyX4_ok, nmX4, by decide +kernel, rfl, fun h => nomatch h⟩
theorem fl_X4_15 : hz_FL RX4 15 5 1 .int false := ⟨RX4, TX4, 2, tyX4, rfl, rfl, by decide, by decide, hz_inX4, hq_42, tyX4_ok, nmX4, by decide +kernel, rfl, fun _ => rfl⟩
theorem fl_X7_23 : hz_FL RX7 23 5 1 .int false := ⟨RX4, TX4, 2, tyX4, rfl, rfl, by decide, by decide, hz_inX4, hq_43, tyX4_ok, nmX4, by decide +kernel, rfl, fun h => nomatch h⟩
theorem cl_X9_16 : hz_CL RX9 16 6 := ⟨RX5, TX5, 5, tyX5, rfl, rfl, by decide, hz_inX5, tyX5_ok, hq_50, hq_51, hq_3, by decide +kernel⟩
theorem il_X9_18 : hz_IL RX9 18 yX5_init cX5_init 2 1 := ⟨hq_52, hq_53, hq_3, hq_54, rfl, ⟨by decide, by decide, by decide +kernel⟩⟩
theorem cl_X5_9 : hz_CL RX5 9 3 := ⟨RX2, TX2, 13, tyX2, rfl, rfl, by decide, hz_inX2, tyX2_ok, hq_56, hq_57, hq_4, by decide +kernel⟩
theorem inl_X5_11 : hz_INL RX5 11 yX2_init "ThermalCoreScheduler" cX2_init 1 0 := ⟨List.mem_of_getElem? (i := 1) (by decide +kernel), hq_59, hq_4, hq_60, rfl, ⟨by decide, by decide, by decide +kernel⟩⟩
theorem fl_X2_45 : hz_FL RX2 45 3 0 .int false := ⟨RX2, TX2, 13, tyX2, rfl, rfl, by decide, by decide, hz_inX2, hq_62, tyX2_ok, nmX2, by decide +kernel, rfl, fun _ => rfl⟩
theorem fl_X3_63 : hz_FL RX3 63 3 0 .int false := ⟨RX2, TX2, 13, tyX2, rfl, rfl, by decide, by decide, hz_inX2, hq_63, tyX2_ok, nmX2, by decide +kernel, rfl, fun h => nomatch h⟩
theorem fl_X5_75 : hz_FL RX5 75 3 0 .int false := ⟨RX2, TX2, 13, tyX2, rfl, rfl, by decide, by decide, hz_inX2, hq_64, tyX2_ok, nmX2, by decide +kernel, rfl, fun h => nomatch h⟩
theorem fl_X2_49 : hz_FL RX2 49 3 1 .int false := ⟨RX2, TX2, 13, tyX2, rfl, rfl, by decide, by decide, hz_inX2, hq_65, tyX2_ok, nmX2, by decide +kernel, rfl, fun _ => rfl⟩
theorem fl_X5_48 : hz_FL RX5 48 3 1 .int false := ⟨RX2, TX2, 13, tyX2, rfl, rfl, by decide, by decide, hz_inX2, hq_66, tyX2_ok, nmX2, by decide +kernel, rfl, fun h => nomatch h⟩
theorem fl_X9_113 : hz_FL RX9 113 3 1 .int false := ⟨RX2, TX2, 13, tyX2, rfl, rfl, by decide, by decide, hz_inX2, hq_67, tyX2_ok, nmX2, by decide +kernel, rfl, fun h => nomatch h⟩
theorem fl_X3_86 : hz_FL RX3 86 3 1 .int false := ⟨RX2, TX2, 13, tyX2, rfl, rfl, by decide, by decide, hz_inX2, hq_68, tyX2_ok, nmX2, by decide +kernel, rfl, fun h => nomatch h⟩
theorem fl_X2_9 : hz_FL RX2 9 3 2 (.array .int) true := ⟨RX2, TX2, 13, tyX2, rfl, rfl, by decide, by decide, hz_inX2, hq_69, tyX2_ok, nmX2, by decide +kernel, rfl, fun _ => rfl⟩
theorem fl_X5_90 : hz_FLr RX5 90 3 2 := ⟨RX2, TX2, 13, rfl, rfl, by decide, by decide, hz_inX2, hq_70⟩
theorem fl_X3_114 : hz_FLr RX3 114 3 2 := ⟨RX2, TX2, 13, rfl, rfl, by decide, by decide, hz_inX2, hq_71⟩
theorem fl_X9_198 : hz_FLr RX9 198 3 2 := ⟨RX2, TX2, 13, rfl, rfl, by decide, by decide, hz_inX2, hq_72⟩
theorem fl_X2_15 : hz_FL RX2 15 3 3 (.array .int) true := ⟨RX2, TX2, 13, tyX2, rfl, rfl, by decide, by decide, hz_inX2, hq_73, tyX2_ok, nmX2, by decide +kernel, rfl, fun _ => rfl⟩
theorem fl_X3_69 : hz_FLr RX3 69 3 3 := ⟨RX2, TX2, 13, rfl, rfl, by decide, by decide, hz_inX2, hq_74⟩
theorem fl_X5_95 : hz_FLr RX5 95 3 3 := ⟨RX2, TX2, 13, rfl, rfl, by decide, by decide, hz_inX2, hq_75⟩
theorem fl_X2_18 : hz_FL RX2 18 3 4 (.array .int) true := ⟨RX2, TX2, 13, tyX2, rfl, rfl, by decide, by decide, hz_inX2, hq_76, tyX2_ok, nmX2, by decide +kernel, rfl, fun _ => rfl⟩
theorem fl_X5_98 : hz_FLr RX5 98 3 4 := ⟨RX2, TX2, 13, rfl, rfl, by decide, by decide, hz_inX2, hq_77⟩
theorem fl_X3_204 : hz_FLr RX3 204 3 4 := ⟨RX2, TX2, 13, rfl, rfl, by decide, by decide, hz_inX2, hq_78⟩
theorem fl_X2_21 : hz_FL RX2 21 3 5 (.array .int) true := ⟨RX2, TX2, 13, tyX2, rfl, rfl, by decide, by decide, hz_inX2, hq_79, tyX2_ok, nmX2, by decide +kernel, rfl, fun _ => rfl⟩
theorem fl_X5_101 : hz_FLr RX5 101 3 5 := ⟨RX2, TX2, 13, rfl, rfl, by decide, by decide, hz_inX2, hq_80⟩
theorem fl_X3_209 : hz_FLr RX3 209 3 5 := ⟨RX2, TX2, 13, rfl, rfl, by decide, by decide, hz_inX2, hq_81⟩
theorem fl_X2_24 : hz_FL RX2 24 3 6 (.array .int) true := ⟨RX2, TX2, 13, tyX2, rfl, rfl, by decide, by decide, hz_inX2, hq_82, tyX2_ok, nmX2, by decide +kernel, rfl, fun _ => rfl⟩
theorem fl_X6_20 : hz_FLr RX6 20 3 6 := ⟨RX2, TX2, 13, rfl, rfl, by decide, by decide, hz_inX2, hq_83⟩
theorem fl_X5_104 : hz_FLr RX5 104 3 6 := ⟨RX2, TX2, 13, rfl, rfl, by decide, by decide, hz_inX2, hq_84⟩
theorem fl_X3_201 : hz_FLr RX3 201 3 6 := ⟨RX2, TX2, 13, rfl, rfl, by decide, by decide, hz_inX2, hq_85⟩
theorem fl_X2_27 : hz_FL RX2 27 3 7 (.array .int) true := ⟨RX2, TX2, 13, tyX2, rfl, rfl, by decide, by decide, hz_inX2, hq_86, tyX2_ok, nmX2, by decide +kernel, rfl, fun _ => rfl⟩
theorem fl_X5_107 : hz_FLr RX5 107 3 7 := ⟨RX2, TX2, 13, rfl, rfl, by decide, by decide, hz_inX2, hq_87⟩
theorem fl_X3_153 : hz_FLr RX3 153 3 7 := ⟨RX2, TX2, 13, rfl, rfl, by decide, by decide, hz_inX2, hq_88⟩
theorem fl_X9_201 : hz_FLr RX9 201 3 7 := ⟨RX2, TX2, 13, rfl, rfl, by decide, by decide, hz_inX2, hq_89⟩
theorem fl_X2_30 : hz_FL RX2 30 3 8 (.array .int) true := ⟨RX2, TX2, 13, tyX2, rfl, rfl, by decide, by decide, hz_inX2, hq_90, tyX2_ok, nmX2, by decide +kernel, rfl, fun _ => rfl⟩
theorem fl_X3_75 : hz_FLr RX3 75 3 8 := ⟨RX2, TX2, 13, rfl, rfl, by decide, by decide, hz_inX2, hq_91⟩
theorem fl_X5_110 : hz_FLr RX5 110 3 8 := ⟨RX2, TX2, 13, rfl, rfl, by decide, by decide, hz_inX2, hq_92⟩
theorem fl_X2_33 : hz_FL RX2 33 3 9 (.array .int) true := ⟨RX2, TX2, 13, tyX2, rfl, rfl, by decide, by decide, hz_inX2, hq_93, tyX2_ok, nmX2, by decide +kernel, rfl, fun _ => rfl⟩
theorem fl_X3_74 : hz_FLr RX3 74 3 9 := ⟨RX2, TX2, 13, rfl, rfl, by decide, by decide, hz_inX2, hq_94⟩
theorem fl_X5_115 : hz_FLr RX5 115 3 9 := ⟨RX2, TX2, 13, rfl, rfl, by decide, by decide, hz_inX2, hq_95⟩
theorem fl_X2_36 : hz_FL RX2 36 3 10 (.array .int) true := ⟨RX2, TX2, 13, tyX2, rfl, rfl, by decide, by decide, hz_inX2, hq_96, tyX2_ok, nmX2, by decide +kernel, rfl, fun _ => rfl⟩
theorem fl_X6_25 : hz_FLr RX6 25 3 10 := ⟨RX2, TX2, 13, rfl, rfl, by decide, by decide, hz_inX2, hq_97⟩
theorem fl_X5_132 : hz_FLr RX5 132 3 10 := ⟨RX2, TX2, 13, rfl, rfl, by decide, by decide, hz_inX2, hq_98⟩
theorem fl_X3_168 : hz_FLr RX3 168 3 10 := ⟨RX2, TX2, 13, rfl, rfl, by decide, by decide, hz_inX2, hq_99⟩
theorem fl_X9_195 : hz_FLr RX9 195 3 10 := ⟨RX2, TX2, 13, rfl, rfl, by decide, by decide, hz_inX2, hq_100⟩
theorem fl_X2_39 : hz_FL RX2 39 3 11 (.array .int) true := ⟨RX2, TX2, 13, tyX2, rfl, rfl, by decide, by decide, hz_inX2, hq_101, tyX2_ok, nmX2, by decide +kernel, rfl, fun _ => rfl⟩
theorem fl_X6_28 : hz_FLr RX6 28 3 11 := ⟨RX2, TX2, 13, rfl, rfl, by decide, by decide, hz_inX2, hq_102⟩
theorem fl_X5_140 : hz_FLr RX5 140 3 11 := ⟨RX2, TX2, 13, rfl, rfl, by decide, by decide, hz_inX2, hq_103⟩
theorem fl_X3_162 : hz_FLr RX3 162 3 11 := ⟨RX2, TX2, 13, rfl, rfl, by decide, by decide, hz_inX2, hq_104⟩
theorem fl_X2_42 : hz_FL RX2 42 3 12 (.array .int) true := ⟨RX2, TX2, 13, tyX2, rfl, rfl, by decide, by decide, hz_inX2, hq_105, tyX2_ok, nmX2, by decide +kernel, rfl, fun _ => rfl⟩
theorem fl_X6_37 : hz_FLr RX6 37 3 12 := ⟨RX2, TX2, 13, rfl, rfl, by decide, by decide, hz_inX2, hq_106⟩
theorem fl_X5_143 : hz_FLr RX5 143 3 12 := ⟨RX2, TX2, 13, rfl, rfl, by decide, by decide, hz_inX2, hq_107⟩
theorem fl_X3_198 : hz_FLr RX3 198 3 12 := ⟨RX2, TX2, 13, rfl, rfl, by decide, by decide, hz_inX2, hq_108⟩
theorem cl_X5_18 : hz_CL RX5 18 8 := ⟨RX7, TX7, 4, tyX7, rfl, rfl, by decide, hz_inX7, tyX7_ok, hq_137, hq_138, hq_5, by decide +kernel⟩
theorem il_X5_20 : hz_IL RX5 20 yX7_init cX7_init 2 1 := ⟨hq_139, hq_140, hq_5, hq_141, rfl, ⟨by decide, by decide, by decide +kernel⟩⟩
theorem fl_X7_7 : hz_FL RX7 7 8 0 (.object "ThermalCoreScheduler$Text") true := ⟨RX7, TX7, 4, tyX7, rfl, rfl, by decide, by decide, hz_inX7, hq_143, tyX7_ok, nmX7, by decide +kernel, rfl, fun _ => rfl⟩
theorem fl_X5_51 : hz_FL RX5 51 8 1 .int false := ⟨RX7, TX7, 4, tyX7, rfl, rfl, by decide, by decide, hz_inX7, hq_144, tyX7_ok, nmX7, by decide +kernel, rfl, fun h => nomatch h⟩
theorem fl_X7_32 : hz_FL RX7 32 8 1 .int false := ⟨RX7, TX7, 4, tyX7, rfl, rfl, by decide, by decide, hz_inX7, hq_145, tyX7_ok, nmX7, by decide +kernel, rfl, fun _ => rfl⟩
theorem fl_X7_20 : hz_FL RX7 20 8 2 .int false := ⟨RX7, TX7, 4, tyX7, rfl, rfl, by decide, by decide, hz_inX7, hq_146, tyX7_ok, nmX7, by decide +kernel, rfl, fun _ => rfl⟩
theorem fl_X5_150 : hz_FL RX5 150 8 2 .int false := ⟨RX7, TX7, 4, tyX7, rfl, rfl, by decide, by decide, hz_inX7, hq_147, tyX7_ok, nmX7, by decide +kernel, rfl, fun h => nomatch h⟩
theorem fl_X7_13 : hz_FL RX7 13 8 3 .int false := ⟨RX7, TX7, 4, tyX7, rfl, rfl, by decide, by decide, hz_inX7, hq_148, tyX7_ok, nmX7, by decide +kernel, rfl, fun _ => rfl⟩
theorem fl_X5_12 : hz_FL RX5 12 6 0 (.object "ThermalCoreScheduler$Setup") true := ⟨RX5, TX5, 5, tyX5, rfl, rfl, by decide, by decide, hz_inX5, hq_158, tyX5_ok, nmX5, by decide +kernel, rfl, fun _ => rfl⟩
theorem fl_X9_101 : hz_FLr RX9 101 6 0 := ⟨RX5, TX5, 5, rfl, rfl, by decide, by decide, hz_inX5, hq_159⟩
theorem fl_X5_27 : hz_FL RX5 27 6 1 .int false := ⟨RX5, TX5, 5, tyX5, rfl, rfl, by decide, by decide, hz_inX5, hq_160, tyX5_ok, nmX5, by decide +kernel, rfl, fun _ => rfl⟩
theorem fl_X9_98 : hz_FL RX9 98 6 1 .int false := ⟨RX5, TX5, 5, tyX5, rfl, rfl, by decide, by decide, hz_inX5, hq_161, tyX5_ok, nmX5, by decide +kernel, rfl, fun h => nomatch h⟩
theorem fl_X5_31 : hz_FL RX5 31 6 2 .int false := ⟨RX5, TX5, 5, tyX5, rfl, rfl, by decide, by decide, hz_inX5, hq_162, tyX5_ok, nmX5, by decide +kernel, rfl, fun _ => rfl⟩
theorem fl_X9_95 : hz_FL RX9 95 6 2 .int false := ⟨RX5, TX5, 5, tyX5, rfl, rfl, by decide, by decide, hz_inX5, hq_163, tyX5_ok, nmX5, by decide +kernel, rfl, fun h => nomatch h⟩
theorem fl_X5_23 : hz_FL RX5 23 6 3 (.object "ThermalCoreScheduler$TokenReader") true := ⟨RX5, TX5, 5, tyX5, rfl, rfl, by decide, by decide, hz_inX5, hq_164, tyX5_ok, nmX5, by decide +kernel, rfl, fun _ => rfl⟩
theorem fl_X5_72 : hz_FL RX5 72 6 4 .int false := ⟨RX5, TX5, 5, tyX5, rfl, rfl, by decide, by decide, hz_inX5, hq_165, tyX5_ok, nmX5, by decide +kernel, rfl, fun _ => rfl⟩
theorem cl_X9_25 : hz_CL RX9 25 3 := ⟨RX2, TX2, 13, tyX2, rfl, rfl, by decide, hz_inX2, tyX2_ok, hq_177, hq_57, hq_4, by decide +kernel⟩
theorem inl_X9_27 : hz_INL RX9 27 yX2_init "ThermalCoreScheduler" cX2_init 1 0 := ⟨List.mem_of_getElem? (i := 2) (by decide +kernel), hq_59, hq_4, hq_60, rfl, ⟨by decide, by decide, by decide +kernel⟩⟩
theorem cl_X9_32 : hz_CL RX9 32 4 := ⟨RX3, TX3, 15, tyX3, rfl, rfl, by decide, hz_inX3, tyX3_ok, hq_179, hq_180, hq_6, by decide +kernel⟩
theorem il_X9_34 : hz_IL RX9 34 yX3_init cX3_init 2 1 := ⟨hq_181, hq_182, hq_6, hq_183, rfl, ⟨by decide, by decide, by decide +kernel⟩⟩
theorem cl_X3_9 : hz_CL RX3 9 2 := ⟨RX1, TX1, 15, tyX1, rfl, rfl, by decide, hz_inX1, tyX1_ok, hq_185, hq_186, hq_7, by decide +kernel⟩
theorem inl_X3_11 : hz_INL RX3 11 yX1_init "ThermalCoreScheduler" cX1_init 1 0 := ⟨List.mem_of_getElem? (i := 3) (by decide +kernel), hq_188, hq_7, hq_189, rfl, ⟨by decide, by decide, by decide +kernel⟩⟩
theorem fl_X1_48 : hz_FL RX1 48 2 0 .int false := ⟨RX1, TX1, 15, tyX1, rfl, rfl, by decide, by decide, hz_inX1, hq_191, tyX1_ok, nmX1, by decide +kernel, rfl, fun _ => rfl⟩
theorem fl_X9_123 : hz_FL RX9 123 2 0 .int false := ⟨RX1, TX1, 15, tyX1, rfl, rfl, by decide, by decide, hz_inX1, hq_192, tyX1_ok, nmX1, by decide +kernel, rfl, fun h => nomatch h⟩
theorem fl_X1_52 : hz_FL RX1 52 2 1 .int false := ⟨RX1, TX1, 15, tyX1, rfl, rfl, by decide, by decide, hz_inX1, hq_193, tyX1_ok, nmX1, by decide +kernel, rfl, fun _ => rfl⟩
theorem fl_X9_253 : hz_FL RX9 253 2 1 .int false := ⟨RX1, TX1, 15, tyX1, rfl, rfl, by decide, by decide, hz_inX1, hq_194, tyX1_ok, nmX1, by decide +kernel, rfl, fun h => nomatch h⟩
theorem fl_X1_55 : hz_FL RX1 55 2 2 .int false := ⟨RX1, TX1, 15, tyX1, rfl, rfl, by decide, by decide, hz_inX1, hq_195, tyX1_ok, nmX1, by decide +kernel, rfl, fun _ => rfl⟩
theorem fl_X1_9 : hz_FL RX1 9 2 3 (.array .int) true := ⟨RX1, TX1, 15, tyX1, rfl, rfl, by decide, by decide, hz_inX1, hq_196, tyX1_ok, nmX1, by decide +kernel, rfl, fun _ => rfl⟩
theorem fl_X8_24 : hz_FLr RX8 24 2 3 := ⟨RX1, TX1, 15, rfl, rfl, by decide, by decide, hz_inX1, hq_197⟩
theorem fl_X3_117 : hz_FLr RX3 117 2 3 := ⟨RX1, TX1, 15, rfl, rfl, by decide, by decide, hz_inX1, hq_198⟩
theorem fl_X9_259 : hz_FLr RX9 259 2 3 := ⟨RX1, TX1, 15, rfl, rfl, by decide, by decide, hz_inX1, hq_199⟩
theorem fl_X1_15 : hz_FL RX1 15 2 4 (.array .int) true := ⟨RX1, TX1, 15, tyX1, rfl, rfl, by decide, by decide, hz_inX1, hq_200, tyX1_ok, nmX1, by decide +kernel, rfl, fun _ => rfl⟩
theorem fl_X3_127 : hz_FLr RX3 127 2 4 := ⟨RX1, TX1, 15, rfl, rfl, by decide, by decide, hz_inX1, hq_201⟩
theorem fl_X9_262 : hz_FLr RX9 262 2 4 := ⟨RX1, TX1, 15, rfl, rfl, by decide, by decide, hz_inX1, hq_202⟩
theorem fl_X1_18 : hz_FL RX1 18 2 5 (.array .int) true := ⟨RX1, TX1, 15, tyX1, rfl, rfl, by decide, by decide, hz_inX1, hq_203, tyX1_ok, nmX1, by decide +kernel, rfl, fun _ => rfl⟩
theorem fl_X9_229 : hz_FLr RX9 229 2 5 := ⟨RX1, TX1, 15, rfl, rfl, by decide, by decide, hz_inX1, hq_204⟩
theorem fl_X1_21 : hz_FL RX1 21 2 6 (.array .int) true := ⟨RX1, TX1, 15, tyX1, rfl, rfl, by decide, by decide, hz_inX1, hq_205, tyX1_ok, nmX1, by decide +kernel, rfl, fun _ => rfl⟩
theorem fl_X9_232 : hz_FLr RX9 232 2 6 := ⟨RX1, TX1, 15, rfl, rfl, by decide, by decide, hz_inX1, hq_206⟩
theorem fl_X1_24 : hz_FL RX1 24 2 7 (.array .int) true := ⟨RX1, TX1, 15, tyX1, rfl, rfl, by decide, by decide, hz_inX1, hq_207, tyX1_ok, nmX1, by decide +kernel, rfl, fun _ => rfl⟩
theorem fl_X9_235 : hz_FLr RX9 235 2 7 := ⟨RX1, TX1, 15, rfl, rfl, by decide, by decide, hz_inX1, hq_208⟩
theorem fl_X1_27 : hz_FL RX1 27 2 8 (.array .int) true := ⟨RX1, TX1, 15, tyX1, rfl, rfl, by decide, by decide, hz_inX1, hq_209, tyX1_ok, nmX1, by decide +kernel, rfl, fun _ => rfl⟩
theorem fl_X9_238 : hz_FLr RX9 238 2 8 := ⟨RX1, TX1, 15, rfl, rfl, by decide, by decide, hz_inX1, hq_210⟩
theorem fl_X1_30 : hz_FL RX1 30 2 9 (.array .int) true := ⟨RX1, TX1, 15, tyX1, rfl, rfl, by decide, by decide, hz_inX1, hq_211, tyX1_ok, nmX1, by decide +kernel, rfl, fun _ => rfl⟩
theorem fl_X9_241 : hz_FLr RX9 241 2 9 := ⟨RX1, TX1, 15, rfl, rfl, by decide, by decide, hz_inX1, hq_212⟩
theorem fl_X1_33 : hz_FL RX1 33 2 10 (.array .int) true := ⟨RX1, TX1, 15, tyX1, rfl, rfl, by decide, by decide, hz_inX1, hq_213, tyX1_ok, nmX1, by decide +kernel, rfl, fun _ => rfl⟩
theorem fl_X3_184 : hz_FLr RX3 184 2 10 := ⟨RX1, TX1, 15, rfl, rfl, by decide, by decide, hz_inX1, hq_214⟩
theorem fl_X9_244 : hz_FLr RX9 244 2 10 := ⟨RX1, TX1, 15, rfl, rfl, by decide, by decide, hz_inX1, hq_215⟩
theorem fl_X1_36 : hz_FL RX1 36 2 11 (.array .int) true := ⟨RX1, TX1, 15, tyX1, rfl, rfl, by decide, by decide, hz_inX1, hq_216, tyX1_ok, nmX1, by decide +kernel, rfl, fun _ => rfl⟩
theorem fl_X9_153 : hz_FLr RX9 153 2 11 := ⟨RX1, TX1, 15, rfl, rfl, by decide, by decide, hz_inX1, hq_217⟩
theorem fl_X3_181 : hz_FLr RX3 181 2 11 := ⟨RX1, TX1, 15, rfl, rfl, by decide, by decide, hz_inX1, hq_218⟩
theorem fl_X1_39 : hz_FL RX1 39 2 12 (.array .int) true := ⟨RX1, TX1, 15, tyX1, rfl, rfl, by decide, by decide, hz_inX1, hq_219, tyX1_ok, nmX1, by decide +kernel, rfl, fun _ => rfl⟩
theorem fl_X1_42 : hz_FL RX1 42 2 13 (.array .int) true := ⟨RX1, TX1, 15, tyX1, rfl, rfl, by decide, by decide, hz_inX1, hq_220, tyX1_ok, nmX1, by decide +kernel, rfl, fun _ => rfl⟩
theorem fl_X9_279 : hz_FLr RX9 279 2 13 := ⟨RX1, TX1, 15, rfl, rfl, by decide, by decide, hz_inX1, hq_221⟩
theorem fl_X1_45 : hz_FL RX1 45 2 14 (.array .int) true := ⟨RX1, TX1, 15, tyX1, rfl, rfl, by decide, by decide, hz_inX1, hq_222, tyX1_ok, nmX1, by decide +kernel, rfl, fun _ => rfl⟩
theorem fl_X9_282 : hz_FLr RX9 282 2 14 := ⟨RX1, TX1, 15, rfl, rfl, by decide, by decide, hz_inX1, hq_223⟩
theorem fl_X3_52 : hz_FL RX3 52 4 0 (.object "ThermalCoreScheduler$Setup") true := ⟨RX3, TX3, 15, tyX3, rfl, rfl, by decide, by decide, hz_inX3, hq_255, tyX3_ok, nmX3, by decide +kernel, rfl, fun _ => rfl⟩
theorem fl_X3_12 : hz_FL RX3 12 4 1 (.object "ThermalCoreScheduler$JobTable") true := ⟨RX3, TX3, 15, tyX3, rfl, rfl, by decide, by decide, hz_inX3, hq_256, tyX3_ok, nmX3, by decide +kernel, rfl, fun _ => rfl⟩
theorem fl_X8_18 : hz_FLr RX8 18 4 1 := ⟨RX3, TX3, 15, rfl, rfl, by decide, by decide, hz_inX3, hq_257⟩
theorem fl_X9_119 : hz_FLr RX9 119 4 1 := ⟨RX3, TX3, 15, rfl, rfl, by decide, by decide, hz_inX3, hq_258⟩
theorem fl_X3_59 : hz_FL RX3 59 4 2 .int false := ⟨RX3, TX3, 15, tyX3, rfl, rfl, by decide, by decide, hz_inX3, hq_259, tyX3_ok, nmX3, by decide +kernel, rfl, fun _ => rfl⟩
theorem fl_X8_37 : hz_FL RX8 37 4 2 .int false := ⟨RX3, TX3, 15, tyX3, rfl, rfl, by decide, by decide, hz_inX3, hq_260, tyX3_ok, nmX3, by decide +kernel, rfl, fun h => nomatch h⟩
theorem fl_X9_136 : hz_FL RX9 136 4 2 .int false := ⟨RX3, TX3, 15, tyX3, rfl, rfl, by decide, by decide, hz_inX3, hq_261, tyX3_ok, nmX3, by decide +kernel, rfl, fun h => nomatch h⟩
theorem fl_X3_68 : hz_FL RX3 68 4 3 .int false := ⟨RX3, TX3, 15, tyX3, rfl, rfl, by decide, by decide, hz_inX3, hq_262, tyX3_ok, nmX3, by decide +kernel, rfl, fun _ => rfl⟩
theorem fl_X9_167 : hz_FL RX9 167 4 3 .int false := ⟨RX3, TX3, 15, tyX3, rfl, rfl, by decide, by decide, hz_inX3, hq_263, tyX3_ok, nmX3, by decide +kernel, rfl, fun h => nomatch h⟩
theorem fl_X3_18 : hz_FL RX3 18 4 4 (.array .int) true := ⟨RX3, TX3, 15, tyX3, rfl, rfl, by decide, by decide, hz_inX3, hq_264, tyX3_ok, nmX3, by decide +kernel, rfl, fun _ => rfl⟩
theorem fl_X9_161 : hz_FLr RX9 161 4 4 := ⟨RX3, TX3, 15, rfl, rfl, by decide, by decide, hz_inX3, hq_265⟩
theorem fl_X3_22 : hz_FL RX3 22 4 5 (.array .int) true := ⟨RX3, TX3, 15, tyX3, rfl, rfl, by decide, by decide, hz_inX3, hq_266, tyX3_ok, nmX3, by decide +kernel, rfl, fun _ => rfl⟩
theorem fl_X9_157 : hz_FLr RX9 157 4 5 := ⟨RX3, TX3, 15, rfl, rfl, by decide, by decide, hz_inX3, hq_267⟩
theorem fl_X3_25 : hz_FL RX3 25 4 6 (.array .int) true := ⟨RX3, TX3, 15, tyX3, rfl, rfl, by decide, by decide, hz_inX3, hq_268, tyX3_ok, nmX3, by decide +kernel, rfl, fun _ => rfl⟩
theorem fl_X9_174 : hz_FLr RX9 174 4 6 := ⟨RX3, TX3, 15, rfl, rfl, by decide, by decide, hz_inX3, hq_269⟩
theorem fl_X3_28 : hz_FL RX3 28 4 7 (.array .int) true := ⟨RX3, TX3, 15, tyX3, rfl, rfl, by decide, by decide, hz_inX3, hq_270, tyX3_ok, nmX3, by decide +kernel, rfl, fun _ => rfl⟩
theorem fl_X9_177 : hz_FLr RX9 177 4 7 := ⟨RX3, TX3, 15, rfl, rfl, by decide, by decide, hz_inX3, hq_271⟩
theorem fl_X3_31 : hz_FL RX3 31 4 8 (.array .int) true := ⟨RX3, TX3, 15, tyX3, rfl, rfl, by decide, by decide, hz_inX3, hq_272, tyX3_ok, nmX3, by decide +kernel, rfl, fun _ => rfl⟩
theorem fl_X9_180 : hz_FLr RX9 180 4 8 := ⟨RX3, TX3, 15, rfl, rfl, by decide, by decide, hz_inX3, hq_273⟩
theorem fl_X3_34 : hz_FL RX3 34 4 9 (.array .int) true := ⟨RX3, TX3, 15, tyX3, rfl, rfl, by decide, by decide, hz_inX3, hq_274, tyX3_ok, nmX3, by decide +kernel, rfl, fun _ => rfl⟩
theorem fl_X9_183 : hz_FLr RX9 183 4 9 := ⟨RX3, TX3, 15, rfl, rfl, by decide, by decide, hz_inX3, hq_275⟩
theorem fl_X3_37 : hz_FL RX3 37 4 10 (.array .int) true := ⟨RX3, TX3, 15, tyX3, rfl, rfl, by decide, by decide, hz_inX3, hq_276, tyX3_ok, nmX3, by decide +kernel, rfl, fun _ => rfl⟩
theorem fl_X9_186 : hz_FLr RX9 186 4 10 := ⟨RX3, TX3, 15, rfl, rfl, by decide, by decide, hz_inX3, hq_277⟩
theorem fl_X3_40 : hz_FL RX3 40 4 11 (.array .int) true := ⟨RX3, TX3, 15, tyX3, rfl, rfl, by decide, by decide, hz_inX3, hq_278, tyX3_ok, nmX3, by decide +kernel, rfl, fun _ => rfl⟩
theorem fl_X9_189 : hz_FLr RX9 189 4 11 := ⟨RX3, TX3, 15, rfl, rfl, by decide, by decide, hz_inX3, hq_279⟩
theorem fl_X3_43 : hz_FL RX3 43 4 12 (.array .int) true := ⟨RX3, TX3, 15, tyX3, rfl, rfl, by decide, by decide, hz_inX3, hq_280, tyX3_ok, nmX3, by decide +kernel, rfl, fun _ => rfl⟩
theorem fl_X9_192 : hz_FLr RX9 192 4 12 := ⟨RX3, TX3, 15, rfl, rfl, by decide, by decide, hz_inX3, hq_281⟩
theorem fl_X3_46 : hz_FL RX3 46 4 13 (.array .int) true := ⟨RX3, TX3, 15, tyX3, rfl, rfl, by decide, by decide, hz_inX3, hq_282, tyX3_ok, nmX3, by decide +kernel, rfl, fun _ => rfl⟩
theorem fl_X9_311 : hz_FLr RX9 311 4 13 := ⟨RX3, TX3, 15, rfl, rfl, by decide, by decide, hz_inX3, hq_283⟩
theorem fl_X3_49 : hz_FL RX3 49 4 14 (.array .int) true := ⟨RX3, TX3, 15, tyX3, rfl, rfl, by decide, by decide, hz_inX3, hq_284, tyX3_ok, nmX3, by decide +kernel, rfl, fun _ => rfl⟩
theorem fl_X9_209 : hz_FLr RX9 209 4 14 := ⟨RX3, TX3, 15, rfl, rfl, by decide, by decide, hz_inX3, hq_285⟩
theorem cl_X9_44 : hz_CL RX9 44 1 := ⟨RX0, TX0, 3, tyX0, rfl, rfl, by decide, hz_inX0, tyX0_ok, hq_317, hq_318, hq_8, by decide +kernel⟩
theorem il_X9_46 : hz_IL RX9 46 yX0_init cX0_init 3 1 := ⟨hq_319, hq_320, hq_8, hq_321, rfl, ⟨by decide, by decide, by decide +kernel⟩⟩
theorem cl_X0_9 : hz_CL RX0 9 4 := ⟨RX3, TX3, 15, tyX3, rfl, rfl, by decide, hz_inX3, tyX3_ok, hq_323, hq_180, hq_6, by decide +kernel⟩
theorem il_X0_17 : hz_IL RX0 17 yX3_init cX3_init 2 1 := ⟨hq_325, hq_182, hq_6, hq_183, rfl, ⟨by decide, by decide, by decide +kernel⟩⟩
theorem fl_X0_20 : hz_FL RX0 20 1 0 .int false := ⟨RX0, TX0, 3, tyX0, rfl, rfl, by decide, by decide, hz_inX0, hq_326, tyX0_ok, nmX0, by decide +kernel, rfl, fun _ => rfl⟩
theorem fl_X9_333 : hz_FL RX9 333 1 0 .int false := ⟨RX0, TX0, 3, tyX0, rfl, rfl, by decide, by decide, hz_inX0, hq_327, tyX0_ok, nmX0, by decide +kernel, rfl, fun h => nomatch h⟩
theorem fl_X0_24 : hz_FL RX0 24 1 1 .int false := ⟨RX0, TX0, 3, tyX0, rfl, rfl, by decide, by decide, hz_inX0, hq_328, tyX0_ok, nmX0, by decide +kernel, rfl, fun _ => rfl⟩
theorem fl_X0_11 : hz_FL RX0 11 1 2 (.array (.object "ThermalCoreScheduler$State")) true := ⟨RX0, TX0, 3, tyX0, rfl, rfl, by decide, by decide, hz_inX0, hq_329, tyX0_ok, nmX0, by decide +kernel, rfl, fun _ => rfl⟩
theorem cl_X9_51 : hz_CL RX9 51 9 := ⟨RX8, TX8, 3, tyX8, rfl, rfl, by decide, hz_inX8, tyX8_ok, hq_337, hq_338, hq_9, by decide +kernel⟩
theorem inl_X9_53 : hz_INL RX9 53 yX8_init "ThermalCoreScheduler" cX8_init 1 0 := ⟨List.mem_of_getElem? (i := 4) (by decide +kernel), hq_340, hq_9, hq_341, rfl, ⟨by decide, by decide, by decide +kernel⟩⟩
theorem fl_X8_29 : hz_FL RX8 29 9 0 .int false := ⟨RX8, TX8, 3, tyX8, rfl, rfl, by decide, by decide, hz_inX8, hq_343, tyX8_ok, nmX8, by decide +kernel, rfl, fun _ => rfl⟩
theorem fl_X9_326 : hz_FL RX9 326 9 0 .int false := ⟨RX8, TX8, 3, tyX8, rfl, rfl, by decide, by decide, hz_inX8, hq_344, tyX8_ok, nmX8, by decide +kernel, rfl, fun h => nomatch h⟩
theorem fl_X8_9 : hz_FL RX8 9 9 1 (.array .int) true := ⟨RX8, TX8, 3, tyX8, rfl, rfl, by decide, by decide, hz_inX8, hq_345, tyX8_ok, nmX8, by decide +kernel, rfl, fun _ => rfl⟩
theorem fl_X9_327 : hz_FLr RX9 327 9 1 := ⟨RX8, TX8, 3, rfl, rfl, by decide, by decide, hz_inX8, hq_346⟩
theorem fl_X8_15 : hz_FL RX8 15 9 2 (.array .int) true := ⟨RX8, TX8, 3, tyX8, rfl, rfl, by decide, by decide, hz_inX8, hq_347, tyX8_ok, nmX8, by decide +kernel, rfl, fun _ => rfl⟩
theorem fl_X9_330 : hz_FLr RX9 330 9 2 := ⟨RX8, TX8, 3, rfl, rfl, by decide, by decide, hz_inX8, hq_348⟩
theorem cl_X9_58 : hz_CL RX9 58 7 := ⟨RX6, TX6, 1, tyX6, rfl, rfl, by decide, hz_inX6, tyX6_ok, hq_356, hq_357, hq_10, by decide +kernel⟩
theorem inl_X9_60 : hz_INL RX9 60 yX6_init "ThermalCoreScheduler" cX6_init 1 0 := ⟨List.mem_of_getElem? (i := 5) (by decide +kernel), hq_359, hq_10, hq_360, rfl, ⟨by decide, by decide, by decide +kernel⟩⟩
theorem fl_X6_9 : hz_FL RX6 9 7 0 (.array .int) true := ⟨RX6, TX6, 1, tyX6, rfl, rfl, by decide, by decide, hz_inX6, hq_362, tyX6_ok, nmX6, by decide +kernel, rfl, fun _ => rfl⟩
theorem fl_X9_10 : hz_FL RX9 10 10 0 (.object "ThermalCoreScheduler$Text") true := ⟨RX9, TX9, 10, tyX9, rfl, rfl, by decide, by decide, hz_inX9, hq_366, tyX9_ok, nmX9, by decide +kernel, rfl, fun _ => rfl⟩
theorem fl_X9_21 : hz_FL RX9 21 10 1 (.object "ThermalCoreScheduler$TextParser") true := ⟨RX9, TX9, 10, tyX9, rfl, rfl, by decide, by decide, hz_inX9, hq_367, tyX9_ok, nmX9, by decide +kernel, rfl, fun _ => rfl⟩
theorem fl_X9_28 : hz_FL RX9 28 10 2 (.object "ThermalCoreScheduler$Setup") true := ⟨RX9, TX9, 10, tyX9, rfl, rfl, by decide, by decide, hz_inX9, hq_368, tyX9_ok, nmX9, by decide +kernel, rfl, fun _ => rfl⟩
theorem fl_X9_37 : hz_FL RX9 37 10 3 (.object "ThermalCoreScheduler$State") true := ⟨RX9, TX9, 10, tyX9, rfl, rfl, by decide, by decide, hz_inX9, hq_369, tyX9_ok, nmX9, by decide +kernel, rfl, fun _ => rfl⟩
theorem fl_X9_41 : hz_FL RX9 41 10 4 (.object "ThermalCoreScheduler$State") true := ⟨RX9, TX9, 10, tyX9, rfl, rfl, by decide, by decide, hz_inX9, hq_370, tyX9_ok, nmX9, by decide +kernel, rfl, fun _ => rfl⟩
theorem fl_X9_47 : hz_FL RX9 47 10 5 (.object "ThermalCoreScheduler$History") true := ⟨RX9, TX9, 10, tyX9, rfl, rfl, by decide, by decide, hz_inX9, hq_371, tyX9_ok, nmX9, by decide +kernel, rfl, fun _ => rfl⟩
theorem fl_X9_54 : hz_FL RX9 54 10 6 (.object "ThermalCoreScheduler$WakeUpPlan") true := ⟨RX9, TX9, 10, tyX9, rfl, rfl, by decide, by decide, hz_inX9, hq_372, tyX9_ok, nmX9, by decide +kernel, rfl, fun _ => rfl⟩
theorem fl_X9_61 : hz_FL RX9 61 10 7 (.object "ThermalCoreScheduler$TickMixer") true := ⟨RX9, TX9, 10, tyX9, rfl, rfl, by decide, by decide, hz_inX9, hq_373, tyX9_ok, nmX9, by decide +kernel, rfl, fun _ => rfl⟩
theorem fl_X9_65 : hz_FL RX9 65 10 8 .boolean false := ⟨RX9, TX9, 10, tyX9, rfl, rfl, by decide, by decide, hz_inX9, hq_374, tyX9_ok, nmX9, by decide +kernel, rfl, fun _ => rfl⟩
theorem fl_X9_69 : hz_FL RX9 69 10 9 .int false := ⟨RX9, TX9, 10, tyX9, rfl, rfl, by decide, by decide, hz_inX9, hq_375, tyX9_ok, nmX9, by decide +kernel, rfl, fun _ => rfl⟩
theorem vl_L_157 : hz_VL RL 157 10 yX9_load cX9_load 2 (Option.some FieldType.int) 0 := ⟨RX9, TX9, 10, rfl, by decide, hq_397, hq_398, hq_399, hq_1, hq_400, rfl, by decide, by decide, by decide +kernel⟩
theorem vl_X9_91 : hz_VL RX9 91 6 yX5_parseText cX5_parseText 2 (Option.some FieldType.boolean) 0 := ⟨RX5, TX5, 5, rfl, by decide, hq_401, hq_402, hq_403, hq_3, hq_404, rfl, by decide, by decide, by decide +kernel⟩
theorem vl_X5_34 : hz_VL RX5 34 8 yX7_readFirst cX7_readFirst 1 (Option.none : Option FieldType) 0 := ⟨RX7, TX7, 4, rfl, by decide, hq_405, hq_406, hq_407, hq_5, hq_408, rfl, by decide, by decide, by decide +kernel⟩
theorem vl_X7_17 : hz_VL RX7 17 8 yX7_readNext cX7_readNext 1 (Option.none : Option FieldType) 0 := ⟨RX7, TX7, 4, rfl, by decide, hq_409, hq_410, hq_411, hq_5, hq_412, rfl, by decide, by decide, by decide +kernel⟩
theorem vl_X7_28 : hz_VL RX7 28 8 yX7_kindAt cX7_kindAt 3 (Option.some FieldType.int) 1 := ⟨RX7, TX7, 4, rfl, by decide, hq_413, hq_415, hp_0_0, hq_5, hq_416, rfl, by decide, by decide, by decide +kernel⟩
theorem vl_X7_41 : hz_VL RX7 41 5 yX4_byteAt cX4_byteAt 2 (Option.some FieldType.int) 1 := ⟨RX4, TX4, 2, rfl, by decide, hq_417, hq_418, hq_419, hq_2, hq_420, rfl, by decide, by decide, by decide +kernel⟩
theorem vl_X5_37 : hz_VL RX5 37 6 yX5_readSystem cX5_readSystem 1 (Option.some FieldType.boolean) 0 := ⟨RX5, TX5, 5, rfl, by decide, hq_424, hq_426, hp_0_1, hq_3, hq_427, rfl, by decide, by decide, by decide +kernel⟩
theorem vl_X5_65 : hz_VL RX5 65 6 yX5_acceptWord cX5_acceptWord 2 (Option.some FieldType.boolean) 1 := ⟨RX5, TX5, 5, rfl, by decide, hq_429, hq_431, hp_0_2, hq_3, hq_432, rfl, by decide, by decide, by decide +kernel⟩
theorem vl_X5_56 : hz_VL RX5 56 8 yX7_isAtWord cX7_isAtWord 3 (Option.some FieldType.boolean) 1 := ⟨RX7, TX7, 4, rfl, by decide, hq_433, hq_434, hq_435, hq_5, hq_436, rfl, by decide, by decide, by decide +kernel⟩
theorem vl_X5_60 : hz_VL RX5 60 6 yX5_fail cX5_fail 2 (Option.some FieldType.boolean) 1 := ⟨RX5, TX5, 5, rfl, by decide, hq_485, hq_487, hp_0_3, hq_3, hq_488, rfl, by decide, by decide, by decide +kernel⟩
theorem vl_X5_124 : hz_VL RX5 124 8 yX7_readNext cX7_readNext 1 (Option.none : Option FieldType) 0 := ⟨RX7, TX7, 4, rfl, by decide, hq_489, hq_410, hq_411, hq_5, hq_412, rfl, by decide, by decide, by decide +kernel⟩
theorem vl_X5_68 : hz_VL RX5 68 6 yX5_acceptNumber cX5_acceptNumber 3 (Option.some FieldType.boolean) 2 := ⟨RX5, TX5, 5, rfl, by decide, hq_490, hq_492, hp_0_4, hq_3, hq_493, rfl, by decide, by decide, by decide +kernel⟩
theorem vl_X5_146 : hz_VL RX5 146 8 yX7_numberHere cX7_numberHere 3 (Option.some FieldType.int) 0 := ⟨RX7, TX7, 4, rfl, by decide, hq_494, hq_495, hq_496, hq_5, hq_497, rfl, by decide, by decide, by decide +kernel⟩
theorem vl_X5_78 : hz_VL RX5 78 6 yX5_acceptSemicolon cX5_acceptSemicolon 1 (Option.some FieldType.boolean) 0 := ⟨RX5, TX5, 5, rfl, by decide, hq_498, hq_500, hp_0_5, hq_3, hq_501, rfl, by decide, by decide, by decide +kernel⟩
theorem vl_X5_41 : hz_VL RX5 41 6 yX5_readDomain cX5_readDomain 2 (Option.some FieldType.boolean) 1 := ⟨RX5, TX5, 5, rfl, by decide, hq_502, hq_504, hp_0_6, hq_3, hq_505, rfl, by decide, by decide, by decide +kernel⟩
theorem vl_X5_81 : hz_VL RX5 81 6 yX5_readHeat cX5_readHeat 2 (Option.some FieldType.boolean) 1 := ⟨RX5, TX5, 5, rfl, by decide, hq_507, hq_509, hp_0_7, hq_3, hq_510, rfl, by decide, by decide, by decide +kernel⟩
theorem vl_X5_84 : hz_VL RX5 84 6 yX5_readPower cX5_readPower 2 (Option.some FieldType.boolean) 1 := ⟨RX5, TX5, 5, rfl, by decide, hq_512, hq_514, hp_0_8, hq_3, hq_515, rfl, by decide, by decide, by decide +kernel⟩
theorem vl_X5_87 : hz_VL RX5 87 6 yX5_readPolicy cX5_readPolicy 2 (Option.some FieldType.boolean) 1 := ⟨RX5, TX5, 5, rfl, by decide, hq_516, hq_518, hp_0_9, hq_3, hq_519, rfl, by decide, by decide, by decide +kernel⟩
theorem vl_X5_45 : hz_VL RX5 45 6 yX5_readLevels cX5_readLevels 3 (Option.some FieldType.boolean) 1 := ⟨RX5, TX5, 5, rfl, by decide, hq_524, hq_526, hp_0_10, hq_3, hq_527, rfl, by decide, by decide, by decide +kernel⟩
theorem vl_X5_129 : hz_VL RX5 129 6 yX5_readLevel cX5_readLevel 5 (Option.some FieldType.boolean) 2 := ⟨RX5, TX5, 5, rfl, by decide, hq_529, hq_531, hp_0_11, hq_3, hq_532, rfl, by decide, by decide, by decide +kernel⟩
theorem vl_X9_104 : hz_VL RX9 104 3 yX2_copyFrom cX2_copyFrom 2 (Option.none : Option FieldType) 1 := ⟨RX2, TX2, 13, rfl, by decide, hq_534, hq_535, hq_536, hq_4, hq_537, rfl, by decide, by decide, by decide +kernel⟩
theorem snl_X2_52 : hz_SNL RX2 52 yX9_copyRow "ThermalCoreScheduler" cX9_copyRow 2 (Option.none : Option FieldType) 2 := ⟨List.mem_of_getElem? (i := 6) (by decide +kernel), hq_539, hq_1, hq_540, ⟨by decide, by decide, by decide +kernel⟩⟩
theorem vl_X9_107 : hz_VL RX9 107 4 yX3_reset cX3_reset 2 (Option.none : Option FieldType) 0 := ⟨RX3, TX3, 15, rfl, by decide, hq_545, hq_546, hq_547, hq_6, hq_548, rfl, by decide, by decide, by decide +kernel⟩
theorem vl_X3_56 : hz_VL RX3 56 2 yX1_reset cX1_reset 2 (Option.none : Option FieldType) 0 := ⟨RX1, TX1, 15, rfl, by decide, hq_549, hq_550, hq_551, hq_7, hq_552, rfl, by decide, by decide, by decide +kernel⟩
theorem snl_X3_70 : hz_SNL RX3 70 yX9_copyRow "ThermalCoreScheduler" cX9_copyRow 2 (Option.none : Option FieldType) 2 := ⟨List.mem_of_getElem? (i := 7) (by decide +kernel), hq_539, hq_1, hq_540, ⟨by decide, by decide, by decide +kernel⟩⟩
theorem vl_X9_110 : hz_VL RX9 110 1 yX0_forgetAll cX0_forgetAll 1 (Option.none : Option FieldType) 0 := ⟨RX0, TX0, 3, rfl, by decide, hq_554, hq_555, hq_556, hq_8, hq_557, rfl, by decide, by decide, by decide +kernel⟩
theorem vl_L_161 : hz_VL RL 161 10 yX9_errorPosition cX9_errorPosition 1 (Option.some FieldType.int) 0 := ⟨RX9, TX9, 10, rfl, by decide, hq_558, hq_559, hq_560, hq_1, hq_561, rfl, by decide, by decide, by decide +kernel⟩
theorem vl_L_7 : hz_VL RL 7 10 yX9_append cX9_append 6 (Option.some FieldType.int) 5 := ⟨RX9, TX9, 10, rfl, by decide, hq_566, hq_567, hq_568, hq_1, hq_569, rfl, by decide, by decide, by decide +kernel⟩
theorem vl_X9_83 : hz_VL RX9 83 5 yX4_addBytesOf cX4_addBytesOf 3 (Option.none : Option FieldType) 1 := ⟨RX4, TX4, 2, rfl, by decide, hq_638, hq_639, hq_640, hq_2, hq_641, rfl, by decide, by decide, by decide +kernel⟩
theorem vl_L_15 : hz_VL RL 15 10 yX9_truncate cX9_truncate 2 (Option.some FieldType.int) 1 := ⟨RX9, TX9, 10, rfl, by decide, hq_646, hq_647, hq_648, hq_1, hq_649, rfl, by decide, by decide, by decide +kernel⟩
theorem sl_X9_87 : hz_SL RX9 87 yX9_needRange cX9_needRange 3 (Option.none : Option FieldType) 3 := ⟨hq_650, hq_651, hq_1, hq_652, ⟨by decide, by decide, by decide +kernel⟩⟩
theorem vl_L_21 : hz_VL RL 21 10 yX9_addJob cX9_addJob 8 (Option.some FieldType.int) 6 := ⟨RX9, TX9, 10, rfl, by decide, hq_672, hq_673, hq_674, hq_1, hq_675, rfl, by decide, by decide, by decide +kernel⟩
theorem vl_X9_116 : hz_VL RX9 116 10 yX9_needDomain cX9_needDomain 2 (Option.none : Option FieldType) 1 := ⟨RX9, TX9, 10, rfl, by decide, hq_676, hq_678, hp_0_13, hq_1, hq_679, rfl, by decide, by decide, by decide +kernel⟩
theorem vl_X9_164 : hz_VL RX9 164 10 yX9_needSystem cX9_needSystem 1 (Option.none : Option FieldType) 0 := ⟨RX9, TX9, 10, rfl, by decide, hq_680, hq_682, hp_0_14, hq_1, hq_683, rfl, by decide, by decide, by decide +kernel⟩
theorem vl_X9_128 : hz_VL RX9 128 1 yX0_remember cX0_remember 3 (Option.none : Option FieldType) 1 := ⟨RX0, TX0, 3, rfl, by decide, hq_685, hq_686, hq_687, hq_8, hq_688, rfl, by decide, by decide, by decide +kernel⟩
theorem vl_X0_27 : hz_VL RX0 27 4 yX3_copyFrom cX3_copyFrom 2 (Option.none : Option FieldType) 1 := ⟨RX3, TX3, 15, rfl, by decide, hq_689, hq_690, hq_691, hq_6, hq_692, rfl, by decide, by decide, by decide +kernel⟩
theorem vl_X3_78 : hz_VL RX3 78 2 yX1_copyFrom cX1_copyFrom 2 (Option.none : Option FieldType) 1 := ⟨RX1, TX1, 15, rfl, by decide, hq_693, hq_694, hq_695, hq_7, hq_696, rfl, by decide, by decide, by decide +kernel⟩
theorem snl_X1_58 : hz_SNL RX1 58 yX9_copyRow "ThermalCoreScheduler" cX9_copyRow 2 (Option.none : Option FieldType) 2 := ⟨List.mem_of_getElem? (i := 8) (by decide +kernel), hq_539, hq_1, hq_540, ⟨by decide, by decide, by decide +kernel⟩⟩
theorem vl_X9_132 : hz_VL RX9 132 2 yX1_addTo cX1_addTo 5 (Option.some FieldType.int) 3 := ⟨RX1, TX1, 15, rfl, by decide, hq_699, hq_700, hq_701, hq_7, hq_702, rfl, by decide, by decide, by decide +kernel⟩
theorem snl_X1_62 : hz_SNL RX1 62 yX9_with "ThermalCoreScheduler" cX9_with 2 (Option.some FieldType.int) 2 := ⟨List.mem_of_getElem? (i := 9) (by decide +kernel), hq_704, hq_1, hq_705, ⟨by decide, by decide, by decide +kernel⟩⟩
theorem vl_X9_139 : hz_VL RX9 139 2 yX1_setTimes cX1_setTimes 5 (Option.none : Option FieldType) 4 := ⟨RX1, TX1, 15, rfl, by decide, hq_706, hq_707, hq_708, hq_7, hq_709, rfl, by decide, by decide, by decide +kernel⟩
theorem vl_X1_66 : hz_VL RX1 66 2 yX1_has cX1_has 2 (Option.some FieldType.boolean) 1 := ⟨RX1, TX1, 15, rfl, by decide, hq_710, hq_711, hq_712, hq_7, hq_713, rfl, by decide, by decide, by decide +kernel⟩
theorem vl_L_25 : hz_VL RL 25 10 yX9_cancelJob cX9_cancelJob 2 (Option.some FieldType.int) 1 := ⟨RX9, TX9, 10, rfl, by decide, hq_717, hq_718, hq_719, hq_1, hq_720, rfl, by decide, by decide, by decide +kernel⟩
theorem vl_X9_143 : hz_VL RX9 143 10 yX9_needJob cX9_needJob 2 (Option.none : Option FieldType) 1 := ⟨RX9, TX9, 10, rfl, by decide, hq_721, hq_723, hp_0_15, hq_1, hq_724, rfl, by decide, by decide, by decide +kernel⟩
theorem vl_X9_146 : hz_VL RX9 146 2 yX1_isOver cX1_isOver 2 (Option.some FieldType.boolean) 1 := ⟨RX1, TX1, 15, rfl, by decide, hq_725, hq_726, hq_727, hq_7, hq_728, rfl, by decide, by decide, by decide +kernel⟩
theorem snl_X1_70 : hz_SNL RX1 70 yX9_holds "ThermalCoreScheduler" cX9_holds 2 (Option.some FieldType.boolean) 2 := ⟨List.mem_of_getElem? (i := 10) (by decide +kernel), hq_730, hq_1, hq_731, ⟨by decide, by decide, by decide +kernel⟩⟩
theorem vl_X9_150 : hz_VL RX9 150 4 yX3_cancel cX3_cancel 3 (Option.none : Option FieldType) 1 := ⟨RX3, TX3, 15, rfl, by decide, hq_732, hq_733, hq_734, hq_6, hq_735, rfl, by decide, by decide, by decide +kernel⟩
theorem vl_X3_82 : hz_VL RX3 82 2 yX1_cancel cX1_cancel 3 (Option.none : Option FieldType) 1 := ⟨RX1, TX1, 15, rfl, by decide, hq_736, hq_737, hq_738, hq_7, hq_739, rfl, by decide, by decide, by decide +kernel⟩
theorem snl_X1_87 : hz_SNL RX1 87 yX9_without "ThermalCoreScheduler" cX9_without 2 (Option.some FieldType.int) 2 := ⟨List.mem_of_getElem? (i := 11) (by decide +kernel), hq_741, hq_1, hq_742, ⟨by decide, by decide, by decide +kernel⟩⟩
theorem vl_L_28 : hz_VL RL 28 10 yX9_setPolicy cX9_setPolicy 4 (Option.some FieldType.int) 2 := ⟨RX9, TX9, 10, rfl, by decide, hq_746, hq_747, hq_748, hq_1, hq_749, rfl, by decide, by decide, by decide +kernel⟩
theorem vl_L_32 : hz_VL RL 32 10 yX9_setLimit cX9_setLimit 4 (Option.some FieldType.int) 2 := ⟨RX9, TX9, 10, rfl, by decide, hq_753, hq_754, hq_755, hq_1, hq_756, rfl, by decide, by decide, by decide +kernel⟩
theorem vl_L_35 : hz_VL RL 35 10 yX9_setAmbient cX9_setAmbient 3 (Option.some FieldType.int) 1 := ⟨RX9, TX9, 10, rfl, by decide, hq_761, hq_762, hq_763, hq_1, hq_764, rfl, by decide, by decide, by decide +kernel⟩
theorem vl_L_38 : hz_VL RL 38 10 yX9_tick cX9_tick 4 (Option.some FieldType.int) 1 := ⟨RX9, TX9, 10, rfl, by decide, hq_768, hq_769, hq_770, hq_1, hq_771, rfl, by decide, by decide, by decide +kernel⟩
theorem vl_X9_170 : hz_VL RX9 170 4 yX3_passTick cX3_passTick 3 (Option.some FieldType.int) 0 := ⟨RX3, TX3, 15, rfl, by decide, hq_772, hq_773, hq_774, hq_6, hq_775, rfl, by decide, by decide, by decide +kernel⟩
theorem vl_X3_97 : hz_VL RX3 97 4 yX3_startJobs cX3_startJobs 3 (Option.none : Option FieldType) 1 := ⟨RX3, TX3, 15, rfl, by decide, hq_776, hq_778, hp_1_0, hq_6, hq_779, rfl, by decide, by decide, by decide +kernel⟩
theorem vl_X3_104 : hz_VL RX3 104 4 yX3_countBusyCores cX3_countBusyCores 4 (Option.some FieldType.int) 1 := ⟨RX3, TX3, 15, rfl, by decide, hq_780, hq_782, hp_1_1, hq_6, hq_783, rfl, by decide, by decide, by decide +kernel⟩
theorem vl_X3_107 : hz_VL RX3 107 4 yX3_releaseJobs cX3_releaseJobs 5 (Option.none : Option FieldType) 2 := ⟨RX3, TX3, 15, rfl, by decide, hq_784, hq_786, hp_1_2, hq_6, hq_787, rfl, by decide, by decide, by decide +kernel⟩
theorem vl_X3_120 : hz_VL RX3 120 2 yX1_leastSlackEnd cX1_leastSlackEnd 4 (Option.some FieldType.int) 1 := ⟨RX1, TX1, 15, rfl, by decide, hq_788, hq_789, hq_790, hq_7, hq_791, rfl, by decide, by decide, by decide +kernel⟩
theorem vl_X3_123 : hz_VL RX3 123 2 yX1_releasedBy cX1_releasedBy 5 (Option.some FieldType.int) 2 := ⟨RX1, TX1, 15, rfl, by decide, hq_794, hq_795, hq_796, hq_7, hq_797, rfl, by decide, by decide, by decide +kernel⟩
theorem vl_X3_111 : hz_VL RX3 111 4 yX3_assignJobs cX3_assignJobs 5 (Option.none : Option FieldType) 1 := ⟨RX3, TX3, 15, rfl, by decide, hq_798, hq_800, hp_1_3, hq_6, hq_801, rfl, by decide, by decide, by decide +kernel⟩
theorem vl_X3_130 : hz_VL RX3 130 2 yX1_firstByDeadline cX1_firstByDeadline 4 (Option.some FieldType.int) 1 := ⟨RX1, TX1, 15, rfl, by decide, hq_802, hq_803, hq_804, hq_7, hq_805, rfl, by decide, by decide, by decide +kernel⟩
theorem snl_X3_133 : hz_SNL RX3 133 yX9_without "ThermalCoreScheduler" cX9_without 2 (Option.some FieldType.int) 2 := ⟨List.mem_of_getElem? (i := 12) (by decide +kernel), hq_741, hq_1, hq_742, ⟨by decide, by decide, by decide +kernel⟩⟩
theorem vl_X3_100 : hz_VL RX3 100 4 yX3_runDomain cX3_runDomain 7 (Option.some FieldType.int) 1 := ⟨RX3, TX3, 15, rfl, by decide, hq_807, hq_809, hp_1_4, hq_6, hq_810, rfl, by decide, by decide, by decide +kernel⟩
theorem vl_X3_136 : hz_VL RX3 136 4 yX3_suggestedLevel cX3_suggestedLevel 4 (Option.some FieldType.int) 1 := ⟨RX3, TX3, 15, rfl, by decide, hq_811, hq_813, hp_1_5, hq_6, hq_814, rfl, by decide, by decide, by decide +kernel⟩
theorem vl_X3_171 : hz_VL RX3 171 4 yX3_greatestRequirement cX3_greatestRequirement 6 (Option.some FieldType.int) 1 := ⟨RX3, TX3, 15, rfl, by decide, hq_815, hq_817, hp_1_6, hq_6, hq_818, rfl, by decide, by decide, by decide +kernel⟩
theorem vl_X3_177 : hz_VL RX3 177 2 yX1_has cX1_has 2 (Option.some FieldType.boolean) 1 := ⟨RX1, TX1, 15, rfl, by decide, hq_819, hq_711, hq_712, hq_7, hq_713, rfl, by decide, by decide, by decide +kernel⟩
theorem snl_X3_187 : hz_SNL RX3 187 yX9_dividedUp "ThermalCoreScheduler" cX9_dividedUp 3 (Option.some FieldType.int) 2 := ⟨List.mem_of_getElem? (i := 13) (by decide +kernel), hq_821, hq_1, hq_822, ⟨by decide, by decide, by decide +kernel⟩⟩
theorem vl_X3_174 : hz_VL RX3 174 4 yX3_levelFor cX3_levelFor 4 (Option.some FieldType.int) 2 := ⟨RX3, TX3, 15, rfl, by decide, hq_826, hq_828, hp_1_7, hq_6, hq_829, rfl, by decide, by decide, by decide +kernel⟩
theorem vl_X3_139 : hz_VL RX3 139 4 yX3_creditedLevel cX3_creditedLevel 4 (Option.some FieldType.int) 2 := ⟨RX3, TX3, 15, rfl, by decide, hq_830, hq_832, hp_1_8, hq_6, hq_833, rfl, by decide, by decide, by decide +kernel⟩
theorem vl_X3_142 : hz_VL RX3 142 4 yX3_coolLevel cX3_coolLevel 4 (Option.some FieldType.int) 2 := ⟨RX3, TX3, 15, rfl, by decide, hq_835, hq_837, hp_1_9, hq_6, hq_838, rfl, by decide, by decide, by decide +kernel⟩
theorem vl_X3_145 : hz_VL RX3 145 4 yX3_isTooHot cX3_isTooHot 4 (Option.some FieldType.boolean) 2 := ⟨RX3, TX3, 15, rfl, by decide, hq_839, hq_841, hp_1_10, hq_6, hq_842, rfl, by decide, by decide, by decide +kernel⟩
theorem vl_X3_149 : hz_VL RX3 149 4 yX3_powerAt cX3_powerAt 5 (Option.some FieldType.int) 3 := ⟨RX3, TX3, 15, rfl, by decide, hq_843, hq_845, hp_1_11, hq_6, hq_846, rfl, by decide, by decide, by decide +kernel⟩
theorem vl_X3_159 : hz_VL RX3 159 4 yX3_temperatureAfter cX3_temperatureAfter 9 (Option.some FieldType.int) 2 := ⟨RX3, TX3, 15, rfl, by decide, hq_847, hq_849, hp_1_12, hq_6, hq_850, rfl, by decide, by decide, by decide +kernel⟩
theorem vl_X3_156 : hz_VL RX3 156 4 yX3_countCredit cX3_countCredit 3 (Option.none : Option FieldType) 2 := ⟨RX3, TX3, 15, rfl, by decide, hq_853, hq_855, hp_1_13, hq_6, hq_856, rfl, by decide, by decide, by decide +kernel⟩
theorem vl_X3_165 : hz_VL RX3 165 4 yX3_workOnJobs cX3_workOnJobs 7 (Option.some FieldType.int) 2 := ⟨RX3, TX3, 15, rfl, by decide, hq_857, hq_859, hp_1_14, hq_6, hq_860, rfl, by decide, by decide, by decide +kernel⟩
theorem vl_X3_214 : hz_VL RX3 214 2 yX1_finish cX1_finish 4 (Option.none : Option FieldType) 2 := ⟨RX1, TX1, 15, rfl, by decide, hq_861, hq_862, hq_863, hq_7, hq_864, rfl, by decide, by decide, by decide +kernel⟩
theorem vl_L_41 : hz_VL RL 41 10 yX9_clock cX9_clock 1 (Option.some FieldType.int) 0 := ⟨RX9, TX9, 10, rfl, by decide, hq_868, hq_869, hq_870, hq_1, hq_871, rfl, by decide, by decide, by decide +kernel⟩
theorem vl_L_45 : hz_VL RL 45 10 yX9_temperature cX9_temperature 2 (Option.some FieldType.int) 1 := ⟨RX9, TX9, 10, rfl, by decide, hq_875, hq_876, hq_877, hq_1, hq_878, rfl, by decide, by decide, by decide +kernel⟩
theorem vl_L_48 : hz_VL RL 48 10 yX9_level cX9_level 2 (Option.some FieldType.int) 1 := ⟨RX9, TX9, 10, rfl, by decide, hq_882, hq_883, hq_884, hq_1, hq_885, rfl, by decide, by decide, by decide +kernel⟩
theorem vl_L_51 : hz_VL RL 51 10 yX9_energy cX9_energy 2 (Option.some FieldType.int) 1 := ⟨RX9, TX9, 10, rfl, by decide, hq_889, hq_890, hq_891, hq_1, hq_892, rfl, by decide, by decide, by decide +kernel⟩
theorem vl_L_54 : hz_VL RL 54 10 yX9_domainValue cX9_domainValue 3 (Option.some FieldType.int) 2 := ⟨RX9, TX9, 10, rfl, by decide, hq_896, hq_897, hq_898, hq_1, hq_899, rfl, by decide, by decide, by decide +kernel⟩
theorem vl_L_57 : hz_VL RL 57 10 yX9_jobOn cX9_jobOn 3 (Option.some FieldType.int) 2 := ⟨RX9, TX9, 10, rfl, by decide, hq_904, hq_905, hq_906, hq_1, hq_907, rfl, by decide, by decide, by decide +kernel⟩
theorem vl_L_60 : hz_VL RL 60 10 yX9_throttleOrder cX9_throttleOrder 3 (Option.some FieldType.int) 1 := ⟨RX9, TX9, 10, rfl, by decide, hq_912, hq_913, hq_914, hq_1, hq_915, rfl, by decide, by decide, by decide +kernel⟩
theorem sl_X9_212 : hz_SL RX9 212 yX9_needNotNegative cX9_needNotNegative 1 (Option.none : Option FieldType) 1 := ⟨hq_916, hq_917, hq_1, hq_918, ⟨by decide, by decide, by decide +kernel⟩⟩
theorem vl_X9_215 : hz_VL RX9 215 4 yX3_throttleRank cX3_throttleRank 6 (Option.some FieldType.int) 1 := ⟨RX3, TX3, 15, rfl, by decide, hq_920, hq_921, hq_922, hq_6, hq_923, rfl, by decide, by decide, by decide +kernel⟩
theorem vl_L_65 : hz_VL RL 65 10 yX9_meanPower cX9_meanPower 2 (Option.some FieldType.float) 1 := ⟨RX9, TX9, 10, rfl, by decide, hq_962, hq_963, hq_964, hq_1, hq_965, rfl, by decide, by decide, by decide +kernel⟩
theorem vl_L_71 : hz_VL RL 71 10 yX9_jobCount cX9_jobCount 1 (Option.some FieldType.int) 0 := ⟨RX9, TX9, 10, rfl, by decide, hq_972, hq_973, hq_974, hq_1, hq_975, rfl, by decide, by decide, by decide +kernel⟩
theorem vl_L_74 : hz_VL RL 74 10 yX9_jobValue cX9_jobValue 4 (Option.some FieldType.int) 2 := ⟨RX9, TX9, 10, rfl, by decide, hq_979, hq_980, hq_981, hq_1, hq_982, rfl, by decide, by decide, by decide +kernel⟩
theorem vl_X9_247 : hz_VL RX9 247 2 yX1_statusOf cX1_statusOf 2 (Option.some FieldType.int) 1 := ⟨RX1, TX1, 15, rfl, by decide, hq_983, hq_984, hq_985, hq_7, hq_986, rfl, by decide, by decide, by decide +kernel⟩
theorem vl_L_77 : hz_VL RL 77 10 yX9_doneAt cX9_doneAt 2 (Option.some FieldType.int) 1 := ⟨RX9, TX9, 10, rfl, by decide, hq_990, hq_991, hq_992, hq_1, hq_993, rfl, by decide, by decide, by decide +kernel⟩
theorem vl_X9_250 : hz_VL RX9 250 2 yX1_endOf cX1_endOf 2 (Option.some FieldType.int) 1 := ⟨RX1, TX1, 15, rfl, by decide, hq_994, hq_995, hq_996, hq_7, hq_997, rfl, by decide, by decide, by decide +kernel⟩
theorem vl_L_80 : hz_VL RL 80 10 yX9_lateJobs cX9_lateJobs 1 (Option.some FieldType.int) 0 := ⟨RX9, TX9, 10, rfl, by decide, hq_1001, hq_1002, hq_1003, hq_1, hq_1004, rfl, by decide, by decide, by decide +kernel⟩
theorem vl_X9_256 : hz_VL RX9 256 2 yX1_lateOf cX1_lateOf 4 (Option.some FieldType.int) 1 := ⟨RX1, TX1, 15, rfl, by decide, hq_1005, hq_1006, hq_1007, hq_7, hq_1008, rfl, by decide, by decide, by decide +kernel⟩
theorem vl_L_83 : hz_VL RL 83 10 yX9_queued cX9_queued 6 (Option.some FieldType.int) 2 := ⟨RX9, TX9, 10, rfl, by decide, hq_1012, hq_1013, hq_1014, hq_1, hq_1015, rfl, by decide, by decide, by decide +kernel⟩
theorem sl_X9_265 : hz_SL RX9 265 yJ6_bitCount_0f7a4 cJ6_bitCount_0f7a4 1 (Option.some FieldType.int) 1 := ⟨hq_1016, hq_1017, hq_25, hq_1018, ⟨by decide, by decide, by decide +kernel⟩⟩
theorem vl_X9_272 : hz_VL RX9 272 2 yX1_firstByDeadline cX1_firstByDeadline 4 (Option.some FieldType.int) 1 := ⟨RX1, TX1, 15, rfl, by decide, hq_1023, hq_803, hq_804, hq_7, hq_805, rfl, by decide, by decide, by decide +kernel⟩
theorem sl_X9_275 : hz_SL RX9 275 yX9_without cX9_without 2 (Option.some FieldType.int) 2 := ⟨hq_1024, hq_741, hq_1, hq_742, ⟨by decide, by decide, by decide +kernel⟩⟩
theorem vl_L_86 : hz_VL RL 86 10 yX9_estimate cX9_estimate 2 (Option.some FieldType.int) 1 := ⟨RX9, TX9, 10, rfl, by decide, hq_1028, hq_1029, hq_1030, hq_1, hq_1031, rfl, by decide, by decide, by decide +kernel⟩
theorem vl_L_89 : hz_VL RL 89 10 yX9_deviation cX9_deviation 3 (Option.some FieldType.double) 1 := ⟨RX9, TX9, 10, rfl, by decide, hq_1035, hq_1036, hq_1037, hq_1, hq_1038, rfl, by decide, by decide, by decide +kernel⟩
theorem vl_X9_287 : hz_VL RX9 287 2 yX1_deviationSum cX1_deviationSum 4 (Option.some FieldType.int) 1 := ⟨RX1, TX1, 15, rfl, by decide, hq_1040, hq_1041, hq_1042, hq_7, hq_1043, rfl, by decide, by decide, by decide +kernel⟩
theorem vl_L_93 : hz_VL RL 93 10 yX9_willBeDone cX9_willBeDone 3 (Option.some FieldType.int) 1 := ⟨RX9, TX9, 10, rfl, by decide, hq_1050, hq_1051, hq_1052, hq_1, hq_1053, rfl, by decide, by decide, by decide +kernel⟩
theorem vl_X9_290 : hz_VL RX9 290 4 yX3_copyFrom cX3_copyFrom 2 (Option.none : Option FieldType) 1 := ⟨RX3, TX3, 15, rfl, by decide, hq_1054, hq_690, hq_691, hq_6, hq_692, rfl, by decide, by decide, by decide +kernel⟩
theorem vl_L_96 : hz_VL RL 96 10 yX9_allOver cX9_allOver 1 (Option.some FieldType.int) 0 := ⟨RX9, TX9, 10, rfl, by decide, hq_1058, hq_1059, hq_1060, hq_1, hq_1061, rfl, by decide, by decide, by decide +kernel⟩
theorem vl_X9_292 : hz_VL RX9 292 4 yX3_passTicksUntilOver cX3_passTicksUntilOver 2 (Option.none : Option FieldType) 0 := ⟨RX3, TX3, 15, rfl, by decide, hq_1062, hq_1063, hq_1064, hq_6, hq_1065, rfl, by decide, by decide, by decide +kernel⟩
theorem vl_X3_89 : hz_VL RX3 89 2 yX1_areOver cX1_areOver 1 (Option.some FieldType.boolean) 0 := ⟨RX1, TX1, 15, rfl, by decide, hq_1066, hq_1067, hq_1068, hq_7, hq_1069, rfl, by decide, by decide, by decide +kernel⟩
theorem vl_X3_93 : hz_VL RX3 93 4 yX3_passTick cX3_passTick 3 (Option.some FieldType.int) 0 := ⟨RX3, TX3, 15, rfl, by decide, hq_1070, hq_773, hq_774, hq_6, hq_775, rfl, by decide, by decide, by decide +kernel⟩
theorem vl_X9_295 : hz_VL RX9 295 2 yX1_areOver cX1_areOver 1 (Option.some FieldType.boolean) 0 := ⟨RX1, TX1, 15, rfl, by decide, hq_1071, hq_1067, hq_1068, hq_7, hq_1069, rfl, by decide, by decide, by decide +kernel⟩
theorem vl_L_99 : hz_VL RL 99 10 yX9_willBeLate cX9_willBeLate 1 (Option.some FieldType.int) 0 := ⟨RX9, TX9, 10, rfl, by decide, hq_1075, hq_1076, hq_1077, hq_1, hq_1078, rfl, by decide, by decide, by decide +kernel⟩
theorem vl_X9_298 : hz_VL RX9 298 2 yX1_lateOrOpen cX1_lateOrOpen 2 (Option.some FieldType.int) 0 := ⟨RX1, TX1, 15, rfl, by decide, hq_1079, hq_1080, hq_1081, hq_7, hq_1082, rfl, by decide, by decide, by decide +kernel⟩
theorem vl_X1_74 : hz_VL RX1 74 2 yX1_lateOf cX1_lateOf 4 (Option.some FieldType.int) 1 := ⟨RX1, TX1, 15, rfl, by decide, hq_1083, hq_1006, hq_1007, hq_7, hq_1008, rfl, by decide, by decide, by decide +kernel⟩
theorem vl_L_102 : hz_VL RL 102 10 yX9_peak cX9_peak 5 (Option.some FieldType.int) 2 := ⟨RX9, TX9, 10, rfl, by decide, hq_1087, hq_1088, hq_1089, hq_1, hq_1090, rfl, by decide, by decide, by decide +kernel⟩
theorem vl_L_105 : hz_VL RL 105 10 yX9_energyIn cX9_energyIn 3 (Option.some FieldType.int) 1 := ⟨RX9, TX9, 10, rfl, by decide, hq_1095, hq_1096, hq_1097, hq_1, hq_1098, rfl, by decide, by decide, by decide +kernel⟩
theorem vl_X9_306 : hz_VL RX9 306 4 yX3_energySum cX3_energySum 4 (Option.some FieldType.long) 0 := ⟨RX3, TX3, 15, rfl, by decide, hq_1099, hq_1100, hq_1101, hq_6, hq_1102, rfl, by decide, by decide, by decide +kernel⟩
theorem vl_L_108 : hz_VL RL 108 10 yX9_nextThrottle cX9_nextThrottle 4 (Option.some FieldType.int) 1 := ⟨RX9, TX9, 10, rfl, by decide, hq_1106, hq_1107, hq_1108, hq_1, hq_1109, rfl, by decide, by decide, by decide +kernel⟩
theorem vl_L_111 : hz_VL RL 111 10 yX9_bestPolicy cX9_bestPolicy 10 (Option.some FieldType.int) 1 := ⟨RX9, TX9, 10, rfl, by decide, hq_1113, hq_1114, hq_1115, hq_1, hq_1116, rfl, by decide, by decide, by decide +kernel⟩
theorem vl_L_114 : hz_VL RL 114 10 yX9_coolLimit cX9_coolLimit 4 (Option.some FieldType.int) 1 := ⟨RX9, TX9, 10, rfl, by decide, hq_1120, hq_1121, hq_1122, hq_1, hq_1123, rfl, by decide, by decide, by decide +kernel⟩
theorem vl_L_117 : hz_VL RL 117 10 yX9_levelEnergy cX9_levelEnergy 5 (Option.some FieldType.int) 4 := ⟨RX9, TX9, 10, rfl, by decide, hq_1128, hq_1129, hq_1130, hq_1, hq_1131, rfl, by decide, by decide, by decide +kernel⟩
theorem vl_X9_314 : hz_VL RX9 314 3 yX2_energyAt cX2_energyAt 7 (Option.some FieldType.int) 4 := ⟨RX2, TX2, 13, rfl, by decide, hq_1132, hq_1133, hq_1134, hq_4, hq_1135, rfl, by decide, by decide, by decide +kernel⟩
theorem snl_X2_56 : hz_SNL RX2 56 yX9_dividedUp "ThermalCoreScheduler" cX9_dividedUp 3 (Option.some FieldType.int) 2 := ⟨List.mem_of_getElem? (i := 14) (by decide +kernel), hq_821, hq_1, hq_822, ⟨by decide, by decide, by decide +kernel⟩⟩
theorem vl_L_121 : hz_VL RL 121 10 yX9_bestLevel cX9_bestLevel 8 (Option.some FieldType.int) 3 := ⟨RX9, TX9, 10, rfl, by decide, hq_1140, hq_1141, hq_1142, hq_1, hq_1143, rfl, by decide, by decide, by decide +kernel⟩
theorem vl_L_125 : hz_VL RL 125 10 yX9_mixedEnergy cX9_mixedEnergy 4 (Option.some FieldType.int) 3 := ⟨RX9, TX9, 10, rfl, by decide, hq_1147, hq_1148, hq_1149, hq_1, hq_1150, rfl, by decide, by decide, by decide +kernel⟩
theorem vl_X9_318 : hz_VL RX9 318 7 yX6_leastEnergy cX6_leastEnergy 6 (Option.some FieldType.int) 4 := ⟨RX6, TX6, 1, rfl, by decide, hq_1151, hq_1152, hq_1153, hq_10, hq_1154, rfl, by decide, by decide, by decide +kernel⟩
theorem vl_X6_16 : hz_VL RX6 16 7 yX6_addTick cX6_addTick 11 (Option.none : Option FieldType) 3 := ⟨RX6, TX6, 1, rfl, by decide, hq_1156, hq_1158, hp_1_15, hq_10, hq_1159, rfl, by decide, by decide, by decide +kernel⟩
theorem vl_L_128 : hz_VL RL 128 10 yX9_packedWakeUps cX9_packedWakeUps 2 (Option.some FieldType.int) 1 := ⟨RX9, TX9, 10, rfl, by decide, hq_1165, hq_1166, hq_1167, hq_1, hq_1168, rfl, by decide, by decide, by decide +kernel⟩
theorem vl_X9_322 : hz_VL RX9 322 9 yX8_makeFor cX8_makeFor 6 (Option.none : Option FieldType) 2 := ⟨RX8, TX8, 3, rfl, by decide, hq_1169, hq_1170, hq_1171, hq_9, hq_1172, rfl, by decide, by decide, by decide +kernel⟩
theorem vl_X8_33 : hz_VL RX8 33 2 yX1_leastSlackEnd cX1_leastSlackEnd 4 (Option.some FieldType.int) 1 := ⟨RX1, TX1, 15, rfl, by decide, hq_1173, hq_789, hq_790, hq_7, hq_791, rfl, by decide, by decide, by decide +kernel⟩
theorem vl_X8_46 : hz_VL RX8 46 2 yX1_releasedBy cX1_releasedBy 5 (Option.some FieldType.int) 2 := ⟨RX1, TX1, 15, rfl, by decide, hq_1175, hq_795, hq_796, hq_7, hq_797, rfl, by decide, by decide, by decide +kernel⟩
theorem vl_L_131 : hz_VL RL 131 10 yX9_packedTick cX9_packedTick 3 (Option.some FieldType.int) 2 := ⟨RX9, TX9, 10, rfl, by decide, hq_1179, hq_1180, hq_1181, hq_1, hq_1182, rfl, by decide, by decide, by decide +kernel⟩
theorem vl_L_134 : hz_VL RL 134 10 yX9_packedJobs cX9_packedJobs 3 (Option.some FieldType.int) 2 := ⟨RX9, TX9, 10, rfl, by decide, hq_1186, hq_1187, hq_1188, hq_1, hq_1189, rfl, by decide, by decide, by decide +kernel⟩
theorem vl_L_137 : hz_VL RL 137 10 yX9_undo cX9_undo 1 (Option.some FieldType.int) 0 := ⟨RX9, TX9, 10, rfl, by decide, hq_1193, hq_1194, hq_1195, hq_1, hq_1196, rfl, by decide, by decide, by decide +kernel⟩
theorem vl_X9_334 : hz_VL RX9 334 1 yX0_takeBackInto cX0_takeBackInto 3 (Option.none : Option FieldType) 1 := ⟨RX0, TX0, 3, rfl, by decide, hq_1197, hq_1198, hq_1199, hq_8, hq_1200, rfl, by decide, by decide, by decide +kernel⟩
theorem cl_L_141 : hz_CL RL 141 11 := ⟨RX10, TX10, 38, tyX10, rfl, rfl, by decide, hz_inX10, tyX10_ok, hq_1201, hq_1202, hq_11, by decide +kernel⟩
theorem il_L_143 : hz_IL RL 143 yX10_init cX10_init 1 0 := ⟨hq_1203, hq_1204, hq_11, hq_1205, rfl, ⟨by decide, by decide, by decide +kernel⟩⟩
theorem fl_X10_7 : hz_FL RX10 7 11 0 (.array .int) true := ⟨RX10, TX10, 38, tyX10, rfl, rfl, by decide, by decide, hz_inX10, hq_1207, tyX10_ok, nmX10, by decide +kernel, rfl, fun _ => rfl⟩
theorem fl_X10_13 : hz_FL RX10 13 11 1 (.array .int) true := ⟨RX10, TX10, 38, tyX10, rfl, rfl, by decide, by decide, hz_inX10, hq_1208, tyX10_ok, nmX10, by decide +kernel, rfl, fun _ => rfl⟩
theorem fl_X10_196 : hz_FL RX10 196 11 2 .int false := ⟨RX10, TX10, 38, tyX10, rfl, rfl, by decide, by decide, hz_inX10, hq_1209, tyX10_ok, nmX10, by decide +kernel, rfl, fun _ => rfl⟩
theorem fl_X10_77 : hz_FL RX10 77 11 3 .boolean false := ⟨RX10, TX10, 38, tyX10, rfl, rfl, by decide, by decide, hz_inX10, hq_1210, tyX10_ok, nmX10, by decide +kernel, rfl, fun _ => rfl⟩
theorem fl_X10_74 : hz_FL RX10 74 11 4 .int false := ⟨RX10, TX10, 38, tyX10, rfl, rfl, by decide, by decide, hz_inX10, hq_1211, tyX10_ok, nmX10, by decide +kernel, rfl, fun _ => rfl⟩
theorem fl_X10_193 : hz_FL RX10 193 11 5 .int false := ⟨RX10, TX10, 38, tyX10, rfl, rfl, by decide, by decide, hz_inX10, hq_1212, tyX10_ok, nmX10, by decide +kernel, rfl, fun _ => rfl⟩
theorem fl_X10_16 : hz_FL RX10 16 11 6 (.array .int) true := ⟨RX10, TX10, 38, tyX10, rfl, rfl, by decide, by decide, hz_inX10, hq_1213, tyX10_ok, nmX10, by decide +kernel, rfl, fun _ => rfl⟩
theorem fl_X10_19 : hz_FL RX10 19 11 7 (.array .int) true := ⟨RX10, TX10, 38, tyX10, rfl, rfl, by decide, by decide, hz_inX10, hq_1214, tyX10_ok, nmX10, by decide +kernel, rfl, fun _ => rfl⟩
theorem fl_X10_22 : hz_FL RX10 22 11 8 (.array .int) true := ⟨RX10, TX10, 38, tyX10, rfl, rfl, by decide, by decide, hz_inX10, hq_1215, tyX10_ok, nmX10, by decide +kernel, rfl, fun _ => rfl⟩
theorem fl_X10_25 : hz_FL RX10 25 11 9 (.array .int) true := ⟨RX10, TX10, 38, tyX10, rfl, rfl, by decide, by decide, hz_inX10, hq_1216, tyX10_ok, nmX10, by decide +kernel, rfl, fun _ => rfl⟩
theorem fl_X10_28 : hz_FL RX10 28 11 10 (.array .int) true := ⟨RX10, TX10, 38, tyX10, rfl, rfl, by decide, by decide, hz_inX10, hq_1217, tyX10_ok, nmX10, by decide +kernel, rfl, fun _ => rfl⟩
theorem fl_X10_31 : hz_FL RX10 31 11 11 (.array .int) true := ⟨RX10, TX10, 38, tyX10, rfl, rfl, by decide, by decide, hz_inX10, hq_1218, tyX10_ok, nmX10, by decide +kernel, rfl, fun _ => rfl⟩
theorem fl_X10_34 : hz_FL RX10 34 11 12 (.array .int) true := ⟨RX10, TX10, 38, tyX10, rfl, rfl, by decide, by decide, hz_inX10, hq_1219, tyX10_ok, nmX10, by decide +kernel, rfl, fun _ => rfl⟩
theorem fl_X10_37 : hz_FL RX10 37 11 13 (.array .int) true := ⟨RX10, TX10, 38, tyX10, rfl, rfl, by decide, by decide, hz_inX10, hq_1220, tyX10_ok, nmX10, by decide +kernel, rfl, fun _ => rfl⟩
theorem fl_X10_40 : hz_FL RX10 40 11 14 (.array .int) true := ⟨RX10, TX10, 38, tyX10, rfl, rfl, by decide, by decide, hz_inX10, hq_1221, tyX10_ok, nmX10, by decide +kernel, rfl, fun _ => rfl⟩
theorem fl_X10_43 : hz_FL RX10 43 11 15 (.array .int) true := ⟨RX10, TX10, 38, tyX10, rfl, rfl, by decide, by decide, hz_inX10, hq_1222, tyX10_ok, nmX10, by decide +kernel, rfl, fun _ => rfl⟩
theorem fl_X10_81 : hz_FL RX10 81 11 16 .int false := ⟨RX10, TX10, 38, tyX10, rfl, rfl, by decide, by decide, hz_inX10, hq_1223, tyX10_ok, nmX10, by decide +kernel, rfl, fun _ => rfl⟩
theorem fl_X10_92 : hz_FL RX10 92 11 17 .int false := ⟨RX10, TX10, 38, tyX10, rfl, rfl, by decide, by decide, hz_inX10, hq_1224, tyX10_ok, nmX10, by decide +kernel, rfl, fun _ => rfl⟩
theorem fl_X10_114 : hz_FL RX10 114 11 18 .int false := ⟨RX10, TX10, 38, tyX10, rfl, rfl, by decide, by decide, hz_inX10, hq_1225, tyX10_ok, nmX10, by decide +kernel, rfl, fun _ => rfl⟩
theorem fl_X10_117 : hz_FL RX10 117 11 19 .int false := ⟨RX10, TX10, 38, tyX10, rfl, rfl, by decide, by decide, hz_inX10, hq_1226, tyX10_ok, nmX10, by decide +kernel, rfl, fun _ => rfl⟩
theorem fl_X10_120 : hz_FL RX10 120 11 20 .int false := ⟨RX10, TX10, 38, tyX10, rfl, rfl, by decide, by decide, hz_inX10, hq_1227, tyX10_ok, nmX10, by decide +kernel, rfl, fun _ => rfl⟩
theorem fl_X10_130 : hz_FL RX10 130 11 21 .int false := ⟨RX10, TX10, 38, tyX10, rfl, rfl, by decide, by decide, hz_inX10, hq_1228, tyX10_ok, nmX10, by decide +kernel, rfl, fun _ => rfl⟩
theorem fl_X10_107 : hz_FL RX10 107 11 22 .int false := ⟨RX10, TX10, 38, tyX10, rfl, rfl, by decide, by decide, hz_inX10, hq_1229, tyX10_ok, nmX10, by decide +kernel, rfl, fun _ => rfl⟩
theorem fl_X10_46 : hz_FL RX10 46 11 23 .int false := ⟨RX10, TX10, 38, tyX10, rfl, rfl, by decide, by decide, hz_inX10, hq_1230, tyX10_ok, nmX10, by decide +kernel, rfl, fun _ => rfl⟩
theorem fl_X10_182 : hz_FL RX10 182 11 24 .int false := ⟨RX10, TX10, 38, tyX10, rfl, rfl, by decide, by decide, hz_inX10, hq_1231, tyX10_ok, nmX10, by decide +kernel, rfl, fun _ => rfl⟩
theorem fl_X10_161 : hz_FL RX10 161 11 25 .int false := ⟨RX10, TX10, 38, tyX10, rfl, rfl, by decide, by decide, hz_inX10, hq_1232, tyX10_ok, nmX10, by decide +kernel, rfl, fun _ => rfl⟩
theorem fl_X10_50 : hz_FL RX10 50 11 26 (.array .int) true := ⟨RX10, TX10, 38, tyX10, rfl, rfl, by decide, by decide, hz_inX10, hq_1233, tyX10_ok, nmX10, by decide +kernel, rfl, fun _ => rfl⟩
theorem fl_X10_53 : hz_FL RX10 53 11 27 (.array .int) true := ⟨RX10, TX10, 38, tyX10, rfl, rfl, by decide, by decide, hz_inX10, hq_1234, tyX10_ok, nmX10, by decide +kernel, rfl, fun _ => rfl⟩
theorem fl_X10_56 : hz_FL RX10 56 11 28 (.array .int) true := ⟨RX10, TX10, 38, tyX10, rfl, rfl, by decide, by decide, hz_inX10, hq_1235, tyX10_ok, nmX10, by decide +kernel, rfl, fun _ => rfl⟩
theorem fl_X10_241 : hz_FL RX10 241 11 29 .boolean false := ⟨RX10, TX10, 38, tyX10, rfl, rfl, by decide, by decide, hz_inX10, hq_1236, tyX10_ok, nmX10, by decide +kernel, rfl, fun _ => rfl⟩
theorem fl_X10_259 : hz_FL RX10 259 11 30 .int false := ⟨RX10, TX10, 38, tyX10, rfl, rfl, by decide, by decide, hz_inX10, hq_1237, tyX10_ok, nmX10, by decide +kernel, rfl, fun _ => rfl⟩
theorem fl_X10_253 : hz_FL RX10 253 11 31 .int false := ⟨RX10, TX10, 38, tyX10, rfl, rfl, by decide, by decide, hz_inX10, hq_1238, tyX10_ok, nmX10, by decide +kernel, rfl, fun _ => rfl⟩
theorem fl_X10_59 : hz_FL RX10 59 11 32 .int false := ⟨RX10, TX10, 38, tyX10, rfl, rfl, by decide, by decide, hz_inX10, hq_1239, tyX10_ok, nmX10, by decide +kernel, rfl, fun _ => rfl⟩
theorem fl_X10_62 : hz_FL RX10 62 11 33 (.array .int) true := ⟨RX10, TX10, 38, tyX10, rfl, rfl, by decide, by decide, hz_inX10, hq_1240, tyX10_ok, nmX10, by decide +kernel, rfl, fun _ => rfl⟩
theorem fl_X10_65 : hz_FL RX10 65 11 34 (.array .int) true := ⟨RX10, TX10, 38, tyX10, rfl, rfl, by decide, by decide, hz_inX10, hq_1241, tyX10_ok, nmX10, by decide +kernel, rfl, fun _ => rfl⟩
theorem fl_X10_68 : hz_FL RX10 68 11 35 (.array .int) true := ⟨RX10, TX10, 38, tyX10, rfl, rfl, by decide, by decide, hz_inX10, hq_1242, tyX10_ok, nmX10, by decide +kernel, rfl, fun _ => rfl⟩
theorem fl_X10_71 : hz_FL RX10 71 11 36 (.array .int) true := ⟨RX10, TX10, 38, tyX10, rfl, rfl, by decide, by decide, hz_inX10, hq_1243, tyX10_ok, nmX10, by decide +kernel, rfl, fun _ => rfl⟩
theorem fl_X10_349 : hz_FL RX10 349 11 37 .int false := ⟨RX10, TX10, 38, tyX10, rfl, rfl, by decide, by decide, hz_inX10, hq_1244, tyX10_ok, nmX10, by decide +kernel, rfl, fun _ => rfl⟩
theorem vl_L_150 : hz_VL RL 150 11 yX10_thrown cX10_thrown 1 (Option.some FieldType.int) 0 := ⟨RX10, TX10, 38, rfl, by decide, hq_1322, hq_1323, hq_1324, hq_11, hq_1325, rfl, by decide, by decide, by decide +kernel⟩
theorem vl_L_149 : hz_VL RL 149 11 yX10_append cX10_append 6 (Option.some FieldType.int) 5 := ⟨RX10, TX10, 38, rfl, by decide, hq_1326, hq_1327, hq_1328, hq_11, hq_1329, rfl, by decide, by decide, by decide +kernel⟩
theorem vl_X10_84 : hz_VL RX10 84 11 yX10_put cX10_put 3 (Option.none : Option FieldType) 1 := ⟨RX10, TX10, 38, rfl, by decide, hq_1330, hq_1332, hp_2_0, hq_11, hq_1333, rfl, by decide, by decide, by decide +kernel⟩
theorem vl_L_156 : hz_VL RL 156 11 yX10_truncate cX10_truncate 2 (Option.some FieldType.int) 1 := ⟨RX10, TX10, 38, rfl, by decide, hq_1334, hq_1335, hq_1336, hq_11, hq_1337, rfl, by decide, by decide, by decide +kernel⟩
theorem sl_X10_88 : hz_SL RX10 88 yX10_isIn cX10_isIn 6 (Option.some FieldType.boolean) 3 := ⟨hq_1338, hq_1339, hq_11, hq_1340, ⟨by decide, by decide, by decide +kernel⟩⟩
theorem vl_L_160 : hz_VL RL 160 11 yX10_load cX10_load 1 (Option.some FieldType.int) 0 := ⟨RX10, TX10, 38, rfl, by decide, hq_1341, hq_1342, hq_1343, hq_11, hq_1344, rfl, by decide, by decide, by decide +kernel⟩
theorem vl_X10_146 : hz_VL RX10 146 11 yX10_next cX10_next 1 (Option.none : Option FieldType) 0 := ⟨RX10, TX10, 38, rfl, by decide, hq_1345, hq_1347, hp_2_1, hq_11, hq_1348, rfl, by decide, by decide, by decide +kernel⟩
theorem vl_X10_110 : hz_VL RX10 110 11 yX10_isFine cX10_isFine 1 (Option.some FieldType.boolean) 0 := ⟨RX10, TX10, 38, rfl, by decide, hq_1349, hq_1351, hp_2_2, hq_11, hq_1352, rfl, by decide, by decide, by decide +kernel⟩
theorem vl_X10_95 : hz_VL RX10 95 11 yX10_byteAt cX10_byteAt 2 (Option.some FieldType.int) 1 := ⟨RX10, TX10, 38, rfl, by decide, hq_1353, hq_1355, hp_2_3, hq_11, hq_1356, rfl, by decide, by decide, by decide +kernel⟩
theorem vl_X10_123 : hz_VL RX10 123 11 yX10_isLetterAt cX10_isLetterAt 2 (Option.some FieldType.boolean) 1 := ⟨RX10, TX10, 38, rfl, by decide, hq_1357, hq_1359, hp_2_4, hq_11, hq_1360, rfl, by decide, by decide, by decide +kernel⟩
theorem vl_X10_127 : hz_VL RX10 127 11 yX10_isDigitAt cX10_isDigitAt 2 (Option.some FieldType.boolean) 1 := ⟨RX10, TX10, 38, rfl, by decide, hq_1363, hq_1365, hp_2_5, hq_11, hq_1366, rfl, by decide, by decide, by decide +kernel⟩
theorem vl_X10_151 : hz_VL RX10 151 11 yX10_isWord cX10_isWord 3 (Option.some FieldType.boolean) 1 := ⟨RX10, TX10, 38, rfl, by decide, hq_1370, hq_1372, hp_2_6, hq_11, hq_1373, rfl, by decide, by decide, by decide +kernel⟩
theorem vl_X10_143 : hz_VL RX10 143 11 yX10_fail cX10_fail 2 (Option.none : Option FieldType) 1 := ⟨RX10, TX10, 38, rfl, by decide, hq_1376, hq_1378, hp_2_7, hq_11, hq_1379, rfl, by decide, by decide, by decide +kernel⟩
theorem vl_X10_164 : hz_VL RX10 164 11 yX10_read cX10_read 4 (Option.some FieldType.int) 2 := ⟨RX10, TX10, 38, rfl, by decide, hq_1380, hq_1382, hp_2_8, hq_11, hq_1383, rfl, by decide, by decide, by decide +kernel⟩
theorem vl_X10_172 : hz_VL RX10 172 11 yX10_expectSemicolon cX10_expectSemicolon 1 (Option.none : Option FieldType) 0 := ⟨RX10, TX10, 38, rfl, by decide, hq_1384, hq_1386, hp_2_9, hq_11, hq_1387, rfl, by decide, by decide, by decide +kernel⟩
theorem vl_X10_187 : hz_VL RX10 187 11 yX10_readDomain cX10_readDomain 2 (Option.none : Option FieldType) 0 := ⟨RX10, TX10, 38, rfl, by decide, hq_1389, hq_1391, hp_2_10, hq_11, hq_1392, rfl, by decide, by decide, by decide +kernel⟩
theorem vl_X10_169 : hz_VL RX10 169 11 yX10_policyHere cX10_policyHere 1 (Option.some FieldType.int) 0 := ⟨RX10, TX10, 38, rfl, by decide, hq_1394, hq_1396, hp_2_11, hq_11, hq_1397, rfl, by decide, by decide, by decide +kernel⟩
theorem vl_X10_175 : hz_VL RX10 175 11 yX10_readLevels cX10_readLevels 4 (Option.none : Option FieldType) 1 := ⟨RX10, TX10, 38, rfl, by decide, hq_1402, hq_1404, hp_2_12, hq_11, hq_1405, rfl, by decide, by decide, by decide +kernel⟩
theorem vl_X10_190 : hz_VL RX10 190 11 yX10_takeOver cX10_takeOver 4 (Option.none : Option FieldType) 0 := ⟨RX10, TX10, 38, rfl, by decide, hq_1407, hq_1409, hp_2_13, hq_11, hq_1410, rfl, by decide, by decide, by decide +kernel⟩
theorem vl_X10_203 : hz_VL RX10 203 11 yX10_put2 cX10_put2 4 (Option.none : Option FieldType) 3 := ⟨RX10, TX10, 38, rfl, by decide, hq_1412, hq_1414, hp_2_14, hq_11, hq_1415, rfl, by decide, by decide, by decide +kernel⟩
theorem vl_L_164 : hz_VL RL 164 11 yX10_errorPosition cX10_errorPosition 1 (Option.some FieldType.int) 0 := ⟨RX10, TX10, 38, rfl, by decide, hq_1416, hq_1417, hq_1418, hq_11, hq_1419, rfl, by decide, by decide, by decide +kernel⟩
theorem vl_L_278 : hz_VL RL 278 11 yX10_undo cX10_undo 2 (Option.some FieldType.int) 0 := ⟨RX10, TX10, 38, rfl, by decide, hq_1420, hq_1421, hq_1422, hq_11, hq_1423, rfl, by decide, by decide, by decide +kernel⟩
theorem vl_X10_207 : hz_VL RX10 207 11 yX10_isWrong cX10_isWrong 2 (Option.some FieldType.boolean) 1 := ⟨RX10, TX10, 38, rfl, by decide, hq_1424, hq_1426, hp_2_15, hq_11, hq_1427, rfl, by decide, by decide, by decide +kernel⟩
theorem vl_L_168 : hz_VL RL 168 11 yX10_addJob cX10_addJob 8 (Option.some FieldType.int) 6 := ⟨RX10, TX10, 38, rfl, by decide, hq_1428, hq_1429, hq_1430, hq_11, hq_1431, rfl, by decide, by decide, by decide +kernel⟩
theorem vl_X10_274 : hz_VL RX10 274 11 yX10_isDomain cX10_isDomain 2 (Option.some FieldType.boolean) 1 := ⟨RX10, TX10, 38, rfl, by decide, hq_1432, hq_1434, hp_3_0, hq_11, hq_1435, rfl, by decide, by decide, by decide +kernel⟩
theorem vl_X10_283 : hz_VL RX10 283 11 yX10_remember cX10_remember 2 (Option.none : Option FieldType) 0 := ⟨RX10, TX10, 38, rfl, by decide, hq_1439, hq_1441, hp_3_1, hq_11, hq_1442, rfl, by decide, by decide, by decide +kernel⟩
theorem vl_X10_220 : hz_VL RX10 220 11 yX10_putJob cX10_putJob 4 (Option.none : Option FieldType) 3 := ⟨RX10, TX10, 38, rfl, by decide, hq_1443, hq_1445, hp_3_2, hq_11, hq_1446, rfl, by decide, by decide, by decide +kernel⟩
theorem vl_L_171 : hz_VL RL 171 11 yX10_cancelJob cX10_cancelJob 4 (Option.some FieldType.int) 1 := ⟨RX10, TX10, 38, rfl, by decide, hq_1447, hq_1448, hq_1449, hq_11, hq_1450, rfl, by decide, by decide, by decide +kernel⟩
theorem vl_X10_286 : hz_VL RX10 286 11 yX10_isJob cX10_isJob 2 (Option.some FieldType.boolean) 1 := ⟨RX10, TX10, 38, rfl, by decide, hq_1451, hq_1453, hp_3_3, hq_11, hq_1454, rfl, by decide, by decide, by decide +kernel⟩
theorem vl_X10_289 : hz_VL RX10 289 11 yX10_isOver cX10_isOver 2 (Option.some FieldType.boolean) 1 := ⟨RX10, TX10, 38, rfl, by decide, hq_1455, hq_1457, hp_3_4, hq_11, hq_1458, rfl, by decide, by decide, by decide +kernel⟩
theorem vl_X10_211 : hz_VL RX10 211 11 yX10_ofJob cX10_ofJob 3 (Option.some FieldType.int) 2 := ⟨RX10, TX10, 38, rfl, by decide, hq_1459, hq_1461, hp_3_5, hq_11, hq_1462, rfl, by decide, by decide, by decide +kernel⟩
theorem vl_X10_214 : hz_VL RX10 214 11 yX10_of cX10_of 3 (Option.some FieldType.int) 2 := ⟨RX10, TX10, 38, rfl, by decide, hq_1463, hq_1465, hp_3_6, hq_11, hq_1466, rfl, by decide, by decide, by decide +kernel⟩
theorem vl_L_175 : hz_VL RL 175 11 yX10_setPolicy cX10_setPolicy 3 (Option.some FieldType.int) 2 := ⟨RX10, TX10, 38, rfl, by decide, hq_1467, hq_1468, hq_1469, hq_11, hq_1470, rfl, by decide, by decide, by decide +kernel⟩
theorem vl_X10_294 : hz_VL RX10 294 11 yX10_sets cX10_sets 4 (Option.some FieldType.int) 2 := ⟨RX10, TX10, 38, rfl, by decide, hq_1472, hq_1474, hp_3_7, hq_11, hq_1475, rfl, by decide, by decide, by decide +kernel⟩
theorem vl_L_178 : hz_VL RL 178 11 yX10_setLimit cX10_setLimit 3 (Option.some FieldType.int) 2 := ⟨RX10, TX10, 38, rfl, by decide, hq_1476, hq_1477, hq_1478, hq_11, hq_1479, rfl, by decide, by decide, by decide +kernel⟩
theorem vl_L_181 : hz_VL RL 181 11 yX10_setAmbient cX10_setAmbient 2 (Option.some FieldType.int) 1 := ⟨RX10, TX10, 38, rfl, by decide, hq_1481, hq_1482, hq_1483, hq_11, hq_1484, rfl, by decide, by decide, by decide +kernel⟩
theorem vl_L_184 : hz_VL RL 184 11 yX10_tick cX10_tick 3 (Option.some FieldType.int) 1 := ⟨RX10, TX10, 38, rfl, by decide, hq_1485, hq_1486, hq_1487, hq_11, hq_1488, rfl, by decide, by decide, by decide +kernel⟩
theorem vl_X10_301 : hz_VL RX10 301 11 yX10_tickOnce cX10_tickOnce 3 (Option.none : Option FieldType) 0 := ⟨RX10, TX10, 38, rfl, by decide, hq_1490, hq_1492, hp_3_8, hq_11, hq_1493, rfl, by decide, by decide, by decide +kernel⟩
theorem vl_X10_217 : hz_VL RX10 217 11 yX10_busy cX10_busy 4 (Option.some FieldType.int) 1 := ⟨RX10, TX10, 38, rfl, by decide, hq_1494, hq_1496, hp_3_9, hq_11, hq_1497, rfl, by decide, by decide, by decide +kernel⟩
theorem vl_X10_262 : hz_VL RX10 262 11 yX10_release cX10_release 4 (Option.none : Option FieldType) 1 := ⟨RX10, TX10, 38, rfl, by decide, hq_1498, hq_1500, hp_3_10, hq_11, hq_1501, rfl, by decide, by decide, by decide +kernel⟩
theorem vl_X10_265 : hz_VL RX10 265 11 yX10_assign cX10_assign 4 (Option.none : Option FieldType) 1 := ⟨RX10, TX10, 38, rfl, by decide, hq_1502, hq_1504, hp_3_11, hq_11, hq_1505, rfl, by decide, by decide, by decide +kernel⟩
theorem vl_X10_223 : hz_VL RX10 223 11 yX10_firstReady cX10_firstReady 4 (Option.some FieldType.int) 1 := ⟨RX10, TX10, 38, rfl, by decide, hq_1506, hq_1508, hp_3_12, hq_11, hq_1509, rfl, by decide, by decide, by decide +kernel⟩
theorem vl_X10_250 : hz_VL RX10 250 11 yX10_addTo cX10_addTo 4 (Option.none : Option FieldType) 3 := ⟨RX10, TX10, 38, rfl, by decide, hq_1510, hq_1512, hp_3_13, hq_11, hq_1513, rfl, by decide, by decide, by decide +kernel⟩
theorem vl_X10_268 : hz_VL RX10 268 11 yX10_chooseLevel cX10_chooseLevel 5 (Option.none : Option FieldType) 1 := ⟨RX10, TX10, 38, rfl, by decide, hq_1514, hq_1516, hp_3_14, hq_11, hq_1517, rfl, by decide, by decide, by decide +kernel⟩
theorem vl_X10_238 : hz_VL RX10 238 11 yX10_suggested cX10_suggested 3 (Option.some FieldType.int) 1 := ⟨RX10, TX10, 38, rfl, by decide, hq_1518, hq_1520, hp_3_15, hq_11, hq_1521, rfl, by decide, by decide, by decide +kernel⟩
theorem vl_X10_231 : hz_VL RX10 231 11 yX10_demanded cX10_demanded 5 (Option.some FieldType.int) 1 := ⟨RX10, TX10, 38, rfl, by decide, hq_1522, hq_1524, hp_4_0, hq_11, hq_1525, rfl, by decide, by decide, by decide +kernel⟩
theorem sl_X10_228 : hz_SL RX10 228 yX10_upward cX10_upward 2 (Option.some FieldType.int) 2 := ⟨hq_1527, hq_1528, hq_11, hq_1529, ⟨by decide, by decide, by decide +kernel⟩⟩
theorem vl_X10_244 : hz_VL RX10 244 11 yX10_powerAt cX10_powerAt 4 (Option.some FieldType.int) 2 := ⟨RX10, TX10, 38, rfl, by decide, hq_1530, hq_1532, hp_4_1, hq_11, hq_1533, rfl, by decide, by decide, by decide +kernel⟩
theorem vl_X10_247 : hz_VL RX10 247 11 yX10_heated cX10_heated 9 (Option.some FieldType.int) 2 := ⟨RX10, TX10, 38, rfl, by decide, hq_1534, hq_1536, hp_4_2, hq_11, hq_1537, rfl, by decide, by decide, by decide +kernel⟩
theorem vl_X10_271 : hz_VL RX10 271 11 yX10_work cX10_work 7 (Option.none : Option FieldType) 1 := ⟨RX10, TX10, 38, rfl, by decide, hq_1540, hq_1542, hp_4_3, hq_11, hq_1543, rfl, by decide, by decide, by decide +kernel⟩
theorem vl_X10_256 : hz_VL RX10 256 11 yX10_finish cX10_finish 6 (Option.none : Option FieldType) 3 := ⟨RX10, TX10, 38, rfl, by decide, hq_1544, hq_1546, hp_4_4, hq_11, hq_1547, rfl, by decide, by decide, by decide +kernel⟩
theorem vl_L_188 : hz_VL RL 188 11 yX10_clock cX10_clock 1 (Option.some FieldType.int) 0 := ⟨RX10, TX10, 38, rfl, by decide, hq_1548, hq_1549, hq_1550, hq_11, hq_1551, rfl, by decide, by decide, by decide +kernel⟩
theorem vl_L_191 : hz_VL RL 191 11 yX10_temperature cX10_temperature 2 (Option.some FieldType.int) 1 := ⟨RX10, TX10, 38, rfl, by decide, hq_1552, hq_1553, hq_1554, hq_11, hq_1555, rfl, by decide, by decide, by decide +kernel⟩
theorem vl_L_194 : hz_VL RL 194 11 yX10_level cX10_level 2 (Option.some FieldType.int) 1 := ⟨RX10, TX10, 38, rfl, by decide, hq_1556, hq_1557, hq_1558, hq_11, hq_1559, rfl, by decide, by decide, by decide +kernel⟩
theorem vl_L_197 : hz_VL RL 197 11 yX10_energy cX10_energy 2 (Option.some FieldType.int) 1 := ⟨RX10, TX10, 38, rfl, by decide, hq_1560, hq_1561, hq_1562, hq_11, hq_1563, rfl, by decide, by decide, by decide +kernel⟩
theorem vl_L_200 : hz_VL RL 200 11 yX10_domainValue cX10_domainValue 3 (Option.some FieldType.int) 2 := ⟨RX10, TX10, 38, rfl, by decide, hq_1564, hq_1565, hq_1566, hq_11, hq_1567, rfl, by decide, by decide, by decide +kernel⟩
theorem vl_L_203 : hz_VL RL 203 11 yX10_jobOn cX10_jobOn 3 (Option.some FieldType.int) 2 := ⟨RX10, TX10, 38, rfl, by decide, hq_1569, hq_1570, hq_1571, hq_11, hq_1572, rfl, by decide, by decide, by decide +kernel⟩
theorem vl_L_206 : hz_VL RL 206 11 yX10_throttleOrder cX10_throttleOrder 5 (Option.some FieldType.int) 1 := ⟨RX10, TX10, 38, rfl, by decide, hq_1573, hq_1574, hq_1575, hq_11, hq_1576, rfl, by decide, by decide, by decide +kernel⟩
theorem vl_X10_306 : hz_VL RX10 306 11 yX10_room cX10_room 2 (Option.some FieldType.int) 1 := ⟨RX10, TX10, 38, rfl, by decide, hq_1577, hq_1579, hp_4_5, hq_11, hq_1580, rfl, by decide, by decide, by decide +kernel⟩
theorem vl_L_210 : hz_VL RL 210 11 yX10_meanPower cX10_meanPower 2 (Option.some FieldType.float) 1 := ⟨RX10, TX10, 38, rfl, by decide, hq_1581, hq_1582, hq_1583, hq_11, hq_1584, rfl, by decide, by decide, by decide +kernel⟩
theorem vl_L_213 : hz_VL RL 213 11 yX10_jobCount cX10_jobCount 1 (Option.some FieldType.int) 0 := ⟨RX10, TX10, 38, rfl, by decide, hq_1585, hq_1586, hq_1587, hq_11, hq_1588, rfl, by decide, by decide, by decide +kernel⟩
theorem vl_L_216 : hz_VL RL 216 11 yX10_jobValue cX10_jobValue 3 (Option.some FieldType.int) 2 := ⟨RX10, TX10, 38, rfl, by decide, hq_1589, hq_1590, hq_1591, hq_11, hq_1592, rfl, by decide, by decide, by decide +kernel⟩
theorem vl_L_219 : hz_VL RL 219 11 yX10_doneAt cX10_doneAt 2 (Option.some FieldType.int) 1 := ⟨RX10, TX10, 38, rfl, by decide, hq_1593, hq_1594, hq_1595, hq_11, hq_1596, rfl, by decide, by decide, by decide +kernel⟩
theorem vl_L_222 : hz_VL RL 222 11 yX10_lateJobs cX10_lateJobs 3 (Option.some FieldType.int) 0 := ⟨RX10, TX10, 38, rfl, by decide, hq_1597, hq_1598, hq_1599, hq_11, hq_1600, rfl, by decide, by decide, by decide +kernel⟩
theorem vl_X10_309 : hz_VL RX10 309 11 yX10_isLate cX10_isLate 2 (Option.some FieldType.boolean) 1 := ⟨RX10, TX10, 38, rfl, by decide, hq_1601, hq_1603, hp_4_6, hq_11, hq_1604, rfl, by decide, by decide, by decide +kernel⟩
theorem vl_L_225 : hz_VL RL 225 11 yX10_queued cX10_queued 7 (Option.some FieldType.int) 2 := ⟨RX10, TX10, 38, rfl, by decide, hq_1605, hq_1606, hq_1607, hq_11, hq_1608, rfl, by decide, by decide, by decide +kernel⟩
theorem vl_X10_312 : hz_VL RX10 312 11 yX10_isQueued cX10_isQueued 3 (Option.some FieldType.boolean) 2 := ⟨RX10, TX10, 38, rfl, by decide, hq_1609, hq_1611, hp_4_7, hq_11, hq_1612, rfl, by decide, by decide, by decide +kernel⟩
theorem vl_L_228 : hz_VL RL 228 11 yX10_estimate cX10_estimate 2 (Option.some FieldType.int) 1 := ⟨RX10, TX10, 38, rfl, by decide, hq_1613, hq_1614, hq_1615, hq_11, hq_1616, rfl, by decide, by decide, by decide +kernel⟩
theorem vl_L_231 : hz_VL RL 231 11 yX10_deviation cX10_deviation 7 (Option.some FieldType.double) 1 := ⟨RX10, TX10, 38, rfl, by decide, hq_1617, hq_1618, hq_1619, hq_11, hq_1620, rfl, by decide, by decide, by decide +kernel⟩
theorem vl_L_234 : hz_VL RL 234 11 yX10_willBeDone cX10_willBeDone 3 (Option.some FieldType.int) 1 := ⟨RX10, TX10, 38, rfl, by decide, hq_1621, hq_1622, hq_1623, hq_11, hq_1624, rfl, by decide, by decide, by decide +kernel⟩
theorem vl_X10_319 : hz_VL RX10 319 11 yX10_putAside cX10_putAside 2 (Option.none : Option FieldType) 0 := ⟨RX10, TX10, 38, rfl, by decide, hq_1625, hq_1627, hp_4_8, hq_11, hq_1628, rfl, by decide, by decide, by decide +kernel⟩
theorem vl_X10_322 : hz_VL RX10 322 11 yX10_takeBack cX10_takeBack 2 (Option.none : Option FieldType) 0 := ⟨RX10, TX10, 38, rfl, by decide, hq_1629, hq_1631, hp_4_9, hq_11, hq_1632, rfl, by decide, by decide, by decide +kernel⟩
theorem vl_L_237 : hz_VL RL 237 11 yX10_allOver cX10_allOver 2 (Option.some FieldType.int) 0 := ⟨RX10, TX10, 38, rfl, by decide, hq_1633, hq_1634, hq_1635, hq_11, hq_1636, rfl, by decide, by decide, by decide +kernel⟩
theorem vl_X10_325 : hz_VL RX10 325 11 yX10_passAll cX10_passAll 2 (Option.none : Option FieldType) 0 := ⟨RX10, TX10, 38, rfl, by decide, hq_1637, hq_1639, hp_4_10, hq_11, hq_1640, rfl, by decide, by decide, by decide +kernel⟩
theorem vl_X10_316 : hz_VL RX10 316 11 yX10_areOver cX10_areOver 3 (Option.some FieldType.boolean) 0 := ⟨RX10, TX10, 38, rfl, by decide, hq_1641, hq_1643, hp_4_11, hq_11, hq_1644, rfl, by decide, by decide, by decide +kernel⟩
theorem vl_L_240 : hz_VL RL 240 11 yX10_willBeLate cX10_willBeLate 2 (Option.some FieldType.int) 0 := ⟨RX10, TX10, 38, rfl, by decide, hq_1645, hq_1646, hq_1647, hq_11, hq_1648, rfl, by decide, by decide, by decide +kernel⟩
theorem vl_X10_328 : hz_VL RX10 328 11 yX10_lateOrOpen cX10_lateOrOpen 3 (Option.some FieldType.int) 0 := ⟨RX10, TX10, 38, rfl, by decide, hq_1649, hq_1651, hp_4_12, hq_11, hq_1652, rfl, by decide, by decide, by decide +kernel⟩
theorem vl_L_243 : hz_VL RL 243 11 yX10_peak cX10_peak 5 (Option.some FieldType.int) 2 := ⟨RX10, TX10, 38, rfl, by decide, hq_1653, hq_1654, hq_1655, hq_11, hq_1656, rfl, by decide, by decide, by decide +kernel⟩
theorem vl_L_246 : hz_VL RL 246 11 yX10_energyIn cX10_energyIn 4 (Option.some FieldType.int) 1 := ⟨RX10, TX10, 38, rfl, by decide, hq_1657, hq_1658, hq_1659, hq_11, hq_1660, rfl, by decide, by decide, by decide +kernel⟩
theorem vl_X10_331 : hz_VL RX10 331 11 yX10_allEnergy cX10_allEnergy 3 (Option.some FieldType.int) 0 := ⟨RX10, TX10, 38, rfl, by decide, hq_1661, hq_1663, hp_4_13, hq_11, hq_1664, rfl, by decide, by decide, by decide +kernel⟩
theorem vl_L_249 : hz_VL RL 249 11 yX10_nextThrottle cX10_nextThrottle 5 (Option.some FieldType.int) 1 := ⟨RX10, TX10, 38, rfl, by decide, hq_1665, hq_1666, hq_1667, hq_11, hq_1668, rfl, by decide, by decide, by decide +kernel⟩
theorem vl_L_252 : hz_VL RL 252 11 yX10_bestPolicy cX10_bestPolicy 8 (Option.some FieldType.int) 1 := ⟨RX10, TX10, 38, rfl, by decide, hq_1669, hq_1670, hq_1671, hq_11, hq_1672, rfl, by decide, by decide, by decide +kernel⟩
theorem sl_X10_334 : hz_SL RX10 334 yX10_many cX10_many 3 (Option.some FieldType.int) 1 := ⟨hq_1673, hq_1674, hq_11, hq_1675, ⟨by decide, by decide, by decide +kernel⟩⟩
theorem vl_L_255 : hz_VL RL 255 11 yX10_coolLimit cX10_coolLimit 2 (Option.some FieldType.int) 1 := ⟨RX10, TX10, 38, rfl, by decide, hq_1676, hq_1677, hq_1678, hq_11, hq_1679, rfl, by decide, by decide, by decide +kernel⟩
theorem vl_L_259 : hz_VL RL 259 11 yX10_levelEnergy cX10_levelEnergy 5 (Option.some FieldType.int) 4 := ⟨RX10, TX10, 38, rfl, by decide, hq_1681, hq_1682, hq_1683, hq_11, hq_1684, rfl, by decide, by decide, by decide +kernel⟩
theorem vl_X10_338 : hz_VL RX10 338 11 yX10_isTask cX10_isTask 6 (Option.some FieldType.boolean) 5 := ⟨RX10, TX10, 38, rfl, by decide, hq_1685, hq_1687, hp_4_14, hq_11, hq_1688, rfl, by decide, by decide, by decide +kernel⟩
theorem vl_X10_342 : hz_VL RX10 342 11 yX10_costOf cX10_costOf 6 (Option.some FieldType.int) 4 := ⟨RX10, TX10, 38, rfl, by decide, hq_1689, hq_1691, hp_4_15, hq_11, hq_1692, rfl, by decide, by decide, by decide +kernel⟩
theorem vl_L_263 : hz_VL RL 263 11 yX10_bestLevel cX10_bestLevel 8 (Option.some FieldType.int) 3 := ⟨RX10, TX10, 38, rfl, by decide, hq_1693, hq_1694, hq_1695, hq_11, hq_1696, rfl, by decide, by decide, by decide +kernel⟩
theorem vl_L_266 : hz_VL RL 266 11 yX10_mixedEnergy cX10_mixedEnergy 8 (Option.some FieldType.int) 3 := ⟨RX10, TX10, 38, rfl, by decide, hq_1697, hq_1698, hq_1699, hq_11, hq_1700, rfl, by decide, by decide, by decide +kernel⟩
theorem vl_L_269 : hz_VL RL 269 11 yX10_packedWakeUps cX10_packedWakeUps 2 (Option.some FieldType.int) 1 := ⟨RX10, TX10, 38, rfl, by decide, hq_1701, hq_1702, hq_1703, hq_11, hq_1704, rfl, by decide, by decide, by decide +kernel⟩
theorem vl_X10_358 : hz_VL RX10 358 11 yX10_pack cX10_pack 8 (Option.none : Option FieldType) 1 := ⟨RX10, TX10, 38, rfl, by decide, hq_1705, hq_1707, hp_5_0, hq_11, hq_1708, rfl, by decide, by decide, by decide +kernel⟩
theorem vl_X10_352 : hz_VL RX10 352 11 yX10_firstEnd cX10_firstEnd 6 (Option.some FieldType.int) 2 := ⟨RX10, TX10, 38, rfl, by decide, hq_1709, hq_1711, hp_5_1, hq_11, hq_1712, rfl, by decide, by decide, by decide +kernel⟩
theorem vl_X10_346 : hz_VL RX10 346 11 yX10_toOf cX10_toOf 2 (Option.some FieldType.int) 1 := ⟨RX10, TX10, 38, rfl, by decide, hq_1713, hq_1715, hp_5_2, hq_11, hq_1716, rfl, by decide, by decide, by decide +kernel⟩
theorem vl_X10_355 : hz_VL RX10 355 11 yX10_fromOf cX10_fromOf 2 (Option.some FieldType.int) 1 := ⟨RX10, TX10, 38, rfl, by decide, hq_1717, hq_1719, hp_5_3, hq_11, hq_1720, rfl, by decide, by decide, by decide +kernel⟩
theorem vl_L_272 : hz_VL RL 272 11 yX10_packedTick cX10_packedTick 3 (Option.some FieldType.int) 2 := ⟨RX10, TX10, 38, rfl, by decide, hq_1721, hq_1722, hq_1723, hq_11, hq_1724, rfl, by decide, by decide, by decide +kernel⟩
theorem vl_L_275 : hz_VL RL 275 11 yX10_packedJobs cX10_packedJobs 3 (Option.some FieldType.int) 2 := ⟨RX10, TX10, 38, rfl, by decide, hq_1725, hq_1726, hq_1727, hq_11, hq_1728, rfl, by decide, by decide, by decide +kernel⟩
theorem ta_80 : ∀ w ∈ vx_atS RX9 80 "java/lang/IllegalStateException" ["java/lang/RuntimeException", "java/lang/Exception"], w ∈ hz_good ∨ w ∈ hz_faces := by
  have h1 : (vx_atS RX9 80 "java/lang/IllegalStateException" ["java/lang/RuntimeException", "java/lang/Exception"]).all (fun w => (goodWord w && lw_tbl.contains w) || hz_faces.contains w) = true := by decide +kernel
  intro w hw
  have h2 := List.all_eq_true.mp h1 w hw
  simp only [Bool.or_eq_true, Bool.and_eq_true, List.contains_iff_mem] at h2
  rcases h2 with h2 | h2
  · exact Or.inl (List.mem_filter.mpr ⟨h2.2, h2.1⟩)
  · exact Or.inr h2
theorem ta_208 : ∀ w ∈ vx_atS RX9 208 "java/lang/IllegalArgumentException" ["java/lang/RuntimeException", "java/lang/Exception"], w ∈ hz_good ∨ w ∈ hz_faces := by
  have h1 : (vx_atS RX9 208 "java/lang/IllegalArgumentException" ["java/lang/RuntimeException", "java/lang/Exception"]).all (fun w => (goodWord w && lw_tbl.contains w) || hz_faces.contains w) = true := by decide +kernel
  intro w hw
  have h2 := List.all_eq_true.mp h1 w hw
  simp only [Bool.or_eq_true, Bool.and_eq_true, List.contains_iff_mem] at h2
  rcases h2 with h2 | h2
  · exact Or.inl (List.mem_filter.mpr ⟨h2.2, h2.1⟩)
  · exact Or.inr h2
theorem ta_228 : ∀ w ∈ vx_atS RX9 228 "java/lang/ArithmeticException" ["java/lang/RuntimeException", "java/lang/Exception"], w ∈ hz_good ∨ w ∈ hz_faces := by
  have h1 : (vx_atS RX9 228 "java/lang/ArithmeticException" ["java/lang/RuntimeException", "java/lang/Exception"]).all (fun w => (goodWord w && lw_tbl.contains w) || hz_faces.contains w) = true := by decide +kernel
  intro w hw
  have h2 := List.all_eq_true.mp h1 w hw
  simp only [Bool.or_eq_true, Bool.and_eq_true, List.contains_iff_mem] at h2
  rcases h2 with h2 | h2
  · exact Or.inl (List.mem_filter.mpr ⟨h2.2, h2.1⟩)
  · exact Or.inr h2
theorem tl_204_206 : hz_TL RX9 204 206 208 15 "java/lang/IllegalArgumentException" "what is out of its range" := ⟨by decide +kernel, hq_653, hq_16, rfl, ta_208, by decide +kernel⟩
theorem tl_204_339 : hz_TL RX9 204 339 208 21 "java/lang/IllegalArgumentException" "an argument is out of its range" := ⟨by decide +kernel, hq_653, hq_16, rfl, ta_208, by decide +kernel⟩
theorem tl_204_341 : hz_TL RX9 204 341 208 22 "java/lang/IllegalArgumentException" "an argument is negative" := ⟨by decide +kernel, hq_653, hq_16, rfl, ta_208, by decide +kernel⟩
theorem tl_224_226 : hz_TL RX9 224 226 228 17 "java/lang/ArithmeticException" "no tick has passed" := ⟨by decide +kernel, hq_966, hq_24, rfl, ta_228, by decide +kernel⟩
theorem tl_224_285 : hz_TL RX9 224 285 228 19 "java/lang/ArithmeticException" "no job of this kind is done" := ⟨by decide +kernel, hq_966, hq_24, rfl, ta_228, by decide +kernel⟩
theorem tl_76_337 : hz_TL RX9 76 337 80 20 "java/lang/IllegalStateException" "no system text was loaded" := ⟨by decide +kernel, hq_570, hq_15, rfl, ta_80, by decide +kernel⟩
theorem tl_76_78 : hz_TL RX9 76 78 80 14 "java/lang/IllegalStateException" "the text buffer is full" := ⟨by decide +kernel, hq_570, hq_15, rfl, ta_80, by decide +kernel⟩
