theorem dX10_init_0 : decode cX10_init 0 = .ok (.aload_n 0, 1) := by decide +kernel
theorem dX10_init_1 : decode cX10_init 1 = .ok (.invokespecial 1, 3) := by decide +kernel
theorem dX10_init_4 : decode cX10_init 4 = .ok (.aload_n 0, 1) := by decide +kernel
theorem dX10_init_5 : decode cX10_init 5 = .ok (.sipush 287, 3) := by decide +kernel
theorem dX10_init_8 : decode cX10_init 8 = .ok (.newarray .int, 2) := by decide +kernel
theorem dX10_init_10 : decode cX10_init 10 = .ok (.putfield 7, 3) := by decide +kernel
theorem dX10_init_13 : decode cX10_init 13 = .ok (.aload_n 0, 1) := by decide +kernel
theorem dX10_init_14 : decode cX10_init 14 = .ok (.sipush 2870, 3) := by decide +kernel
theorem dX10_init_17 : decode cX10_init 17 = .ok (.newarray .int, 2) := by decide +kernel
theorem dX10_init_19 : decode cX10_init 19 = .ok (.putfield 13, 3) := by decide +kernel
theorem dX10_init_22 : decode cX10_init 22 = .ok (.aload_n 0, 1) := by decide +kernel
theorem dX10_init_23 : decode cX10_init 23 = .ok (.iconst 4, 1) := by decide +kernel
theorem dX10_init_24 : decode cX10_init 24 = .ok (.newarray .int, 2) := by decide +kernel
theorem dX10_init_26 : decode cX10_init 26 = .ok (.putfield 16, 3) := by decide +kernel
theorem dX10_init_29 : decode cX10_init 29 = .ok (.aload_n 0, 1) := by decide +kernel
theorem dX10_init_30 : decode cX10_init 30 = .ok (.iconst 4, 1) := by decide +kernel
theorem dX10_init_31 : decode cX10_init 31 = .ok (.newarray .int, 2) := by decide +kernel
theorem dX10_init_33 : decode cX10_init 33 = .ok (.putfield 19, 3) := by decide +kernel
theorem dX10_init_36 : decode cX10_init 36 = .ok (.aload_n 0, 1) := by decide +kernel
theorem dX10_init_37 : decode cX10_init 37 = .ok (.iconst 4, 1) := by decide +kernel
theorem dX10_init_38 : decode cX10_init 38 = .ok (.newarray .int, 2) := by decide +kernel
theorem dX10_init_40 : decode cX10_init 40 = .ok (.putfield 22, 3) := by decide +kernel
theorem dX10_init_43 : decode cX10_init 43 = .ok (.aload_n 0, 1) := by decide +kernel
theorem dX10_init_44 : decode cX10_init 44 = .ok (.iconst 4, 1) := by decide +kernel
theorem dX10_init_45 : decode cX10_init 45 = .ok (.newarray .int, 2) := by decide +kernel
theorem dX10_init_47 : decode cX10_init 47 = .ok (.putfield 25, 3) := by decide +kernel
theorem dX10_init_50 : decode cX10_init 50 = .ok (.aload_n 0, 1) := by decide +kernel
theorem dX10_init_51 : decode cX10_init 51 = .ok (.iconst 4, 1) := by decide +kernel
theorem dX10_init_52 : decode cX10_init 52 = .ok (.newarray .int, 2) := by decide +kernel
theorem dX10_init_54 : decode cX10_init 54 = .ok (.putfield 28, 3) := by decide +kernel
theorem dX10_init_57 : decode cX10_init 57 = .ok (.aload_n 0, 1) := by decide +kernel
theorem dX10_init_58 : decode cX10_init 58 = .ok (.iconst 4, 1) := by decide +kernel
theorem dX10_init_59 : decode cX10_init 59 = .ok (.newarray .int, 2) := by decide +kernel
theorem dX10_init_61 : decode cX10_init 61 = .ok (.putfield 31, 3) := by decide +kernel
theorem dX10_init_64 : decode cX10_init 64 = .ok (.aload_n 0, 1) := by decide +kernel
theorem dX10_init_65 : decode cX10_init 65 = .ok (.iconst 4, 1) := by decide +kernel
theorem dX10_init_66 : decode cX10_init 66 = .ok (.newarray .int, 2) := by decide +kernel
theorem dX10_init_68 : decode cX10_init 68 = .ok (.putfield 34, 3) := by decide +kernel
theorem dX10_init_71 : decode cX10_init 71 = .ok (.aload_n 0, 1) := by decide +kernel
theorem dX10_init_72 : decode cX10_init 72 = .ok (.bipush 20, 2) := by decide +kernel
theorem dX10_init_74 : decode cX10_init 74 = .ok (.newarray .int, 2) := by decide +kernel
theorem dX10_init_76 : decode cX10_init 76 = .ok (.putfield 37, 3) := by decide +kernel
theorem dX10_init_79 : decode cX10_init 79 = .ok (.aload_n 0, 1) := by decide +kernel
theorem dX10_init_80 : decode cX10_init 80 = .ok (.bipush 20, 2) := by decide +kernel
theorem dX10_init_82 : decode cX10_init 82 = .ok (.newarray .int, 2) := by decide +kernel
theorem dX10_init_84 : decode cX10_init 84 = .ok (.putfield 40, 3) := by decide +kernel
theorem dX10_init_87 : decode cX10_init 87 = .ok (.aload_n 0, 1) := by decide +kernel
theorem dX10_init_88 : decode cX10_init 88 = .ok (.sipush 500, 3) := by decide +kernel
theorem dX10_init_91 : decode cX10_init 91 = .ok (.newarray .int, 2) := by decide +kernel
theorem dX10_init_93 : decode cX10_init 93 = .ok (.putfield 43, 3) := by decide +kernel
theorem dX10_init_96 : decode cX10_init 96 = .ok (.aload_n 0, 1) := by decide +kernel
theorem dX10_init_97 : decode cX10_init 97 = .ok (.iconst (-1), 1) := by decide +kernel
theorem dX10_init_98 : decode cX10_init 98 = .ok (.putfield 46, 3) := by decide +kernel
theorem dX10_init_101 : decode cX10_init 101 = .ok (.aload_n 0, 1) := by decide +kernel
theorem dX10_init_102 : decode cX10_init 102 = .ok (.bipush 36, 2) := by decide +kernel
theorem dX10_init_104 : decode cX10_init 104 = .ok (.newarray .int, 2) := by decide +kernel
theorem dX10_init_106 : decode cX10_init 106 = .ok (.putfield 50, 3) := by decide +kernel
theorem dX10_init_109 : decode cX10_init 109 = .ok (.aload_n 0, 1) := by decide +kernel
theorem dX10_init_110 : decode cX10_init 110 = .ok (.bipush 40, 2) := by decide +kernel
theorem dX10_init_112 : decode cX10_init 112 = .ok (.newarray .int, 2) := by decide +kernel
theorem dX10_init_114 : decode cX10_init 114 = .ok (.putfield 53, 3) := by decide +kernel
theorem dX10_init_117 : decode cX10_init 117 = .ok (.aload_n 0, 1) := by decide +kernel
theorem dX10_init_118 : decode cX10_init 118 = .ok (.sipush 287, 3) := by decide +kernel
theorem dX10_init_121 : decode cX10_init 121 = .ok (.newarray .int, 2) := by decide +kernel
theorem dX10_init_123 : decode cX10_init 123 = .ok (.putfield 56, 3) := by decide +kernel
theorem dX10_init_126 : decode cX10_init 126 = .ok (.aload_n 0, 1) := by decide +kernel
theorem dX10_init_127 : decode cX10_init 127 = .ok (.iconst (-1), 1) := by decide +kernel
theorem dX10_init_128 : decode cX10_init 128 = .ok (.putfield 59, 3) := by decide +kernel
theorem dX10_init_131 : decode cX10_init 131 = .ok (.aload_n 0, 1) := by decide +kernel
theorem dX10_init_132 : decode cX10_init 132 = .ok (.sipush 501, 3) := by decide +kernel
theorem dX10_init_135 : decode cX10_init 135 = .ok (.newarray .int, 2) := by decide +kernel
theorem dX10_init_137 : decode cX10_init 137 = .ok (.putfield 62, 3) := by decide +kernel
theorem dX10_init_140 : decode cX10_init 140 = .ok (.aload_n 0, 1) := by decide +kernel
theorem dX10_init_141 : decode cX10_init 141 = .ok (.sipush 501, 3) := by decide +kernel
theorem dX10_init_144 : decode cX10_init 144 = .ok (.newarray .int, 2) := by decide +kernel
theorem dX10_init_146 : decode cX10_init 146 = .ok (.putfield 65, 3) := by decide +kernel
theorem dX10_init_149 : decode cX10_init 149 = .ok (.aload_n 0, 1) := by decide +kernel
theorem dX10_init_150 : decode cX10_init 150 = .ok (.bipush 24, 2) := by decide +kernel
theorem dX10_init_152 : decode cX10_init 152 = .ok (.newarray .int, 2) := by decide +kernel
theorem dX10_init_154 : decode cX10_init 154 = .ok (.putfield 68, 3) := by decide +kernel
theorem dX10_init_157 : decode cX10_init 157 = .ok (.aload_n 0, 1) := by decide +kernel
theorem dX10_init_158 : decode cX10_init 158 = .ok (.bipush 24, 2) := by decide +kernel
theorem dX10_init_160 : decode cX10_init 160 = .ok (.newarray .int, 2) := by decide +kernel
theorem dX10_init_162 : decode cX10_init 162 = .ok (.putfield 71, 3) := by decide +kernel
theorem dX10_init_165 : decode cX10_init 165 = .ok (.return_, 1) := by decide +kernel
theorem dX10_thrown_0 : decode cX10_thrown 0 = .ok (.aload_n 0, 1) := by decide +kernel
theorem dX10_thrown_1 : decode cX10_thrown 1 = .ok (.getfield 74, 3) := by decide +kernel
theorem dX10_thrown_4 : decode cX10_thrown 4 = .ok (.ireturn, 1) := by decide +kernel
theorem dX10_isIn_0 : decode cX10_isIn 0 = .ok (.lload_n 0, 1) := by decide +kernel
theorem dX10_isIn_1 : decode cX10_isIn 1 = .ok (.lload_n 2, 1) := by decide +kernel
theorem dX10_isIn_2 : decode cX10_isIn 2 = .ok (.lcmp, 1) := by decide +kernel
theorem dX10_isIn_3 : decode cX10_isIn 3 = .ok (.ifCond .lt 14, 3) := by decide +kernel
theorem dX10_isIn_6 : decode cX10_isIn 6 = .ok (.lload_n 0, 1) := by decide +kernel
theorem dX10_isIn_7 : decode cX10_isIn 7 = .ok (.lload 4, 2) := by decide +kernel
theorem dX10_isIn_9 : decode cX10_isIn 9 = .ok (.lcmp, 1) := by decide +kernel
theorem dX10_isIn_10 : decode cX10_isIn 10 = .ok (.ifCond .gt 7, 3) := by decide +kernel
theorem dX10_isIn_13 : decode cX10_isIn 13 = .ok (.iconst 1, 1) := by decide +kernel
theorem dX10_isIn_14 : decode cX10_isIn 14 = .ok (.goto 4, 3) := by decide +kernel
theorem dX10_isIn_17 : decode cX10_isIn 17 = .ok (.iconst 0, 1) := by decide +kernel
theorem dX10_isIn_18 : decode cX10_isIn 18 = .ok (.ireturn, 1) := by decide +kernel
theorem dX10_upward_0 : decode cX10_upward 0 = .ok (.iload_n 0, 1) := by decide +kernel
theorem dX10_upward_1 : decode cX10_upward 1 = .ok (.iload_n 1, 1) := by decide +kernel
theorem dX10_upward_2 : decode cX10_upward 2 = .ok (.iadd, 1) := by decide +kernel
theorem dX10_upward_3 : decode cX10_upward 3 = .ok (.iconst 1, 1) := by decide +kernel
theorem dX10_upward_4 : decode cX10_upward 4 = .ok (.isub, 1) := by decide +kernel
theorem dX10_upward_5 : decode cX10_upward 5 = .ok (.iload_n 1, 1) := by decide +kernel
theorem dX10_upward_6 : decode cX10_upward 6 = .ok (.idiv, 1) := by decide +kernel
theorem dX10_upward_7 : decode cX10_upward 7 = .ok (.ireturn, 1) := by decide +kernel
theorem dX10_many_0 : decode cX10_many 0 = .ok (.iconst 0, 1) := by decide +kernel
theorem dX10_many_1 : decode cX10_many 1 = .ok (.istore_n 1, 1) := by decide +kernel
theorem dX10_many_2 : decode cX10_many 2 = .ok (.iconst 0, 1) := by decide +kernel
theorem dX10_many_3 : decode cX10_many 3 = .ok (.istore_n 2, 1) := by decide +kernel
theorem dX10_many_4 : decode cX10_many 4 = .ok (.iload_n 2, 1) := by decide +kernel
theorem dX10_many_5 : decode cX10_many 5 = .ok (.bipush 24, 2) := by decide +kernel
theorem dX10_many_7 : decode cX10_many 7 = .ok (.if_icmp .ge 17, 3) := by decide +kernel
theorem dX10_many_10 : decode cX10_many 10 = .ok (.iload_n 1, 1) := by decide +kernel
theorem dX10_many_11 : decode cX10_many 11 = .ok (.iload_n 0, 1) := by decide +kernel
theorem dX10_many_12 : decode cX10_many 12 = .ok (.iload_n 2, 1) := by decide +kernel
theorem dX10_many_13 : decode cX10_many 13 = .ok (.ishr, 1) := by decide +kernel
theorem dX10_many_14 : decode cX10_many 14 = .ok (.iconst 1, 1) := by decide +kernel
theorem dX10_many_15 : decode cX10_many 15 = .ok (.iand, 1) := by decide +kernel
theorem dX10_many_16 : decode cX10_many 16 = .ok (.iadd, 1) := by decide +kernel
theorem dX10_many_17 : decode cX10_many 17 = .ok (.istore_n 1, 1) := by decide +kernel
theorem dX10_many_18 : decode cX10_many 18 = .ok (.iinc 2 1, 3) := by decide +kernel
theorem dX10_many_21 : decode cX10_many 21 = .ok (.goto (-17), 3) := by decide +kernel
theorem dX10_many_24 : decode cX10_many 24 = .ok (.iload_n 1, 1) := by decide +kernel
theorem dX10_many_25 : decode cX10_many 25 = .ok (.ireturn, 1) := by decide +kernel
theorem dX10_isWrong_0 : decode cX10_isWrong 0 = .ok (.aload_n 0, 1) := by decide +kernel
theorem dX10_isWrong_1 : decode cX10_isWrong 1 = .ok (.aload_n 0, 1) := by decide +kernel
theorem dX10_isWrong_2 : decode cX10_isWrong 2 = .ok (.getfield 77, 3) := by decide +kernel
theorem dX10_isWrong_5 : decode cX10_isWrong 5 = .ok (.ifCond .ne 7, 3) := by decide +kernel
theorem dX10_isWrong_8 : decode cX10_isWrong 8 = .ok (.iconst 1, 1) := by decide +kernel
theorem dX10_isWrong_9 : decode cX10_isWrong 9 = .ok (.goto 12, 3) := by decide +kernel
theorem dX10_isWrong_12 : decode cX10_isWrong 12 = .ok (.iload_n 1, 1) := by decide +kernel
theorem dX10_isWrong_13 : decode cX10_isWrong 13 = .ok (.ifCond .eq 7, 3) := by decide +kernel
theorem dX10_isWrong_16 : decode cX10_isWrong 16 = .ok (.iconst 0, 1) := by decide +kernel
theorem dX10_isWrong_17 : decode cX10_isWrong 17 = .ok (.goto 4, 3) := by decide +kernel
theorem dX10_isWrong_20 : decode cX10_isWrong 20 = .ok (.iconst 2, 1) := by decide +kernel
theorem dX10_isWrong_21 : decode cX10_isWrong 21 = .ok (.putfield 74, 3) := by decide +kernel
theorem dX10_isWrong_24 : decode cX10_isWrong 24 = .ok (.aload_n 0, 1) := by decide +kernel
theorem dX10_isWrong_25 : decode cX10_isWrong 25 = .ok (.getfield 74, 3) := by decide +kernel
theorem dX10_isWrong_28 : decode cX10_isWrong 28 = .ok (.ifCond .le 7, 3) := by decide +kernel
theorem dX10_isWrong_31 : decode cX10_isWrong 31 = .ok (.iconst 1, 1) := by decide +kernel
theorem dX10_isWrong_32 : decode cX10_isWrong 32 = .ok (.goto 4, 3) := by decide +kernel
theorem dX10_isWrong_35 : decode cX10_isWrong 35 = .ok (.iconst 0, 1) := by decide +kernel
theorem dX10_isWrong_36 : decode cX10_isWrong 36 = .ok (.ireturn, 1) := by decide +kernel
theorem dX10_put_0 : decode cX10_put 0 = .ok (.bipush 24, 2) := by decide +kernel
theorem dX10_put_2 : decode cX10_put 2 = .ok (.istore_n 2, 1) := by decide +kernel
theorem dX10_put_3 : decode cX10_put 3 = .ok (.iload_n 2, 1) := by decide +kernel
theorem dX10_put_4 : decode cX10_put 4 = .ok (.ifCond .lt 35, 3) := by decide +kernel
theorem dX10_put_7 : decode cX10_put 7 = .ok (.aload_n 0, 1) := by decide +kernel
theorem dX10_put_8 : decode cX10_put 8 = .ok (.getfield 43, 3) := by decide +kernel
theorem dX10_put_11 : decode cX10_put 11 = .ok (.aload_n 0, 1) := by decide +kernel
theorem dX10_put_12 : decode cX10_put 12 = .ok (.getfield 81, 3) := by decide +kernel
theorem dX10_put_15 : decode cX10_put 15 = .ok (.iload_n 1, 1) := by decide +kernel
theorem dX10_put_16 : decode cX10_put 16 = .ok (.iload_n 2, 1) := by decide +kernel
theorem dX10_put_17 : decode cX10_put 17 = .ok (.ishr, 1) := by decide +kernel
theorem dX10_put_18 : decode cX10_put 18 = .ok (.sipush 255, 3) := by decide +kernel
theorem dX10_put_21 : decode cX10_put 21 = .ok (.iand, 1) := by decide +kernel
theorem dX10_put_22 : decode cX10_put 22 = .ok (.iastore, 1) := by decide +kernel
theorem dX10_put_23 : decode cX10_put 23 = .ok (.aload_n 0, 1) := by decide +kernel
theorem dX10_put_24 : decode cX10_put 24 = .ok (.dup, 1) := by decide +kernel
theorem dX10_put_25 : decode cX10_put 25 = .ok (.getfield 81, 3) := by decide +kernel
theorem dX10_put_28 : decode cX10_put 28 = .ok (.iconst 1, 1) := by decide +kernel
theorem dX10_put_29 : decode cX10_put 29 = .ok (.iadd, 1) := by decide +kernel
theorem dX10_put_30 : decode cX10_put 30 = .ok (.putfield 81, 3) := by decide +kernel
theorem dX10_put_33 : decode cX10_put 33 = .ok (.iinc 2 (-8), 3) := by decide +kernel
theorem dX10_put_36 : decode cX10_put 36 = .ok (.goto (-33), 3) := by decide +kernel
theorem dX10_put_39 : decode cX10_put 39 = .ok (.return_, 1) := by decide +kernel
theorem dX10_append_0 : decode cX10_append 0 = .ok (.aload_n 0, 1) := by decide +kernel
theorem dX10_append_1 : decode cX10_append 1 = .ok (.aload_n 0, 1) := by decide +kernel
theorem dX10_append_2 : decode cX10_append 2 = .ok (.getfield 81, 3) := by decide +kernel
theorem dX10_append_5 : decode cX10_append 5 = .ok (.bipush 20, 2) := by decide +kernel
theorem dX10_append_7 : decode cX10_append 7 = .ok (.iadd, 1) := by decide +kernel
theorem dX10_append_8 : decode cX10_append 8 = .ok (.sipush 500, 3) := by decide +kernel
theorem dX10_append_11 : decode cX10_append 11 = .ok (.if_icmp .le 7, 3) := by decide +kernel
theorem dX10_append_14 : decode cX10_append 14 = .ok (.iconst 1, 1) := by decide +kernel
theorem dX10_append_15 : decode cX10_append 15 = .ok (.goto 4, 3) := by decide +kernel
theorem dX10_append_18 : decode cX10_append 18 = .ok (.iconst 0, 1) := by decide +kernel
theorem dX10_append_19 : decode cX10_append 19 = .ok (.putfield 74, 3) := by decide +kernel
theorem dX10_append_22 : decode cX10_append 22 = .ok (.aload_n 0, 1) := by decide +kernel
theorem dX10_append_23 : decode cX10_append 23 = .ok (.getfield 74, 3) := by decide +kernel
theorem dX10_append_26 : decode cX10_append 26 = .ok (.ifCond .le 5, 3) := by decide +kernel
theorem dX10_append_29 : decode cX10_append 29 = .ok (.iconst 0, 1) := by decide +kernel
theorem dX10_append_30 : decode cX10_append 30 = .ok (.ireturn, 1) := by decide +kernel
theorem dX10_append_31 : decode cX10_append 31 = .ok (.aload_n 0, 1) := by decide +kernel
theorem dX10_append_32 : decode cX10_append 32 = .ok (.iload_n 1, 1) := by decide +kernel
theorem dX10_append_33 : decode cX10_append 33 = .ok (.invokevirtual 84, 3) := by decide +kernel
theorem dX10_append_36 : decode cX10_append 36 = .ok (.aload_n 0, 1) := by decide +kernel
theorem dX10_append_37 : decode cX10_append 37 = .ok (.iload_n 2, 1) := by decide +kernel
theorem dX10_append_38 : decode cX10_append 38 = .ok (.invokevirtual 84, 3) := by decide +kernel
theorem dX10_append_41 : decode cX10_append 41 = .ok (.aload_n 0, 1) := by decide +kernel
theorem dX10_append_42 : decode cX10_append 42 = .ok (.iload_n 3, 1) := by decide +kernel
theorem dX10_append_43 : decode cX10_append 43 = .ok (.invokevirtual 84, 3) := by decide +kernel
theorem dX10_append_46 : decode cX10_append 46 = .ok (.aload_n 0, 1) := by decide +kernel
theorem dX10_append_47 : decode cX10_append 47 = .ok (.iload 4, 2) := by decide +kernel
theorem dX10_append_49 : decode cX10_append 49 = .ok (.invokevirtual 84, 3) := by decide +kernel
theorem dX10_append_52 : decode cX10_append 52 = .ok (.aload_n 0, 1) := by decide +kernel
theorem dX10_append_53 : decode cX10_append 53 = .ok (.iload 5, 2) := by decide +kernel
theorem dX10_append_55 : decode cX10_append 55 = .ok (.invokevirtual 84, 3) := by decide +kernel
theorem dX10_append_58 : decode cX10_append 58 = .ok (.aload_n 0, 1) := by decide +kernel
theorem dX10_append_59 : decode cX10_append 59 = .ok (.getfield 81, 3) := by decide +kernel
theorem dX10_append_62 : decode cX10_append 62 = .ok (.ireturn, 1) := by decide +kernel
theorem dX10_truncate_0 : decode cX10_truncate 0 = .ok (.aload_n 0, 1) := by decide +kernel
theorem dX10_truncate_1 : decode cX10_truncate 1 = .ok (.iload_n 1, 1) := by decide +kernel
theorem dX10_truncate_2 : decode cX10_truncate 2 = .ok (.i2l, 1) := by decide +kernel
theorem dX10_truncate_3 : decode cX10_truncate 3 = .ok (.lconst 0, 1) := by decide +kernel
theorem dX10_truncate_4 : decode cX10_truncate 4 = .ok (.aload_n 0, 1) := by decide +kernel
theorem dX10_truncate_5 : decode cX10_truncate 5 = .ok (.getfield 81, 3) := by decide +kernel
theorem dX10_truncate_8 : decode cX10_truncate 8 = .ok (.i2l, 1) := by decide +kernel
theorem dX10_truncate_9 : decode cX10_truncate 9 = .ok (.invokestatic 88, 3) := by decide +kernel
theorem dX10_truncate_12 : decode cX10_truncate 12 = .ok (.ifCond .eq 7, 3) := by decide +kernel
theorem dX10_truncate_15 : decode cX10_truncate 15 = .ok (.iconst 0, 1) := by decide +kernel
theorem dX10_truncate_16 : decode cX10_truncate 16 = .ok (.goto 4, 3) := by decide +kernel
theorem dX10_truncate_19 : decode cX10_truncate 19 = .ok (.iconst 1, 1) := by decide +kernel
theorem dX10_truncate_20 : decode cX10_truncate 20 = .ok (.putfield 74, 3) := by decide +kernel
theorem dX10_truncate_23 : decode cX10_truncate 23 = .ok (.aload_n 0, 1) := by decide +kernel
theorem dX10_truncate_24 : decode cX10_truncate 24 = .ok (.getfield 74, 3) := by decide +kernel
theorem dX10_truncate_27 : decode cX10_truncate 27 = .ok (.ifCond .le 5, 3) := by decide +kernel
theorem dX10_truncate_30 : decode cX10_truncate 30 = .ok (.iconst 0, 1) := by decide +kernel
theorem dX10_truncate_31 : decode cX10_truncate 31 = .ok (.ireturn, 1) := by decide +kernel
theorem dX10_truncate_32 : decode cX10_truncate 32 = .ok (.aload_n 0, 1) := by decide +kernel
theorem dX10_truncate_33 : decode cX10_truncate 33 = .ok (.iload_n 1, 1) := by decide +kernel
theorem dX10_truncate_34 : decode cX10_truncate 34 = .ok (.putfield 81, 3) := by decide +kernel
theorem dX10_truncate_37 : decode cX10_truncate 37 = .ok (.aload_n 0, 1) := by decide +kernel
theorem dX10_truncate_38 : decode cX10_truncate 38 = .ok (.getfield 81, 3) := by decide +kernel
theorem dX10_truncate_41 : decode cX10_truncate 41 = .ok (.ireturn, 1) := by decide +kernel
theorem dX10_byteAt_0 : decode cX10_byteAt 0 = .ok (.iload_n 1, 1) := by decide +kernel
theorem dX10_byteAt_1 : decode cX10_byteAt 1 = .ok (.aload_n 0, 1) := by decide +kernel
theorem dX10_byteAt_2 : decode cX10_byteAt 2 = .ok (.getfield 92, 3) := by decide +kernel
theorem dX10_byteAt_5 : decode cX10_byteAt 5 = .ok (.if_icmp .ge 12, 3) := by decide +kernel
theorem dX10_byteAt_8 : decode cX10_byteAt 8 = .ok (.aload_n 0, 1) := by decide +kernel
theorem dX10_byteAt_9 : decode cX10_byteAt 9 = .ok (.getfield 43, 3) := by decide +kernel
theorem dX10_byteAt_12 : decode cX10_byteAt 12 = .ok (.iload_n 1, 1) := by decide +kernel
theorem dX10_byteAt_13 : decode cX10_byteAt 13 = .ok (.iaload, 1) := by decide +kernel
theorem dX10_byteAt_14 : decode cX10_byteAt 14 = .ok (.goto 4, 3) := by decide +kernel
theorem dX10_byteAt_17 : decode cX10_byteAt 17 = .ok (.iconst (-1), 1) := by decide +kernel
theorem dX10_byteAt_18 : decode cX10_byteAt 18 = .ok (.ireturn, 1) := by decide +kernel
theorem dX10_isLetterAt_0 : decode cX10_isLetterAt 0 = .ok (.aload_n 0, 1) := by decide +kernel
theorem dX10_isLetterAt_1 : decode cX10_isLetterAt 1 = .ok (.iload_n 1, 1) := by decide +kernel
theorem dX10_isLetterAt_2 : decode cX10_isLetterAt 2 = .ok (.invokevirtual 95, 3) := by decide +kernel
theorem dX10_isLetterAt_5 : decode cX10_isLetterAt 5 = .ok (.i2l, 1) := by decide +kernel
theorem dX10_isLetterAt_6 : decode cX10_isLetterAt 6 = .ok (.ldc2_w 99, 3) := by decide +kernel
theorem dX10_isLetterAt_9 : decode cX10_isLetterAt 9 = .ok (.ldc2_w 101, 3) := by decide +kernel
theorem dX10_isLetterAt_12 : decode cX10_isLetterAt 12 = .ok (.invokestatic 88, 3) := by decide +kernel
theorem dX10_isLetterAt_15 : decode cX10_isLetterAt 15 = .ok (.ireturn, 1) := by decide +kernel
theorem dX10_isDigitAt_0 : decode cX10_isDigitAt 0 = .ok (.aload_n 0, 1) := by decide +kernel
theorem dX10_isDigitAt_1 : decode cX10_isDigitAt 1 = .ok (.iload_n 1, 1) := by decide +kernel
theorem dX10_isDigitAt_2 : decode cX10_isDigitAt 2 = .ok (.invokevirtual 95, 3) := by decide +kernel
theorem dX10_isDigitAt_5 : decode cX10_isDigitAt 5 = .ok (.i2l, 1) := by decide +kernel
theorem dX10_isDigitAt_6 : decode cX10_isDigitAt 6 = .ok (.ldc2_w 103, 3) := by decide +kernel
theorem dX10_isDigitAt_9 : decode cX10_isDigitAt 9 = .ok (.ldc2_w 105, 3) := by decide +kernel
theorem dX10_isDigitAt_12 : decode cX10_isDigitAt 12 = .ok (.invokestatic 88, 3) := by decide +kernel
theorem dX10_isDigitAt_15 : decode cX10_isDigitAt 15 = .ok (.ireturn, 1) := by decide +kernel
theorem dX10_isFine_0 : decode cX10_isFine 0 = .ok (.aload_n 0, 1) := by decide +kernel
theorem dX10_isFine_1 : decode cX10_isFine 1 = .ok (.getfield 107, 3) := by decide +kernel
theorem dX10_isFine_4 : decode cX10_isFine 4 = .ok (.ifCond .ne 7, 3) := by decide +kernel
theorem dX10_isFine_7 : decode cX10_isFine 7 = .ok (.iconst 1, 1) := by decide +kernel
theorem dX10_isFine_8 : decode cX10_isFine 8 = .ok (.goto 4, 3) := by decide +kernel
theorem dX10_isFine_11 : decode cX10_isFine 11 = .ok (.iconst 0, 1) := by decide +kernel
theorem dX10_isFine_12 : decode cX10_isFine 12 = .ok (.ireturn, 1) := by decide +kernel
theorem dX10_next_0 : decode cX10_next 0 = .ok (.aload_n 0, 1) := by decide +kernel
theorem dX10_next_1 : decode cX10_next 1 = .ok (.invokevirtual 110, 3) := by decide +kernel
theorem dX10_next_4 : decode cX10_next 4 = .ok (.ifCond .ne 4, 3) := by decide +kernel
theorem dX10_next_7 : decode cX10_next 7 = .ok (.return_, 1) := by decide +kernel
theorem dX10_next_8 : decode cX10_next 8 = .ok (.aload_n 0, 1) := by decide +kernel
theorem dX10_next_9 : decode cX10_next 9 = .ok (.aload_n 0, 1) := by decide +kernel
theorem dX10_next_10 : decode cX10_next 10 = .ok (.getfield 114, 3) := by decide +kernel
theorem dX10_next_13 : decode cX10_next 13 = .ok (.invokevirtual 95, 3) := by decide +kernel
theorem dX10_next_16 : decode cX10_next 16 = .ok (.bipush 32, 2) := by decide +kernel
theorem dX10_next_18 : decode cX10_next 18 = .ok (.if_icmp .eq 16, 3) := by decide +kernel
theorem dX10_next_21 : decode cX10_next 21 = .ok (.aload_n 0, 1) := by decide +kernel
theorem dX10_next_22 : decode cX10_next 22 = .ok (.aload_n 0, 1) := by decide +kernel
theorem dX10_next_23 : decode cX10_next 23 = .ok (.getfield 114, 3) := by decide +kernel
theorem dX10_next_26 : decode cX10_next 26 = .ok (.invokevirtual 95, 3) := by decide +kernel
theorem dX10_next_29 : decode cX10_next 29 = .ok (.bipush 10, 2) := by decide +kernel
theorem dX10_next_31 : decode cX10_next 31 = .ok (.if_icmp .ne 16, 3) := by decide +kernel
theorem dX10_next_34 : decode cX10_next 34 = .ok (.aload_n 0, 1) := by decide +kernel
theorem dX10_next_35 : decode cX10_next 35 = .ok (.dup, 1) := by decide +kernel
theorem dX10_next_36 : decode cX10_next 36 = .ok (.getfield 114, 3) := by decide +kernel
theorem dX10_next_39 : decode cX10_next 39 = .ok (.iconst 1, 1) := by decide +kernel
theorem dX10_next_40 : decode cX10_next 40 = .ok (.iadd, 1) := by decide +kernel
theorem dX10_next_41 : decode cX10_next 41 = .ok (.putfield 114, 3) := by decide +kernel
theorem dX10_next_44 : decode cX10_next 44 = .ok (.goto (-36), 3) := by decide +kernel
theorem dX10_next_47 : decode cX10_next 47 = .ok (.aload_n 0, 1) := by decide +kernel
theorem dX10_next_48 : decode cX10_next 48 = .ok (.aload_n 0, 1) := by decide +kernel
theorem dX10_next_49 : decode cX10_next 49 = .ok (.getfield 114, 3) := by decide +kernel
theorem dX10_next_52 : decode cX10_next 52 = .ok (.putfield 117, 3) := by decide +kernel
theorem dX10_next_55 : decode cX10_next 55 = .ok (.aload_n 0, 1) := by decide +kernel
theorem dX10_next_56 : decode cX10_next 56 = .ok (.getfield 114, 3) := by decide +kernel
theorem dX10_next_59 : decode cX10_next 59 = .ok (.aload_n 0, 1) := by decide +kernel
theorem dX10_next_60 : decode cX10_next 60 = .ok (.getfield 92, 3) := by decide +kernel
theorem dX10_next_63 : decode cX10_next 63 = .ok (.if_icmp .ne 11, 3) := by decide +kernel
theorem dX10_next_66 : decode cX10_next 66 = .ok (.aload_n 0, 1) := by decide +kernel
theorem dX10_next_67 : decode cX10_next 67 = .ok (.iconst 0, 1) := by decide +kernel
theorem dX10_next_68 : decode cX10_next 68 = .ok (.putfield 120, 3) := by decide +kernel
theorem dX10_next_71 : decode cX10_next 71 = .ok (.goto 179, 3) := by decide +kernel
theorem dX10_next_74 : decode cX10_next 74 = .ok (.aload_n 0, 1) := by decide +kernel
theorem dX10_next_75 : decode cX10_next 75 = .ok (.aload_n 0, 1) := by decide +kernel
theorem dX10_next_76 : decode cX10_next 76 = .ok (.getfield 114, 3) := by decide +kernel
theorem dX10_next_79 : decode cX10_next 79 = .ok (.invokevirtual 123, 3) := by decide +kernel
theorem dX10_next_82 : decode cX10_next 82 = .ok (.ifCond .eq 35, 3) := by decide +kernel
theorem dX10_next_85 : decode cX10_next 85 = .ok (.aload_n 0, 1) := by decide +kernel
theorem dX10_next_86 : decode cX10_next 86 = .ok (.aload_n 0, 1) := by decide +kernel
theorem dX10_next_87 : decode cX10_next 87 = .ok (.getfield 114, 3) := by decide +kernel
theorem dX10_next_90 : decode cX10_next 90 = .ok (.invokevirtual 123, 3) := by decide +kernel
theorem dX10_next_93 : decode cX10_next 93 = .ok (.ifCond .eq 16, 3) := by decide +kernel
theorem dX10_next_96 : decode cX10_next 96 = .ok (.aload_n 0, 1) := by decide +kernel
theorem dX10_next_97 : decode cX10_next 97 = .ok (.dup, 1) := by decide +kernel
theorem dX10_next_98 : decode cX10_next 98 = .ok (.getfield 114, 3) := by decide +kernel
theorem dX10_next_101 : decode cX10_next 101 = .ok (.iconst 1, 1) := by decide +kernel
theorem dX10_next_102 : decode cX10_next 102 = .ok (.iadd, 1) := by decide +kernel
theorem dX10_next_103 : decode cX10_next 103 = .ok (.putfield 114, 3) := by decide +kernel
theorem dX10_next_106 : decode cX10_next 106 = .ok (.goto (-21), 3) := by decide +kernel
theorem dX10_next_109 : decode cX10_next 109 = .ok (.aload_n 0, 1) := by decide +kernel
theorem dX10_next_110 : decode cX10_next 110 = .ok (.iconst 2, 1) := by decide +kernel
theorem dX10_next_111 : decode cX10_next 111 = .ok (.putfield 120, 3) := by decide +kernel
theorem dX10_next_114 : decode cX10_next 114 = .ok (.goto 136, 3) := by decide +kernel
theorem dX10_next_117 : decode cX10_next 117 = .ok (.aload_n 0, 1) := by decide +kernel
theorem dX10_next_118 : decode cX10_next 118 = .ok (.aload_n 0, 1) := by decide +kernel
theorem dX10_next_119 : decode cX10_next 119 = .ok (.getfield 114, 3) := by decide +kernel
theorem dX10_next_122 : decode cX10_next 122 = .ok (.invokevirtual 127, 3) := by decide +kernel
theorem dX10_next_125 : decode cX10_next 125 = .ok (.ifCond .eq 93, 3) := by decide +kernel
theorem dX10_next_128 : decode cX10_next 128 = .ok (.aload_n 0, 1) := by decide +kernel
theorem dX10_next_129 : decode cX10_next 129 = .ok (.iconst 0, 1) := by decide +kernel
theorem dX10_next_130 : decode cX10_next 130 = .ok (.putfield 130, 3) := by decide +kernel
theorem dX10_next_133 : decode cX10_next 133 = .ok (.aload_n 0, 1) := by decide +kernel
theorem dX10_next_134 : decode cX10_next 134 = .ok (.aload_n 0, 1) := by decide +kernel
theorem dX10_next_135 : decode cX10_next 135 = .ok (.getfield 114, 3) := by decide +kernel
theorem dX10_next_138 : decode cX10_next 138 = .ok (.invokevirtual 127, 3) := by decide +kernel
theorem dX10_next_141 : decode cX10_next 141 = .ok (.ifCond .eq 52, 3) := by decide +kernel
theorem dX10_next_144 : decode cX10_next 144 = .ok (.aload_n 0, 1) := by decide +kernel
theorem dX10_next_145 : decode cX10_next 145 = .ok (.getfield 114, 3) := by decide +kernel
theorem dX10_next_148 : decode cX10_next 148 = .ok (.aload_n 0, 1) := by decide +kernel
theorem dX10_next_149 : decode cX10_next 149 = .ok (.getfield 117, 3) := by decide +kernel
theorem dX10_next_152 : decode cX10_next 152 = .ok (.isub, 1) := by decide +kernel
theorem dX10_next_153 : decode cX10_next 153 = .ok (.iconst 5, 1) := by decide +kernel
theorem dX10_next_154 : decode cX10_next 154 = .ok (.if_icmp .ge 26, 3) := by decide +kernel
theorem dX10_next_157 : decode cX10_next 157 = .ok (.aload_n 0, 1) := by decide +kernel
theorem dX10_next_158 : decode cX10_next 158 = .ok (.bipush 10, 2) := by decide +kernel
theorem dX10_next_160 : decode cX10_next 160 = .ok (.aload_n 0, 1) := by decide +kernel
theorem dX10_next_161 : decode cX10_next 161 = .ok (.getfield 130, 3) := by decide +kernel
theorem dX10_next_164 : decode cX10_next 164 = .ok (.imul, 1) := by decide +kernel
theorem dX10_next_165 : decode cX10_next 165 = .ok (.aload_n 0, 1) := by decide +kernel
theorem dX10_next_166 : decode cX10_next 166 = .ok (.aload_n 0, 1) := by decide +kernel
theorem dX10_next_167 : decode cX10_next 167 = .ok (.getfield 114, 3) := by decide +kernel
theorem dX10_next_170 : decode cX10_next 170 = .ok (.invokevirtual 95, 3) := by decide +kernel
theorem dX10_next_173 : decode cX10_next 173 = .ok (.iadd, 1) := by decide +kernel
theorem dX10_next_174 : decode cX10_next 174 = .ok (.bipush 48, 2) := by decide +kernel
theorem dX10_next_176 : decode cX10_next 176 = .ok (.isub, 1) := by decide +kernel
theorem dX10_next_177 : decode cX10_next 177 = .ok (.putfield 130, 3) := by decide +kernel
theorem dX10_next_180 : decode cX10_next 180 = .ok (.aload_n 0, 1) := by decide +kernel
theorem dX10_next_181 : decode cX10_next 181 = .ok (.dup, 1) := by decide +kernel
theorem dX10_next_182 : decode cX10_next 182 = .ok (.getfield 114, 3) := by decide +kernel
theorem dX10_next_185 : decode cX10_next 185 = .ok (.iconst 1, 1) := by decide +kernel
theorem dX10_next_186 : decode cX10_next 186 = .ok (.iadd, 1) := by decide +kernel
theorem dX10_next_187 : decode cX10_next 187 = .ok (.putfield 114, 3) := by decide +kernel
theorem dX10_next_190 : decode cX10_next 190 = .ok (.goto (-57), 3) := by decide +kernel
theorem dX10_next_193 : decode cX10_next 193 = .ok (.aload_n 0, 1) := by decide +kernel
theorem dX10_next_194 : decode cX10_next 194 = .ok (.aload_n 0, 1) := by decide +kernel
theorem dX10_next_195 : decode cX10_next 195 = .ok (.getfield 114, 3) := by decide +kernel
theorem dX10_next_198 : decode cX10_next 198 = .ok (.aload_n 0, 1) := by decide +kernel
theorem dX10_next_199 : decode cX10_next 199 = .ok (.getfield 117, 3) := by decide +kernel
theorem dX10_next_202 : decode cX10_next 202 = .ok (.isub, 1) := by decide +kernel
theorem dX10_next_203 : decode cX10_next 203 = .ok (.iconst 5, 1) := by decide +kernel
theorem dX10_next_204 : decode cX10_next 204 = .ok (.if_icmp .le 7, 3) := by decide +kernel
theorem dX10_next_207 : decode cX10_next 207 = .ok (.iconst 1, 1) := by decide +kernel
theorem dX10_next_208 : decode cX10_next 208 = .ok (.goto 4, 3) := by decide +kernel
theorem dX10_next_211 : decode cX10_next 211 = .ok (.iconst 3, 1) := by decide +kernel
theorem dX10_next_212 : decode cX10_next 212 = .ok (.putfield 120, 3) := by decide +kernel
theorem dX10_next_215 : decode cX10_next 215 = .ok (.goto 35, 3) := by decide +kernel
theorem dX10_next_218 : decode cX10_next 218 = .ok (.aload_n 0, 1) := by decide +kernel
theorem dX10_next_219 : decode cX10_next 219 = .ok (.aload_n 0, 1) := by decide +kernel
theorem dX10_next_220 : decode cX10_next 220 = .ok (.aload_n 0, 1) := by decide +kernel
theorem dX10_next_221 : decode cX10_next 221 = .ok (.getfield 114, 3) := by decide +kernel
theorem dX10_next_224 : decode cX10_next 224 = .ok (.invokevirtual 95, 3) := by decide +kernel
theorem dX10_next_227 : decode cX10_next 227 = .ok (.bipush 59, 2) := by decide +kernel
theorem dX10_next_229 : decode cX10_next 229 = .ok (.if_icmp .ne 7, 3) := by decide +kernel
theorem dX10_next_232 : decode cX10_next 232 = .ok (.iconst 4, 1) := by decide +kernel
theorem dX10_next_233 : decode cX10_next 233 = .ok (.goto 4, 3) := by decide +kernel
theorem dX10_next_236 : decode cX10_next 236 = .ok (.iconst 1, 1) := by decide +kernel
theorem dX10_next_237 : decode cX10_next 237 = .ok (.putfield 120, 3) := by decide +kernel
theorem dX10_next_240 : decode cX10_next 240 = .ok (.aload_n 0, 1) := by decide +kernel
theorem dX10_next_241 : decode cX10_next 241 = .ok (.dup, 1) := by decide +kernel
theorem dX10_next_242 : decode cX10_next 242 = .ok (.getfield 114, 3) := by decide +kernel
theorem dX10_next_245 : decode cX10_next 245 = .ok (.iconst 1, 1) := by decide +kernel
theorem dX10_next_246 : decode cX10_next 246 = .ok (.iadd, 1) := by decide +kernel
theorem dX10_next_247 : decode cX10_next 247 = .ok (.putfield 114, 3) := by decide +kernel
theorem dX10_next_250 : decode cX10_next 250 = .ok (.return_, 1) := by decide +kernel
theorem dX10_fail_0 : decode cX10_fail 0 = .ok (.aload_n 0, 1) := by decide +kernel
theorem dX10_fail_1 : decode cX10_fail 1 = .ok (.invokevirtual 110, 3) := by decide +kernel
theorem dX10_fail_4 : decode cX10_fail 4 = .ok (.ifCond .eq 16, 3) := by decide +kernel
theorem dX10_fail_7 : decode cX10_fail 7 = .ok (.aload_n 0, 1) := by decide +kernel
theorem dX10_fail_8 : decode cX10_fail 8 = .ok (.iload_n 1, 1) := by decide +kernel
theorem dX10_fail_9 : decode cX10_fail 9 = .ok (.putfield 107, 3) := by decide +kernel
theorem dX10_fail_12 : decode cX10_fail 12 = .ok (.aload_n 0, 1) := by decide +kernel
theorem dX10_fail_13 : decode cX10_fail 13 = .ok (.aload_n 0, 1) := by decide +kernel
theorem dX10_fail_14 : decode cX10_fail 14 = .ok (.getfield 117, 3) := by decide +kernel
theorem dX10_fail_17 : decode cX10_fail 17 = .ok (.putfield 46, 3) := by decide +kernel
theorem dX10_fail_20 : decode cX10_fail 20 = .ok (.return_, 1) := by decide +kernel
theorem dX10_isWord_0 : decode cX10_isWord 0 = .ok (.aload_n 0, 1) := by decide +kernel
theorem dX10_isWord_1 : decode cX10_isWord 1 = .ok (.invokevirtual 110, 3) := by decide +kernel
theorem dX10_isWord_4 : decode cX10_isWord 4 = .ok (.ifCond .eq 27, 3) := by decide +kernel
theorem dX10_isWord_7 : decode cX10_isWord 7 = .ok (.aload_n 0, 1) := by decide +kernel
theorem dX10_isWord_8 : decode cX10_isWord 8 = .ok (.getfield 120, 3) := by decide +kernel
theorem dX10_isWord_11 : decode cX10_isWord 11 = .ok (.iconst 2, 1) := by decide +kernel
theorem dX10_isWord_12 : decode cX10_isWord 12 = .ok (.if_icmp .ne 19, 3) := by decide +kernel
theorem dX10_isWord_15 : decode cX10_isWord 15 = .ok (.aload_n 0, 1) := by decide +kernel
theorem dX10_isWord_16 : decode cX10_isWord 16 = .ok (.getfield 114, 3) := by decide +kernel
theorem dX10_isWord_19 : decode cX10_isWord 19 = .ok (.aload_n 0, 1) := by decide +kernel
theorem dX10_isWord_20 : decode cX10_isWord 20 = .ok (.getfield 117, 3) := by decide +kernel
theorem dX10_isWord_23 : decode cX10_isWord 23 = .ok (.isub, 1) := by decide +kernel
theorem dX10_isWord_24 : decode cX10_isWord 24 = .ok (.aload_n 1, 1) := by decide +kernel
theorem dX10_isWord_25 : decode cX10_isWord 25 = .ok (.invokevirtual 133, 3) := by decide +kernel
theorem dX10_isWord_28 : decode cX10_isWord 28 = .ok (.if_icmp .eq 5, 3) := by decide +kernel
theorem dX10_isWord_31 : decode cX10_isWord 31 = .ok (.iconst 0, 1) := by decide +kernel
theorem dX10_isWord_32 : decode cX10_isWord 32 = .ok (.ireturn, 1) := by decide +kernel
theorem dX10_isWord_33 : decode cX10_isWord 33 = .ok (.iconst 0, 1) := by decide +kernel
theorem dX10_isWord_34 : decode cX10_isWord 34 = .ok (.istore_n 2, 1) := by decide +kernel
theorem dX10_isWord_35 : decode cX10_isWord 35 = .ok (.iload_n 2, 1) := by decide +kernel
theorem dX10_isWord_36 : decode cX10_isWord 36 = .ok (.aload_n 1, 1) := by decide +kernel
theorem dX10_isWord_37 : decode cX10_isWord 37 = .ok (.invokevirtual 133, 3) := by decide +kernel
theorem dX10_isWord_40 : decode cX10_isWord 40 = .ok (.if_icmp .ge 30, 3) := by decide +kernel
theorem dX10_isWord_43 : decode cX10_isWord 43 = .ok (.aload_n 0, 1) := by decide +kernel
theorem dX10_isWord_44 : decode cX10_isWord 44 = .ok (.getfield 43, 3) := by decide +kernel
theorem dX10_isWord_47 : decode cX10_isWord 47 = .ok (.aload_n 0, 1) := by decide +kernel
theorem dX10_isWord_48 : decode cX10_isWord 48 = .ok (.getfield 117, 3) := by decide +kernel
theorem dX10_isWord_51 : decode cX10_isWord 51 = .ok (.iload_n 2, 1) := by decide +kernel
theorem dX10_isWord_52 : decode cX10_isWord 52 = .ok (.iadd, 1) := by decide +kernel
theorem dX10_isWord_53 : decode cX10_isWord 53 = .ok (.iaload, 1) := by decide +kernel
theorem dX10_isWord_54 : decode cX10_isWord 54 = .ok (.aload_n 1, 1) := by decide +kernel
theorem dX10_isWord_55 : decode cX10_isWord 55 = .ok (.iload_n 2, 1) := by decide +kernel
theorem dX10_isWord_56 : decode cX10_isWord 56 = .ok (.invokevirtual 139, 3) := by decide +kernel
theorem dX10_isWord_59 : decode cX10_isWord 59 = .ok (.if_icmp .eq 5, 3) := by decide +kernel
theorem dX10_isWord_62 : decode cX10_isWord 62 = .ok (.iconst 0, 1) := by decide +kernel
theorem dX10_isWord_63 : decode cX10_isWord 63 = .ok (.ireturn, 1) := by decide +kernel
theorem dX10_isWord_64 : decode cX10_isWord 64 = .ok (.iinc 2 1, 3) := by decide +kernel
theorem dX10_isWord_67 : decode cX10_isWord 67 = .ok (.goto (-32), 3) := by decide +kernel
theorem dX10_isWord_70 : decode cX10_isWord 70 = .ok (.iconst 1, 1) := by decide +kernel
theorem dX10_isWord_71 : decode cX10_isWord 71 = .ok (.ireturn, 1) := by decide +kernel
theorem dX10_read_0 : decode cX10_read 0 = .ok (.aload_n 0, 1) := by decide +kernel
theorem dX10_read_1 : decode cX10_read 1 = .ok (.getfield 120, 3) := by decide +kernel
theorem dX10_read_4 : decode cX10_read 4 = .ok (.iconst 3, 1) := by decide +kernel
theorem dX10_read_5 : decode cX10_read 5 = .ok (.if_icmp .eq 11, 3) := by decide +kernel
theorem dX10_read_8 : decode cX10_read 8 = .ok (.aload_n 0, 1) := by decide +kernel
theorem dX10_read_9 : decode cX10_read 9 = .ok (.iconst 1, 1) := by decide +kernel
theorem dX10_read_10 : decode cX10_read 10 = .ok (.invokevirtual 143, 3) := by decide +kernel
theorem dX10_read_13 : decode cX10_read 13 = .ok (.goto 23, 3) := by decide +kernel
theorem dX10_read_16 : decode cX10_read 16 = .ok (.aload_n 0, 1) := by decide +kernel
theorem dX10_read_17 : decode cX10_read 17 = .ok (.getfield 130, 3) := by decide +kernel
theorem dX10_read_20 : decode cX10_read 20 = .ok (.i2l, 1) := by decide +kernel
theorem dX10_read_21 : decode cX10_read 21 = .ok (.iload_n 1, 1) := by decide +kernel
theorem dX10_read_22 : decode cX10_read 22 = .ok (.i2l, 1) := by decide +kernel
theorem dX10_read_23 : decode cX10_read 23 = .ok (.iload_n 2, 1) := by decide +kernel
theorem dX10_read_24 : decode cX10_read 24 = .ok (.i2l, 1) := by decide +kernel
theorem dX10_read_25 : decode cX10_read 25 = .ok (.invokestatic 88, 3) := by decide +kernel
theorem dX10_read_28 : decode cX10_read 28 = .ok (.ifCond .ne 8, 3) := by decide +kernel
theorem dX10_read_31 : decode cX10_read 31 = .ok (.aload_n 0, 1) := by decide +kernel
theorem dX10_read_32 : decode cX10_read 32 = .ok (.iconst 2, 1) := by decide +kernel
theorem dX10_read_33 : decode cX10_read 33 = .ok (.invokevirtual 143, 3) := by decide +kernel
theorem dX10_read_36 : decode cX10_read 36 = .ok (.aload_n 0, 1) := by decide +kernel
theorem dX10_read_37 : decode cX10_read 37 = .ok (.getfield 130, 3) := by decide +kernel
theorem dX10_read_40 : decode cX10_read 40 = .ok (.istore_n 3, 1) := by decide +kernel
theorem dX10_read_41 : decode cX10_read 41 = .ok (.aload_n 0, 1) := by decide +kernel
theorem dX10_read_42 : decode cX10_read 42 = .ok (.invokevirtual 146, 3) := by decide +kernel
theorem dX10_read_45 : decode cX10_read 45 = .ok (.iload_n 3, 1) := by decide +kernel
theorem dX10_read_46 : decode cX10_read 46 = .ok (.ireturn, 1) := by decide +kernel
theorem dX10_expectSemicolon_0 : decode cX10_expectSemicolon 0 = .ok (.aload_n 0, 1) := by decide +kernel
theorem dX10_expectSemicolon_1 : decode cX10_expectSemicolon 1 = .ok (.getfield 120, 3) := by decide +kernel
theorem dX10_expectSemicolon_4 : decode cX10_expectSemicolon 4 = .ok (.iconst 4, 1) := by decide +kernel
theorem dX10_expectSemicolon_5 : decode cX10_expectSemicolon 5 = .ok (.if_icmp .eq 8, 3) := by decide +kernel
theorem dX10_expectSemicolon_8 : decode cX10_expectSemicolon 8 = .ok (.aload_n 0, 1) := by decide +kernel
theorem dX10_expectSemicolon_9 : decode cX10_expectSemicolon 9 = .ok (.iconst 1, 1) := by decide +kernel
theorem dX10_expectSemicolon_10 : decode cX10_expectSemicolon 10 = .ok (.invokevirtual 143, 3) := by decide +kernel
theorem dX10_expectSemicolon_13 : decode cX10_expectSemicolon 13 = .ok (.aload_n 0, 1) := by decide +kernel
theorem dX10_expectSemicolon_14 : decode cX10_expectSemicolon 14 = .ok (.invokevirtual 146, 3) := by decide +kernel
theorem dX10_expectSemicolon_17 : decode cX10_expectSemicolon 17 = .ok (.return_, 1) := by decide +kernel
theorem dX10_policyHere_0 : decode cX10_policyHere 0 = .ok (.aload_n 0, 1) := by decide +kernel
theorem dX10_policyHere_1 : decode cX10_policyHere 1 = .ok (.ldc 149, 2) := by decide +kernel
theorem dX10_policyHere_3 : decode cX10_policyHere 3 = .ok (.invokevirtual 151, 3) := by decide +kernel
theorem dX10_policyHere_6 : decode cX10_policyHere 6 = .ok (.ifCond .eq 7, 3) := by decide +kernel
theorem dX10_policyHere_9 : decode cX10_policyHere 9 = .ok (.iconst 0, 1) := by decide +kernel
theorem dX10_policyHere_10 : decode cX10_policyHere 10 = .ok (.goto 43, 3) := by decide +kernel
theorem dX10_policyHere_13 : decode cX10_policyHere 13 = .ok (.aload_n 0, 1) := by decide +kernel
theorem dX10_policyHere_14 : decode cX10_policyHere 14 = .ok (.ldc 155, 2) := by decide +kernel
theorem dX10_policyHere_16 : decode cX10_policyHere 16 = .ok (.invokevirtual 151, 3) := by decide +kernel
theorem dX10_policyHere_19 : decode cX10_policyHere 19 = .ok (.ifCond .eq 7, 3) := by decide +kernel
theorem dX10_policyHere_22 : decode cX10_policyHere 22 = .ok (.iconst 1, 1) := by decide +kernel
theorem dX10_policyHere_23 : decode cX10_policyHere 23 = .ok (.goto 30, 3) := by decide +kernel
theorem dX10_policyHere_26 : decode cX10_policyHere 26 = .ok (.aload_n 0, 1) := by decide +kernel
theorem dX10_policyHere_27 : decode cX10_policyHere 27 = .ok (.ldc 157, 2) := by decide +kernel
theorem dX10_policyHere_29 : decode cX10_policyHere 29 = .ok (.invokevirtual 151, 3) := by decide +kernel
theorem dX10_policyHere_32 : decode cX10_policyHere 32 = .ok (.ifCond .eq 7, 3) := by decide +kernel
theorem dX10_policyHere_35 : decode cX10_policyHere 35 = .ok (.iconst 2, 1) := by decide +kernel
theorem dX10_policyHere_36 : decode cX10_policyHere 36 = .ok (.goto 17, 3) := by decide +kernel
theorem dX10_policyHere_39 : decode cX10_policyHere 39 = .ok (.aload_n 0, 1) := by decide +kernel
theorem dX10_policyHere_40 : decode cX10_policyHere 40 = .ok (.ldc 159, 2) := by decide +kernel
theorem dX10_policyHere_42 : decode cX10_policyHere 42 = .ok (.invokevirtual 151, 3) := by decide +kernel
theorem dX10_policyHere_45 : decode cX10_policyHere 45 = .ok (.ifCond .eq 7, 3) := by decide +kernel
theorem dX10_policyHere_48 : decode cX10_policyHere 48 = .ok (.iconst 3, 1) := by decide +kernel
theorem dX10_policyHere_49 : decode cX10_policyHere 49 = .ok (.goto 4, 3) := by decide +kernel
theorem dX10_policyHere_52 : decode cX10_policyHere 52 = .ok (.iconst (-1), 1) := by decide +kernel
theorem dX10_policyHere_53 : decode cX10_policyHere 53 = .ok (.ireturn, 1) := by decide +kernel
theorem dX10_readDomain_0 : decode cX10_readDomain 0 = .ok (.aload_n 0, 1) := by decide +kernel
theorem dX10_readDomain_1 : decode cX10_readDomain 1 = .ok (.getfield 161, 3) := by decide +kernel
theorem dX10_readDomain_4 : decode cX10_readDomain 4 = .ok (.iconst 4, 1) := by decide +kernel
theorem dX10_readDomain_5 : decode cX10_readDomain 5 = .ok (.if_icmp .ne 8, 3) := by decide +kernel
theorem dX10_readDomain_8 : decode cX10_readDomain 8 = .ok (.aload_n 0, 1) := by decide +kernel
theorem dX10_readDomain_9 : decode cX10_readDomain 9 = .ok (.iconst 3, 1) := by decide +kernel
theorem dX10_readDomain_10 : decode cX10_readDomain 10 = .ok (.invokevirtual 143, 3) := by decide +kernel
theorem dX10_readDomain_13 : decode cX10_readDomain 13 = .ok (.aload_n 0, 1) := by decide +kernel
theorem dX10_readDomain_14 : decode cX10_readDomain 14 = .ok (.invokevirtual 146, 3) := by decide +kernel
theorem dX10_readDomain_17 : decode cX10_readDomain 17 = .ok (.aload_n 0, 1) := by decide +kernel
theorem dX10_readDomain_18 : decode cX10_readDomain 18 = .ok (.invokevirtual 110, 3) := by decide +kernel
theorem dX10_readDomain_21 : decode cX10_readDomain 21 = .ok (.ifCond .ne 4, 3) := by decide +kernel
theorem dX10_readDomain_24 : decode cX10_readDomain 24 = .ok (.return_, 1) := by decide +kernel
theorem dX10_readDomain_25 : decode cX10_readDomain 25 = .ok (.bipush 9, 2) := by decide +kernel
theorem dX10_readDomain_27 : decode cX10_readDomain 27 = .ok (.aload_n 0, 1) := by decide +kernel
theorem dX10_readDomain_28 : decode cX10_readDomain 28 = .ok (.getfield 161, 3) := by decide +kernel
theorem dX10_readDomain_31 : decode cX10_readDomain 31 = .ok (.imul, 1) := by decide +kernel
theorem dX10_readDomain_32 : decode cX10_readDomain 32 = .ok (.istore_n 1, 1) := by decide +kernel
theorem dX10_readDomain_33 : decode cX10_readDomain 33 = .ok (.aload_n 0, 1) := by decide +kernel
theorem dX10_readDomain_34 : decode cX10_readDomain 34 = .ok (.getfield 50, 3) := by decide +kernel
theorem dX10_readDomain_37 : decode cX10_readDomain 37 = .ok (.iload_n 1, 1) := by decide +kernel
theorem dX10_readDomain_38 : decode cX10_readDomain 38 = .ok (.aload_n 0, 1) := by decide +kernel
theorem dX10_readDomain_39 : decode cX10_readDomain 39 = .ok (.iconst 1, 1) := by decide +kernel
theorem dX10_readDomain_40 : decode cX10_readDomain 40 = .ok (.iconst 4, 1) := by decide +kernel
theorem dX10_readDomain_41 : decode cX10_readDomain 41 = .ok (.invokevirtual 164, 3) := by decide +kernel
theorem dX10_readDomain_44 : decode cX10_readDomain 44 = .ok (.iastore, 1) := by decide +kernel
theorem dX10_readDomain_45 : decode cX10_readDomain 45 = .ok (.aload_n 0, 1) := by decide +kernel
theorem dX10_readDomain_46 : decode cX10_readDomain 46 = .ok (.getfield 50, 3) := by decide +kernel
theorem dX10_readDomain_49 : decode cX10_readDomain 49 = .ok (.iload_n 1, 1) := by decide +kernel
theorem dX10_readDomain_50 : decode cX10_readDomain 50 = .ok (.iconst 1, 1) := by decide +kernel
theorem dX10_readDomain_51 : decode cX10_readDomain 51 = .ok (.iadd, 1) := by decide +kernel
theorem dX10_readDomain_52 : decode cX10_readDomain 52 = .ok (.aload_n 0, 1) := by decide +kernel
theorem dX10_readDomain_53 : decode cX10_readDomain 53 = .ok (.iconst 0, 1) := by decide +kernel
theorem dX10_readDomain_54 : decode cX10_readDomain 54 = .ok (.ldc 168, 2) := by decide +kernel
theorem dX10_readDomain_56 : decode cX10_readDomain 56 = .ok (.invokevirtual 164, 3) := by decide +kernel
theorem dX10_readDomain_59 : decode cX10_readDomain 59 = .ok (.iastore, 1) := by decide +kernel
theorem dX10_readDomain_60 : decode cX10_readDomain 60 = .ok (.aload_n 0, 1) := by decide +kernel
theorem dX10_readDomain_61 : decode cX10_readDomain 61 = .ok (.getfield 50, 3) := by decide +kernel
theorem dX10_readDomain_64 : decode cX10_readDomain 64 = .ok (.iload_n 1, 1) := by decide +kernel
theorem dX10_readDomain_65 : decode cX10_readDomain 65 = .ok (.iconst 2, 1) := by decide +kernel
theorem dX10_readDomain_66 : decode cX10_readDomain 66 = .ok (.iadd, 1) := by decide +kernel
theorem dX10_readDomain_67 : decode cX10_readDomain 67 = .ok (.aload_n 0, 1) := by decide +kernel
theorem dX10_readDomain_68 : decode cX10_readDomain 68 = .ok (.iconst 0, 1) := by decide +kernel
theorem dX10_readDomain_69 : decode cX10_readDomain 69 = .ok (.sipush 999, 3) := by decide +kernel
theorem dX10_readDomain_72 : decode cX10_readDomain 72 = .ok (.invokevirtual 164, 3) := by decide +kernel
theorem dX10_readDomain_75 : decode cX10_readDomain 75 = .ok (.iastore, 1) := by decide +kernel
theorem dX10_readDomain_76 : decode cX10_readDomain 76 = .ok (.aload_n 0, 1) := by decide +kernel
theorem dX10_readDomain_77 : decode cX10_readDomain 77 = .ok (.getfield 50, 3) := by decide +kernel
theorem dX10_readDomain_80 : decode cX10_readDomain 80 = .ok (.iload_n 1, 1) := by decide +kernel
theorem dX10_readDomain_81 : decode cX10_readDomain 81 = .ok (.iconst 3, 1) := by decide +kernel
theorem dX10_readDomain_82 : decode cX10_readDomain 82 = .ok (.iadd, 1) := by decide +kernel
theorem dX10_readDomain_83 : decode cX10_readDomain 83 = .ok (.aload_n 0, 1) := by decide +kernel
theorem dX10_readDomain_84 : decode cX10_readDomain 84 = .ok (.iconst 1, 1) := by decide +kernel
theorem dX10_readDomain_85 : decode cX10_readDomain 85 = .ok (.sipush 999, 3) := by decide +kernel
theorem dX10_readDomain_88 : decode cX10_readDomain 88 = .ok (.invokevirtual 164, 3) := by decide +kernel
theorem dX10_readDomain_91 : decode cX10_readDomain 91 = .ok (.iastore, 1) := by decide +kernel
theorem dX10_readDomain_92 : decode cX10_readDomain 92 = .ok (.aload_n 0, 1) := by decide +kernel
theorem dX10_readDomain_93 : decode cX10_readDomain 93 = .ok (.getfield 50, 3) := by decide +kernel
theorem dX10_readDomain_96 : decode cX10_readDomain 96 = .ok (.iload_n 1, 1) := by decide +kernel
theorem dX10_readDomain_97 : decode cX10_readDomain 97 = .ok (.iconst 4, 1) := by decide +kernel
theorem dX10_readDomain_98 : decode cX10_readDomain 98 = .ok (.iadd, 1) := by decide +kernel
theorem dX10_readDomain_99 : decode cX10_readDomain 99 = .ok (.aload_n 0, 1) := by decide +kernel
theorem dX10_readDomain_100 : decode cX10_readDomain 100 = .ok (.iconst 0, 1) := by decide +kernel
theorem dX10_readDomain_101 : decode cX10_readDomain 101 = .ok (.bipush 99, 2) := by decide +kernel
theorem dX10_readDomain_103 : decode cX10_readDomain 103 = .ok (.invokevirtual 164, 3) := by decide +kernel
theorem dX10_readDomain_106 : decode cX10_readDomain 106 = .ok (.iastore, 1) := by decide +kernel
theorem dX10_readDomain_107 : decode cX10_readDomain 107 = .ok (.aload_n 0, 1) := by decide +kernel
theorem dX10_readDomain_108 : decode cX10_readDomain 108 = .ok (.getfield 50, 3) := by decide +kernel
theorem dX10_readDomain_111 : decode cX10_readDomain 111 = .ok (.iload_n 1, 1) := by decide +kernel
theorem dX10_readDomain_112 : decode cX10_readDomain 112 = .ok (.iconst 5, 1) := by decide +kernel
theorem dX10_readDomain_113 : decode cX10_readDomain 113 = .ok (.iadd, 1) := by decide +kernel
theorem dX10_readDomain_114 : decode cX10_readDomain 114 = .ok (.aload_n 0, 1) := by decide +kernel
theorem dX10_readDomain_115 : decode cX10_readDomain 115 = .ok (.iconst 0, 1) := by decide +kernel
theorem dX10_readDomain_116 : decode cX10_readDomain 116 = .ok (.iconst 4, 1) := by decide +kernel
theorem dX10_readDomain_117 : decode cX10_readDomain 117 = .ok (.invokevirtual 164, 3) := by decide +kernel
theorem dX10_readDomain_120 : decode cX10_readDomain 120 = .ok (.iastore, 1) := by decide +kernel
theorem dX10_readDomain_121 : decode cX10_readDomain 121 = .ok (.aload_n 0, 1) := by decide +kernel
theorem dX10_readDomain_122 : decode cX10_readDomain 122 = .ok (.getfield 50, 3) := by decide +kernel
theorem dX10_readDomain_125 : decode cX10_readDomain 125 = .ok (.iload_n 1, 1) := by decide +kernel
theorem dX10_readDomain_126 : decode cX10_readDomain 126 = .ok (.bipush 6, 2) := by decide +kernel
theorem dX10_readDomain_128 : decode cX10_readDomain 128 = .ok (.iadd, 1) := by decide +kernel
theorem dX10_readDomain_129 : decode cX10_readDomain 129 = .ok (.aload_n 0, 1) := by decide +kernel
theorem dX10_readDomain_130 : decode cX10_readDomain 130 = .ok (.iconst 0, 1) := by decide +kernel
theorem dX10_readDomain_131 : decode cX10_readDomain 131 = .ok (.bipush 99, 2) := by decide +kernel
theorem dX10_readDomain_133 : decode cX10_readDomain 133 = .ok (.invokevirtual 164, 3) := by decide +kernel
theorem dX10_readDomain_136 : decode cX10_readDomain 136 = .ok (.iastore, 1) := by decide +kernel
theorem dX10_readDomain_137 : decode cX10_readDomain 137 = .ok (.aload_n 0, 1) := by decide +kernel
theorem dX10_readDomain_138 : decode cX10_readDomain 138 = .ok (.getfield 50, 3) := by decide +kernel
theorem dX10_readDomain_141 : decode cX10_readDomain 141 = .ok (.iload_n 1, 1) := by decide +kernel
theorem dX10_readDomain_142 : decode cX10_readDomain 142 = .ok (.bipush 7, 2) := by decide +kernel
theorem dX10_readDomain_144 : decode cX10_readDomain 144 = .ok (.iadd, 1) := by decide +kernel
theorem dX10_readDomain_145 : decode cX10_readDomain 145 = .ok (.aload_n 0, 1) := by decide +kernel
theorem dX10_readDomain_146 : decode cX10_readDomain 146 = .ok (.invokevirtual 169, 3) := by decide +kernel
theorem dX10_readDomain_149 : decode cX10_readDomain 149 = .ok (.iastore, 1) := by decide +kernel
theorem dX10_readDomain_150 : decode cX10_readDomain 150 = .ok (.aload_n 0, 1) := by decide +kernel
theorem dX10_readDomain_151 : decode cX10_readDomain 151 = .ok (.getfield 50, 3) := by decide +kernel
theorem dX10_readDomain_154 : decode cX10_readDomain 154 = .ok (.iload_n 1, 1) := by decide +kernel
theorem dX10_readDomain_155 : decode cX10_readDomain 155 = .ok (.bipush 7, 2) := by decide +kernel
theorem dX10_readDomain_157 : decode cX10_readDomain 157 = .ok (.iadd, 1) := by decide +kernel
theorem dX10_readDomain_158 : decode cX10_readDomain 158 = .ok (.iaload, 1) := by decide +kernel
theorem dX10_readDomain_159 : decode cX10_readDomain 159 = .ok (.ifCond .ge 8, 3) := by decide +kernel
theorem dX10_readDomain_162 : decode cX10_readDomain 162 = .ok (.aload_n 0, 1) := by decide +kernel
theorem dX10_readDomain_163 : decode cX10_readDomain 163 = .ok (.iconst 1, 1) := by decide +kernel
theorem dX10_readDomain_164 : decode cX10_readDomain 164 = .ok (.invokevirtual 143, 3) := by decide +kernel
theorem dX10_readDomain_167 : decode cX10_readDomain 167 = .ok (.aload_n 0, 1) := by decide +kernel
theorem dX10_readDomain_168 : decode cX10_readDomain 168 = .ok (.invokevirtual 146, 3) := by decide +kernel
theorem dX10_readDomain_171 : decode cX10_readDomain 171 = .ok (.aload_n 0, 1) := by decide +kernel
theorem dX10_readDomain_172 : decode cX10_readDomain 172 = .ok (.invokevirtual 172, 3) := by decide +kernel
theorem dX10_readDomain_175 : decode cX10_readDomain 175 = .ok (.aload_n 0, 1) := by decide +kernel
theorem dX10_readDomain_176 : decode cX10_readDomain 176 = .ok (.iload_n 1, 1) := by decide +kernel
theorem dX10_readDomain_177 : decode cX10_readDomain 177 = .ok (.invokevirtual 175, 3) := by decide +kernel
theorem dX10_readDomain_180 : decode cX10_readDomain 180 = .ok (.aload_n 0, 1) := by decide +kernel
theorem dX10_readDomain_181 : decode cX10_readDomain 181 = .ok (.dup, 1) := by decide +kernel
theorem dX10_readDomain_182 : decode cX10_readDomain 182 = .ok (.getfield 161, 3) := by decide +kernel
theorem dX10_readDomain_185 : decode cX10_readDomain 185 = .ok (.iconst 1, 1) := by decide +kernel
theorem dX10_readDomain_186 : decode cX10_readDomain 186 = .ok (.iadd, 1) := by decide +kernel
theorem dX10_readDomain_187 : decode cX10_readDomain 187 = .ok (.putfield 161, 3) := by decide +kernel
theorem dX10_readDomain_190 : decode cX10_readDomain 190 = .ok (.return_, 1) := by decide +kernel
theorem dX10_readLevels_0 : decode cX10_readLevels 0 = .ok (.iconst 0, 1) := by decide +kernel
theorem dX10_readLevels_1 : decode cX10_readLevels 1 = .ok (.istore_n 2, 1) := by decide +kernel
theorem dX10_readLevels_2 : decode cX10_readLevels 2 = .ok (.iconst 0, 1) := by decide +kernel
theorem dX10_readLevels_3 : decode cX10_readLevels 3 = .ok (.istore_n 3, 1) := by decide +kernel
theorem dX10_readLevels_4 : decode cX10_readLevels 4 = .ok (.aload_n 0, 1) := by decide +kernel
theorem dX10_readLevels_5 : decode cX10_readLevels 5 = .ok (.ldc 178, 2) := by decide +kernel
theorem dX10_readLevels_7 : decode cX10_readLevels 7 = .ok (.invokevirtual 151, 3) := by decide +kernel
theorem dX10_readLevels_10 : decode cX10_readLevels 10 = .ok (.ifCond .ne 14, 3) := by decide +kernel
theorem dX10_readLevels_13 : decode cX10_readLevels 13 = .ok (.aload_n 0, 1) := by decide +kernel
theorem dX10_readLevels_14 : decode cX10_readLevels 14 = .ok (.invokevirtual 110, 3) := by decide +kernel
theorem dX10_readLevels_17 : decode cX10_readLevels 17 = .ok (.ifCond .eq 108, 3) := by decide +kernel
theorem dX10_readLevels_20 : decode cX10_readLevels 20 = .ok (.iload_n 2, 1) := by decide +kernel
theorem dX10_readLevels_21 : decode cX10_readLevels 21 = .ok (.ifCond .ne 104, 3) := by decide +kernel
theorem dX10_readLevels_24 : decode cX10_readLevels 24 = .ok (.aload_n 0, 1) := by decide +kernel
theorem dX10_readLevels_25 : decode cX10_readLevels 25 = .ok (.ldc 178, 2) := by decide +kernel
theorem dX10_readLevels_27 : decode cX10_readLevels 27 = .ok (.invokevirtual 151, 3) := by decide +kernel
theorem dX10_readLevels_30 : decode cX10_readLevels 30 = .ok (.ifCond .ne 11, 3) := by decide +kernel
theorem dX10_readLevels_33 : decode cX10_readLevels 33 = .ok (.aload_n 0, 1) := by decide +kernel
theorem dX10_readLevels_34 : decode cX10_readLevels 34 = .ok (.iconst 1, 1) := by decide +kernel
theorem dX10_readLevels_35 : decode cX10_readLevels 35 = .ok (.invokevirtual 143, 3) := by decide +kernel
theorem dX10_readLevels_38 : decode cX10_readLevels 38 = .ok (.goto 13, 3) := by decide +kernel
theorem dX10_readLevels_41 : decode cX10_readLevels 41 = .ok (.iload_n 2, 1) := by decide +kernel
theorem dX10_readLevels_42 : decode cX10_readLevels 42 = .ok (.iconst 5, 1) := by decide +kernel
theorem dX10_readLevels_43 : decode cX10_readLevels 43 = .ok (.if_icmp .ne 8, 3) := by decide +kernel
theorem dX10_readLevels_46 : decode cX10_readLevels 46 = .ok (.aload_n 0, 1) := by decide +kernel
theorem dX10_readLevels_47 : decode cX10_readLevels 47 = .ok (.iconst 3, 1) := by decide +kernel
theorem dX10_readLevels_48 : decode cX10_readLevels 48 = .ok (.invokevirtual 143, 3) := by decide +kernel
theorem dX10_readLevels_51 : decode cX10_readLevels 51 = .ok (.aload_n 0, 1) := by decide +kernel
theorem dX10_readLevels_52 : decode cX10_readLevels 52 = .ok (.invokevirtual 110, 3) := by decide +kernel
theorem dX10_readLevels_55 : decode cX10_readLevels 55 = .ok (.ifCond .ne 4, 3) := by decide +kernel
theorem dX10_readLevels_58 : decode cX10_readLevels 58 = .ok (.return_, 1) := by decide +kernel
theorem dX10_readLevels_59 : decode cX10_readLevels 59 = .ok (.aload_n 0, 1) := by decide +kernel
theorem dX10_readLevels_60 : decode cX10_readLevels 60 = .ok (.invokevirtual 146, 3) := by decide +kernel
theorem dX10_readLevels_63 : decode cX10_readLevels 63 = .ok (.aload_n 0, 1) := by decide +kernel
theorem dX10_readLevels_64 : decode cX10_readLevels 64 = .ok (.iload_n 3, 1) := by decide +kernel
theorem dX10_readLevels_65 : decode cX10_readLevels 65 = .ok (.iconst 1, 1) := by decide +kernel
theorem dX10_readLevels_66 : decode cX10_readLevels 66 = .ok (.iadd, 1) := by decide +kernel
theorem dX10_readLevels_67 : decode cX10_readLevels 67 = .ok (.sipush 999, 3) := by decide +kernel
theorem dX10_readLevels_70 : decode cX10_readLevels 70 = .ok (.invokevirtual 164, 3) := by decide +kernel
theorem dX10_readLevels_73 : decode cX10_readLevels 73 = .ok (.istore_n 3, 1) := by decide +kernel
theorem dX10_readLevels_74 : decode cX10_readLevels 74 = .ok (.aload_n 0, 1) := by decide +kernel
theorem dX10_readLevels_75 : decode cX10_readLevels 75 = .ok (.getfield 53, 3) := by decide +kernel
theorem dX10_readLevels_78 : decode cX10_readLevels 78 = .ok (.iconst 2, 1) := by decide +kernel
theorem dX10_readLevels_79 : decode cX10_readLevels 79 = .ok (.iconst 5, 1) := by decide +kernel
theorem dX10_readLevels_80 : decode cX10_readLevels 80 = .ok (.aload_n 0, 1) := by decide +kernel
theorem dX10_readLevels_81 : decode cX10_readLevels 81 = .ok (.getfield 161, 3) := by decide +kernel
theorem dX10_readLevels_84 : decode cX10_readLevels 84 = .ok (.imul, 1) := by decide +kernel
theorem dX10_readLevels_85 : decode cX10_readLevels 85 = .ok (.iload_n 2, 1) := by decide +kernel
theorem dX10_readLevels_86 : decode cX10_readLevels 86 = .ok (.iadd, 1) := by decide +kernel
theorem dX10_readLevels_87 : decode cX10_readLevels 87 = .ok (.imul, 1) := by decide +kernel
theorem dX10_readLevels_88 : decode cX10_readLevels 88 = .ok (.iload_n 3, 1) := by decide +kernel
theorem dX10_readLevels_89 : decode cX10_readLevels 89 = .ok (.iastore, 1) := by decide +kernel
theorem dX10_readLevels_90 : decode cX10_readLevels 90 = .ok (.aload_n 0, 1) := by decide +kernel
theorem dX10_readLevels_91 : decode cX10_readLevels 91 = .ok (.getfield 53, 3) := by decide +kernel
theorem dX10_readLevels_94 : decode cX10_readLevels 94 = .ok (.iconst 2, 1) := by decide +kernel
theorem dX10_readLevels_95 : decode cX10_readLevels 95 = .ok (.iconst 5, 1) := by decide +kernel
theorem dX10_readLevels_96 : decode cX10_readLevels 96 = .ok (.aload_n 0, 1) := by decide +kernel
theorem dX10_readLevels_97 : decode cX10_readLevels 97 = .ok (.getfield 161, 3) := by decide +kernel
theorem dX10_readLevels_100 : decode cX10_readLevels 100 = .ok (.imul, 1) := by decide +kernel
theorem dX10_readLevels_101 : decode cX10_readLevels 101 = .ok (.iload_n 2, 1) := by decide +kernel
theorem dX10_readLevels_102 : decode cX10_readLevels 102 = .ok (.iadd, 1) := by decide +kernel
theorem dX10_readLevels_103 : decode cX10_readLevels 103 = .ok (.imul, 1) := by decide +kernel
theorem dX10_readLevels_104 : decode cX10_readLevels 104 = .ok (.iconst 1, 1) := by decide +kernel
theorem dX10_readLevels_105 : decode cX10_readLevels 105 = .ok (.iadd, 1) := by decide +kernel
theorem dX10_readLevels_106 : decode cX10_readLevels 106 = .ok (.aload_n 0, 1) := by decide +kernel
theorem dX10_readLevels_107 : decode cX10_readLevels 107 = .ok (.iconst 0, 1) := by decide +kernel
theorem dX10_readLevels_108 : decode cX10_readLevels 108 = .ok (.sipush 999, 3) := by decide +kernel
theorem dX10_readLevels_111 : decode cX10_readLevels 111 = .ok (.invokevirtual 164, 3) := by decide +kernel
theorem dX10_readLevels_114 : decode cX10_readLevels 114 = .ok (.iastore, 1) := by decide +kernel
theorem dX10_readLevels_115 : decode cX10_readLevels 115 = .ok (.aload_n 0, 1) := by decide +kernel
theorem dX10_readLevels_116 : decode cX10_readLevels 116 = .ok (.invokevirtual 172, 3) := by decide +kernel
theorem dX10_readLevels_119 : decode cX10_readLevels 119 = .ok (.iinc 2 1, 3) := by decide +kernel
theorem dX10_readLevels_122 : decode cX10_readLevels 122 = .ok (.goto (-118), 3) := by decide +kernel
theorem dX10_readLevels_125 : decode cX10_readLevels 125 = .ok (.aload_n 0, 1) := by decide +kernel
theorem dX10_readLevels_126 : decode cX10_readLevels 126 = .ok (.getfield 50, 3) := by decide +kernel
theorem dX10_readLevels_129 : decode cX10_readLevels 129 = .ok (.iload_n 1, 1) := by decide +kernel
theorem dX10_readLevels_130 : decode cX10_readLevels 130 = .ok (.bipush 8, 2) := by decide +kernel
theorem dX10_readLevels_132 : decode cX10_readLevels 132 = .ok (.iadd, 1) := by decide +kernel
theorem dX10_readLevels_133 : decode cX10_readLevels 133 = .ok (.iload_n 2, 1) := by decide +kernel
theorem dX10_readLevels_134 : decode cX10_readLevels 134 = .ok (.iastore, 1) := by decide +kernel
theorem dX10_readLevels_135 : decode cX10_readLevels 135 = .ok (.return_, 1) := by decide +kernel
theorem dX10_load_0 : decode cX10_load 0 = .ok (.aload_n 0, 1) := by decide +kernel
theorem dX10_load_1 : decode cX10_load 1 = .ok (.iconst 0, 1) := by decide +kernel
theorem dX10_load_2 : decode cX10_load 2 = .ok (.putfield 74, 3) := by decide +kernel
theorem dX10_load_5 : decode cX10_load 5 = .ok (.aload_n 0, 1) := by decide +kernel
theorem dX10_load_6 : decode cX10_load 6 = .ok (.aload_n 0, 1) := by decide +kernel
theorem dX10_load_7 : decode cX10_load 7 = .ok (.getfield 81, 3) := by decide +kernel
theorem dX10_load_10 : decode cX10_load 10 = .ok (.putfield 92, 3) := by decide +kernel
theorem dX10_load_13 : decode cX10_load 13 = .ok (.aload_n 0, 1) := by decide +kernel
theorem dX10_load_14 : decode cX10_load 14 = .ok (.iconst 0, 1) := by decide +kernel
theorem dX10_load_15 : decode cX10_load 15 = .ok (.putfield 81, 3) := by decide +kernel
theorem dX10_load_18 : decode cX10_load 18 = .ok (.aload_n 0, 1) := by decide +kernel
theorem dX10_load_19 : decode cX10_load 19 = .ok (.iconst 0, 1) := by decide +kernel
theorem dX10_load_20 : decode cX10_load 20 = .ok (.putfield 114, 3) := by decide +kernel
theorem dX10_load_23 : decode cX10_load 23 = .ok (.aload_n 0, 1) := by decide +kernel
theorem dX10_load_24 : decode cX10_load 24 = .ok (.iconst 0, 1) := by decide +kernel
theorem dX10_load_25 : decode cX10_load 25 = .ok (.putfield 107, 3) := by decide +kernel
theorem dX10_load_28 : decode cX10_load 28 = .ok (.aload_n 0, 1) := by decide +kernel
theorem dX10_load_29 : decode cX10_load 29 = .ok (.iconst (-1), 1) := by decide +kernel
theorem dX10_load_30 : decode cX10_load 30 = .ok (.putfield 46, 3) := by decide +kernel
theorem dX10_load_33 : decode cX10_load 33 = .ok (.aload_n 0, 1) := by decide +kernel
theorem dX10_load_34 : decode cX10_load 34 = .ok (.iconst 0, 1) := by decide +kernel
theorem dX10_load_35 : decode cX10_load 35 = .ok (.putfield 161, 3) := by decide +kernel
theorem dX10_load_38 : decode cX10_load 38 = .ok (.aload_n 0, 1) := by decide +kernel
theorem dX10_load_39 : decode cX10_load 39 = .ok (.invokevirtual 146, 3) := by decide +kernel
theorem dX10_load_42 : decode cX10_load 42 = .ok (.aload_n 0, 1) := by decide +kernel
theorem dX10_load_43 : decode cX10_load 43 = .ok (.ldc 180, 2) := by decide +kernel
theorem dX10_load_45 : decode cX10_load 45 = .ok (.invokevirtual 151, 3) := by decide +kernel
theorem dX10_load_48 : decode cX10_load 48 = .ok (.ifCond .ne 8, 3) := by decide +kernel
theorem dX10_load_51 : decode cX10_load 51 = .ok (.aload_n 0, 1) := by decide +kernel
theorem dX10_load_52 : decode cX10_load 52 = .ok (.iconst 1, 1) := by decide +kernel
theorem dX10_load_53 : decode cX10_load 53 = .ok (.invokevirtual 143, 3) := by decide +kernel
theorem dX10_load_56 : decode cX10_load 56 = .ok (.aload_n 0, 1) := by decide +kernel
theorem dX10_load_57 : decode cX10_load 57 = .ok (.invokevirtual 146, 3) := by decide +kernel
theorem dX10_load_60 : decode cX10_load 60 = .ok (.aload_n 0, 1) := by decide +kernel
theorem dX10_load_61 : decode cX10_load 61 = .ok (.aload_n 0, 1) := by decide +kernel
theorem dX10_load_62 : decode cX10_load 62 = .ok (.iconst 0, 1) := by decide +kernel
theorem dX10_load_63 : decode cX10_load 63 = .ok (.sipush 9999, 3) := by decide +kernel
theorem dX10_load_66 : decode cX10_load 66 = .ok (.invokevirtual 164, 3) := by decide +kernel
theorem dX10_load_69 : decode cX10_load 69 = .ok (.putfield 182, 3) := by decide +kernel
theorem dX10_load_72 : decode cX10_load 72 = .ok (.aload_n 0, 1) := by decide +kernel
theorem dX10_load_73 : decode cX10_load 73 = .ok (.invokevirtual 172, 3) := by decide +kernel
theorem dX10_load_76 : decode cX10_load 76 = .ok (.aload_n 0, 1) := by decide +kernel
theorem dX10_load_77 : decode cX10_load 77 = .ok (.ldc 185, 2) := by decide +kernel
theorem dX10_load_79 : decode cX10_load 79 = .ok (.invokevirtual 151, 3) := by decide +kernel
theorem dX10_load_82 : decode cX10_load 82 = .ok (.ifCond .eq 10, 3) := by decide +kernel
theorem dX10_load_85 : decode cX10_load 85 = .ok (.aload_n 0, 1) := by decide +kernel
theorem dX10_load_86 : decode cX10_load 86 = .ok (.invokevirtual 187, 3) := by decide +kernel
theorem dX10_load_89 : decode cX10_load 89 = .ok (.goto (-13), 3) := by decide +kernel
theorem dX10_load_92 : decode cX10_load 92 = .ok (.aload_n 0, 1) := by decide +kernel
theorem dX10_load_93 : decode cX10_load 93 = .ok (.invokevirtual 110, 3) := by decide +kernel
theorem dX10_load_96 : decode cX10_load 96 = .ok (.ifCond .eq 22, 3) := by decide +kernel
theorem dX10_load_99 : decode cX10_load 99 = .ok (.aload_n 0, 1) := by decide +kernel
theorem dX10_load_100 : decode cX10_load 100 = .ok (.getfield 161, 3) := by decide +kernel
theorem dX10_load_103 : decode cX10_load 103 = .ok (.ifCond .eq 10, 3) := by decide +kernel
theorem dX10_load_106 : decode cX10_load 106 = .ok (.aload_n 0, 1) := by decide +kernel
theorem dX10_load_107 : decode cX10_load 107 = .ok (.getfield 120, 3) := by decide +kernel
theorem dX10_load_110 : decode cX10_load 110 = .ok (.ifCond .eq 8, 3) := by decide +kernel
theorem dX10_load_113 : decode cX10_load 113 = .ok (.aload_n 0, 1) := by decide +kernel
theorem dX10_load_114 : decode cX10_load 114 = .ok (.iconst 1, 1) := by decide +kernel
theorem dX10_load_115 : decode cX10_load 115 = .ok (.invokevirtual 143, 3) := by decide +kernel
theorem dX10_load_118 : decode cX10_load 118 = .ok (.aload_n 0, 1) := by decide +kernel
theorem dX10_load_119 : decode cX10_load 119 = .ok (.invokevirtual 110, 3) := by decide +kernel
theorem dX10_load_122 : decode cX10_load 122 = .ok (.ifCond .ne 11, 3) := by decide +kernel
theorem dX10_load_125 : decode cX10_load 125 = .ok (.bipush (-10), 2) := by decide +kernel
theorem dX10_load_127 : decode cX10_load 127 = .ok (.aload_n 0, 1) := by decide +kernel
theorem dX10_load_128 : decode cX10_load 128 = .ok (.getfield 107, 3) := by decide +kernel
theorem dX10_load_131 : decode cX10_load 131 = .ok (.isub, 1) := by decide +kernel
theorem dX10_load_132 : decode cX10_load 132 = .ok (.ireturn, 1) := by decide +kernel
theorem dX10_load_133 : decode cX10_load 133 = .ok (.aload_n 0, 1) := by decide +kernel
theorem dX10_load_134 : decode cX10_load 134 = .ok (.invokevirtual 190, 3) := by decide +kernel
theorem dX10_load_137 : decode cX10_load 137 = .ok (.aload_n 0, 1) := by decide +kernel
theorem dX10_load_138 : decode cX10_load 138 = .ok (.getfield 193, 3) := by decide +kernel
theorem dX10_load_141 : decode cX10_load 141 = .ok (.ireturn, 1) := by decide +kernel
theorem dX10_takeOver_0 : decode cX10_takeOver 0 = .ok (.aload_n 0, 1) := by decide +kernel
theorem dX10_takeOver_1 : decode cX10_takeOver 1 = .ok (.iconst 1, 1) := by decide +kernel
theorem dX10_takeOver_2 : decode cX10_takeOver 2 = .ok (.putfield 77, 3) := by decide +kernel
theorem dX10_takeOver_5 : decode cX10_takeOver 5 = .ok (.aload_n 0, 1) := by decide +kernel
theorem dX10_takeOver_6 : decode cX10_takeOver 6 = .ok (.iconst 0, 1) := by decide +kernel
theorem dX10_takeOver_7 : decode cX10_takeOver 7 = .ok (.putfield 196, 3) := by decide +kernel
theorem dX10_takeOver_10 : decode cX10_takeOver 10 = .ok (.aload_n 0, 1) := by decide +kernel
theorem dX10_takeOver_11 : decode cX10_takeOver 11 = .ok (.aload_n 0, 1) := by decide +kernel
theorem dX10_takeOver_12 : decode cX10_takeOver 12 = .ok (.getfield 161, 3) := by decide +kernel
theorem dX10_takeOver_15 : decode cX10_takeOver 15 = .ok (.putfield 193, 3) := by decide +kernel
theorem dX10_takeOver_18 : decode cX10_takeOver 18 = .ok (.iconst 0, 1) := by decide +kernel
theorem dX10_takeOver_19 : decode cX10_takeOver 19 = .ok (.istore_n 1, 1) := by decide +kernel
theorem dX10_takeOver_20 : decode cX10_takeOver 20 = .ok (.iload_n 1, 1) := by decide +kernel
theorem dX10_takeOver_21 : decode cX10_takeOver 21 = .ok (.sipush 287, 3) := by decide +kernel
theorem dX10_takeOver_24 : decode cX10_takeOver 24 = .ok (.if_icmp .ge 16, 3) := by decide +kernel
theorem dX10_takeOver_27 : decode cX10_takeOver 27 = .ok (.aload_n 0, 1) := by decide +kernel
theorem dX10_takeOver_28 : decode cX10_takeOver 28 = .ok (.getfield 7, 3) := by decide +kernel
theorem dX10_takeOver_31 : decode cX10_takeOver 31 = .ok (.iload_n 1, 1) := by decide +kernel
theorem dX10_takeOver_32 : decode cX10_takeOver 32 = .ok (.iconst 0, 1) := by decide +kernel
theorem dX10_takeOver_33 : decode cX10_takeOver 33 = .ok (.iastore, 1) := by decide +kernel
theorem dX10_takeOver_34 : decode cX10_takeOver 34 = .ok (.iinc 1 1, 3) := by decide +kernel
theorem dX10_takeOver_37 : decode cX10_takeOver 37 = .ok (.goto (-17), 3) := by decide +kernel
theorem dX10_takeOver_40 : decode cX10_takeOver 40 = .ok (.aload_n 0, 1) := by decide +kernel
theorem dX10_takeOver_41 : decode cX10_takeOver 41 = .ok (.getfield 7, 3) := by decide +kernel
theorem dX10_takeOver_44 : decode cX10_takeOver 44 = .ok (.iconst 1, 1) := by decide +kernel
theorem dX10_takeOver_45 : decode cX10_takeOver 45 = .ok (.aload_n 0, 1) := by decide +kernel
theorem dX10_takeOver_46 : decode cX10_takeOver 46 = .ok (.getfield 182, 3) := by decide +kernel
theorem dX10_takeOver_49 : decode cX10_takeOver 49 = .ok (.iastore, 1) := by decide +kernel
theorem dX10_takeOver_50 : decode cX10_takeOver 50 = .ok (.iconst 0, 1) := by decide +kernel
theorem dX10_takeOver_51 : decode cX10_takeOver 51 = .ok (.istore_n 1, 1) := by decide +kernel
theorem dX10_takeOver_52 : decode cX10_takeOver 52 = .ok (.iload_n 1, 1) := by decide +kernel
theorem dX10_takeOver_53 : decode cX10_takeOver 53 = .ok (.aload_n 0, 1) := by decide +kernel
theorem dX10_takeOver_54 : decode cX10_takeOver 54 = .ok (.getfield 193, 3) := by decide +kernel
theorem dX10_takeOver_57 : decode cX10_takeOver 57 = .ok (.if_icmp .ge 261, 3) := by decide +kernel
theorem dX10_takeOver_60 : decode cX10_takeOver 60 = .ok (.bipush 9, 2) := by decide +kernel
theorem dX10_takeOver_62 : decode cX10_takeOver 62 = .ok (.iload_n 1, 1) := by decide +kernel
theorem dX10_takeOver_63 : decode cX10_takeOver 63 = .ok (.imul, 1) := by decide +kernel
theorem dX10_takeOver_64 : decode cX10_takeOver 64 = .ok (.istore_n 2, 1) := by decide +kernel
theorem dX10_takeOver_65 : decode cX10_takeOver 65 = .ok (.aload_n 0, 1) := by decide +kernel
theorem dX10_takeOver_66 : decode cX10_takeOver 66 = .ok (.getfield 16, 3) := by decide +kernel
theorem dX10_takeOver_69 : decode cX10_takeOver 69 = .ok (.iload_n 1, 1) := by decide +kernel
theorem dX10_takeOver_70 : decode cX10_takeOver 70 = .ok (.aload_n 0, 1) := by decide +kernel
theorem dX10_takeOver_71 : decode cX10_takeOver 71 = .ok (.getfield 50, 3) := by decide +kernel
theorem dX10_takeOver_74 : decode cX10_takeOver 74 = .ok (.iload_n 2, 1) := by decide +kernel
theorem dX10_takeOver_75 : decode cX10_takeOver 75 = .ok (.iaload, 1) := by decide +kernel
theorem dX10_takeOver_76 : decode cX10_takeOver 76 = .ok (.iastore, 1) := by decide +kernel
theorem dX10_takeOver_77 : decode cX10_takeOver 77 = .ok (.aload_n 0, 1) := by decide +kernel
theorem dX10_takeOver_78 : decode cX10_takeOver 78 = .ok (.getfield 19, 3) := by decide +kernel
theorem dX10_takeOver_81 : decode cX10_takeOver 81 = .ok (.iload_n 1, 1) := by decide +kernel
theorem dX10_takeOver_82 : decode cX10_takeOver 82 = .ok (.aload_n 0, 1) := by decide +kernel
theorem dX10_takeOver_83 : decode cX10_takeOver 83 = .ok (.getfield 50, 3) := by decide +kernel
theorem dX10_takeOver_86 : decode cX10_takeOver 86 = .ok (.iload_n 2, 1) := by decide +kernel
theorem dX10_takeOver_87 : decode cX10_takeOver 87 = .ok (.iconst 2, 1) := by decide +kernel
theorem dX10_takeOver_88 : decode cX10_takeOver 88 = .ok (.iadd, 1) := by decide +kernel
theorem dX10_takeOver_89 : decode cX10_takeOver 89 = .ok (.iaload, 1) := by decide +kernel
theorem dX10_takeOver_90 : decode cX10_takeOver 90 = .ok (.iastore, 1) := by decide +kernel
theorem dX10_takeOver_91 : decode cX10_takeOver 91 = .ok (.aload_n 0, 1) := by decide +kernel
theorem dX10_takeOver_92 : decode cX10_takeOver 92 = .ok (.getfield 22, 3) := by decide +kernel
theorem dX10_takeOver_95 : decode cX10_takeOver 95 = .ok (.iload_n 1, 1) := by decide +kernel
theorem dX10_takeOver_96 : decode cX10_takeOver 96 = .ok (.aload_n 0, 1) := by decide +kernel
theorem dX10_takeOver_97 : decode cX10_takeOver 97 = .ok (.getfield 50, 3) := by decide +kernel
theorem dX10_takeOver_100 : decode cX10_takeOver 100 = .ok (.iload_n 2, 1) := by decide +kernel
theorem dX10_takeOver_101 : decode cX10_takeOver 101 = .ok (.iconst 3, 1) := by decide +kernel
theorem dX10_takeOver_102 : decode cX10_takeOver 102 = .ok (.iadd, 1) := by decide +kernel
theorem dX10_takeOver_103 : decode cX10_takeOver 103 = .ok (.iaload, 1) := by decide +kernel
theorem dX10_takeOver_104 : decode cX10_takeOver 104 = .ok (.iastore, 1) := by decide +kernel
theorem dX10_takeOver_105 : decode cX10_takeOver 105 = .ok (.aload_n 0, 1) := by decide +kernel
theorem dX10_takeOver_106 : decode cX10_takeOver 106 = .ok (.getfield 25, 3) := by decide +kernel
theorem dX10_takeOver_109 : decode cX10_takeOver 109 = .ok (.iload_n 1, 1) := by decide +kernel
theorem dX10_takeOver_110 : decode cX10_takeOver 110 = .ok (.aload_n 0, 1) := by decide +kernel
theorem dX10_takeOver_111 : decode cX10_takeOver 111 = .ok (.getfield 50, 3) := by decide +kernel
theorem dX10_takeOver_114 : decode cX10_takeOver 114 = .ok (.iload_n 2, 1) := by decide +kernel
theorem dX10_takeOver_115 : decode cX10_takeOver 115 = .ok (.iconst 4, 1) := by decide +kernel
theorem dX10_takeOver_116 : decode cX10_takeOver 116 = .ok (.iadd, 1) := by decide +kernel
theorem dX10_takeOver_117 : decode cX10_takeOver 117 = .ok (.iaload, 1) := by decide +kernel
theorem dX10_takeOver_118 : decode cX10_takeOver 118 = .ok (.iastore, 1) := by decide +kernel
theorem dX10_takeOver_119 : decode cX10_takeOver 119 = .ok (.aload_n 0, 1) := by decide +kernel
theorem dX10_takeOver_120 : decode cX10_takeOver 120 = .ok (.getfield 34, 3) := by decide +kernel
theorem dX10_takeOver_123 : decode cX10_takeOver 123 = .ok (.iload_n 1, 1) := by decide +kernel
theorem dX10_takeOver_124 : decode cX10_takeOver 124 = .ok (.aload_n 0, 1) := by decide +kernel
theorem dX10_takeOver_125 : decode cX10_takeOver 125 = .ok (.getfield 50, 3) := by decide +kernel
theorem dX10_takeOver_128 : decode cX10_takeOver 128 = .ok (.iload_n 2, 1) := by decide +kernel
theorem dX10_takeOver_129 : decode cX10_takeOver 129 = .ok (.bipush 8, 2) := by decide +kernel
theorem dX10_takeOver_131 : decode cX10_takeOver 131 = .ok (.iadd, 1) := by decide +kernel
theorem dX10_takeOver_132 : decode cX10_takeOver 132 = .ok (.iaload, 1) := by decide +kernel
theorem dX10_takeOver_133 : decode cX10_takeOver 133 = .ok (.iastore, 1) := by decide +kernel
theorem dX10_takeOver_134 : decode cX10_takeOver 134 = .ok (.aload_n 0, 1) := by decide +kernel
theorem dX10_takeOver_135 : decode cX10_takeOver 135 = .ok (.getfield 28, 3) := by decide +kernel
theorem dX10_takeOver_138 : decode cX10_takeOver 138 = .ok (.iload_n 1, 1) := by decide +kernel
theorem dX10_takeOver_139 : decode cX10_takeOver 139 = .ok (.aload_n 0, 1) := by decide +kernel
theorem dX10_takeOver_140 : decode cX10_takeOver 140 = .ok (.getfield 50, 3) := by decide +kernel
theorem dX10_takeOver_143 : decode cX10_takeOver 143 = .ok (.iload_n 2, 1) := by decide +kernel
theorem dX10_takeOver_144 : decode cX10_takeOver 144 = .ok (.iconst 5, 1) := by decide +kernel
theorem dX10_takeOver_145 : decode cX10_takeOver 145 = .ok (.iadd, 1) := by decide +kernel
theorem dX10_takeOver_146 : decode cX10_takeOver 146 = .ok (.iaload, 1) := by decide +kernel
theorem dX10_takeOver_147 : decode cX10_takeOver 147 = .ok (.aload_n 0, 1) := by decide +kernel
theorem dX10_takeOver_148 : decode cX10_takeOver 148 = .ok (.getfield 34, 3) := by decide +kernel
theorem dX10_takeOver_151 : decode cX10_takeOver 151 = .ok (.iload_n 1, 1) := by decide +kernel
theorem dX10_takeOver_152 : decode cX10_takeOver 152 = .ok (.iaload, 1) := by decide +kernel
theorem dX10_takeOver_153 : decode cX10_takeOver 153 = .ok (.iconst 1, 1) := by decide +kernel
theorem dX10_takeOver_154 : decode cX10_takeOver 154 = .ok (.isub, 1) := by decide +kernel
theorem dX10_takeOver_155 : decode cX10_takeOver 155 = .ok (.invokestatic 199, 3) := by decide +kernel
theorem dX10_takeOver_158 : decode cX10_takeOver 158 = .ok (.iastore, 1) := by decide +kernel
theorem dX10_takeOver_159 : decode cX10_takeOver 159 = .ok (.aload_n 0, 1) := by decide +kernel
theorem dX10_takeOver_160 : decode cX10_takeOver 160 = .ok (.getfield 31, 3) := by decide +kernel
theorem dX10_takeOver_163 : decode cX10_takeOver 163 = .ok (.iload_n 1, 1) := by decide +kernel
theorem dX10_takeOver_164 : decode cX10_takeOver 164 = .ok (.aload_n 0, 1) := by decide +kernel
theorem dX10_takeOver_165 : decode cX10_takeOver 165 = .ok (.getfield 50, 3) := by decide +kernel
theorem dX10_takeOver_168 : decode cX10_takeOver 168 = .ok (.iload_n 2, 1) := by decide +kernel
theorem dX10_takeOver_169 : decode cX10_takeOver 169 = .ok (.bipush 6, 2) := by decide +kernel
theorem dX10_takeOver_171 : decode cX10_takeOver 171 = .ok (.iadd, 1) := by decide +kernel
theorem dX10_takeOver_172 : decode cX10_takeOver 172 = .ok (.iaload, 1) := by decide +kernel
theorem dX10_takeOver_173 : decode cX10_takeOver 173 = .ok (.iastore, 1) := by decide +kernel
theorem dX10_takeOver_174 : decode cX10_takeOver 174 = .ok (.iconst 0, 1) := by decide +kernel
theorem dX10_takeOver_175 : decode cX10_takeOver 175 = .ok (.istore_n 3, 1) := by decide +kernel
theorem dX10_takeOver_176 : decode cX10_takeOver 176 = .ok (.iload_n 3, 1) := by decide +kernel
theorem dX10_takeOver_177 : decode cX10_takeOver 177 = .ok (.aload_n 0, 1) := by decide +kernel
theorem dX10_takeOver_178 : decode cX10_takeOver 178 = .ok (.getfield 34, 3) := by decide +kernel
theorem dX10_takeOver_181 : decode cX10_takeOver 181 = .ok (.iload_n 1, 1) := by decide +kernel
theorem dX10_takeOver_182 : decode cX10_takeOver 182 = .ok (.iaload, 1) := by decide +kernel
theorem dX10_takeOver_183 : decode cX10_takeOver 183 = .ok (.if_icmp .ge 55, 3) := by decide +kernel
theorem dX10_takeOver_186 : decode cX10_takeOver 186 = .ok (.aload_n 0, 1) := by decide +kernel
theorem dX10_takeOver_187 : decode cX10_takeOver 187 = .ok (.getfield 37, 3) := by decide +kernel
theorem dX10_takeOver_190 : decode cX10_takeOver 190 = .ok (.iconst 5, 1) := by decide +kernel
theorem dX10_takeOver_191 : decode cX10_takeOver 191 = .ok (.iload_n 1, 1) := by decide +kernel
theorem dX10_takeOver_192 : decode cX10_takeOver 192 = .ok (.imul, 1) := by decide +kernel
theorem dX10_takeOver_193 : decode cX10_takeOver 193 = .ok (.iload_n 3, 1) := by decide +kernel
theorem dX10_takeOver_194 : decode cX10_takeOver 194 = .ok (.iadd, 1) := by decide +kernel
theorem dX10_takeOver_195 : decode cX10_takeOver 195 = .ok (.aload_n 0, 1) := by decide +kernel
theorem dX10_takeOver_196 : decode cX10_takeOver 196 = .ok (.getfield 53, 3) := by decide +kernel
theorem dX10_takeOver_199 : decode cX10_takeOver 199 = .ok (.iconst 2, 1) := by decide +kernel
theorem dX10_takeOver_200 : decode cX10_takeOver 200 = .ok (.iconst 5, 1) := by decide +kernel
theorem dX10_takeOver_201 : decode cX10_takeOver 201 = .ok (.iload_n 1, 1) := by decide +kernel
theorem dX10_takeOver_202 : decode cX10_takeOver 202 = .ok (.imul, 1) := by decide +kernel
theorem dX10_takeOver_203 : decode cX10_takeOver 203 = .ok (.iload_n 3, 1) := by decide +kernel
theorem dX10_takeOver_204 : decode cX10_takeOver 204 = .ok (.iadd, 1) := by decide +kernel
theorem dX10_takeOver_205 : decode cX10_takeOver 205 = .ok (.imul, 1) := by decide +kernel
theorem dX10_takeOver_206 : decode cX10_takeOver 206 = .ok (.iaload, 1) := by decide +kernel
theorem dX10_takeOver_207 : decode cX10_takeOver 207 = .ok (.iastore, 1) := by decide +kernel
theorem dX10_takeOver_208 : decode cX10_takeOver 208 = .ok (.aload_n 0, 1) := by decide +kernel
theorem dX10_takeOver_209 : decode cX10_takeOver 209 = .ok (.getfield 40, 3) := by decide +kernel
theorem dX10_takeOver_212 : decode cX10_takeOver 212 = .ok (.iconst 5, 1) := by decide +kernel
theorem dX10_takeOver_213 : decode cX10_takeOver 213 = .ok (.iload_n 1, 1) := by decide +kernel
theorem dX10_takeOver_214 : decode cX10_takeOver 214 = .ok (.imul, 1) := by decide +kernel
theorem dX10_takeOver_215 : decode cX10_takeOver 215 = .ok (.iload_n 3, 1) := by decide +kernel
theorem dX10_takeOver_216 : decode cX10_takeOver 216 = .ok (.iadd, 1) := by decide +kernel
theorem dX10_takeOver_217 : decode cX10_takeOver 217 = .ok (.aload_n 0, 1) := by decide +kernel
theorem dX10_takeOver_218 : decode cX10_takeOver 218 = .ok (.getfield 53, 3) := by decide +kernel
theorem dX10_takeOver_221 : decode cX10_takeOver 221 = .ok (.iconst 2, 1) := by decide +kernel
theorem dX10_takeOver_222 : decode cX10_takeOver 222 = .ok (.iconst 5, 1) := by decide +kernel
theorem dX10_takeOver_223 : decode cX10_takeOver 223 = .ok (.iload_n 1, 1) := by decide +kernel
theorem dX10_takeOver_224 : decode cX10_takeOver 224 = .ok (.imul, 1) := by decide +kernel
theorem dX10_takeOver_225 : decode cX10_takeOver 225 = .ok (.iload_n 3, 1) := by decide +kernel
theorem dX10_takeOver_226 : decode cX10_takeOver 226 = .ok (.iadd, 1) := by decide +kernel
theorem dX10_takeOver_227 : decode cX10_takeOver 227 = .ok (.imul, 1) := by decide +kernel
theorem dX10_takeOver_228 : decode cX10_takeOver 228 = .ok (.iconst 1, 1) := by decide +kernel
theorem dX10_takeOver_229 : decode cX10_takeOver 229 = .ok (.iadd, 1) := by decide +kernel
theorem dX10_takeOver_230 : decode cX10_takeOver 230 = .ok (.iaload, 1) := by decide +kernel
theorem dX10_takeOver_231 : decode cX10_takeOver 231 = .ok (.iastore, 1) := by decide +kernel
theorem dX10_takeOver_232 : decode cX10_takeOver 232 = .ok (.iinc 3 1, 3) := by decide +kernel
theorem dX10_takeOver_235 : decode cX10_takeOver 235 = .ok (.goto (-59), 3) := by decide +kernel
theorem dX10_takeOver_238 : decode cX10_takeOver 238 = .ok (.aload_n 0, 1) := by decide +kernel
theorem dX10_takeOver_239 : decode cX10_takeOver 239 = .ok (.iload_n 1, 1) := by decide +kernel
theorem dX10_takeOver_240 : decode cX10_takeOver 240 = .ok (.iconst 0, 1) := by decide +kernel
theorem dX10_takeOver_241 : decode cX10_takeOver 241 = .ok (.aload_n 0, 1) := by decide +kernel
theorem dX10_takeOver_242 : decode cX10_takeOver 242 = .ok (.getfield 50, 3) := by decide +kernel
theorem dX10_takeOver_245 : decode cX10_takeOver 245 = .ok (.iload_n 2, 1) := by decide +kernel
theorem dX10_takeOver_246 : decode cX10_takeOver 246 = .ok (.iconst 1, 1) := by decide +kernel
theorem dX10_takeOver_247 : decode cX10_takeOver 247 = .ok (.iadd, 1) := by decide +kernel
theorem dX10_takeOver_248 : decode cX10_takeOver 248 = .ok (.iaload, 1) := by decide +kernel
theorem dX10_takeOver_249 : decode cX10_takeOver 249 = .ok (.invokevirtual 203, 3) := by decide +kernel
theorem dX10_takeOver_252 : decode cX10_takeOver 252 = .ok (.aload_n 0, 1) := by decide +kernel
theorem dX10_takeOver_253 : decode cX10_takeOver 253 = .ok (.iload_n 1, 1) := by decide +kernel
theorem dX10_takeOver_254 : decode cX10_takeOver 254 = .ok (.iconst 1, 1) := by decide +kernel
theorem dX10_takeOver_255 : decode cX10_takeOver 255 = .ok (.aload_n 0, 1) := by decide +kernel
theorem dX10_takeOver_256 : decode cX10_takeOver 256 = .ok (.getfield 50, 3) := by decide +kernel
theorem dX10_takeOver_259 : decode cX10_takeOver 259 = .ok (.iload_n 2, 1) := by decide +kernel
theorem dX10_takeOver_260 : decode cX10_takeOver 260 = .ok (.bipush 7, 2) := by decide +kernel
theorem dX10_takeOver_262 : decode cX10_takeOver 262 = .ok (.iadd, 1) := by decide +kernel
theorem dX10_takeOver_263 : decode cX10_takeOver 263 = .ok (.iaload, 1) := by decide +kernel
theorem dX10_takeOver_264 : decode cX10_takeOver 264 = .ok (.invokevirtual 203, 3) := by decide +kernel
theorem dX10_takeOver_267 : decode cX10_takeOver 267 = .ok (.aload_n 0, 1) := by decide +kernel
theorem dX10_takeOver_268 : decode cX10_takeOver 268 = .ok (.iload_n 1, 1) := by decide +kernel
theorem dX10_takeOver_269 : decode cX10_takeOver 269 = .ok (.iconst 2, 1) := by decide +kernel
theorem dX10_takeOver_270 : decode cX10_takeOver 270 = .ok (.aload_n 0, 1) := by decide +kernel
theorem dX10_takeOver_271 : decode cX10_takeOver 271 = .ok (.getfield 182, 3) := by decide +kernel
theorem dX10_takeOver_274 : decode cX10_takeOver 274 = .ok (.invokevirtual 203, 3) := by decide +kernel
theorem dX10_takeOver_277 : decode cX10_takeOver 277 = .ok (.aload_n 0, 1) := by decide +kernel
theorem dX10_takeOver_278 : decode cX10_takeOver 278 = .ok (.iload_n 1, 1) := by decide +kernel
theorem dX10_takeOver_279 : decode cX10_takeOver 279 = .ok (.iconst 5, 1) := by decide +kernel
theorem dX10_takeOver_280 : decode cX10_takeOver 280 = .ok (.aload_n 0, 1) := by decide +kernel
theorem dX10_takeOver_281 : decode cX10_takeOver 281 = .ok (.getfield 31, 3) := by decide +kernel
theorem dX10_takeOver_284 : decode cX10_takeOver 284 = .ok (.iload_n 1, 1) := by decide +kernel
theorem dX10_takeOver_285 : decode cX10_takeOver 285 = .ok (.iaload, 1) := by decide +kernel
theorem dX10_takeOver_286 : decode cX10_takeOver 286 = .ok (.invokevirtual 203, 3) := by decide +kernel
theorem dX10_takeOver_289 : decode cX10_takeOver 289 = .ok (.iconst 0, 1) := by decide +kernel
theorem dX10_takeOver_290 : decode cX10_takeOver 290 = .ok (.istore_n 3, 1) := by decide +kernel
theorem dX10_takeOver_291 : decode cX10_takeOver 291 = .ok (.iload_n 3, 1) := by decide +kernel
theorem dX10_takeOver_292 : decode cX10_takeOver 292 = .ok (.iconst 4, 1) := by decide +kernel
theorem dX10_takeOver_293 : decode cX10_takeOver 293 = .ok (.if_icmp .ge 19, 3) := by decide +kernel
theorem dX10_takeOver_296 : decode cX10_takeOver 296 = .ok (.aload_n 0, 1) := by decide +kernel
theorem dX10_takeOver_297 : decode cX10_takeOver 297 = .ok (.iload_n 1, 1) := by decide +kernel
theorem dX10_takeOver_298 : decode cX10_takeOver 298 = .ok (.bipush 9, 2) := by decide +kernel
theorem dX10_takeOver_300 : decode cX10_takeOver 300 = .ok (.iload_n 3, 1) := by decide +kernel
theorem dX10_takeOver_301 : decode cX10_takeOver 301 = .ok (.iadd, 1) := by decide +kernel
theorem dX10_takeOver_302 : decode cX10_takeOver 302 = .ok (.iconst (-1), 1) := by decide +kernel
theorem dX10_takeOver_303 : decode cX10_takeOver 303 = .ok (.invokevirtual 203, 3) := by decide +kernel
theorem dX10_takeOver_306 : decode cX10_takeOver 306 = .ok (.iinc 3 1, 3) := by decide +kernel
theorem dX10_takeOver_309 : decode cX10_takeOver 309 = .ok (.goto (-18), 3) := by decide +kernel
theorem dX10_takeOver_312 : decode cX10_takeOver 312 = .ok (.iinc 1 1, 3) := by decide +kernel
theorem dX10_takeOver_315 : decode cX10_takeOver 315 = .ok (.goto (-263), 3) := by decide +kernel
theorem dX10_takeOver_318 : decode cX10_takeOver 318 = .ok (.return_, 1) := by decide +kernel
theorem dX10_errorPosition_0 : decode cX10_errorPosition 0 = .ok (.aload_n 0, 1) := by decide +kernel
theorem dX10_errorPosition_1 : decode cX10_errorPosition 1 = .ok (.iconst 0, 1) := by decide +kernel
theorem dX10_errorPosition_2 : decode cX10_errorPosition 2 = .ok (.putfield 74, 3) := by decide +kernel
theorem dX10_errorPosition_5 : decode cX10_errorPosition 5 = .ok (.aload_n 0, 1) := by decide +kernel
theorem dX10_errorPosition_6 : decode cX10_errorPosition 6 = .ok (.getfield 46, 3) := by decide +kernel
theorem dX10_errorPosition_9 : decode cX10_errorPosition 9 = .ok (.ireturn, 1) := by decide +kernel
theorem dX10_of_0 : decode cX10_of 0 = .ok (.aload_n 0, 1) := by decide +kernel
theorem dX10_of_1 : decode cX10_of 1 = .ok (.getfield 7, 3) := by decide +kernel
theorem dX10_of_4 : decode cX10_of 4 = .ok (.bipush 19, 2) := by decide +kernel
theorem dX10_of_6 : decode cX10_of 6 = .ok (.bipush 13, 2) := by decide +kernel
theorem dX10_of_8 : decode cX10_of 8 = .ok (.iload_n 1, 1) := by decide +kernel
theorem dX10_of_9 : decode cX10_of 9 = .ok (.imul, 1) := by decide +kernel
theorem dX10_of_10 : decode cX10_of 10 = .ok (.iadd, 1) := by decide +kernel
theorem dX10_of_11 : decode cX10_of 11 = .ok (.iload_n 2, 1) := by decide +kernel
theorem dX10_of_12 : decode cX10_of 12 = .ok (.iadd, 1) := by decide +kernel
theorem dX10_of_13 : decode cX10_of 13 = .ok (.iaload, 1) := by decide +kernel
theorem dX10_of_14 : decode cX10_of 14 = .ok (.ireturn, 1) := by decide +kernel
theorem dX10_put2_0 : decode cX10_put2 0 = .ok (.aload_n 0, 1) := by decide +kernel
theorem dX10_put2_1 : decode cX10_put2 1 = .ok (.getfield 7, 3) := by decide +kernel
theorem dX10_put2_4 : decode cX10_put2 4 = .ok (.bipush 19, 2) := by decide +kernel
theorem dX10_put2_6 : decode cX10_put2 6 = .ok (.bipush 13, 2) := by decide +kernel
theorem dX10_put2_8 : decode cX10_put2 8 = .ok (.iload_n 1, 1) := by decide +kernel
theorem dX10_put2_9 : decode cX10_put2 9 = .ok (.imul, 1) := by decide +kernel
theorem dX10_put2_10 : decode cX10_put2 10 = .ok (.iadd, 1) := by decide +kernel
theorem dX10_put2_11 : decode cX10_put2 11 = .ok (.iload_n 2, 1) := by decide +kernel
theorem dX10_put2_12 : decode cX10_put2 12 = .ok (.iadd, 1) := by decide +kernel
theorem dX10_put2_13 : decode cX10_put2 13 = .ok (.iload_n 3, 1) := by decide +kernel
theorem dX10_put2_14 : decode cX10_put2 14 = .ok (.iastore, 1) := by decide +kernel
theorem dX10_put2_15 : decode cX10_put2 15 = .ok (.return_, 1) := by decide +kernel
theorem dX10_addTo_0 : decode cX10_addTo 0 = .ok (.aload_n 0, 1) := by decide +kernel
theorem dX10_addTo_1 : decode cX10_addTo 1 = .ok (.getfield 7, 3) := by decide +kernel
theorem dX10_addTo_4 : decode cX10_addTo 4 = .ok (.bipush 19, 2) := by decide +kernel
theorem dX10_addTo_6 : decode cX10_addTo 6 = .ok (.bipush 13, 2) := by decide +kernel
theorem dX10_addTo_8 : decode cX10_addTo 8 = .ok (.iload_n 1, 1) := by decide +kernel
theorem dX10_addTo_9 : decode cX10_addTo 9 = .ok (.imul, 1) := by decide +kernel
theorem dX10_addTo_10 : decode cX10_addTo 10 = .ok (.iadd, 1) := by decide +kernel
theorem dX10_addTo_11 : decode cX10_addTo 11 = .ok (.iload_n 2, 1) := by decide +kernel
theorem dX10_addTo_12 : decode cX10_addTo 12 = .ok (.iadd, 1) := by decide +kernel
theorem dX10_addTo_13 : decode cX10_addTo 13 = .ok (.dup2, 1) := by decide +kernel
theorem dX10_addTo_14 : decode cX10_addTo 14 = .ok (.iaload, 1) := by decide +kernel
theorem dX10_addTo_15 : decode cX10_addTo 15 = .ok (.iload_n 3, 1) := by decide +kernel
theorem dX10_addTo_16 : decode cX10_addTo 16 = .ok (.iadd, 1) := by decide +kernel
theorem dX10_addTo_17 : decode cX10_addTo 17 = .ok (.iastore, 1) := by decide +kernel
theorem dX10_addTo_18 : decode cX10_addTo 18 = .ok (.return_, 1) := by decide +kernel
theorem dX10_ofJob_0 : decode cX10_ofJob 0 = .ok (.aload_n 0, 1) := by decide +kernel
theorem dX10_ofJob_1 : decode cX10_ofJob 1 = .ok (.getfield 7, 3) := by decide +kernel
theorem dX10_ofJob_4 : decode cX10_ofJob 4 = .ok (.bipush 71, 2) := by decide +kernel
theorem dX10_ofJob_6 : decode cX10_ofJob 6 = .ok (.bipush 9, 2) := by decide +kernel
theorem dX10_ofJob_8 : decode cX10_ofJob 8 = .ok (.iload_n 1, 1) := by decide +kernel
theorem dX10_ofJob_9 : decode cX10_ofJob 9 = .ok (.imul, 1) := by decide +kernel
theorem dX10_ofJob_10 : decode cX10_ofJob 10 = .ok (.iadd, 1) := by decide +kernel
theorem dX10_ofJob_11 : decode cX10_ofJob 11 = .ok (.iload_n 2, 1) := by decide +kernel
theorem dX10_ofJob_12 : decode cX10_ofJob 12 = .ok (.iadd, 1) := by decide +kernel
theorem dX10_ofJob_13 : decode cX10_ofJob 13 = .ok (.iaload, 1) := by decide +kernel
theorem dX10_ofJob_14 : decode cX10_ofJob 14 = .ok (.ireturn, 1) := by decide +kernel
theorem dX10_putJob_0 : decode cX10_putJob 0 = .ok (.aload_n 0, 1) := by decide +kernel
theorem dX10_putJob_1 : decode cX10_putJob 1 = .ok (.getfield 7, 3) := by decide +kernel
theorem dX10_putJob_4 : decode cX10_putJob 4 = .ok (.bipush 71, 2) := by decide +kernel
theorem dX10_putJob_6 : decode cX10_putJob 6 = .ok (.bipush 9, 2) := by decide +kernel
theorem dX10_putJob_8 : decode cX10_putJob 8 = .ok (.iload_n 1, 1) := by decide +kernel
theorem dX10_putJob_9 : decode cX10_putJob 9 = .ok (.imul, 1) := by decide +kernel
theorem dX10_putJob_10 : decode cX10_putJob 10 = .ok (.iadd, 1) := by decide +kernel
theorem dX10_putJob_11 : decode cX10_putJob 11 = .ok (.iload_n 2, 1) := by decide +kernel
theorem dX10_putJob_12 : decode cX10_putJob 12 = .ok (.iadd, 1) := by decide +kernel
theorem dX10_putJob_13 : decode cX10_putJob 13 = .ok (.iload_n 3, 1) := by decide +kernel
theorem dX10_putJob_14 : decode cX10_putJob 14 = .ok (.iastore, 1) := by decide +kernel
theorem dX10_putJob_15 : decode cX10_putJob 15 = .ok (.return_, 1) := by decide +kernel
theorem dX10_remember_0 : decode cX10_remember 0 = .ok (.aload_n 0, 1) := by decide +kernel
theorem dX10_remember_1 : decode cX10_remember 1 = .ok (.getfield 196, 3) := by decide +kernel
theorem dX10_remember_4 : decode cX10_remember 4 = .ok (.bipush 10, 2) := by decide +kernel
theorem dX10_remember_6 : decode cX10_remember 6 = .ok (.if_icmp .ne 46, 3) := by decide +kernel
theorem dX10_remember_9 : decode cX10_remember 9 = .ok (.sipush 287, 3) := by decide +kernel
theorem dX10_remember_12 : decode cX10_remember 12 = .ok (.istore_n 1, 1) := by decide +kernel
theorem dX10_remember_13 : decode cX10_remember 13 = .ok (.iload_n 1, 1) := by decide +kernel
theorem dX10_remember_14 : decode cX10_remember 14 = .ok (.sipush 2870, 3) := by decide +kernel
theorem dX10_remember_17 : decode cX10_remember 17 = .ok (.if_icmp .ge 25, 3) := by decide +kernel
theorem dX10_remember_20 : decode cX10_remember 20 = .ok (.aload_n 0, 1) := by decide +kernel
theorem dX10_remember_21 : decode cX10_remember 21 = .ok (.getfield 13, 3) := by decide +kernel
theorem dX10_remember_24 : decode cX10_remember 24 = .ok (.iload_n 1, 1) := by decide +kernel
theorem dX10_remember_25 : decode cX10_remember 25 = .ok (.sipush 287, 3) := by decide +kernel
theorem dX10_remember_28 : decode cX10_remember 28 = .ok (.isub, 1) := by decide +kernel
theorem dX10_remember_29 : decode cX10_remember 29 = .ok (.aload_n 0, 1) := by decide +kernel
theorem dX10_remember_30 : decode cX10_remember 30 = .ok (.getfield 13, 3) := by decide +kernel
theorem dX10_remember_33 : decode cX10_remember 33 = .ok (.iload_n 1, 1) := by decide +kernel
theorem dX10_remember_34 : decode cX10_remember 34 = .ok (.iaload, 1) := by decide +kernel
theorem dX10_remember_35 : decode cX10_remember 35 = .ok (.iastore, 1) := by decide +kernel
theorem dX10_remember_36 : decode cX10_remember 36 = .ok (.iinc 1 1, 3) := by decide +kernel
theorem dX10_remember_39 : decode cX10_remember 39 = .ok (.goto (-26), 3) := by decide +kernel
theorem dX10_remember_42 : decode cX10_remember 42 = .ok (.aload_n 0, 1) := by decide +kernel
theorem dX10_remember_43 : decode cX10_remember 43 = .ok (.dup, 1) := by decide +kernel
theorem dX10_remember_44 : decode cX10_remember 44 = .ok (.getfield 196, 3) := by decide +kernel
theorem dX10_remember_47 : decode cX10_remember 47 = .ok (.iconst 1, 1) := by decide +kernel
theorem dX10_remember_48 : decode cX10_remember 48 = .ok (.isub, 1) := by decide +kernel
theorem dX10_remember_49 : decode cX10_remember 49 = .ok (.putfield 196, 3) := by decide +kernel
theorem dX10_remember_52 : decode cX10_remember 52 = .ok (.iconst 0, 1) := by decide +kernel
theorem dX10_remember_53 : decode cX10_remember 53 = .ok (.istore_n 1, 1) := by decide +kernel
theorem dX10_remember_54 : decode cX10_remember 54 = .ok (.iload_n 1, 1) := by decide +kernel
theorem dX10_remember_55 : decode cX10_remember 55 = .ok (.sipush 287, 3) := by decide +kernel
theorem dX10_remember_58 : decode cX10_remember 58 = .ok (.if_icmp .ge 30, 3) := by decide +kernel
theorem dX10_remember_61 : decode cX10_remember 61 = .ok (.aload_n 0, 1) := by decide +kernel
theorem dX10_remember_62 : decode cX10_remember 62 = .ok (.getfield 13, 3) := by decide +kernel
theorem dX10_remember_65 : decode cX10_remember 65 = .ok (.sipush 287, 3) := by decide +kernel
theorem dX10_remember_68 : decode cX10_remember 68 = .ok (.aload_n 0, 1) := by decide +kernel
theorem dX10_remember_69 : decode cX10_remember 69 = .ok (.getfield 196, 3) := by decide +kernel
theorem dX10_remember_72 : decode cX10_remember 72 = .ok (.imul, 1) := by decide +kernel
theorem dX10_remember_73 : decode cX10_remember 73 = .ok (.iload_n 1, 1) := by decide +kernel
theorem dX10_remember_74 : decode cX10_remember 74 = .ok (.iadd, 1) := by decide +kernel
theorem dX10_remember_75 : decode cX10_remember 75 = .ok (.aload_n 0, 1) := by decide +kernel
theorem dX10_remember_76 : decode cX10_remember 76 = .ok (.getfield 7, 3) := by decide +kernel
theorem dX10_remember_79 : decode cX10_remember 79 = .ok (.iload_n 1, 1) := by decide +kernel
theorem dX10_remember_80 : decode cX10_remember 80 = .ok (.iaload, 1) := by decide +kernel
theorem dX10_remember_81 : decode cX10_remember 81 = .ok (.iastore, 1) := by decide +kernel
theorem dX10_remember_82 : decode cX10_remember 82 = .ok (.iinc 1 1, 3) := by decide +kernel
theorem dX10_remember_85 : decode cX10_remember 85 = .ok (.goto (-31), 3) := by decide +kernel
theorem dX10_remember_88 : decode cX10_remember 88 = .ok (.aload_n 0, 1) := by decide +kernel
theorem dX10_remember_89 : decode cX10_remember 89 = .ok (.dup, 1) := by decide +kernel
theorem dX10_remember_90 : decode cX10_remember 90 = .ok (.getfield 196, 3) := by decide +kernel
theorem dX10_remember_93 : decode cX10_remember 93 = .ok (.iconst 1, 1) := by decide +kernel
theorem dX10_remember_94 : decode cX10_remember 94 = .ok (.iadd, 1) := by decide +kernel
theorem dX10_remember_95 : decode cX10_remember 95 = .ok (.putfield 196, 3) := by decide +kernel
theorem dX10_remember_98 : decode cX10_remember 98 = .ok (.return_, 1) := by decide +kernel
theorem dX10_undo_0 : decode cX10_undo 0 = .ok (.aload_n 0, 1) := by decide +kernel
theorem dX10_undo_1 : decode cX10_undo 1 = .ok (.iconst 1, 1) := by decide +kernel
theorem dX10_undo_2 : decode cX10_undo 2 = .ok (.invokevirtual 207, 3) := by decide +kernel
theorem dX10_undo_5 : decode cX10_undo 5 = .ok (.ifCond .eq 5, 3) := by decide +kernel
theorem dX10_undo_8 : decode cX10_undo 8 = .ok (.iconst 0, 1) := by decide +kernel
theorem dX10_undo_9 : decode cX10_undo 9 = .ok (.ireturn, 1) := by decide +kernel
theorem dX10_undo_10 : decode cX10_undo 10 = .ok (.aload_n 0, 1) := by decide +kernel
theorem dX10_undo_11 : decode cX10_undo 11 = .ok (.getfield 196, 3) := by decide +kernel
theorem dX10_undo_14 : decode cX10_undo 14 = .ok (.ifCond .ne 6, 3) := by decide +kernel
theorem dX10_undo_17 : decode cX10_undo 17 = .ok (.bipush (-2), 2) := by decide +kernel
theorem dX10_undo_19 : decode cX10_undo 19 = .ok (.ireturn, 1) := by decide +kernel
theorem dX10_undo_20 : decode cX10_undo 20 = .ok (.aload_n 0, 1) := by decide +kernel
theorem dX10_undo_21 : decode cX10_undo 21 = .ok (.dup, 1) := by decide +kernel
theorem dX10_undo_22 : decode cX10_undo 22 = .ok (.getfield 196, 3) := by decide +kernel
theorem dX10_undo_25 : decode cX10_undo 25 = .ok (.iconst 1, 1) := by decide +kernel
theorem dX10_undo_26 : decode cX10_undo 26 = .ok (.isub, 1) := by decide +kernel
theorem dX10_undo_27 : decode cX10_undo 27 = .ok (.putfield 196, 3) := by decide +kernel
theorem dX10_undo_30 : decode cX10_undo 30 = .ok (.iconst 0, 1) := by decide +kernel
theorem dX10_undo_31 : decode cX10_undo 31 = .ok (.istore_n 1, 1) := by decide +kernel
theorem dX10_undo_32 : decode cX10_undo 32 = .ok (.iload_n 1, 1) := by decide +kernel
theorem dX10_undo_33 : decode cX10_undo 33 = .ok (.sipush 287, 3) := by decide +kernel
theorem dX10_undo_36 : decode cX10_undo 36 = .ok (.if_icmp .ge 30, 3) := by decide +kernel
theorem dX10_undo_39 : decode cX10_undo 39 = .ok (.aload_n 0, 1) := by decide +kernel
theorem dX10_undo_40 : decode cX10_undo 40 = .ok (.getfield 7, 3) := by decide +kernel
theorem dX10_undo_43 : decode cX10_undo 43 = .ok (.iload_n 1, 1) := by decide +kernel
theorem dX10_undo_44 : decode cX10_undo 44 = .ok (.aload_n 0, 1) := by decide +kernel
theorem dX10_undo_45 : decode cX10_undo 45 = .ok (.getfield 13, 3) := by decide +kernel
theorem dX10_undo_48 : decode cX10_undo 48 = .ok (.sipush 287, 3) := by decide +kernel
theorem dX10_undo_51 : decode cX10_undo 51 = .ok (.aload_n 0, 1) := by decide +kernel
theorem dX10_undo_52 : decode cX10_undo 52 = .ok (.getfield 196, 3) := by decide +kernel
theorem dX10_undo_55 : decode cX10_undo 55 = .ok (.imul, 1) := by decide +kernel
theorem dX10_undo_56 : decode cX10_undo 56 = .ok (.iload_n 1, 1) := by decide +kernel
theorem dX10_undo_57 : decode cX10_undo 57 = .ok (.iadd, 1) := by decide +kernel
theorem dX10_undo_58 : decode cX10_undo 58 = .ok (.iaload, 1) := by decide +kernel
theorem dX10_undo_59 : decode cX10_undo 59 = .ok (.iastore, 1) := by decide +kernel
theorem dX10_undo_60 : decode cX10_undo 60 = .ok (.iinc 1 1, 3) := by decide +kernel
theorem dX10_undo_63 : decode cX10_undo 63 = .ok (.goto (-31), 3) := by decide +kernel
theorem dX10_undo_66 : decode cX10_undo 66 = .ok (.aload_n 0, 1) := by decide +kernel
theorem dX10_undo_67 : decode cX10_undo 67 = .ok (.getfield 196, 3) := by decide +kernel
theorem dX10_undo_70 : decode cX10_undo 70 = .ok (.ireturn, 1) := by decide +kernel
theorem dX10_putAside_0 : decode cX10_putAside 0 = .ok (.iconst 0, 1) := by decide +kernel
theorem dX10_putAside_1 : decode cX10_putAside 1 = .ok (.istore_n 1, 1) := by decide +kernel
theorem dX10_putAside_2 : decode cX10_putAside 2 = .ok (.iload_n 1, 1) := by decide +kernel
theorem dX10_putAside_3 : decode cX10_putAside 3 = .ok (.sipush 287, 3) := by decide +kernel
theorem dX10_putAside_6 : decode cX10_putAside 6 = .ok (.if_icmp .ge 21, 3) := by decide +kernel
theorem dX10_putAside_9 : decode cX10_putAside 9 = .ok (.aload_n 0, 1) := by decide +kernel
theorem dX10_putAside_10 : decode cX10_putAside 10 = .ok (.getfield 56, 3) := by decide +kernel
theorem dX10_putAside_13 : decode cX10_putAside 13 = .ok (.iload_n 1, 1) := by decide +kernel
theorem dX10_putAside_14 : decode cX10_putAside 14 = .ok (.aload_n 0, 1) := by decide +kernel
theorem dX10_putAside_15 : decode cX10_putAside 15 = .ok (.getfield 7, 3) := by decide +kernel
theorem dX10_putAside_18 : decode cX10_putAside 18 = .ok (.iload_n 1, 1) := by decide +kernel
theorem dX10_putAside_19 : decode cX10_putAside 19 = .ok (.iaload, 1) := by decide +kernel
theorem dX10_putAside_20 : decode cX10_putAside 20 = .ok (.iastore, 1) := by decide +kernel
theorem dX10_putAside_21 : decode cX10_putAside 21 = .ok (.iinc 1 1, 3) := by decide +kernel
theorem dX10_putAside_24 : decode cX10_putAside 24 = .ok (.goto (-22), 3) := by decide +kernel
theorem dX10_putAside_27 : decode cX10_putAside 27 = .ok (.return_, 1) := by decide +kernel
theorem dX10_takeBack_0 : decode cX10_takeBack 0 = .ok (.iconst 0, 1) := by decide +kernel
theorem dX10_takeBack_1 : decode cX10_takeBack 1 = .ok (.istore_n 1, 1) := by decide +kernel
theorem dX10_takeBack_2 : decode cX10_takeBack 2 = .ok (.iload_n 1, 1) := by decide +kernel
theorem dX10_takeBack_3 : decode cX10_takeBack 3 = .ok (.sipush 287, 3) := by decide +kernel
theorem dX10_takeBack_6 : decode cX10_takeBack 6 = .ok (.if_icmp .ge 21, 3) := by decide +kernel
theorem dX10_takeBack_9 : decode cX10_takeBack 9 = .ok (.aload_n 0, 1) := by decide +kernel
theorem dX10_takeBack_10 : decode cX10_takeBack 10 = .ok (.getfield 7, 3) := by decide +kernel
theorem dX10_takeBack_13 : decode cX10_takeBack 13 = .ok (.iload_n 1, 1) := by decide +kernel
theorem dX10_takeBack_14 : decode cX10_takeBack 14 = .ok (.aload_n 0, 1) := by decide +kernel
theorem dX10_takeBack_15 : decode cX10_takeBack 15 = .ok (.getfield 56, 3) := by decide +kernel
theorem dX10_takeBack_18 : decode cX10_takeBack 18 = .ok (.iload_n 1, 1) := by decide +kernel
theorem dX10_takeBack_19 : decode cX10_takeBack 19 = .ok (.iaload, 1) := by decide +kernel
theorem dX10_takeBack_20 : decode cX10_takeBack 20 = .ok (.iastore, 1) := by decide +kernel
theorem dX10_takeBack_21 : decode cX10_takeBack 21 = .ok (.iinc 1 1, 3) := by decide +kernel
theorem dX10_takeBack_24 : decode cX10_takeBack 24 = .ok (.goto (-22), 3) := by decide +kernel
theorem dX10_takeBack_27 : decode cX10_takeBack 27 = .ok (.return_, 1) := by decide +kernel
theorem dX10_isDomain_0 : decode cX10_isDomain 0 = .ok (.iload_n 1, 1) := by decide +kernel
theorem dX10_isDomain_1 : decode cX10_isDomain 1 = .ok (.i2l, 1) := by decide +kernel
theorem dX10_isDomain_2 : decode cX10_isDomain 2 = .ok (.lconst 0, 1) := by decide +kernel
theorem dX10_isDomain_3 : decode cX10_isDomain 3 = .ok (.aload_n 0, 1) := by decide +kernel
theorem dX10_isDomain_4 : decode cX10_isDomain 4 = .ok (.getfield 193, 3) := by decide +kernel
theorem dX10_isDomain_7 : decode cX10_isDomain 7 = .ok (.iconst 1, 1) := by decide +kernel
theorem dX10_isDomain_8 : decode cX10_isDomain 8 = .ok (.isub, 1) := by decide +kernel
theorem dX10_isDomain_9 : decode cX10_isDomain 9 = .ok (.i2l, 1) := by decide +kernel
theorem dX10_isDomain_10 : decode cX10_isDomain 10 = .ok (.invokestatic 88, 3) := by decide +kernel
theorem dX10_isDomain_13 : decode cX10_isDomain 13 = .ok (.ireturn, 1) := by decide +kernel
theorem dX10_isJob_0 : decode cX10_isJob 0 = .ok (.iload_n 1, 1) := by decide +kernel
theorem dX10_isJob_1 : decode cX10_isJob 1 = .ok (.i2l, 1) := by decide +kernel
theorem dX10_isJob_2 : decode cX10_isJob 2 = .ok (.lconst 0, 1) := by decide +kernel
theorem dX10_isJob_3 : decode cX10_isJob 3 = .ok (.aload_n 0, 1) := by decide +kernel
theorem dX10_isJob_4 : decode cX10_isJob 4 = .ok (.getfield 7, 3) := by decide +kernel
theorem dX10_isJob_7 : decode cX10_isJob 7 = .ok (.iconst 2, 1) := by decide +kernel
theorem dX10_isJob_8 : decode cX10_isJob 8 = .ok (.iaload, 1) := by decide +kernel
theorem dX10_isJob_9 : decode cX10_isJob 9 = .ok (.iconst 1, 1) := by decide +kernel
theorem dX10_isJob_10 : decode cX10_isJob 10 = .ok (.isub, 1) := by decide +kernel
theorem dX10_isJob_11 : decode cX10_isJob 11 = .ok (.i2l, 1) := by decide +kernel
theorem dX10_isJob_12 : decode cX10_isJob 12 = .ok (.invokestatic 88, 3) := by decide +kernel
theorem dX10_isJob_15 : decode cX10_isJob 15 = .ok (.ireturn, 1) := by decide +kernel
theorem dX10_isOver_0 : decode cX10_isOver 0 = .ok (.aload_n 0, 1) := by decide +kernel
theorem dX10_isOver_1 : decode cX10_isOver 1 = .ok (.iload_n 1, 1) := by decide +kernel
theorem dX10_isOver_2 : decode cX10_isOver 2 = .ok (.bipush 7, 2) := by decide +kernel
theorem dX10_isOver_4 : decode cX10_isOver 4 = .ok (.invokevirtual 211, 3) := by decide +kernel
theorem dX10_isOver_7 : decode cX10_isOver 7 = .ok (.iconst 3, 1) := by decide +kernel
theorem dX10_isOver_8 : decode cX10_isOver 8 = .ok (.if_icmp .lt 7, 3) := by decide +kernel
theorem dX10_isOver_11 : decode cX10_isOver 11 = .ok (.iconst 1, 1) := by decide +kernel
theorem dX10_isOver_12 : decode cX10_isOver 12 = .ok (.goto 4, 3) := by decide +kernel
theorem dX10_isOver_15 : decode cX10_isOver 15 = .ok (.iconst 0, 1) := by decide +kernel
theorem dX10_isOver_16 : decode cX10_isOver 16 = .ok (.ireturn, 1) := by decide +kernel
theorem dX10_busy_0 : decode cX10_busy 0 = .ok (.iconst 0, 1) := by decide +kernel
theorem dX10_busy_1 : decode cX10_busy 1 = .ok (.istore_n 2, 1) := by decide +kernel
theorem dX10_busy_2 : decode cX10_busy 2 = .ok (.iconst 0, 1) := by decide +kernel
theorem dX10_busy_3 : decode cX10_busy 3 = .ok (.istore_n 3, 1) := by decide +kernel
theorem dX10_busy_4 : decode cX10_busy 4 = .ok (.iload_n 3, 1) := by decide +kernel
theorem dX10_busy_5 : decode cX10_busy 5 = .ok (.aload_n 0, 1) := by decide +kernel
theorem dX10_busy_6 : decode cX10_busy 6 = .ok (.getfield 16, 3) := by decide +kernel
theorem dX10_busy_9 : decode cX10_busy 9 = .ok (.iload_n 1, 1) := by decide +kernel
theorem dX10_busy_10 : decode cX10_busy 10 = .ok (.iaload, 1) := by decide +kernel
theorem dX10_busy_11 : decode cX10_busy 11 = .ok (.if_icmp .ge 30, 3) := by decide +kernel
theorem dX10_busy_14 : decode cX10_busy 14 = .ok (.iload_n 2, 1) := by decide +kernel
theorem dX10_busy_15 : decode cX10_busy 15 = .ok (.aload_n 0, 1) := by decide +kernel
theorem dX10_busy_16 : decode cX10_busy 16 = .ok (.iload_n 1, 1) := by decide +kernel
theorem dX10_busy_17 : decode cX10_busy 17 = .ok (.bipush 9, 2) := by decide +kernel
theorem dX10_busy_19 : decode cX10_busy 19 = .ok (.iload_n 3, 1) := by decide +kernel
theorem dX10_busy_20 : decode cX10_busy 20 = .ok (.iadd, 1) := by decide +kernel
theorem dX10_busy_21 : decode cX10_busy 21 = .ok (.invokevirtual 214, 3) := by decide +kernel
theorem dX10_busy_24 : decode cX10_busy 24 = .ok (.iconst (-1), 1) := by decide +kernel
theorem dX10_busy_25 : decode cX10_busy 25 = .ok (.if_icmp .ne 7, 3) := by decide +kernel
theorem dX10_busy_28 : decode cX10_busy 28 = .ok (.iconst 0, 1) := by decide +kernel
theorem dX10_busy_29 : decode cX10_busy 29 = .ok (.goto 4, 3) := by decide +kernel
theorem dX10_busy_32 : decode cX10_busy 32 = .ok (.iconst 1, 1) := by decide +kernel
theorem dX10_busy_33 : decode cX10_busy 33 = .ok (.iadd, 1) := by decide +kernel
theorem dX10_busy_34 : decode cX10_busy 34 = .ok (.istore_n 2, 1) := by decide +kernel
theorem dX10_busy_35 : decode cX10_busy 35 = .ok (.iinc 3 1, 3) := by decide +kernel
theorem dX10_busy_38 : decode cX10_busy 38 = .ok (.goto (-34), 3) := by decide +kernel
theorem dX10_busy_41 : decode cX10_busy 41 = .ok (.iload_n 2, 1) := by decide +kernel
theorem dX10_busy_42 : decode cX10_busy 42 = .ok (.ireturn, 1) := by decide +kernel
theorem dX10_release_0 : decode cX10_release 0 = .ok (.aload_n 0, 1) := by decide +kernel
theorem dX10_release_1 : decode cX10_release 1 = .ok (.iload_n 1, 1) := by decide +kernel
theorem dX10_release_2 : decode cX10_release 2 = .ok (.invokevirtual 217, 3) := by decide +kernel
theorem dX10_release_5 : decode cX10_release 5 = .ok (.ifCond .le 7, 3) := by decide +kernel
theorem dX10_release_8 : decode cX10_release 8 = .ok (.iconst 1, 1) := by decide +kernel
theorem dX10_release_9 : decode cX10_release 9 = .ok (.goto 4, 3) := by decide +kernel
theorem dX10_release_12 : decode cX10_release 12 = .ok (.iconst 0, 1) := by decide +kernel
theorem dX10_release_13 : decode cX10_release 13 = .ok (.istore_n 2, 1) := by decide +kernel
theorem dX10_release_14 : decode cX10_release 14 = .ok (.iconst 0, 1) := by decide +kernel
theorem dX10_release_15 : decode cX10_release 15 = .ok (.istore_n 3, 1) := by decide +kernel
theorem dX10_release_16 : decode cX10_release 16 = .ok (.iload_n 3, 1) := by decide +kernel
theorem dX10_release_17 : decode cX10_release 17 = .ok (.aload_n 0, 1) := by decide +kernel
theorem dX10_release_18 : decode cX10_release 18 = .ok (.getfield 7, 3) := by decide +kernel
theorem dX10_release_21 : decode cX10_release 21 = .ok (.iconst 2, 1) := by decide +kernel
theorem dX10_release_22 : decode cX10_release 22 = .ok (.iaload, 1) := by decide +kernel
theorem dX10_release_23 : decode cX10_release 23 = .ok (.if_icmp .ge 61, 3) := by decide +kernel
theorem dX10_release_26 : decode cX10_release 26 = .ok (.iload_n 2, 1) := by decide +kernel
theorem dX10_release_27 : decode cX10_release 27 = .ok (.ifCond .ne 45, 3) := by decide +kernel
theorem dX10_release_30 : decode cX10_release 30 = .ok (.aload_n 0, 1) := by decide +kernel
theorem dX10_release_31 : decode cX10_release 31 = .ok (.iload_n 3, 1) := by decide +kernel
theorem dX10_release_32 : decode cX10_release 32 = .ok (.iconst 0, 1) := by decide +kernel
theorem dX10_release_33 : decode cX10_release 33 = .ok (.invokevirtual 211, 3) := by decide +kernel
theorem dX10_release_36 : decode cX10_release 36 = .ok (.iload_n 1, 1) := by decide +kernel
theorem dX10_release_37 : decode cX10_release 37 = .ok (.if_icmp .ne 39, 3) := by decide +kernel
theorem dX10_release_40 : decode cX10_release 40 = .ok (.aload_n 0, 1) := by decide +kernel
theorem dX10_release_41 : decode cX10_release 41 = .ok (.iload_n 3, 1) := by decide +kernel
theorem dX10_release_42 : decode cX10_release 42 = .ok (.bipush 7, 2) := by decide +kernel
theorem dX10_release_44 : decode cX10_release 44 = .ok (.invokevirtual 211, 3) := by decide +kernel
theorem dX10_release_47 : decode cX10_release 47 = .ok (.ifCond .ne 29, 3) := by decide +kernel
theorem dX10_release_50 : decode cX10_release 50 = .ok (.aload_n 0, 1) := by decide +kernel
theorem dX10_release_51 : decode cX10_release 51 = .ok (.iload_n 3, 1) := by decide +kernel
theorem dX10_release_52 : decode cX10_release 52 = .ok (.iconst 2, 1) := by decide +kernel
theorem dX10_release_53 : decode cX10_release 53 = .ok (.invokevirtual 211, 3) := by decide +kernel
theorem dX10_release_56 : decode cX10_release 56 = .ok (.aload_n 0, 1) := by decide +kernel
theorem dX10_release_57 : decode cX10_release 57 = .ok (.iload_n 3, 1) := by decide +kernel
theorem dX10_release_58 : decode cX10_release 58 = .ok (.iconst 3, 1) := by decide +kernel
theorem dX10_release_59 : decode cX10_release 59 = .ok (.invokevirtual 211, 3) := by decide +kernel
theorem dX10_release_62 : decode cX10_release 62 = .ok (.iadd, 1) := by decide +kernel
theorem dX10_release_63 : decode cX10_release 63 = .ok (.aload_n 0, 1) := by decide +kernel
theorem dX10_release_64 : decode cX10_release 64 = .ok (.getfield 7, 3) := by decide +kernel
theorem dX10_release_67 : decode cX10_release 67 = .ok (.iconst 0, 1) := by decide +kernel
theorem dX10_release_68 : decode cX10_release 68 = .ok (.iaload, 1) := by decide +kernel
theorem dX10_release_69 : decode cX10_release 69 = .ok (.if_icmp .gt 7, 3) := by decide +kernel
theorem dX10_release_72 : decode cX10_release 72 = .ok (.iconst 1, 1) := by decide +kernel
theorem dX10_release_73 : decode cX10_release 73 = .ok (.goto 4, 3) := by decide +kernel
theorem dX10_release_76 : decode cX10_release 76 = .ok (.iconst 0, 1) := by decide +kernel
theorem dX10_release_77 : decode cX10_release 77 = .ok (.istore_n 2, 1) := by decide +kernel
theorem dX10_release_78 : decode cX10_release 78 = .ok (.iinc 3 1, 3) := by decide +kernel
theorem dX10_release_81 : decode cX10_release 81 = .ok (.goto (-65), 3) := by decide +kernel
theorem dX10_release_84 : decode cX10_release 84 = .ok (.iconst 0, 1) := by decide +kernel
theorem dX10_release_85 : decode cX10_release 85 = .ok (.istore_n 3, 1) := by decide +kernel
theorem dX10_release_86 : decode cX10_release 86 = .ok (.iload_n 3, 1) := by decide +kernel
theorem dX10_release_87 : decode cX10_release 87 = .ok (.aload_n 0, 1) := by decide +kernel
theorem dX10_release_88 : decode cX10_release 88 = .ok (.getfield 7, 3) := by decide +kernel
theorem dX10_release_91 : decode cX10_release 91 = .ok (.iconst 2, 1) := by decide +kernel
theorem dX10_release_92 : decode cX10_release 92 = .ok (.iaload, 1) := by decide +kernel
theorem dX10_release_93 : decode cX10_release 93 = .ok (.if_icmp .ge 56, 3) := by decide +kernel
theorem dX10_release_96 : decode cX10_release 96 = .ok (.iload_n 2, 1) := by decide +kernel
theorem dX10_release_97 : decode cX10_release 97 = .ok (.ifCond .eq 52, 3) := by decide +kernel
theorem dX10_release_100 : decode cX10_release 100 = .ok (.aload_n 0, 1) := by decide +kernel
theorem dX10_release_101 : decode cX10_release 101 = .ok (.iload_n 3, 1) := by decide +kernel
theorem dX10_release_102 : decode cX10_release 102 = .ok (.iconst 0, 1) := by decide +kernel
theorem dX10_release_103 : decode cX10_release 103 = .ok (.invokevirtual 211, 3) := by decide +kernel
theorem dX10_release_106 : decode cX10_release 106 = .ok (.iload_n 1, 1) := by decide +kernel
theorem dX10_release_107 : decode cX10_release 107 = .ok (.if_icmp .ne 36, 3) := by decide +kernel
theorem dX10_release_110 : decode cX10_release 110 = .ok (.aload_n 0, 1) := by decide +kernel
theorem dX10_release_111 : decode cX10_release 111 = .ok (.iload_n 3, 1) := by decide +kernel
theorem dX10_release_112 : decode cX10_release 112 = .ok (.bipush 7, 2) := by decide +kernel
theorem dX10_release_114 : decode cX10_release 114 = .ok (.invokevirtual 211, 3) := by decide +kernel
theorem dX10_release_117 : decode cX10_release 117 = .ok (.ifCond .ne 26, 3) := by decide +kernel
theorem dX10_release_120 : decode cX10_release 120 = .ok (.aload_n 0, 1) := by decide +kernel
theorem dX10_release_121 : decode cX10_release 121 = .ok (.iload_n 3, 1) := by decide +kernel
theorem dX10_release_122 : decode cX10_release 122 = .ok (.iconst 2, 1) := by decide +kernel
theorem dX10_release_123 : decode cX10_release 123 = .ok (.invokevirtual 211, 3) := by decide +kernel
theorem dX10_release_126 : decode cX10_release 126 = .ok (.aload_n 0, 1) := by decide +kernel
theorem dX10_release_127 : decode cX10_release 127 = .ok (.getfield 7, 3) := by decide +kernel
theorem dX10_release_130 : decode cX10_release 130 = .ok (.iconst 0, 1) := by decide +kernel
theorem dX10_release_131 : decode cX10_release 131 = .ok (.iaload, 1) := by decide +kernel
theorem dX10_release_132 : decode cX10_release 132 = .ok (.if_icmp .gt 11, 3) := by decide +kernel
theorem dX10_release_135 : decode cX10_release 135 = .ok (.aload_n 0, 1) := by decide +kernel
theorem dX10_release_136 : decode cX10_release 136 = .ok (.iload_n 3, 1) := by decide +kernel
theorem dX10_release_137 : decode cX10_release 137 = .ok (.bipush 7, 2) := by decide +kernel
theorem dX10_release_139 : decode cX10_release 139 = .ok (.iconst 1, 1) := by decide +kernel
theorem dX10_release_140 : decode cX10_release 140 = .ok (.invokevirtual 220, 3) := by decide +kernel
theorem dX10_release_143 : decode cX10_release 143 = .ok (.iinc 3 1, 3) := by decide +kernel
theorem dX10_release_146 : decode cX10_release 146 = .ok (.goto (-60), 3) := by decide +kernel
theorem dX10_release_149 : decode cX10_release 149 = .ok (.return_, 1) := by decide +kernel
theorem dX10_firstReady_0 : decode cX10_firstReady 0 = .ok (.iconst (-1), 1) := by decide +kernel
theorem dX10_firstReady_1 : decode cX10_firstReady 1 = .ok (.istore_n 2, 1) := by decide +kernel
theorem dX10_firstReady_2 : decode cX10_firstReady 2 = .ok (.iconst 0, 1) := by decide +kernel
theorem dX10_firstReady_3 : decode cX10_firstReady 3 = .ok (.istore_n 3, 1) := by decide +kernel
theorem dX10_firstReady_4 : decode cX10_firstReady 4 = .ok (.iload_n 3, 1) := by decide +kernel
theorem dX10_firstReady_5 : decode cX10_firstReady 5 = .ok (.aload_n 0, 1) := by decide +kernel
theorem dX10_firstReady_6 : decode cX10_firstReady 6 = .ok (.getfield 7, 3) := by decide +kernel
theorem dX10_firstReady_9 : decode cX10_firstReady 9 = .ok (.iconst 2, 1) := by decide +kernel
theorem dX10_firstReady_10 : decode cX10_firstReady 10 = .ok (.iaload, 1) := by decide +kernel
theorem dX10_firstReady_11 : decode cX10_firstReady 11 = .ok (.if_icmp .ge 52, 3) := by decide +kernel
theorem dX10_firstReady_14 : decode cX10_firstReady 14 = .ok (.aload_n 0, 1) := by decide +kernel
theorem dX10_firstReady_15 : decode cX10_firstReady 15 = .ok (.iload_n 3, 1) := by decide +kernel
theorem dX10_firstReady_16 : decode cX10_firstReady 16 = .ok (.iconst 0, 1) := by decide +kernel
theorem dX10_firstReady_17 : decode cX10_firstReady 17 = .ok (.invokevirtual 211, 3) := by decide +kernel
theorem dX10_firstReady_20 : decode cX10_firstReady 20 = .ok (.iload_n 1, 1) := by decide +kernel
theorem dX10_firstReady_21 : decode cX10_firstReady 21 = .ok (.if_icmp .ne 36, 3) := by decide +kernel
theorem dX10_firstReady_24 : decode cX10_firstReady 24 = .ok (.aload_n 0, 1) := by decide +kernel
theorem dX10_firstReady_25 : decode cX10_firstReady 25 = .ok (.iload_n 3, 1) := by decide +kernel
theorem dX10_firstReady_26 : decode cX10_firstReady 26 = .ok (.bipush 7, 2) := by decide +kernel
theorem dX10_firstReady_28 : decode cX10_firstReady 28 = .ok (.invokevirtual 211, 3) := by decide +kernel
theorem dX10_firstReady_31 : decode cX10_firstReady 31 = .ok (.iconst 1, 1) := by decide +kernel
theorem dX10_firstReady_32 : decode cX10_firstReady 32 = .ok (.if_icmp .ne 25, 3) := by decide +kernel
theorem dX10_firstReady_35 : decode cX10_firstReady 35 = .ok (.iload_n 2, 1) := by decide +kernel
theorem dX10_firstReady_36 : decode cX10_firstReady 36 = .ok (.iconst (-1), 1) := by decide +kernel
theorem dX10_firstReady_37 : decode cX10_firstReady 37 = .ok (.if_icmp .eq 18, 3) := by decide +kernel
theorem dX10_firstReady_40 : decode cX10_firstReady 40 = .ok (.aload_n 0, 1) := by decide +kernel
theorem dX10_firstReady_41 : decode cX10_firstReady 41 = .ok (.iload_n 3, 1) := by decide +kernel
theorem dX10_firstReady_42 : decode cX10_firstReady 42 = .ok (.iconst 5, 1) := by decide +kernel
theorem dX10_firstReady_43 : decode cX10_firstReady 43 = .ok (.invokevirtual 211, 3) := by decide +kernel
theorem dX10_firstReady_46 : decode cX10_firstReady 46 = .ok (.aload_n 0, 1) := by decide +kernel
theorem dX10_firstReady_47 : decode cX10_firstReady 47 = .ok (.iload_n 2, 1) := by decide +kernel
theorem dX10_firstReady_48 : decode cX10_firstReady 48 = .ok (.iconst 5, 1) := by decide +kernel
theorem dX10_firstReady_49 : decode cX10_firstReady 49 = .ok (.invokevirtual 211, 3) := by decide +kernel
theorem dX10_firstReady_52 : decode cX10_firstReady 52 = .ok (.if_icmp .ge 5, 3) := by decide +kernel
theorem dX10_firstReady_55 : decode cX10_firstReady 55 = .ok (.iload_n 3, 1) := by decide +kernel
theorem dX10_firstReady_56 : decode cX10_firstReady 56 = .ok (.istore_n 2, 1) := by decide +kernel
theorem dX10_firstReady_57 : decode cX10_firstReady 57 = .ok (.iinc 3 1, 3) := by decide +kernel
theorem dX10_firstReady_60 : decode cX10_firstReady 60 = .ok (.goto (-56), 3) := by decide +kernel
theorem dX10_firstReady_63 : decode cX10_firstReady 63 = .ok (.iload_n 2, 1) := by decide +kernel
theorem dX10_firstReady_64 : decode cX10_firstReady 64 = .ok (.ireturn, 1) := by decide +kernel
theorem dX10_assign_0 : decode cX10_assign 0 = .ok (.iconst 0, 1) := by decide +kernel
theorem dX10_assign_1 : decode cX10_assign 1 = .ok (.istore_n 2, 1) := by decide +kernel
theorem dX10_assign_2 : decode cX10_assign 2 = .ok (.iload_n 2, 1) := by decide +kernel
theorem dX10_assign_3 : decode cX10_assign 3 = .ok (.aload_n 0, 1) := by decide +kernel
theorem dX10_assign_4 : decode cX10_assign 4 = .ok (.getfield 16, 3) := by decide +kernel
theorem dX10_assign_7 : decode cX10_assign 7 = .ok (.iload_n 1, 1) := by decide +kernel
theorem dX10_assign_8 : decode cX10_assign 8 = .ok (.iaload, 1) := by decide +kernel
theorem dX10_assign_9 : decode cX10_assign 9 = .ok (.if_icmp .ge 55, 3) := by decide +kernel
theorem dX10_assign_12 : decode cX10_assign 12 = .ok (.aload_n 0, 1) := by decide +kernel
theorem dX10_assign_13 : decode cX10_assign 13 = .ok (.iload_n 1, 1) := by decide +kernel
theorem dX10_assign_14 : decode cX10_assign 14 = .ok (.bipush 9, 2) := by decide +kernel
theorem dX10_assign_16 : decode cX10_assign 16 = .ok (.iload_n 2, 1) := by decide +kernel
theorem dX10_assign_17 : decode cX10_assign 17 = .ok (.iadd, 1) := by decide +kernel
theorem dX10_assign_18 : decode cX10_assign 18 = .ok (.invokevirtual 214, 3) := by decide +kernel
theorem dX10_assign_21 : decode cX10_assign 21 = .ok (.iconst (-1), 1) := by decide +kernel
theorem dX10_assign_22 : decode cX10_assign 22 = .ok (.if_icmp .ne 11, 3) := by decide +kernel
theorem dX10_assign_25 : decode cX10_assign 25 = .ok (.aload_n 0, 1) := by decide +kernel
theorem dX10_assign_26 : decode cX10_assign 26 = .ok (.iload_n 1, 1) := by decide +kernel
theorem dX10_assign_27 : decode cX10_assign 27 = .ok (.invokevirtual 223, 3) := by decide +kernel
theorem dX10_assign_30 : decode cX10_assign 30 = .ok (.goto 4, 3) := by decide +kernel
theorem dX10_assign_33 : decode cX10_assign 33 = .ok (.iconst (-1), 1) := by decide +kernel
theorem dX10_assign_34 : decode cX10_assign 34 = .ok (.istore_n 3, 1) := by decide +kernel
theorem dX10_assign_35 : decode cX10_assign 35 = .ok (.iload_n 3, 1) := by decide +kernel
theorem dX10_assign_36 : decode cX10_assign 36 = .ok (.iconst (-1), 1) := by decide +kernel
theorem dX10_assign_37 : decode cX10_assign 37 = .ok (.if_icmp .eq 21, 3) := by decide +kernel
theorem dX10_assign_40 : decode cX10_assign 40 = .ok (.aload_n 0, 1) := by decide +kernel
theorem dX10_assign_41 : decode cX10_assign 41 = .ok (.iload_n 1, 1) := by decide +kernel
theorem dX10_assign_42 : decode cX10_assign 42 = .ok (.bipush 9, 2) := by decide +kernel
theorem dX10_assign_44 : decode cX10_assign 44 = .ok (.iload_n 2, 1) := by decide +kernel
theorem dX10_assign_45 : decode cX10_assign 45 = .ok (.iadd, 1) := by decide +kernel
theorem dX10_assign_46 : decode cX10_assign 46 = .ok (.iload_n 3, 1) := by decide +kernel
theorem dX10_assign_47 : decode cX10_assign 47 = .ok (.invokevirtual 203, 3) := by decide +kernel
theorem dX10_assign_50 : decode cX10_assign 50 = .ok (.aload_n 0, 1) := by decide +kernel
theorem dX10_assign_51 : decode cX10_assign 51 = .ok (.iload_n 3, 1) := by decide +kernel
theorem dX10_assign_52 : decode cX10_assign 52 = .ok (.bipush 7, 2) := by decide +kernel
theorem dX10_assign_54 : decode cX10_assign 54 = .ok (.iconst 2, 1) := by decide +kernel
theorem dX10_assign_55 : decode cX10_assign 55 = .ok (.invokevirtual 220, 3) := by decide +kernel
theorem dX10_assign_58 : decode cX10_assign 58 = .ok (.iinc 2 1, 3) := by decide +kernel
theorem dX10_assign_61 : decode cX10_assign 61 = .ok (.goto (-59), 3) := by decide +kernel
theorem dX10_assign_64 : decode cX10_assign 64 = .ok (.return_, 1) := by decide +kernel
theorem dX10_demanded_0 : decode cX10_demanded 0 = .ok (.iconst 0, 1) := by decide +kernel
theorem dX10_demanded_1 : decode cX10_demanded 1 = .ok (.istore_n 2, 1) := by decide +kernel
theorem dX10_demanded_2 : decode cX10_demanded 2 = .ok (.iconst 0, 1) := by decide +kernel
theorem dX10_demanded_3 : decode cX10_demanded 3 = .ok (.istore_n 3, 1) := by decide +kernel
theorem dX10_demanded_4 : decode cX10_demanded 4 = .ok (.iload_n 3, 1) := by decide +kernel
theorem dX10_demanded_5 : decode cX10_demanded 5 = .ok (.aload_n 0, 1) := by decide +kernel
theorem dX10_demanded_6 : decode cX10_demanded 6 = .ok (.getfield 16, 3) := by decide +kernel
theorem dX10_demanded_9 : decode cX10_demanded 9 = .ok (.iload_n 1, 1) := by decide +kernel
theorem dX10_demanded_10 : decode cX10_demanded 10 = .ok (.iaload, 1) := by decide +kernel
theorem dX10_demanded_11 : decode cX10_demanded 11 = .ok (.if_icmp .ge 60, 3) := by decide +kernel
theorem dX10_demanded_14 : decode cX10_demanded 14 = .ok (.aload_n 0, 1) := by decide +kernel
theorem dX10_demanded_15 : decode cX10_demanded 15 = .ok (.iload_n 1, 1) := by decide +kernel
theorem dX10_demanded_16 : decode cX10_demanded 16 = .ok (.bipush 9, 2) := by decide +kernel
theorem dX10_demanded_18 : decode cX10_demanded 18 = .ok (.iload_n 3, 1) := by decide +kernel
theorem dX10_demanded_19 : decode cX10_demanded 19 = .ok (.iadd, 1) := by decide +kernel
theorem dX10_demanded_20 : decode cX10_demanded 20 = .ok (.invokevirtual 214, 3) := by decide +kernel
theorem dX10_demanded_23 : decode cX10_demanded 23 = .ok (.istore 4, 2) := by decide +kernel
theorem dX10_demanded_25 : decode cX10_demanded 25 = .ok (.iload 4, 2) := by decide +kernel
theorem dX10_demanded_27 : decode cX10_demanded 27 = .ok (.iconst (-1), 1) := by decide +kernel
theorem dX10_demanded_28 : decode cX10_demanded 28 = .ok (.if_icmp .eq 37, 3) := by decide +kernel
theorem dX10_demanded_31 : decode cX10_demanded 31 = .ok (.iload_n 2, 1) := by decide +kernel
theorem dX10_demanded_32 : decode cX10_demanded 32 = .ok (.aload_n 0, 1) := by decide +kernel
theorem dX10_demanded_33 : decode cX10_demanded 33 = .ok (.iload 4, 2) := by decide +kernel
theorem dX10_demanded_35 : decode cX10_demanded 35 = .ok (.bipush 6, 2) := by decide +kernel
theorem dX10_demanded_37 : decode cX10_demanded 37 = .ok (.invokevirtual 211, 3) := by decide +kernel
theorem dX10_demanded_40 : decode cX10_demanded 40 = .ok (.iconst 1, 1) := by decide +kernel
theorem dX10_demanded_41 : decode cX10_demanded 41 = .ok (.aload_n 0, 1) := by decide +kernel
theorem dX10_demanded_42 : decode cX10_demanded 42 = .ok (.iload 4, 2) := by decide +kernel
theorem dX10_demanded_44 : decode cX10_demanded 44 = .ok (.iconst 5, 1) := by decide +kernel
theorem dX10_demanded_45 : decode cX10_demanded 45 = .ok (.invokevirtual 211, 3) := by decide +kernel
theorem dX10_demanded_48 : decode cX10_demanded 48 = .ok (.aload_n 0, 1) := by decide +kernel
theorem dX10_demanded_49 : decode cX10_demanded 49 = .ok (.getfield 7, 3) := by decide +kernel
theorem dX10_demanded_52 : decode cX10_demanded 52 = .ok (.iconst 0, 1) := by decide +kernel
theorem dX10_demanded_53 : decode cX10_demanded 53 = .ok (.iaload, 1) := by decide +kernel
theorem dX10_demanded_54 : decode cX10_demanded 54 = .ok (.isub, 1) := by decide +kernel
theorem dX10_demanded_55 : decode cX10_demanded 55 = .ok (.invokestatic 226, 3) := by decide +kernel
theorem dX10_demanded_58 : decode cX10_demanded 58 = .ok (.invokestatic 228, 3) := by decide +kernel
theorem dX10_demanded_61 : decode cX10_demanded 61 = .ok (.invokestatic 226, 3) := by decide +kernel
theorem dX10_demanded_64 : decode cX10_demanded 64 = .ok (.istore_n 2, 1) := by decide +kernel
theorem dX10_demanded_65 : decode cX10_demanded 65 = .ok (.iinc 3 1, 3) := by decide +kernel
theorem dX10_demanded_68 : decode cX10_demanded 68 = .ok (.goto (-64), 3) := by decide +kernel
theorem dX10_demanded_71 : decode cX10_demanded 71 = .ok (.iconst 0, 1) := by decide +kernel
theorem dX10_demanded_72 : decode cX10_demanded 72 = .ok (.istore_n 3, 1) := by decide +kernel
theorem dX10_demanded_73 : decode cX10_demanded 73 = .ok (.iload_n 3, 1) := by decide +kernel
theorem dX10_demanded_74 : decode cX10_demanded 74 = .ok (.aload_n 0, 1) := by decide +kernel
theorem dX10_demanded_75 : decode cX10_demanded 75 = .ok (.getfield 34, 3) := by decide +kernel
theorem dX10_demanded_78 : decode cX10_demanded 78 = .ok (.iload_n 1, 1) := by decide +kernel
theorem dX10_demanded_79 : decode cX10_demanded 79 = .ok (.iaload, 1) := by decide +kernel
theorem dX10_demanded_80 : decode cX10_demanded 80 = .ok (.if_icmp .ge 25, 3) := by decide +kernel
theorem dX10_demanded_83 : decode cX10_demanded 83 = .ok (.aload_n 0, 1) := by decide +kernel
theorem dX10_demanded_84 : decode cX10_demanded 84 = .ok (.getfield 37, 3) := by decide +kernel
theorem dX10_demanded_87 : decode cX10_demanded 87 = .ok (.iconst 5, 1) := by decide +kernel
theorem dX10_demanded_88 : decode cX10_demanded 88 = .ok (.iload_n 1, 1) := by decide +kernel
theorem dX10_demanded_89 : decode cX10_demanded 89 = .ok (.imul, 1) := by decide +kernel
theorem dX10_demanded_90 : decode cX10_demanded 90 = .ok (.iload_n 3, 1) := by decide +kernel
theorem dX10_demanded_91 : decode cX10_demanded 91 = .ok (.iadd, 1) := by decide +kernel
theorem dX10_demanded_92 : decode cX10_demanded 92 = .ok (.iaload, 1) := by decide +kernel
theorem dX10_demanded_93 : decode cX10_demanded 93 = .ok (.iload_n 2, 1) := by decide +kernel
theorem dX10_demanded_94 : decode cX10_demanded 94 = .ok (.if_icmp .lt 5, 3) := by decide +kernel
theorem dX10_demanded_97 : decode cX10_demanded 97 = .ok (.iload_n 3, 1) := by decide +kernel
theorem dX10_demanded_98 : decode cX10_demanded 98 = .ok (.ireturn, 1) := by decide +kernel
theorem dX10_demanded_99 : decode cX10_demanded 99 = .ok (.iinc 3 1, 3) := by decide +kernel
theorem dX10_demanded_102 : decode cX10_demanded 102 = .ok (.goto (-29), 3) := by decide +kernel
theorem dX10_demanded_105 : decode cX10_demanded 105 = .ok (.aload_n 0, 1) := by decide +kernel
theorem dX10_demanded_106 : decode cX10_demanded 106 = .ok (.getfield 34, 3) := by decide +kernel
theorem dX10_demanded_109 : decode cX10_demanded 109 = .ok (.iload_n 1, 1) := by decide +kernel
theorem dX10_demanded_110 : decode cX10_demanded 110 = .ok (.iaload, 1) := by decide +kernel
theorem dX10_demanded_111 : decode cX10_demanded 111 = .ok (.iconst 1, 1) := by decide +kernel
theorem dX10_demanded_112 : decode cX10_demanded 112 = .ok (.isub, 1) := by decide +kernel
theorem dX10_demanded_113 : decode cX10_demanded 113 = .ok (.ireturn, 1) := by decide +kernel
theorem dX10_suggested_0 : decode cX10_suggested 0 = .ok (.aload_n 0, 1) := by decide +kernel
theorem dX10_suggested_1 : decode cX10_suggested 1 = .ok (.iload_n 1, 1) := by decide +kernel
theorem dX10_suggested_2 : decode cX10_suggested 2 = .ok (.invokevirtual 217, 3) := by decide +kernel
theorem dX10_suggested_5 : decode cX10_suggested 5 = .ok (.ifCond .le 7, 3) := by decide +kernel
theorem dX10_suggested_8 : decode cX10_suggested 8 = .ok (.iconst 1, 1) := by decide +kernel
theorem dX10_suggested_9 : decode cX10_suggested 9 = .ok (.goto 4, 3) := by decide +kernel
theorem dX10_suggested_12 : decode cX10_suggested 12 = .ok (.iconst 0, 1) := by decide +kernel
theorem dX10_suggested_13 : decode cX10_suggested 13 = .ok (.istore_n 2, 1) := by decide +kernel
theorem dX10_suggested_14 : decode cX10_suggested 14 = .ok (.aload_n 0, 1) := by decide +kernel
theorem dX10_suggested_15 : decode cX10_suggested 15 = .ok (.iload_n 1, 1) := by decide +kernel
theorem dX10_suggested_16 : decode cX10_suggested 16 = .ok (.iconst 1, 1) := by decide +kernel
theorem dX10_suggested_17 : decode cX10_suggested 17 = .ok (.invokevirtual 214, 3) := by decide +kernel
theorem dX10_suggested_20 : decode cX10_suggested 20 = .ok (.tableswitch 53 0 2 #[28, 37, 39], 28) := by decide +kernel
theorem dX10_suggested_48 : decode cX10_suggested 48 = .ok (.aload_n 0, 1) := by decide +kernel
theorem dX10_suggested_49 : decode cX10_suggested 49 = .ok (.getfield 34, 3) := by decide +kernel
theorem dX10_suggested_52 : decode cX10_suggested 52 = .ok (.iload_n 1, 1) := by decide +kernel
theorem dX10_suggested_53 : decode cX10_suggested 53 = .ok (.iaload, 1) := by decide +kernel
theorem dX10_suggested_54 : decode cX10_suggested 54 = .ok (.iconst 1, 1) := by decide +kernel
theorem dX10_suggested_55 : decode cX10_suggested 55 = .ok (.isub, 1) := by decide +kernel
theorem dX10_suggested_56 : decode cX10_suggested 56 = .ok (.ireturn, 1) := by decide +kernel
theorem dX10_suggested_57 : decode cX10_suggested 57 = .ok (.iconst 0, 1) := by decide +kernel
theorem dX10_suggested_58 : decode cX10_suggested 58 = .ok (.ireturn, 1) := by decide +kernel
theorem dX10_suggested_59 : decode cX10_suggested 59 = .ok (.iload_n 2, 1) := by decide +kernel
theorem dX10_suggested_60 : decode cX10_suggested 60 = .ok (.ifCond .eq 11, 3) := by decide +kernel
theorem dX10_suggested_63 : decode cX10_suggested 63 = .ok (.aload_n 0, 1) := by decide +kernel
theorem dX10_suggested_64 : decode cX10_suggested 64 = .ok (.iload_n 1, 1) := by decide +kernel
theorem dX10_suggested_65 : decode cX10_suggested 65 = .ok (.invokevirtual 231, 3) := by decide +kernel
theorem dX10_suggested_68 : decode cX10_suggested 68 = .ok (.goto 4, 3) := by decide +kernel
theorem dX10_suggested_71 : decode cX10_suggested 71 = .ok (.iconst 0, 1) := by decide +kernel
theorem dX10_suggested_72 : decode cX10_suggested 72 = .ok (.ireturn, 1) := by decide +kernel
theorem dX10_suggested_73 : decode cX10_suggested 73 = .ok (.iload_n 2, 1) := by decide +kernel
theorem dX10_suggested_74 : decode cX10_suggested 74 = .ok (.ifCond .eq 14, 3) := by decide +kernel
theorem dX10_suggested_77 : decode cX10_suggested 77 = .ok (.aload_n 0, 1) := by decide +kernel
theorem dX10_suggested_78 : decode cX10_suggested 78 = .ok (.getfield 34, 3) := by decide +kernel
theorem dX10_suggested_81 : decode cX10_suggested 81 = .ok (.iload_n 1, 1) := by decide +kernel
theorem dX10_suggested_82 : decode cX10_suggested 82 = .ok (.iaload, 1) := by decide +kernel
theorem dX10_suggested_83 : decode cX10_suggested 83 = .ok (.iconst 1, 1) := by decide +kernel
theorem dX10_suggested_84 : decode cX10_suggested 84 = .ok (.isub, 1) := by decide +kernel
theorem dX10_suggested_85 : decode cX10_suggested 85 = .ok (.goto 4, 3) := by decide +kernel
theorem dX10_suggested_88 : decode cX10_suggested 88 = .ok (.iconst 0, 1) := by decide +kernel
theorem dX10_suggested_89 : decode cX10_suggested 89 = .ok (.ireturn, 1) := by decide +kernel
theorem dX10_powerAt_0 : decode cX10_powerAt 0 = .ok (.aload_n 0, 1) := by decide +kernel
theorem dX10_powerAt_1 : decode cX10_powerAt 1 = .ok (.iload_n 1, 1) := by decide +kernel
theorem dX10_powerAt_2 : decode cX10_powerAt 2 = .ok (.invokevirtual 217, 3) := by decide +kernel
theorem dX10_powerAt_5 : decode cX10_powerAt 5 = .ok (.istore_n 3, 1) := by decide +kernel
theorem dX10_powerAt_6 : decode cX10_powerAt 6 = .ok (.iload_n 3, 1) := by decide +kernel
theorem dX10_powerAt_7 : decode cX10_powerAt 7 = .ok (.aload_n 0, 1) := by decide +kernel
theorem dX10_powerAt_8 : decode cX10_powerAt 8 = .ok (.getfield 40, 3) := by decide +kernel
theorem dX10_powerAt_11 : decode cX10_powerAt 11 = .ok (.iconst 5, 1) := by decide +kernel
theorem dX10_powerAt_12 : decode cX10_powerAt 12 = .ok (.iload_n 1, 1) := by decide +kernel
theorem dX10_powerAt_13 : decode cX10_powerAt 13 = .ok (.imul, 1) := by decide +kernel
theorem dX10_powerAt_14 : decode cX10_powerAt 14 = .ok (.iload_n 2, 1) := by decide +kernel
theorem dX10_powerAt_15 : decode cX10_powerAt 15 = .ok (.iadd, 1) := by decide +kernel
theorem dX10_powerAt_16 : decode cX10_powerAt 16 = .ok (.iaload, 1) := by decide +kernel
theorem dX10_powerAt_17 : decode cX10_powerAt 17 = .ok (.imul, 1) := by decide +kernel
theorem dX10_powerAt_18 : decode cX10_powerAt 18 = .ok (.aload_n 0, 1) := by decide +kernel
theorem dX10_powerAt_19 : decode cX10_powerAt 19 = .ok (.getfield 16, 3) := by decide +kernel
theorem dX10_powerAt_22 : decode cX10_powerAt 22 = .ok (.iload_n 1, 1) := by decide +kernel
theorem dX10_powerAt_23 : decode cX10_powerAt 23 = .ok (.iaload, 1) := by decide +kernel
theorem dX10_powerAt_24 : decode cX10_powerAt 24 = .ok (.iload_n 3, 1) := by decide +kernel
theorem dX10_powerAt_25 : decode cX10_powerAt 25 = .ok (.isub, 1) := by decide +kernel
theorem dX10_powerAt_26 : decode cX10_powerAt 26 = .ok (.aload_n 0, 1) := by decide +kernel
theorem dX10_powerAt_27 : decode cX10_powerAt 27 = .ok (.getfield 25, 3) := by decide +kernel
theorem dX10_powerAt_30 : decode cX10_powerAt 30 = .ok (.iload_n 1, 1) := by decide +kernel
theorem dX10_powerAt_31 : decode cX10_powerAt 31 = .ok (.iaload, 1) := by decide +kernel
theorem dX10_powerAt_32 : decode cX10_powerAt 32 = .ok (.imul, 1) := by decide +kernel
theorem dX10_powerAt_33 : decode cX10_powerAt 33 = .ok (.iadd, 1) := by decide +kernel
theorem dX10_powerAt_34 : decode cX10_powerAt 34 = .ok (.ireturn, 1) := by decide +kernel
theorem dX10_heated_0 : decode cX10_heated 0 = .ok (.aload_n 0, 1) := by decide +kernel
theorem dX10_heated_1 : decode cX10_heated 1 = .ok (.iload_n 1, 1) := by decide +kernel
theorem dX10_heated_2 : decode cX10_heated 2 = .ok (.iconst 2, 1) := by decide +kernel
theorem dX10_heated_3 : decode cX10_heated 3 = .ok (.invokevirtual 214, 3) := by decide +kernel
theorem dX10_heated_6 : decode cX10_heated 6 = .ok (.i2l, 1) := by decide +kernel
theorem dX10_heated_7 : decode cX10_heated 7 = .ok (.lstore_n 3, 1) := by decide +kernel
theorem dX10_heated_8 : decode cX10_heated 8 = .ok (.aload_n 0, 1) := by decide +kernel
theorem dX10_heated_9 : decode cX10_heated 9 = .ok (.getfield 19, 3) := by decide +kernel
theorem dX10_heated_12 : decode cX10_heated 12 = .ok (.iload_n 1, 1) := by decide +kernel
theorem dX10_heated_13 : decode cX10_heated 13 = .ok (.iaload, 1) := by decide +kernel
theorem dX10_heated_14 : decode cX10_heated 14 = .ok (.i2l, 1) := by decide +kernel
theorem dX10_heated_15 : decode cX10_heated 15 = .ok (.iload_n 2, 1) := by decide +kernel
theorem dX10_heated_16 : decode cX10_heated 16 = .ok (.i2l, 1) := by decide +kernel
theorem dX10_heated_17 : decode cX10_heated 17 = .ok (.lmul, 1) := by decide +kernel
theorem dX10_heated_18 : decode cX10_heated 18 = .ok (.ldc2_w 234, 3) := by decide +kernel
theorem dX10_heated_21 : decode cX10_heated 21 = .ok (.ldiv, 1) := by decide +kernel
theorem dX10_heated_22 : decode cX10_heated 22 = .ok (.lstore 5, 2) := by decide +kernel
theorem dX10_heated_24 : decode cX10_heated 24 = .ok (.lload_n 3, 1) := by decide +kernel
theorem dX10_heated_25 : decode cX10_heated 25 = .ok (.aload_n 0, 1) := by decide +kernel
theorem dX10_heated_26 : decode cX10_heated 26 = .ok (.getfield 7, 3) := by decide +kernel
theorem dX10_heated_29 : decode cX10_heated 29 = .ok (.iconst 1, 1) := by decide +kernel
theorem dX10_heated_30 : decode cX10_heated 30 = .ok (.iaload, 1) := by decide +kernel
theorem dX10_heated_31 : decode cX10_heated 31 = .ok (.i2l, 1) := by decide +kernel
theorem dX10_heated_32 : decode cX10_heated 32 = .ok (.lsub, 1) := by decide +kernel
theorem dX10_heated_33 : decode cX10_heated 33 = .ok (.aload_n 0, 1) := by decide +kernel
theorem dX10_heated_34 : decode cX10_heated 34 = .ok (.getfield 22, 3) := by decide +kernel
theorem dX10_heated_37 : decode cX10_heated 37 = .ok (.iload_n 1, 1) := by decide +kernel
theorem dX10_heated_38 : decode cX10_heated 38 = .ok (.iaload, 1) := by decide +kernel
theorem dX10_heated_39 : decode cX10_heated 39 = .ok (.i2l, 1) := by decide +kernel
theorem dX10_heated_40 : decode cX10_heated 40 = .ok (.lmul, 1) := by decide +kernel
theorem dX10_heated_41 : decode cX10_heated 41 = .ok (.ldc2_w 236, 3) := by decide +kernel
theorem dX10_heated_44 : decode cX10_heated 44 = .ok (.ldiv, 1) := by decide +kernel
theorem dX10_heated_45 : decode cX10_heated 45 = .ok (.lstore 7, 2) := by decide +kernel
theorem dX10_heated_47 : decode cX10_heated 47 = .ok (.lload_n 3, 1) := by decide +kernel
theorem dX10_heated_48 : decode cX10_heated 48 = .ok (.lload 5, 2) := by decide +kernel
theorem dX10_heated_50 : decode cX10_heated 50 = .ok (.ladd, 1) := by decide +kernel
theorem dX10_heated_51 : decode cX10_heated 51 = .ok (.lload 7, 2) := by decide +kernel
theorem dX10_heated_53 : decode cX10_heated 53 = .ok (.lsub, 1) := by decide +kernel
theorem dX10_heated_54 : decode cX10_heated 54 = .ok (.l2i, 1) := by decide +kernel
theorem dX10_heated_55 : decode cX10_heated 55 = .ok (.ireturn, 1) := by decide +kernel
theorem dX10_chooseLevel_0 : decode cX10_chooseLevel 0 = .ok (.aload_n 0, 1) := by decide +kernel
theorem dX10_chooseLevel_1 : decode cX10_chooseLevel 1 = .ok (.iload_n 1, 1) := by decide +kernel
theorem dX10_chooseLevel_2 : decode cX10_chooseLevel 2 = .ok (.invokevirtual 238, 3) := by decide +kernel
theorem dX10_chooseLevel_5 : decode cX10_chooseLevel 5 = .ok (.istore_n 2, 1) := by decide +kernel
theorem dX10_chooseLevel_6 : decode cX10_chooseLevel 6 = .ok (.aload_n 0, 1) := by decide +kernel
theorem dX10_chooseLevel_7 : decode cX10_chooseLevel 7 = .ok (.iload_n 1, 1) := by decide +kernel
theorem dX10_chooseLevel_8 : decode cX10_chooseLevel 8 = .ok (.invokevirtual 217, 3) := by decide +kernel
theorem dX10_chooseLevel_11 : decode cX10_chooseLevel 11 = .ok (.ifCond .le 7, 3) := by decide +kernel
theorem dX10_chooseLevel_14 : decode cX10_chooseLevel 14 = .ok (.iconst 1, 1) := by decide +kernel
theorem dX10_chooseLevel_15 : decode cX10_chooseLevel 15 = .ok (.goto 4, 3) := by decide +kernel
theorem dX10_chooseLevel_18 : decode cX10_chooseLevel 18 = .ok (.iconst 0, 1) := by decide +kernel
theorem dX10_chooseLevel_19 : decode cX10_chooseLevel 19 = .ok (.istore_n 3, 1) := by decide +kernel
theorem dX10_chooseLevel_20 : decode cX10_chooseLevel 20 = .ok (.aload_n 0, 1) := by decide +kernel
theorem dX10_chooseLevel_21 : decode cX10_chooseLevel 21 = .ok (.iconst 0, 1) := by decide +kernel
theorem dX10_chooseLevel_22 : decode cX10_chooseLevel 22 = .ok (.putfield 241, 3) := by decide +kernel
theorem dX10_chooseLevel_25 : decode cX10_chooseLevel 25 = .ok (.iload_n 3, 1) := by decide +kernel
theorem dX10_chooseLevel_26 : decode cX10_chooseLevel 26 = .ok (.ifCond .eq 23, 3) := by decide +kernel
theorem dX10_chooseLevel_29 : decode cX10_chooseLevel 29 = .ok (.aload_n 0, 1) := by decide +kernel
theorem dX10_chooseLevel_30 : decode cX10_chooseLevel 30 = .ok (.iload_n 1, 1) := by decide +kernel
theorem dX10_chooseLevel_31 : decode cX10_chooseLevel 31 = .ok (.iconst 5, 1) := by decide +kernel
theorem dX10_chooseLevel_32 : decode cX10_chooseLevel 32 = .ok (.invokevirtual 214, 3) := by decide +kernel
theorem dX10_chooseLevel_35 : decode cX10_chooseLevel 35 = .ok (.ifCond .ne 14, 3) := by decide +kernel
theorem dX10_chooseLevel_38 : decode cX10_chooseLevel 38 = .ok (.iload_n 2, 1) := by decide +kernel
theorem dX10_chooseLevel_39 : decode cX10_chooseLevel 39 = .ok (.aload_n 0, 1) := by decide +kernel
theorem dX10_chooseLevel_40 : decode cX10_chooseLevel 40 = .ok (.getfield 28, 3) := by decide +kernel
theorem dX10_chooseLevel_43 : decode cX10_chooseLevel 43 = .ok (.iload_n 1, 1) := by decide +kernel
theorem dX10_chooseLevel_44 : decode cX10_chooseLevel 44 = .ok (.iaload, 1) := by decide +kernel
theorem dX10_chooseLevel_45 : decode cX10_chooseLevel 45 = .ok (.invokestatic 199, 3) := by decide +kernel
theorem dX10_chooseLevel_48 : decode cX10_chooseLevel 48 = .ok (.istore_n 2, 1) := by decide +kernel
theorem dX10_chooseLevel_49 : decode cX10_chooseLevel 49 = .ok (.iload_n 3, 1) := by decide +kernel
theorem dX10_chooseLevel_50 : decode cX10_chooseLevel 50 = .ok (.ifCond .eq 87, 3) := by decide +kernel
theorem dX10_chooseLevel_53 : decode cX10_chooseLevel 53 = .ok (.iload_n 2, 1) := by decide +kernel
theorem dX10_chooseLevel_54 : decode cX10_chooseLevel 54 = .ok (.istore 4, 2) := by decide +kernel
theorem dX10_chooseLevel_56 : decode cX10_chooseLevel 56 = .ok (.iload_n 2, 1) := by decide +kernel
theorem dX10_chooseLevel_57 : decode cX10_chooseLevel 57 = .ok (.ifCond .le 29, 3) := by decide +kernel
theorem dX10_chooseLevel_60 : decode cX10_chooseLevel 60 = .ok (.aload_n 0, 1) := by decide +kernel
theorem dX10_chooseLevel_61 : decode cX10_chooseLevel 61 = .ok (.iload_n 1, 1) := by decide +kernel
theorem dX10_chooseLevel_62 : decode cX10_chooseLevel 62 = .ok (.aload_n 0, 1) := by decide +kernel
theorem dX10_chooseLevel_63 : decode cX10_chooseLevel 63 = .ok (.iload_n 1, 1) := by decide +kernel
theorem dX10_chooseLevel_64 : decode cX10_chooseLevel 64 = .ok (.iload_n 2, 1) := by decide +kernel
theorem dX10_chooseLevel_65 : decode cX10_chooseLevel 65 = .ok (.invokevirtual 244, 3) := by decide +kernel
theorem dX10_chooseLevel_68 : decode cX10_chooseLevel 68 = .ok (.invokevirtual 247, 3) := by decide +kernel
theorem dX10_chooseLevel_71 : decode cX10_chooseLevel 71 = .ok (.aload_n 0, 1) := by decide +kernel
theorem dX10_chooseLevel_72 : decode cX10_chooseLevel 72 = .ok (.iload_n 1, 1) := by decide +kernel
theorem dX10_chooseLevel_73 : decode cX10_chooseLevel 73 = .ok (.iconst 0, 1) := by decide +kernel
theorem dX10_chooseLevel_74 : decode cX10_chooseLevel 74 = .ok (.invokevirtual 214, 3) := by decide +kernel
theorem dX10_chooseLevel_77 : decode cX10_chooseLevel 77 = .ok (.if_icmp .le 9, 3) := by decide +kernel
theorem dX10_chooseLevel_80 : decode cX10_chooseLevel 80 = .ok (.iinc 2 (-1), 3) := by decide +kernel
theorem dX10_chooseLevel_83 : decode cX10_chooseLevel 83 = .ok (.goto (-27), 3) := by decide +kernel
theorem dX10_chooseLevel_86 : decode cX10_chooseLevel 86 = .ok (.aload_n 0, 1) := by decide +kernel
theorem dX10_chooseLevel_87 : decode cX10_chooseLevel 87 = .ok (.iload_n 1, 1) := by decide +kernel
theorem dX10_chooseLevel_88 : decode cX10_chooseLevel 88 = .ok (.bipush 6, 2) := by decide +kernel
theorem dX10_chooseLevel_90 : decode cX10_chooseLevel 90 = .ok (.iload_n 2, 1) := by decide +kernel
theorem dX10_chooseLevel_91 : decode cX10_chooseLevel 91 = .ok (.iload 4, 2) := by decide +kernel
theorem dX10_chooseLevel_93 : decode cX10_chooseLevel 93 = .ok (.if_icmp .ge 7, 3) := by decide +kernel
theorem dX10_chooseLevel_96 : decode cX10_chooseLevel 96 = .ok (.iconst 1, 1) := by decide +kernel
theorem dX10_chooseLevel_97 : decode cX10_chooseLevel 97 = .ok (.goto 4, 3) := by decide +kernel
theorem dX10_chooseLevel_100 : decode cX10_chooseLevel 100 = .ok (.iconst 0, 1) := by decide +kernel
theorem dX10_chooseLevel_101 : decode cX10_chooseLevel 101 = .ok (.invokevirtual 250, 3) := by decide +kernel
theorem dX10_chooseLevel_104 : decode cX10_chooseLevel 104 = .ok (.aload_n 0, 1) := by decide +kernel
theorem dX10_chooseLevel_105 : decode cX10_chooseLevel 105 = .ok (.iload_n 2, 1) := by decide +kernel
theorem dX10_chooseLevel_106 : decode cX10_chooseLevel 106 = .ok (.ifCond .ne 27, 3) := by decide +kernel
theorem dX10_chooseLevel_109 : decode cX10_chooseLevel 109 = .ok (.aload_n 0, 1) := by decide +kernel
theorem dX10_chooseLevel_110 : decode cX10_chooseLevel 110 = .ok (.iload_n 1, 1) := by decide +kernel
theorem dX10_chooseLevel_111 : decode cX10_chooseLevel 111 = .ok (.aload_n 0, 1) := by decide +kernel
theorem dX10_chooseLevel_112 : decode cX10_chooseLevel 112 = .ok (.iload_n 1, 1) := by decide +kernel
theorem dX10_chooseLevel_113 : decode cX10_chooseLevel 113 = .ok (.iconst 0, 1) := by decide +kernel
theorem dX10_chooseLevel_114 : decode cX10_chooseLevel 114 = .ok (.invokevirtual 244, 3) := by decide +kernel
theorem dX10_chooseLevel_117 : decode cX10_chooseLevel 117 = .ok (.invokevirtual 247, 3) := by decide +kernel
theorem dX10_chooseLevel_120 : decode cX10_chooseLevel 120 = .ok (.aload_n 0, 1) := by decide +kernel
theorem dX10_chooseLevel_121 : decode cX10_chooseLevel 121 = .ok (.iload_n 1, 1) := by decide +kernel
theorem dX10_chooseLevel_122 : decode cX10_chooseLevel 122 = .ok (.iconst 0, 1) := by decide +kernel
theorem dX10_chooseLevel_123 : decode cX10_chooseLevel 123 = .ok (.invokevirtual 214, 3) := by decide +kernel
theorem dX10_chooseLevel_126 : decode cX10_chooseLevel 126 = .ok (.if_icmp .le 7, 3) := by decide +kernel
theorem dX10_chooseLevel_129 : decode cX10_chooseLevel 129 = .ok (.iconst 1, 1) := by decide +kernel
theorem dX10_chooseLevel_130 : decode cX10_chooseLevel 130 = .ok (.goto 4, 3) := by decide +kernel
theorem dX10_chooseLevel_133 : decode cX10_chooseLevel 133 = .ok (.iconst 0, 1) := by decide +kernel
theorem dX10_chooseLevel_134 : decode cX10_chooseLevel 134 = .ok (.putfield 241, 3) := by decide +kernel
theorem dX10_chooseLevel_137 : decode cX10_chooseLevel 137 = .ok (.aload_n 0, 1) := by decide +kernel
theorem dX10_chooseLevel_138 : decode cX10_chooseLevel 138 = .ok (.iload_n 1, 1) := by decide +kernel
theorem dX10_chooseLevel_139 : decode cX10_chooseLevel 139 = .ok (.iconst 3, 1) := by decide +kernel
theorem dX10_chooseLevel_140 : decode cX10_chooseLevel 140 = .ok (.aload_n 0, 1) := by decide +kernel
theorem dX10_chooseLevel_141 : decode cX10_chooseLevel 141 = .ok (.getfield 241, 3) := by decide +kernel
theorem dX10_chooseLevel_144 : decode cX10_chooseLevel 144 = .ok (.ifCond .eq 7, 3) := by decide +kernel
theorem dX10_chooseLevel_147 : decode cX10_chooseLevel 147 = .ok (.iconst 0, 1) := by decide +kernel
theorem dX10_chooseLevel_148 : decode cX10_chooseLevel 148 = .ok (.goto 4, 3) := by decide +kernel
theorem dX10_chooseLevel_151 : decode cX10_chooseLevel 151 = .ok (.iload_n 2, 1) := by decide +kernel
theorem dX10_chooseLevel_152 : decode cX10_chooseLevel 152 = .ok (.invokevirtual 203, 3) := by decide +kernel
theorem dX10_chooseLevel_155 : decode cX10_chooseLevel 155 = .ok (.return_, 1) := by decide +kernel
theorem dX10_finish_0 : decode cX10_finish 0 = .ok (.aload_n 0, 1) := by decide +kernel
theorem dX10_finish_1 : decode cX10_finish 1 = .ok (.iload_n 3, 1) := by decide +kernel
theorem dX10_finish_2 : decode cX10_finish 2 = .ok (.iconst 1, 1) := by decide +kernel
theorem dX10_finish_3 : decode cX10_finish 3 = .ok (.invokevirtual 211, 3) := by decide +kernel
theorem dX10_finish_6 : decode cX10_finish 6 = .ok (.istore 4, 2) := by decide +kernel
theorem dX10_finish_8 : decode cX10_finish 8 = .ok (.aload_n 0, 1) := by decide +kernel
theorem dX10_finish_9 : decode cX10_finish 9 = .ok (.iload_n 1, 1) := by decide +kernel
theorem dX10_finish_10 : decode cX10_finish 10 = .ok (.bipush 9, 2) := by decide +kernel
theorem dX10_finish_12 : decode cX10_finish 12 = .ok (.iload_n 2, 1) := by decide +kernel
theorem dX10_finish_13 : decode cX10_finish 13 = .ok (.iadd, 1) := by decide +kernel
theorem dX10_finish_14 : decode cX10_finish 14 = .ok (.iconst (-1), 1) := by decide +kernel
theorem dX10_finish_15 : decode cX10_finish 15 = .ok (.invokevirtual 203, 3) := by decide +kernel
theorem dX10_finish_18 : decode cX10_finish 18 = .ok (.aload_n 0, 1) := by decide +kernel
theorem dX10_finish_19 : decode cX10_finish 19 = .ok (.iload_n 3, 1) := by decide +kernel
theorem dX10_finish_20 : decode cX10_finish 20 = .ok (.bipush 6, 2) := by decide +kernel
theorem dX10_finish_22 : decode cX10_finish 22 = .ok (.iconst 0, 1) := by decide +kernel
theorem dX10_finish_23 : decode cX10_finish 23 = .ok (.invokevirtual 220, 3) := by decide +kernel
theorem dX10_finish_26 : decode cX10_finish 26 = .ok (.aload_n 0, 1) := by decide +kernel
theorem dX10_finish_27 : decode cX10_finish 27 = .ok (.iload_n 3, 1) := by decide +kernel
theorem dX10_finish_28 : decode cX10_finish 28 = .ok (.bipush 7, 2) := by decide +kernel
theorem dX10_finish_30 : decode cX10_finish 30 = .ok (.iconst 3, 1) := by decide +kernel
theorem dX10_finish_31 : decode cX10_finish 31 = .ok (.invokevirtual 220, 3) := by decide +kernel
theorem dX10_finish_34 : decode cX10_finish 34 = .ok (.aload_n 0, 1) := by decide +kernel
theorem dX10_finish_35 : decode cX10_finish 35 = .ok (.iload_n 3, 1) := by decide +kernel
theorem dX10_finish_36 : decode cX10_finish 36 = .ok (.bipush 8, 2) := by decide +kernel
theorem dX10_finish_38 : decode cX10_finish 38 = .ok (.aload_n 0, 1) := by decide +kernel
theorem dX10_finish_39 : decode cX10_finish 39 = .ok (.getfield 7, 3) := by decide +kernel
theorem dX10_finish_42 : decode cX10_finish 42 = .ok (.iconst 0, 1) := by decide +kernel
theorem dX10_finish_43 : decode cX10_finish 43 = .ok (.iaload, 1) := by decide +kernel
theorem dX10_finish_44 : decode cX10_finish 44 = .ok (.iconst 1, 1) := by decide +kernel
theorem dX10_finish_45 : decode cX10_finish 45 = .ok (.iadd, 1) := by decide +kernel
theorem dX10_finish_46 : decode cX10_finish 46 = .ok (.invokevirtual 220, 3) := by decide +kernel
theorem dX10_finish_49 : decode cX10_finish 49 = .ok (.aload_n 0, 1) := by decide +kernel
theorem dX10_finish_50 : decode cX10_finish 50 = .ok (.dup, 1) := by decide +kernel
theorem dX10_finish_51 : decode cX10_finish 51 = .ok (.getfield 253, 3) := by decide +kernel
theorem dX10_finish_54 : decode cX10_finish 54 = .ok (.iconst 1, 1) := by decide +kernel
theorem dX10_finish_55 : decode cX10_finish 55 = .ok (.iadd, 1) := by decide +kernel
theorem dX10_finish_56 : decode cX10_finish 56 = .ok (.putfield 253, 3) := by decide +kernel
theorem dX10_finish_59 : decode cX10_finish 59 = .ok (.aload_n 0, 1) := by decide +kernel
theorem dX10_finish_60 : decode cX10_finish 60 = .ok (.getfield 7, 3) := by decide +kernel
theorem dX10_finish_63 : decode cX10_finish 63 = .ok (.iconst 3, 1) := by decide +kernel
theorem dX10_finish_64 : decode cX10_finish 64 = .ok (.iload 4, 2) := by decide +kernel
theorem dX10_finish_66 : decode cX10_finish 66 = .ok (.iadd, 1) := by decide +kernel
theorem dX10_finish_67 : decode cX10_finish 67 = .ok (.iaload, 1) := by decide +kernel
theorem dX10_finish_68 : decode cX10_finish 68 = .ok (.istore 5, 2) := by decide +kernel
theorem dX10_finish_70 : decode cX10_finish 70 = .ok (.aload_n 0, 1) := by decide +kernel
theorem dX10_finish_71 : decode cX10_finish 71 = .ok (.getfield 7, 3) := by decide +kernel
theorem dX10_finish_74 : decode cX10_finish 74 = .ok (.iconst 3, 1) := by decide +kernel
theorem dX10_finish_75 : decode cX10_finish 75 = .ok (.iload 4, 2) := by decide +kernel
theorem dX10_finish_77 : decode cX10_finish 77 = .ok (.iadd, 1) := by decide +kernel
theorem dX10_finish_78 : decode cX10_finish 78 = .ok (.aload_n 0, 1) := by decide +kernel
theorem dX10_finish_79 : decode cX10_finish 79 = .ok (.getfield 7, 3) := by decide +kernel
theorem dX10_finish_82 : decode cX10_finish 82 = .ok (.bipush 11, 2) := by decide +kernel
theorem dX10_finish_84 : decode cX10_finish 84 = .ok (.iload 4, 2) := by decide +kernel
theorem dX10_finish_86 : decode cX10_finish 86 = .ok (.iadd, 1) := by decide +kernel
theorem dX10_finish_87 : decode cX10_finish 87 = .ok (.iaload, 1) := by decide +kernel
theorem dX10_finish_88 : decode cX10_finish 88 = .ok (.ifCond .ne 12, 3) := by decide +kernel
theorem dX10_finish_91 : decode cX10_finish 91 = .ok (.aload_n 0, 1) := by decide +kernel
theorem dX10_finish_92 : decode cX10_finish 92 = .ok (.iload_n 3, 1) := by decide +kernel
theorem dX10_finish_93 : decode cX10_finish 93 = .ok (.iconst 4, 1) := by decide +kernel
theorem dX10_finish_94 : decode cX10_finish 94 = .ok (.invokevirtual 211, 3) := by decide +kernel
theorem dX10_finish_97 : decode cX10_finish 97 = .ok (.goto 17, 3) := by decide +kernel
theorem dX10_finish_100 : decode cX10_finish 100 = .ok (.iload 5, 2) := by decide +kernel
theorem dX10_finish_102 : decode cX10_finish 102 = .ok (.aload_n 0, 1) := by decide +kernel
theorem dX10_finish_103 : decode cX10_finish 103 = .ok (.iload_n 3, 1) := by decide +kernel
theorem dX10_finish_104 : decode cX10_finish 104 = .ok (.iconst 4, 1) := by decide +kernel
theorem dX10_finish_105 : decode cX10_finish 105 = .ok (.invokevirtual 211, 3) := by decide +kernel
theorem dX10_finish_108 : decode cX10_finish 108 = .ok (.iload 5, 2) := by decide +kernel
theorem dX10_finish_110 : decode cX10_finish 110 = .ok (.isub, 1) := by decide +kernel
theorem dX10_finish_111 : decode cX10_finish 111 = .ok (.iconst 4, 1) := by decide +kernel
theorem dX10_finish_112 : decode cX10_finish 112 = .ok (.idiv, 1) := by decide +kernel
theorem dX10_finish_113 : decode cX10_finish 113 = .ok (.iadd, 1) := by decide +kernel
theorem dX10_finish_114 : decode cX10_finish 114 = .ok (.iastore, 1) := by decide +kernel
theorem dX10_finish_115 : decode cX10_finish 115 = .ok (.aload_n 0, 1) := by decide +kernel
theorem dX10_finish_116 : decode cX10_finish 116 = .ok (.getfield 7, 3) := by decide +kernel
theorem dX10_finish_119 : decode cX10_finish 119 = .ok (.bipush 11, 2) := by decide +kernel
theorem dX10_finish_121 : decode cX10_finish 121 = .ok (.iload 4, 2) := by decide +kernel
theorem dX10_finish_123 : decode cX10_finish 123 = .ok (.iadd, 1) := by decide +kernel
theorem dX10_finish_124 : decode cX10_finish 124 = .ok (.dup2, 1) := by decide +kernel
theorem dX10_finish_125 : decode cX10_finish 125 = .ok (.iaload, 1) := by decide +kernel
theorem dX10_finish_126 : decode cX10_finish 126 = .ok (.iconst 1, 1) := by decide +kernel
theorem dX10_finish_127 : decode cX10_finish 127 = .ok (.iadd, 1) := by decide +kernel
theorem dX10_finish_128 : decode cX10_finish 128 = .ok (.iastore, 1) := by decide +kernel
theorem dX10_finish_129 : decode cX10_finish 129 = .ok (.return_, 1) := by decide +kernel
theorem dX10_work_0 : decode cX10_work 0 = .ok (.aload_n 0, 1) := by decide +kernel
theorem dX10_work_1 : decode cX10_work 1 = .ok (.iload_n 1, 1) := by decide +kernel
theorem dX10_work_2 : decode cX10_work 2 = .ok (.iconst 3, 1) := by decide +kernel
theorem dX10_work_3 : decode cX10_work 3 = .ok (.invokevirtual 214, 3) := by decide +kernel
theorem dX10_work_6 : decode cX10_work 6 = .ok (.istore_n 2, 1) := by decide +kernel
theorem dX10_work_7 : decode cX10_work 7 = .ok (.aload_n 0, 1) := by decide +kernel
theorem dX10_work_8 : decode cX10_work 8 = .ok (.iload_n 1, 1) := by decide +kernel
theorem dX10_work_9 : decode cX10_work 9 = .ok (.invokevirtual 217, 3) := by decide +kernel
theorem dX10_work_12 : decode cX10_work 12 = .ok (.ifCond .le 7, 3) := by decide +kernel
theorem dX10_work_15 : decode cX10_work 15 = .ok (.iconst 1, 1) := by decide +kernel
theorem dX10_work_16 : decode cX10_work 16 = .ok (.goto 4, 3) := by decide +kernel
theorem dX10_work_19 : decode cX10_work 19 = .ok (.iconst 0, 1) := by decide +kernel
theorem dX10_work_20 : decode cX10_work 20 = .ok (.istore_n 3, 1) := by decide +kernel
theorem dX10_work_21 : decode cX10_work 21 = .ok (.aload_n 0, 1) := by decide +kernel
theorem dX10_work_22 : decode cX10_work 22 = .ok (.getfield 241, 3) := by decide +kernel
theorem dX10_work_25 : decode cX10_work 25 = .ok (.ifCond .eq 19, 3) := by decide +kernel
theorem dX10_work_28 : decode cX10_work 28 = .ok (.aload_n 0, 1) := by decide +kernel
theorem dX10_work_29 : decode cX10_work 29 = .ok (.getfield 16, 3) := by decide +kernel
theorem dX10_work_32 : decode cX10_work 32 = .ok (.iload_n 1, 1) := by decide +kernel
theorem dX10_work_33 : decode cX10_work 33 = .ok (.iaload, 1) := by decide +kernel
theorem dX10_work_34 : decode cX10_work 34 = .ok (.aload_n 0, 1) := by decide +kernel
theorem dX10_work_35 : decode cX10_work 35 = .ok (.getfield 25, 3) := by decide +kernel
theorem dX10_work_38 : decode cX10_work 38 = .ok (.iload_n 1, 1) := by decide +kernel
theorem dX10_work_39 : decode cX10_work 39 = .ok (.iaload, 1) := by decide +kernel
theorem dX10_work_40 : decode cX10_work 40 = .ok (.imul, 1) := by decide +kernel
theorem dX10_work_41 : decode cX10_work 41 = .ok (.goto 9, 3) := by decide +kernel
theorem dX10_work_44 : decode cX10_work 44 = .ok (.aload_n 0, 1) := by decide +kernel
theorem dX10_work_45 : decode cX10_work 45 = .ok (.iload_n 1, 1) := by decide +kernel
theorem dX10_work_46 : decode cX10_work 46 = .ok (.iload_n 2, 1) := by decide +kernel
theorem dX10_work_47 : decode cX10_work 47 = .ok (.invokevirtual 244, 3) := by decide +kernel
theorem dX10_work_50 : decode cX10_work 50 = .ok (.istore 4, 2) := by decide +kernel
theorem dX10_work_52 : decode cX10_work 52 = .ok (.iconst 0, 1) := by decide +kernel
theorem dX10_work_53 : decode cX10_work 53 = .ok (.istore 5, 2) := by decide +kernel
theorem dX10_work_55 : decode cX10_work 55 = .ok (.iload 5, 2) := by decide +kernel
theorem dX10_work_57 : decode cX10_work 57 = .ok (.aload_n 0, 1) := by decide +kernel
theorem dX10_work_58 : decode cX10_work 58 = .ok (.getfield 16, 3) := by decide +kernel
theorem dX10_work_61 : decode cX10_work 61 = .ok (.iload_n 1, 1) := by decide +kernel
theorem dX10_work_62 : decode cX10_work 62 = .ok (.iaload, 1) := by decide +kernel
theorem dX10_work_63 : decode cX10_work 63 = .ok (.if_icmp .ge 81, 3) := by decide +kernel
theorem dX10_work_66 : decode cX10_work 66 = .ok (.aload_n 0, 1) := by decide +kernel
theorem dX10_work_67 : decode cX10_work 67 = .ok (.getfield 241, 3) := by decide +kernel
theorem dX10_work_70 : decode cX10_work 70 = .ok (.ifCond .ne 74, 3) := by decide +kernel
theorem dX10_work_73 : decode cX10_work 73 = .ok (.aload_n 0, 1) := by decide +kernel
theorem dX10_work_74 : decode cX10_work 74 = .ok (.iload_n 1, 1) := by decide +kernel
theorem dX10_work_75 : decode cX10_work 75 = .ok (.bipush 9, 2) := by decide +kernel
theorem dX10_work_77 : decode cX10_work 77 = .ok (.iload 5, 2) := by decide +kernel
theorem dX10_work_79 : decode cX10_work 79 = .ok (.iadd, 1) := by decide +kernel
theorem dX10_work_80 : decode cX10_work 80 = .ok (.invokevirtual 214, 3) := by decide +kernel
theorem dX10_work_83 : decode cX10_work 83 = .ok (.istore 6, 2) := by decide +kernel
theorem dX10_work_85 : decode cX10_work 85 = .ok (.iload 6, 2) := by decide +kernel
theorem dX10_work_87 : decode cX10_work 87 = .ok (.iconst (-1), 1) := by decide +kernel
theorem dX10_work_88 : decode cX10_work 88 = .ok (.if_icmp .eq 50, 3) := by decide +kernel
theorem dX10_work_91 : decode cX10_work 91 = .ok (.aload_n 0, 1) := by decide +kernel
theorem dX10_work_92 : decode cX10_work 92 = .ok (.iload 6, 2) := by decide +kernel
theorem dX10_work_94 : decode cX10_work 94 = .ok (.bipush 6, 2) := by decide +kernel
theorem dX10_work_96 : decode cX10_work 96 = .ok (.aload_n 0, 1) := by decide +kernel
theorem dX10_work_97 : decode cX10_work 97 = .ok (.iload 6, 2) := by decide +kernel
theorem dX10_work_99 : decode cX10_work 99 = .ok (.bipush 6, 2) := by decide +kernel
theorem dX10_work_101 : decode cX10_work 101 = .ok (.invokevirtual 211, 3) := by decide +kernel
theorem dX10_work_104 : decode cX10_work 104 = .ok (.aload_n 0, 1) := by decide +kernel
theorem dX10_work_105 : decode cX10_work 105 = .ok (.getfield 37, 3) := by decide +kernel
theorem dX10_work_108 : decode cX10_work 108 = .ok (.iconst 5, 1) := by decide +kernel
theorem dX10_work_109 : decode cX10_work 109 = .ok (.iload_n 1, 1) := by decide +kernel
theorem dX10_work_110 : decode cX10_work 110 = .ok (.imul, 1) := by decide +kernel
theorem dX10_work_111 : decode cX10_work 111 = .ok (.iload_n 2, 1) := by decide +kernel
theorem dX10_work_112 : decode cX10_work 112 = .ok (.iadd, 1) := by decide +kernel
theorem dX10_work_113 : decode cX10_work 113 = .ok (.iaload, 1) := by decide +kernel
theorem dX10_work_114 : decode cX10_work 114 = .ok (.isub, 1) := by decide +kernel
theorem dX10_work_115 : decode cX10_work 115 = .ok (.invokevirtual 220, 3) := by decide +kernel
theorem dX10_work_118 : decode cX10_work 118 = .ok (.aload_n 0, 1) := by decide +kernel
theorem dX10_work_119 : decode cX10_work 119 = .ok (.iload 6, 2) := by decide +kernel
theorem dX10_work_121 : decode cX10_work 121 = .ok (.bipush 6, 2) := by decide +kernel
theorem dX10_work_123 : decode cX10_work 123 = .ok (.invokevirtual 211, 3) := by decide +kernel
theorem dX10_work_126 : decode cX10_work 126 = .ok (.ifCond .gt 12, 3) := by decide +kernel
theorem dX10_work_129 : decode cX10_work 129 = .ok (.aload_n 0, 1) := by decide +kernel
theorem dX10_work_130 : decode cX10_work 130 = .ok (.iload_n 1, 1) := by decide +kernel
theorem dX10_work_131 : decode cX10_work 131 = .ok (.iload 5, 2) := by decide +kernel
theorem dX10_work_133 : decode cX10_work 133 = .ok (.iload 6, 2) := by decide +kernel
theorem dX10_work_135 : decode cX10_work 135 = .ok (.invokevirtual 256, 3) := by decide +kernel
theorem dX10_work_138 : decode cX10_work 138 = .ok (.iinc 5 1, 3) := by decide +kernel
theorem dX10_work_141 : decode cX10_work 141 = .ok (.goto (-86), 3) := by decide +kernel
theorem dX10_work_144 : decode cX10_work 144 = .ok (.aload_n 0, 1) := by decide +kernel
theorem dX10_work_145 : decode cX10_work 145 = .ok (.iload_n 1, 1) := by decide +kernel
theorem dX10_work_146 : decode cX10_work 146 = .ok (.iconst 4, 1) := by decide +kernel
theorem dX10_work_147 : decode cX10_work 147 = .ok (.iload 4, 2) := by decide +kernel
theorem dX10_work_149 : decode cX10_work 149 = .ok (.invokevirtual 250, 3) := by decide +kernel
theorem dX10_work_152 : decode cX10_work 152 = .ok (.aload_n 0, 1) := by decide +kernel
theorem dX10_work_153 : decode cX10_work 153 = .ok (.iload_n 1, 1) := by decide +kernel
theorem dX10_work_154 : decode cX10_work 154 = .ok (.bipush 7, 2) := by decide +kernel
theorem dX10_work_156 : decode cX10_work 156 = .ok (.aload_n 0, 1) := by decide +kernel
theorem dX10_work_157 : decode cX10_work 157 = .ok (.getfield 241, 3) := by decide +kernel
theorem dX10_work_160 : decode cX10_work 160 = .ok (.ifCond .eq 7, 3) := by decide +kernel
theorem dX10_work_163 : decode cX10_work 163 = .ok (.iconst 1, 1) := by decide +kernel
theorem dX10_work_164 : decode cX10_work 164 = .ok (.goto 4, 3) := by decide +kernel
theorem dX10_work_167 : decode cX10_work 167 = .ok (.iconst 0, 1) := by decide +kernel
theorem dX10_work_168 : decode cX10_work 168 = .ok (.invokevirtual 250, 3) := by decide +kernel
theorem dX10_work_171 : decode cX10_work 171 = .ok (.iload_n 3, 1) := by decide +kernel
theorem dX10_work_172 : decode cX10_work 172 = .ok (.ifCond .eq 24, 3) := by decide +kernel
theorem dX10_work_175 : decode cX10_work 175 = .ok (.aload_n 0, 1) := by decide +kernel
theorem dX10_work_176 : decode cX10_work 176 = .ok (.getfield 241, 3) := by decide +kernel
theorem dX10_work_179 : decode cX10_work 179 = .ok (.ifCond .ne 17, 3) := by decide +kernel
theorem dX10_work_182 : decode cX10_work 182 = .ok (.iload_n 2, 1) := by decide +kernel
theorem dX10_work_183 : decode cX10_work 183 = .ok (.aload_n 0, 1) := by decide +kernel
theorem dX10_work_184 : decode cX10_work 184 = .ok (.getfield 28, 3) := by decide +kernel
theorem dX10_work_187 : decode cX10_work 187 = .ok (.iload_n 1, 1) := by decide +kernel
theorem dX10_work_188 : decode cX10_work 188 = .ok (.iaload, 1) := by decide +kernel
theorem dX10_work_189 : decode cX10_work 189 = .ok (.if_icmp .le 7, 3) := by decide +kernel
theorem dX10_work_192 : decode cX10_work 192 = .ok (.iconst 1, 1) := by decide +kernel
theorem dX10_work_193 : decode cX10_work 193 = .ok (.goto 4, 3) := by decide +kernel
theorem dX10_work_196 : decode cX10_work 196 = .ok (.iconst 0, 1) := by decide +kernel
theorem dX10_work_197 : decode cX10_work 197 = .ok (.istore 5, 2) := by decide +kernel
theorem dX10_work_199 : decode cX10_work 199 = .ok (.aload_n 0, 1) := by decide +kernel
theorem dX10_work_200 : decode cX10_work 200 = .ok (.iload_n 1, 1) := by decide +kernel
theorem dX10_work_201 : decode cX10_work 201 = .ok (.iconst 5, 1) := by decide +kernel
theorem dX10_work_202 : decode cX10_work 202 = .ok (.iload 5, 2) := by decide +kernel
theorem dX10_work_204 : decode cX10_work 204 = .ok (.ifCond .eq 14, 3) := by decide +kernel
theorem dX10_work_207 : decode cX10_work 207 = .ok (.aload_n 0, 1) := by decide +kernel
theorem dX10_work_208 : decode cX10_work 208 = .ok (.iload_n 1, 1) := by decide +kernel
theorem dX10_work_209 : decode cX10_work 209 = .ok (.iconst 5, 1) := by decide +kernel
theorem dX10_work_210 : decode cX10_work 210 = .ok (.invokevirtual 214, 3) := by decide +kernel
theorem dX10_work_213 : decode cX10_work 213 = .ok (.iconst 1, 1) := by decide +kernel
theorem dX10_work_214 : decode cX10_work 214 = .ok (.isub, 1) := by decide +kernel
theorem dX10_work_215 : decode cX10_work 215 = .ok (.goto 20, 3) := by decide +kernel
theorem dX10_work_218 : decode cX10_work 218 = .ok (.aload_n 0, 1) := by decide +kernel
theorem dX10_work_219 : decode cX10_work 219 = .ok (.getfield 31, 3) := by decide +kernel
theorem dX10_work_222 : decode cX10_work 222 = .ok (.iload_n 1, 1) := by decide +kernel
theorem dX10_work_223 : decode cX10_work 223 = .ok (.iaload, 1) := by decide +kernel
theorem dX10_work_224 : decode cX10_work 224 = .ok (.aload_n 0, 1) := by decide +kernel
theorem dX10_work_225 : decode cX10_work 225 = .ok (.iload_n 1, 1) := by decide +kernel
theorem dX10_work_226 : decode cX10_work 226 = .ok (.iconst 5, 1) := by decide +kernel
theorem dX10_work_227 : decode cX10_work 227 = .ok (.invokevirtual 214, 3) := by decide +kernel
theorem dX10_work_230 : decode cX10_work 230 = .ok (.iconst 1, 1) := by decide +kernel
theorem dX10_work_231 : decode cX10_work 231 = .ok (.iadd, 1) := by decide +kernel
theorem dX10_work_232 : decode cX10_work 232 = .ok (.invokestatic 199, 3) := by decide +kernel
theorem dX10_work_235 : decode cX10_work 235 = .ok (.invokevirtual 203, 3) := by decide +kernel
theorem dX10_work_238 : decode cX10_work 238 = .ok (.aload_n 0, 1) := by decide +kernel
theorem dX10_work_239 : decode cX10_work 239 = .ok (.iload_n 1, 1) := by decide +kernel
theorem dX10_work_240 : decode cX10_work 240 = .ok (.iload 4, 2) := by decide +kernel
theorem dX10_work_242 : decode cX10_work 242 = .ok (.invokevirtual 247, 3) := by decide +kernel
theorem dX10_work_245 : decode cX10_work 245 = .ok (.istore 6, 2) := by decide +kernel
theorem dX10_work_247 : decode cX10_work 247 = .ok (.aload_n 0, 1) := by decide +kernel
theorem dX10_work_248 : decode cX10_work 248 = .ok (.iload_n 1, 1) := by decide +kernel
theorem dX10_work_249 : decode cX10_work 249 = .ok (.iconst 2, 1) := by decide +kernel
theorem dX10_work_250 : decode cX10_work 250 = .ok (.iload 6, 2) := by decide +kernel
theorem dX10_work_252 : decode cX10_work 252 = .ok (.invokevirtual 203, 3) := by decide +kernel
theorem dX10_work_255 : decode cX10_work 255 = .ok (.iload_n 1, 1) := by decide +kernel
theorem dX10_work_256 : decode cX10_work 256 = .ok (.aload_n 0, 1) := by decide +kernel
theorem dX10_work_257 : decode cX10_work 257 = .ok (.getfield 59, 3) := by decide +kernel
theorem dX10_work_260 : decode cX10_work 260 = .ok (.if_icmp .ne 20, 3) := by decide +kernel
theorem dX10_work_263 : decode cX10_work 263 = .ok (.iload_n 3, 1) := by decide +kernel
theorem dX10_work_264 : decode cX10_work 264 = .ok (.ifCond .eq 16, 3) := by decide +kernel
theorem dX10_work_267 : decode cX10_work 267 = .ok (.aload_n 0, 1) := by decide +kernel
theorem dX10_work_268 : decode cX10_work 268 = .ok (.aload_n 0, 1) := by decide +kernel
theorem dX10_work_269 : decode cX10_work 269 = .ok (.getfield 259, 3) := by decide +kernel
theorem dX10_work_272 : decode cX10_work 272 = .ok (.iload 6, 2) := by decide +kernel
theorem dX10_work_274 : decode cX10_work 274 = .ok (.invokestatic 226, 3) := by decide +kernel
theorem dX10_work_277 : decode cX10_work 277 = .ok (.putfield 259, 3) := by decide +kernel
theorem dX10_work_280 : decode cX10_work 280 = .ok (.return_, 1) := by decide +kernel
theorem dX10_tickOnce_0 : decode cX10_tickOnce 0 = .ok (.iconst 0, 1) := by decide +kernel
theorem dX10_tickOnce_1 : decode cX10_tickOnce 1 = .ok (.istore_n 1, 1) := by decide +kernel
theorem dX10_tickOnce_2 : decode cX10_tickOnce 2 = .ok (.iload_n 1, 1) := by decide +kernel
theorem dX10_tickOnce_3 : decode cX10_tickOnce 3 = .ok (.aload_n 0, 1) := by decide +kernel
theorem dX10_tickOnce_4 : decode cX10_tickOnce 4 = .ok (.getfield 193, 3) := by decide +kernel
theorem dX10_tickOnce_7 : decode cX10_tickOnce 7 = .ok (.if_icmp .ge 67, 3) := by decide +kernel
theorem dX10_tickOnce_10 : decode cX10_tickOnce 10 = .ok (.aload_n 0, 1) := by decide +kernel
theorem dX10_tickOnce_11 : decode cX10_tickOnce 11 = .ok (.iload_n 1, 1) := by decide +kernel
theorem dX10_tickOnce_12 : decode cX10_tickOnce 12 = .ok (.invokevirtual 217, 3) := by decide +kernel
theorem dX10_tickOnce_15 : decode cX10_tickOnce 15 = .ok (.ifCond .le 7, 3) := by decide +kernel
theorem dX10_tickOnce_18 : decode cX10_tickOnce 18 = .ok (.iconst 1, 1) := by decide +kernel
theorem dX10_tickOnce_19 : decode cX10_tickOnce 19 = .ok (.goto 4, 3) := by decide +kernel
theorem dX10_tickOnce_22 : decode cX10_tickOnce 22 = .ok (.iconst 0, 1) := by decide +kernel
theorem dX10_tickOnce_23 : decode cX10_tickOnce 23 = .ok (.istore_n 2, 1) := by decide +kernel
theorem dX10_tickOnce_24 : decode cX10_tickOnce 24 = .ok (.aload_n 0, 1) := by decide +kernel
theorem dX10_tickOnce_25 : decode cX10_tickOnce 25 = .ok (.iload_n 1, 1) := by decide +kernel
theorem dX10_tickOnce_26 : decode cX10_tickOnce 26 = .ok (.invokevirtual 262, 3) := by decide +kernel
theorem dX10_tickOnce_29 : decode cX10_tickOnce 29 = .ok (.aload_n 0, 1) := by decide +kernel
theorem dX10_tickOnce_30 : decode cX10_tickOnce 30 = .ok (.iload_n 1, 1) := by decide +kernel
theorem dX10_tickOnce_31 : decode cX10_tickOnce 31 = .ok (.invokevirtual 265, 3) := by decide +kernel
theorem dX10_tickOnce_34 : decode cX10_tickOnce 34 = .ok (.aload_n 0, 1) := by decide +kernel
theorem dX10_tickOnce_35 : decode cX10_tickOnce 35 = .ok (.iload_n 1, 1) := by decide +kernel
theorem dX10_tickOnce_36 : decode cX10_tickOnce 36 = .ok (.bipush 8, 2) := by decide +kernel
theorem dX10_tickOnce_38 : decode cX10_tickOnce 38 = .ok (.iload_n 2, 1) := by decide +kernel
theorem dX10_tickOnce_39 : decode cX10_tickOnce 39 = .ok (.ifCond .ne 15, 3) := by decide +kernel
theorem dX10_tickOnce_42 : decode cX10_tickOnce 42 = .ok (.aload_n 0, 1) := by decide +kernel
theorem dX10_tickOnce_43 : decode cX10_tickOnce 43 = .ok (.iload_n 1, 1) := by decide +kernel
theorem dX10_tickOnce_44 : decode cX10_tickOnce 44 = .ok (.invokevirtual 217, 3) := by decide +kernel
theorem dX10_tickOnce_47 : decode cX10_tickOnce 47 = .ok (.ifCond .le 7, 3) := by decide +kernel
theorem dX10_tickOnce_50 : decode cX10_tickOnce 50 = .ok (.iconst 1, 1) := by decide +kernel
theorem dX10_tickOnce_51 : decode cX10_tickOnce 51 = .ok (.goto 4, 3) := by decide +kernel
theorem dX10_tickOnce_54 : decode cX10_tickOnce 54 = .ok (.iconst 0, 1) := by decide +kernel
theorem dX10_tickOnce_55 : decode cX10_tickOnce 55 = .ok (.invokevirtual 250, 3) := by decide +kernel
theorem dX10_tickOnce_58 : decode cX10_tickOnce 58 = .ok (.aload_n 0, 1) := by decide +kernel
theorem dX10_tickOnce_59 : decode cX10_tickOnce 59 = .ok (.iload_n 1, 1) := by decide +kernel
theorem dX10_tickOnce_60 : decode cX10_tickOnce 60 = .ok (.invokevirtual 268, 3) := by decide +kernel
theorem dX10_tickOnce_63 : decode cX10_tickOnce 63 = .ok (.aload_n 0, 1) := by decide +kernel
theorem dX10_tickOnce_64 : decode cX10_tickOnce 64 = .ok (.iload_n 1, 1) := by decide +kernel
theorem dX10_tickOnce_65 : decode cX10_tickOnce 65 = .ok (.invokevirtual 271, 3) := by decide +kernel
theorem dX10_tickOnce_68 : decode cX10_tickOnce 68 = .ok (.iinc 1 1, 3) := by decide +kernel
theorem dX10_tickOnce_71 : decode cX10_tickOnce 71 = .ok (.goto (-69), 3) := by decide +kernel
theorem dX10_tickOnce_74 : decode cX10_tickOnce 74 = .ok (.aload_n 0, 1) := by decide +kernel
theorem dX10_tickOnce_75 : decode cX10_tickOnce 75 = .ok (.getfield 7, 3) := by decide +kernel
theorem dX10_tickOnce_78 : decode cX10_tickOnce 78 = .ok (.iconst 0, 1) := by decide +kernel
theorem dX10_tickOnce_79 : decode cX10_tickOnce 79 = .ok (.dup2, 1) := by decide +kernel
theorem dX10_tickOnce_80 : decode cX10_tickOnce 80 = .ok (.iaload, 1) := by decide +kernel
theorem dX10_tickOnce_81 : decode cX10_tickOnce 81 = .ok (.iconst 1, 1) := by decide +kernel
theorem dX10_tickOnce_82 : decode cX10_tickOnce 82 = .ok (.iadd, 1) := by decide +kernel
theorem dX10_tickOnce_83 : decode cX10_tickOnce 83 = .ok (.iastore, 1) := by decide +kernel
theorem dX10_tickOnce_84 : decode cX10_tickOnce 84 = .ok (.return_, 1) := by decide +kernel
theorem dX10_addJob_0 : decode cX10_addJob 0 = .ok (.aload_n 0, 1) := by decide +kernel
theorem dX10_addJob_1 : decode cX10_addJob 1 = .ok (.aload_n 0, 1) := by decide +kernel
theorem dX10_addJob_2 : decode cX10_addJob 2 = .ok (.iload_n 1, 1) := by decide +kernel
theorem dX10_addJob_3 : decode cX10_addJob 3 = .ok (.invokevirtual 274, 3) := by decide +kernel
theorem dX10_addJob_6 : decode cX10_addJob 6 = .ok (.ifCond .eq 70, 3) := by decide +kernel
theorem dX10_addJob_9 : decode cX10_addJob 9 = .ok (.iload_n 2, 1) := by decide +kernel
theorem dX10_addJob_10 : decode cX10_addJob 10 = .ok (.i2l, 1) := by decide +kernel
theorem dX10_addJob_11 : decode cX10_addJob 11 = .ok (.lconst 0, 1) := by decide +kernel
theorem dX10_addJob_12 : decode cX10_addJob 12 = .ok (.ldc2_w 277, 3) := by decide +kernel
theorem dX10_addJob_15 : decode cX10_addJob 15 = .ok (.invokestatic 88, 3) := by decide +kernel
theorem dX10_addJob_18 : decode cX10_addJob 18 = .ok (.ifCond .eq 58, 3) := by decide +kernel
theorem dX10_addJob_21 : decode cX10_addJob 21 = .ok (.iload_n 3, 1) := by decide +kernel
theorem dX10_addJob_22 : decode cX10_addJob 22 = .ok (.i2l, 1) := by decide +kernel
theorem dX10_addJob_23 : decode cX10_addJob 23 = .ok (.lconst 0, 1) := by decide +kernel
theorem dX10_addJob_24 : decode cX10_addJob 24 = .ok (.ldc2_w 279, 3) := by decide +kernel
theorem dX10_addJob_27 : decode cX10_addJob 27 = .ok (.invokestatic 88, 3) := by decide +kernel
theorem dX10_addJob_30 : decode cX10_addJob 30 = .ok (.ifCond .eq 46, 3) := by decide +kernel
theorem dX10_addJob_33 : decode cX10_addJob 33 = .ok (.iload 4, 2) := by decide +kernel
theorem dX10_addJob_35 : decode cX10_addJob 35 = .ok (.i2l, 1) := by decide +kernel
theorem dX10_addJob_36 : decode cX10_addJob 36 = .ok (.lconst 0, 1) := by decide +kernel
theorem dX10_addJob_37 : decode cX10_addJob 37 = .ok (.ldc2_w 279, 3) := by decide +kernel
theorem dX10_addJob_40 : decode cX10_addJob 40 = .ok (.invokestatic 88, 3) := by decide +kernel
theorem dX10_addJob_43 : decode cX10_addJob 43 = .ok (.ifCond .eq 33, 3) := by decide +kernel
theorem dX10_addJob_46 : decode cX10_addJob 46 = .ok (.iload 5, 2) := by decide +kernel
theorem dX10_addJob_48 : decode cX10_addJob 48 = .ok (.i2l, 1) := by decide +kernel
theorem dX10_addJob_49 : decode cX10_addJob 49 = .ok (.lconst 1, 1) := by decide +kernel
theorem dX10_addJob_50 : decode cX10_addJob 50 = .ok (.ldc2_w 281, 3) := by decide +kernel
theorem dX10_addJob_53 : decode cX10_addJob 53 = .ok (.invokestatic 88, 3) := by decide +kernel
theorem dX10_addJob_56 : decode cX10_addJob 56 = .ok (.ifCond .eq 20, 3) := by decide +kernel
theorem dX10_addJob_59 : decode cX10_addJob 59 = .ok (.iload 6, 2) := by decide +kernel
theorem dX10_addJob_61 : decode cX10_addJob 61 = .ok (.i2l, 1) := by decide +kernel
theorem dX10_addJob_62 : decode cX10_addJob 62 = .ok (.lconst 1, 1) := by decide +kernel
theorem dX10_addJob_63 : decode cX10_addJob 63 = .ok (.ldc2_w 281, 3) := by decide +kernel
theorem dX10_addJob_66 : decode cX10_addJob 66 = .ok (.invokestatic 88, 3) := by decide +kernel
theorem dX10_addJob_69 : decode cX10_addJob 69 = .ok (.ifCond .eq 7, 3) := by decide +kernel
theorem dX10_addJob_72 : decode cX10_addJob 72 = .ok (.iconst 1, 1) := by decide +kernel
theorem dX10_addJob_73 : decode cX10_addJob 73 = .ok (.goto 4, 3) := by decide +kernel
theorem dX10_addJob_76 : decode cX10_addJob 76 = .ok (.iconst 0, 1) := by decide +kernel
theorem dX10_addJob_77 : decode cX10_addJob 77 = .ok (.invokevirtual 207, 3) := by decide +kernel
theorem dX10_addJob_80 : decode cX10_addJob 80 = .ok (.ifCond .eq 5, 3) := by decide +kernel
theorem dX10_addJob_83 : decode cX10_addJob 83 = .ok (.iconst 0, 1) := by decide +kernel
theorem dX10_addJob_84 : decode cX10_addJob 84 = .ok (.ireturn, 1) := by decide +kernel
theorem dX10_addJob_85 : decode cX10_addJob 85 = .ok (.aload_n 0, 1) := by decide +kernel
theorem dX10_addJob_86 : decode cX10_addJob 86 = .ok (.getfield 7, 3) := by decide +kernel
theorem dX10_addJob_89 : decode cX10_addJob 89 = .ok (.iconst 2, 1) := by decide +kernel
theorem dX10_addJob_90 : decode cX10_addJob 90 = .ok (.iaload, 1) := by decide +kernel
theorem dX10_addJob_91 : decode cX10_addJob 91 = .ok (.bipush 24, 2) := by decide +kernel
theorem dX10_addJob_93 : decode cX10_addJob 93 = .ok (.if_icmp .ne 6, 3) := by decide +kernel
theorem dX10_addJob_96 : decode cX10_addJob 96 = .ok (.bipush (-2), 2) := by decide +kernel
theorem dX10_addJob_98 : decode cX10_addJob 98 = .ok (.ireturn, 1) := by decide +kernel
theorem dX10_addJob_99 : decode cX10_addJob 99 = .ok (.aload_n 0, 1) := by decide +kernel
theorem dX10_addJob_100 : decode cX10_addJob 100 = .ok (.invokevirtual 283, 3) := by decide +kernel
theorem dX10_addJob_103 : decode cX10_addJob 103 = .ok (.aload_n 0, 1) := by decide +kernel
theorem dX10_addJob_104 : decode cX10_addJob 104 = .ok (.getfield 7, 3) := by decide +kernel
theorem dX10_addJob_107 : decode cX10_addJob 107 = .ok (.iconst 2, 1) := by decide +kernel
theorem dX10_addJob_108 : decode cX10_addJob 108 = .ok (.iaload, 1) := by decide +kernel
theorem dX10_addJob_109 : decode cX10_addJob 109 = .ok (.istore 7, 2) := by decide +kernel
theorem dX10_addJob_111 : decode cX10_addJob 111 = .ok (.aload_n 0, 1) := by decide +kernel
theorem dX10_addJob_112 : decode cX10_addJob 112 = .ok (.getfield 7, 3) := by decide +kernel
theorem dX10_addJob_115 : decode cX10_addJob 115 = .ok (.iconst 2, 1) := by decide +kernel
theorem dX10_addJob_116 : decode cX10_addJob 116 = .ok (.dup2, 1) := by decide +kernel
theorem dX10_addJob_117 : decode cX10_addJob 117 = .ok (.iaload, 1) := by decide +kernel
theorem dX10_addJob_118 : decode cX10_addJob 118 = .ok (.iconst 1, 1) := by decide +kernel
theorem dX10_addJob_119 : decode cX10_addJob 119 = .ok (.iadd, 1) := by decide +kernel
theorem dX10_addJob_120 : decode cX10_addJob 120 = .ok (.iastore, 1) := by decide +kernel
theorem dX10_addJob_121 : decode cX10_addJob 121 = .ok (.aload_n 0, 1) := by decide +kernel
theorem dX10_addJob_122 : decode cX10_addJob 122 = .ok (.iload 7, 2) := by decide +kernel
theorem dX10_addJob_124 : decode cX10_addJob 124 = .ok (.iconst 0, 1) := by decide +kernel
theorem dX10_addJob_125 : decode cX10_addJob 125 = .ok (.iload_n 1, 1) := by decide +kernel
theorem dX10_addJob_126 : decode cX10_addJob 126 = .ok (.invokevirtual 220, 3) := by decide +kernel
theorem dX10_addJob_129 : decode cX10_addJob 129 = .ok (.aload_n 0, 1) := by decide +kernel
theorem dX10_addJob_130 : decode cX10_addJob 130 = .ok (.iload 7, 2) := by decide +kernel
theorem dX10_addJob_132 : decode cX10_addJob 132 = .ok (.iconst 1, 1) := by decide +kernel
theorem dX10_addJob_133 : decode cX10_addJob 133 = .ok (.iload_n 2, 1) := by decide +kernel
theorem dX10_addJob_134 : decode cX10_addJob 134 = .ok (.invokevirtual 220, 3) := by decide +kernel
theorem dX10_addJob_137 : decode cX10_addJob 137 = .ok (.aload_n 0, 1) := by decide +kernel
theorem dX10_addJob_138 : decode cX10_addJob 138 = .ok (.iload 7, 2) := by decide +kernel
theorem dX10_addJob_140 : decode cX10_addJob 140 = .ok (.iconst 2, 1) := by decide +kernel
theorem dX10_addJob_141 : decode cX10_addJob 141 = .ok (.aload_n 0, 1) := by decide +kernel
theorem dX10_addJob_142 : decode cX10_addJob 142 = .ok (.getfield 7, 3) := by decide +kernel
theorem dX10_addJob_145 : decode cX10_addJob 145 = .ok (.iconst 0, 1) := by decide +kernel
theorem dX10_addJob_146 : decode cX10_addJob 146 = .ok (.iaload, 1) := by decide +kernel
theorem dX10_addJob_147 : decode cX10_addJob 147 = .ok (.iload_n 3, 1) := by decide +kernel
theorem dX10_addJob_148 : decode cX10_addJob 148 = .ok (.iadd, 1) := by decide +kernel
theorem dX10_addJob_149 : decode cX10_addJob 149 = .ok (.invokevirtual 220, 3) := by decide +kernel
theorem dX10_addJob_152 : decode cX10_addJob 152 = .ok (.aload_n 0, 1) := by decide +kernel
theorem dX10_addJob_153 : decode cX10_addJob 153 = .ok (.iload 7, 2) := by decide +kernel
theorem dX10_addJob_155 : decode cX10_addJob 155 = .ok (.iconst 3, 1) := by decide +kernel
theorem dX10_addJob_156 : decode cX10_addJob 156 = .ok (.iload 4, 2) := by decide +kernel
theorem dX10_addJob_158 : decode cX10_addJob 158 = .ok (.invokevirtual 220, 3) := by decide +kernel
theorem dX10_addJob_161 : decode cX10_addJob 161 = .ok (.aload_n 0, 1) := by decide +kernel
theorem dX10_addJob_162 : decode cX10_addJob 162 = .ok (.iload 7, 2) := by decide +kernel
theorem dX10_addJob_164 : decode cX10_addJob 164 = .ok (.iconst 4, 1) := by decide +kernel
theorem dX10_addJob_165 : decode cX10_addJob 165 = .ok (.iload 5, 2) := by decide +kernel
theorem dX10_addJob_167 : decode cX10_addJob 167 = .ok (.invokevirtual 220, 3) := by decide +kernel
theorem dX10_addJob_170 : decode cX10_addJob 170 = .ok (.aload_n 0, 1) := by decide +kernel
theorem dX10_addJob_171 : decode cX10_addJob 171 = .ok (.iload 7, 2) := by decide +kernel
theorem dX10_addJob_173 : decode cX10_addJob 173 = .ok (.iconst 5, 1) := by decide +kernel
theorem dX10_addJob_174 : decode cX10_addJob 174 = .ok (.aload_n 0, 1) := by decide +kernel
theorem dX10_addJob_175 : decode cX10_addJob 175 = .ok (.getfield 7, 3) := by decide +kernel
theorem dX10_addJob_178 : decode cX10_addJob 178 = .ok (.iconst 0, 1) := by decide +kernel
theorem dX10_addJob_179 : decode cX10_addJob 179 = .ok (.iaload, 1) := by decide +kernel
theorem dX10_addJob_180 : decode cX10_addJob 180 = .ok (.iload_n 3, 1) := by decide +kernel
theorem dX10_addJob_181 : decode cX10_addJob 181 = .ok (.iadd, 1) := by decide +kernel
theorem dX10_addJob_182 : decode cX10_addJob 182 = .ok (.iload 6, 2) := by decide +kernel
theorem dX10_addJob_184 : decode cX10_addJob 184 = .ok (.iadd, 1) := by decide +kernel
theorem dX10_addJob_185 : decode cX10_addJob 185 = .ok (.invokevirtual 220, 3) := by decide +kernel
theorem dX10_addJob_188 : decode cX10_addJob 188 = .ok (.aload_n 0, 1) := by decide +kernel
theorem dX10_addJob_189 : decode cX10_addJob 189 = .ok (.iload 7, 2) := by decide +kernel
theorem dX10_addJob_191 : decode cX10_addJob 191 = .ok (.bipush 6, 2) := by decide +kernel
theorem dX10_addJob_193 : decode cX10_addJob 193 = .ok (.iload 5, 2) := by decide +kernel
theorem dX10_addJob_195 : decode cX10_addJob 195 = .ok (.invokevirtual 220, 3) := by decide +kernel
theorem dX10_addJob_198 : decode cX10_addJob 198 = .ok (.aload_n 0, 1) := by decide +kernel
theorem dX10_addJob_199 : decode cX10_addJob 199 = .ok (.iload 7, 2) := by decide +kernel
theorem dX10_addJob_201 : decode cX10_addJob 201 = .ok (.bipush 7, 2) := by decide +kernel
theorem dX10_addJob_203 : decode cX10_addJob 203 = .ok (.iconst 0, 1) := by decide +kernel
theorem dX10_addJob_204 : decode cX10_addJob 204 = .ok (.invokevirtual 220, 3) := by decide +kernel
theorem dX10_addJob_207 : decode cX10_addJob 207 = .ok (.aload_n 0, 1) := by decide +kernel
theorem dX10_addJob_208 : decode cX10_addJob 208 = .ok (.iload 7, 2) := by decide +kernel
theorem dX10_addJob_210 : decode cX10_addJob 210 = .ok (.bipush 8, 2) := by decide +kernel
theorem dX10_addJob_212 : decode cX10_addJob 212 = .ok (.iconst 0, 1) := by decide +kernel
theorem dX10_addJob_213 : decode cX10_addJob 213 = .ok (.invokevirtual 220, 3) := by decide +kernel
theorem dX10_addJob_216 : decode cX10_addJob 216 = .ok (.iload 7, 2) := by decide +kernel
theorem dX10_addJob_218 : decode cX10_addJob 218 = .ok (.ireturn, 1) := by decide +kernel
theorem dX10_cancelJob_0 : decode cX10_cancelJob 0 = .ok (.aload_n 0, 1) := by decide +kernel
theorem dX10_cancelJob_1 : decode cX10_cancelJob 1 = .ok (.aload_n 0, 1) := by decide +kernel
theorem dX10_cancelJob_2 : decode cX10_cancelJob 2 = .ok (.iload_n 1, 1) := by decide +kernel
theorem dX10_cancelJob_3 : decode cX10_cancelJob 3 = .ok (.invokevirtual 286, 3) := by decide +kernel
theorem dX10_cancelJob_6 : decode cX10_cancelJob 6 = .ok (.invokevirtual 207, 3) := by decide +kernel
theorem dX10_cancelJob_9 : decode cX10_cancelJob 9 = .ok (.ifCond .eq 5, 3) := by decide +kernel
theorem dX10_cancelJob_12 : decode cX10_cancelJob 12 = .ok (.iconst 0, 1) := by decide +kernel
theorem dX10_cancelJob_13 : decode cX10_cancelJob 13 = .ok (.ireturn, 1) := by decide +kernel
theorem dX10_cancelJob_14 : decode cX10_cancelJob 14 = .ok (.aload_n 0, 1) := by decide +kernel
theorem dX10_cancelJob_15 : decode cX10_cancelJob 15 = .ok (.iload_n 1, 1) := by decide +kernel
theorem dX10_cancelJob_16 : decode cX10_cancelJob 16 = .ok (.invokevirtual 289, 3) := by decide +kernel
theorem dX10_cancelJob_19 : decode cX10_cancelJob 19 = .ok (.ifCond .eq 6, 3) := by decide +kernel
theorem dX10_cancelJob_22 : decode cX10_cancelJob 22 = .ok (.bipush (-2), 2) := by decide +kernel
theorem dX10_cancelJob_24 : decode cX10_cancelJob 24 = .ok (.ireturn, 1) := by decide +kernel
theorem dX10_cancelJob_25 : decode cX10_cancelJob 25 = .ok (.aload_n 0, 1) := by decide +kernel
theorem dX10_cancelJob_26 : decode cX10_cancelJob 26 = .ok (.invokevirtual 283, 3) := by decide +kernel
theorem dX10_cancelJob_29 : decode cX10_cancelJob 29 = .ok (.aload_n 0, 1) := by decide +kernel
theorem dX10_cancelJob_30 : decode cX10_cancelJob 30 = .ok (.iload_n 1, 1) := by decide +kernel
theorem dX10_cancelJob_31 : decode cX10_cancelJob 31 = .ok (.iconst 0, 1) := by decide +kernel
theorem dX10_cancelJob_32 : decode cX10_cancelJob 32 = .ok (.invokevirtual 211, 3) := by decide +kernel
theorem dX10_cancelJob_35 : decode cX10_cancelJob 35 = .ok (.istore_n 2, 1) := by decide +kernel
theorem dX10_cancelJob_36 : decode cX10_cancelJob 36 = .ok (.iconst 0, 1) := by decide +kernel
theorem dX10_cancelJob_37 : decode cX10_cancelJob 37 = .ok (.istore_n 3, 1) := by decide +kernel
theorem dX10_cancelJob_38 : decode cX10_cancelJob 38 = .ok (.iload_n 3, 1) := by decide +kernel
theorem dX10_cancelJob_39 : decode cX10_cancelJob 39 = .ok (.aload_n 0, 1) := by decide +kernel
theorem dX10_cancelJob_40 : decode cX10_cancelJob 40 = .ok (.getfield 16, 3) := by decide +kernel
theorem dX10_cancelJob_43 : decode cX10_cancelJob 43 = .ok (.iload_n 2, 1) := by decide +kernel
theorem dX10_cancelJob_44 : decode cX10_cancelJob 44 = .ok (.iaload, 1) := by decide +kernel
theorem dX10_cancelJob_45 : decode cX10_cancelJob 45 = .ok (.if_icmp .ge 32, 3) := by decide +kernel
theorem dX10_cancelJob_48 : decode cX10_cancelJob 48 = .ok (.aload_n 0, 1) := by decide +kernel
theorem dX10_cancelJob_49 : decode cX10_cancelJob 49 = .ok (.iload_n 2, 1) := by decide +kernel
theorem dX10_cancelJob_50 : decode cX10_cancelJob 50 = .ok (.bipush 9, 2) := by decide +kernel
theorem dX10_cancelJob_52 : decode cX10_cancelJob 52 = .ok (.iload_n 3, 1) := by decide +kernel
theorem dX10_cancelJob_53 : decode cX10_cancelJob 53 = .ok (.iadd, 1) := by decide +kernel
theorem dX10_cancelJob_54 : decode cX10_cancelJob 54 = .ok (.invokevirtual 214, 3) := by decide +kernel
theorem dX10_cancelJob_57 : decode cX10_cancelJob 57 = .ok (.iload_n 1, 1) := by decide +kernel
theorem dX10_cancelJob_58 : decode cX10_cancelJob 58 = .ok (.if_icmp .ne 13, 3) := by decide +kernel
theorem dX10_cancelJob_61 : decode cX10_cancelJob 61 = .ok (.aload_n 0, 1) := by decide +kernel
theorem dX10_cancelJob_62 : decode cX10_cancelJob 62 = .ok (.iload_n 2, 1) := by decide +kernel
theorem dX10_cancelJob_63 : decode cX10_cancelJob 63 = .ok (.bipush 9, 2) := by decide +kernel
theorem dX10_cancelJob_65 : decode cX10_cancelJob 65 = .ok (.iload_n 3, 1) := by decide +kernel
theorem dX10_cancelJob_66 : decode cX10_cancelJob 66 = .ok (.iadd, 1) := by decide +kernel
theorem dX10_cancelJob_67 : decode cX10_cancelJob 67 = .ok (.iconst (-1), 1) := by decide +kernel
theorem dX10_cancelJob_68 : decode cX10_cancelJob 68 = .ok (.invokevirtual 203, 3) := by decide +kernel
theorem dX10_cancelJob_71 : decode cX10_cancelJob 71 = .ok (.iinc 3 1, 3) := by decide +kernel
theorem dX10_cancelJob_74 : decode cX10_cancelJob 74 = .ok (.goto (-36), 3) := by decide +kernel
theorem dX10_cancelJob_77 : decode cX10_cancelJob 77 = .ok (.aload_n 0, 1) := by decide +kernel
theorem dX10_cancelJob_78 : decode cX10_cancelJob 78 = .ok (.iload_n 1, 1) := by decide +kernel
theorem dX10_cancelJob_79 : decode cX10_cancelJob 79 = .ok (.bipush 7, 2) := by decide +kernel
theorem dX10_cancelJob_81 : decode cX10_cancelJob 81 = .ok (.iconst 4, 1) := by decide +kernel
theorem dX10_cancelJob_82 : decode cX10_cancelJob 82 = .ok (.invokevirtual 220, 3) := by decide +kernel
theorem dX10_cancelJob_85 : decode cX10_cancelJob 85 = .ok (.aload_n 0, 1) := by decide +kernel
theorem dX10_cancelJob_86 : decode cX10_cancelJob 86 = .ok (.iload_n 1, 1) := by decide +kernel
theorem dX10_cancelJob_87 : decode cX10_cancelJob 87 = .ok (.bipush 6, 2) := by decide +kernel
theorem dX10_cancelJob_89 : decode cX10_cancelJob 89 = .ok (.invokevirtual 211, 3) := by decide +kernel
theorem dX10_cancelJob_92 : decode cX10_cancelJob 92 = .ok (.ireturn, 1) := by decide +kernel
theorem dX10_sets_0 : decode cX10_sets 0 = .ok (.aload_n 0, 1) := by decide +kernel
theorem dX10_sets_1 : decode cX10_sets 1 = .ok (.invokevirtual 283, 3) := by decide +kernel
theorem dX10_sets_4 : decode cX10_sets 4 = .ok (.aload_n 0, 1) := by decide +kernel
theorem dX10_sets_5 : decode cX10_sets 5 = .ok (.getfield 7, 3) := by decide +kernel
theorem dX10_sets_8 : decode cX10_sets 8 = .ok (.iload_n 1, 1) := by decide +kernel
theorem dX10_sets_9 : decode cX10_sets 9 = .ok (.iaload, 1) := by decide +kernel
theorem dX10_sets_10 : decode cX10_sets 10 = .ok (.istore_n 3, 1) := by decide +kernel
theorem dX10_sets_11 : decode cX10_sets 11 = .ok (.aload_n 0, 1) := by decide +kernel
theorem dX10_sets_12 : decode cX10_sets 12 = .ok (.getfield 7, 3) := by decide +kernel
theorem dX10_sets_15 : decode cX10_sets 15 = .ok (.iload_n 1, 1) := by decide +kernel
theorem dX10_sets_16 : decode cX10_sets 16 = .ok (.iload_n 2, 1) := by decide +kernel
theorem dX10_sets_17 : decode cX10_sets 17 = .ok (.iastore, 1) := by decide +kernel
theorem dX10_sets_18 : decode cX10_sets 18 = .ok (.iload_n 3, 1) := by decide +kernel
theorem dX10_sets_19 : decode cX10_sets 19 = .ok (.ireturn, 1) := by decide +kernel
theorem dX10_setPolicy_0 : decode cX10_setPolicy 0 = .ok (.aload_n 0, 1) := by decide +kernel
theorem dX10_setPolicy_1 : decode cX10_setPolicy 1 = .ok (.aload_n 0, 1) := by decide +kernel
theorem dX10_setPolicy_2 : decode cX10_setPolicy 2 = .ok (.iload_n 1, 1) := by decide +kernel
theorem dX10_setPolicy_3 : decode cX10_setPolicy 3 = .ok (.invokevirtual 274, 3) := by decide +kernel
theorem dX10_setPolicy_6 : decode cX10_setPolicy 6 = .ok (.ifCond .eq 19, 3) := by decide +kernel
theorem dX10_setPolicy_9 : decode cX10_setPolicy 9 = .ok (.iload_n 2, 1) := by decide +kernel
theorem dX10_setPolicy_10 : decode cX10_setPolicy 10 = .ok (.i2l, 1) := by decide +kernel
theorem dX10_setPolicy_11 : decode cX10_setPolicy 11 = .ok (.lconst 0, 1) := by decide +kernel
theorem dX10_setPolicy_12 : decode cX10_setPolicy 12 = .ok (.ldc2_w 292, 3) := by decide +kernel
theorem dX10_setPolicy_15 : decode cX10_setPolicy 15 = .ok (.invokestatic 88, 3) := by decide +kernel
theorem dX10_setPolicy_18 : decode cX10_setPolicy 18 = .ok (.ifCond .eq 7, 3) := by decide +kernel
theorem dX10_setPolicy_21 : decode cX10_setPolicy 21 = .ok (.iconst 1, 1) := by decide +kernel
theorem dX10_setPolicy_22 : decode cX10_setPolicy 22 = .ok (.goto 4, 3) := by decide +kernel
theorem dX10_setPolicy_25 : decode cX10_setPolicy 25 = .ok (.iconst 0, 1) := by decide +kernel
theorem dX10_setPolicy_26 : decode cX10_setPolicy 26 = .ok (.invokevirtual 207, 3) := by decide +kernel
theorem dX10_setPolicy_29 : decode cX10_setPolicy 29 = .ok (.ifCond .eq 7, 3) := by decide +kernel
theorem dX10_setPolicy_32 : decode cX10_setPolicy 32 = .ok (.iconst 0, 1) := by decide +kernel
theorem dX10_setPolicy_33 : decode cX10_setPolicy 33 = .ok (.goto 17, 3) := by decide +kernel
theorem dX10_setPolicy_36 : decode cX10_setPolicy 36 = .ok (.aload_n 0, 1) := by decide +kernel
theorem dX10_setPolicy_37 : decode cX10_setPolicy 37 = .ok (.bipush 19, 2) := by decide +kernel
theorem dX10_setPolicy_39 : decode cX10_setPolicy 39 = .ok (.bipush 13, 2) := by decide +kernel
theorem dX10_setPolicy_41 : decode cX10_setPolicy 41 = .ok (.iload_n 1, 1) := by decide +kernel
theorem dX10_setPolicy_42 : decode cX10_setPolicy 42 = .ok (.imul, 1) := by decide +kernel
theorem dX10_setPolicy_43 : decode cX10_setPolicy 43 = .ok (.iadd, 1) := by decide +kernel
theorem dX10_setPolicy_44 : decode cX10_setPolicy 44 = .ok (.iconst 1, 1) := by decide +kernel
theorem dX10_setPolicy_45 : decode cX10_setPolicy 45 = .ok (.iadd, 1) := by decide +kernel
theorem dX10_setPolicy_46 : decode cX10_setPolicy 46 = .ok (.iload_n 2, 1) := by decide +kernel
theorem dX10_setPolicy_47 : decode cX10_setPolicy 47 = .ok (.invokevirtual 294, 3) := by decide +kernel
theorem dX10_setPolicy_50 : decode cX10_setPolicy 50 = .ok (.ireturn, 1) := by decide +kernel
theorem dX10_setLimit_0 : decode cX10_setLimit 0 = .ok (.aload_n 0, 1) := by decide +kernel
theorem dX10_setLimit_1 : decode cX10_setLimit 1 = .ok (.aload_n 0, 1) := by decide +kernel
theorem dX10_setLimit_2 : decode cX10_setLimit 2 = .ok (.iload_n 1, 1) := by decide +kernel
theorem dX10_setLimit_3 : decode cX10_setLimit 3 = .ok (.invokevirtual 274, 3) := by decide +kernel
theorem dX10_setLimit_6 : decode cX10_setLimit 6 = .ok (.ifCond .eq 19, 3) := by decide +kernel
theorem dX10_setLimit_9 : decode cX10_setLimit 9 = .ok (.iload_n 2, 1) := by decide +kernel
theorem dX10_setLimit_10 : decode cX10_setLimit 10 = .ok (.i2l, 1) := by decide +kernel
theorem dX10_setLimit_11 : decode cX10_setLimit 11 = .ok (.lconst 0, 1) := by decide +kernel
theorem dX10_setLimit_12 : decode cX10_setLimit 12 = .ok (.ldc2_w 297, 3) := by decide +kernel
theorem dX10_setLimit_15 : decode cX10_setLimit 15 = .ok (.invokestatic 88, 3) := by decide +kernel
theorem dX10_setLimit_18 : decode cX10_setLimit 18 = .ok (.ifCond .eq 7, 3) := by decide +kernel
theorem dX10_setLimit_21 : decode cX10_setLimit 21 = .ok (.iconst 1, 1) := by decide +kernel
theorem dX10_setLimit_22 : decode cX10_setLimit 22 = .ok (.goto 4, 3) := by decide +kernel
theorem dX10_setLimit_25 : decode cX10_setLimit 25 = .ok (.iconst 0, 1) := by decide +kernel
theorem dX10_setLimit_26 : decode cX10_setLimit 26 = .ok (.invokevirtual 207, 3) := by decide +kernel
theorem dX10_setLimit_29 : decode cX10_setLimit 29 = .ok (.ifCond .eq 7, 3) := by decide +kernel
theorem dX10_setLimit_32 : decode cX10_setLimit 32 = .ok (.iconst 0, 1) := by decide +kernel
theorem dX10_setLimit_33 : decode cX10_setLimit 33 = .ok (.goto 17, 3) := by decide +kernel
theorem dX10_setLimit_36 : decode cX10_setLimit 36 = .ok (.aload_n 0, 1) := by decide +kernel
theorem dX10_setLimit_37 : decode cX10_setLimit 37 = .ok (.bipush 19, 2) := by decide +kernel
theorem dX10_setLimit_39 : decode cX10_setLimit 39 = .ok (.bipush 13, 2) := by decide +kernel
theorem dX10_setLimit_41 : decode cX10_setLimit 41 = .ok (.iload_n 1, 1) := by decide +kernel
theorem dX10_setLimit_42 : decode cX10_setLimit 42 = .ok (.imul, 1) := by decide +kernel
theorem dX10_setLimit_43 : decode cX10_setLimit 43 = .ok (.iadd, 1) := by decide +kernel
theorem dX10_setLimit_44 : decode cX10_setLimit 44 = .ok (.iconst 0, 1) := by decide +kernel
theorem dX10_setLimit_45 : decode cX10_setLimit 45 = .ok (.iadd, 1) := by decide +kernel
theorem dX10_setLimit_46 : decode cX10_setLimit 46 = .ok (.iload_n 2, 1) := by decide +kernel
theorem dX10_setLimit_47 : decode cX10_setLimit 47 = .ok (.invokevirtual 294, 3) := by decide +kernel
theorem dX10_setLimit_50 : decode cX10_setLimit 50 = .ok (.ireturn, 1) := by decide +kernel
theorem dX10_setAmbient_0 : decode cX10_setAmbient 0 = .ok (.aload_n 0, 1) := by decide +kernel
theorem dX10_setAmbient_1 : decode cX10_setAmbient 1 = .ok (.iload_n 1, 1) := by decide +kernel
theorem dX10_setAmbient_2 : decode cX10_setAmbient 2 = .ok (.i2l, 1) := by decide +kernel
theorem dX10_setAmbient_3 : decode cX10_setAmbient 3 = .ok (.lconst 0, 1) := by decide +kernel
theorem dX10_setAmbient_4 : decode cX10_setAmbient 4 = .ok (.ldc2_w 281, 3) := by decide +kernel
theorem dX10_setAmbient_7 : decode cX10_setAmbient 7 = .ok (.invokestatic 88, 3) := by decide +kernel
theorem dX10_setAmbient_10 : decode cX10_setAmbient 10 = .ok (.invokevirtual 207, 3) := by decide +kernel
theorem dX10_setAmbient_13 : decode cX10_setAmbient 13 = .ok (.ifCond .eq 7, 3) := by decide +kernel
theorem dX10_setAmbient_16 : decode cX10_setAmbient 16 = .ok (.iconst 0, 1) := by decide +kernel
theorem dX10_setAmbient_17 : decode cX10_setAmbient 17 = .ok (.goto 9, 3) := by decide +kernel
theorem dX10_setAmbient_20 : decode cX10_setAmbient 20 = .ok (.aload_n 0, 1) := by decide +kernel
theorem dX10_setAmbient_21 : decode cX10_setAmbient 21 = .ok (.iconst 1, 1) := by decide +kernel
theorem dX10_setAmbient_22 : decode cX10_setAmbient 22 = .ok (.iload_n 1, 1) := by decide +kernel
theorem dX10_setAmbient_23 : decode cX10_setAmbient 23 = .ok (.invokevirtual 294, 3) := by decide +kernel
theorem dX10_setAmbient_26 : decode cX10_setAmbient 26 = .ok (.ireturn, 1) := by decide +kernel
theorem dX10_tick_0 : decode cX10_tick 0 = .ok (.aload_n 0, 1) := by decide +kernel
theorem dX10_tick_1 : decode cX10_tick 1 = .ok (.iload_n 1, 1) := by decide +kernel
theorem dX10_tick_2 : decode cX10_tick 2 = .ok (.i2l, 1) := by decide +kernel
theorem dX10_tick_3 : decode cX10_tick 3 = .ok (.lconst 1, 1) := by decide +kernel
theorem dX10_tick_4 : decode cX10_tick 4 = .ok (.ldc2_w 299, 3) := by decide +kernel
theorem dX10_tick_7 : decode cX10_tick 7 = .ok (.invokestatic 88, 3) := by decide +kernel
theorem dX10_tick_10 : decode cX10_tick 10 = .ok (.invokevirtual 207, 3) := by decide +kernel
theorem dX10_tick_13 : decode cX10_tick 13 = .ok (.ifCond .eq 5, 3) := by decide +kernel
theorem dX10_tick_16 : decode cX10_tick 16 = .ok (.iconst 0, 1) := by decide +kernel
theorem dX10_tick_17 : decode cX10_tick 17 = .ok (.ireturn, 1) := by decide +kernel
theorem dX10_tick_18 : decode cX10_tick 18 = .ok (.aload_n 0, 1) := by decide +kernel
theorem dX10_tick_19 : decode cX10_tick 19 = .ok (.invokevirtual 283, 3) := by decide +kernel
theorem dX10_tick_22 : decode cX10_tick 22 = .ok (.aload_n 0, 1) := by decide +kernel
theorem dX10_tick_23 : decode cX10_tick 23 = .ok (.iconst 0, 1) := by decide +kernel
theorem dX10_tick_24 : decode cX10_tick 24 = .ok (.putfield 253, 3) := by decide +kernel
theorem dX10_tick_27 : decode cX10_tick 27 = .ok (.iconst 0, 1) := by decide +kernel
theorem dX10_tick_28 : decode cX10_tick 28 = .ok (.istore_n 2, 1) := by decide +kernel
theorem dX10_tick_29 : decode cX10_tick 29 = .ok (.iload_n 2, 1) := by decide +kernel
theorem dX10_tick_30 : decode cX10_tick 30 = .ok (.iload_n 1, 1) := by decide +kernel
theorem dX10_tick_31 : decode cX10_tick 31 = .ok (.if_icmp .ge 13, 3) := by decide +kernel
theorem dX10_tick_34 : decode cX10_tick 34 = .ok (.aload_n 0, 1) := by decide +kernel
theorem dX10_tick_35 : decode cX10_tick 35 = .ok (.invokevirtual 301, 3) := by decide +kernel
theorem dX10_tick_38 : decode cX10_tick 38 = .ok (.iinc 2 1, 3) := by decide +kernel
theorem dX10_tick_41 : decode cX10_tick 41 = .ok (.goto (-12), 3) := by decide +kernel
theorem dX10_tick_44 : decode cX10_tick 44 = .ok (.aload_n 0, 1) := by decide +kernel
theorem dX10_tick_45 : decode cX10_tick 45 = .ok (.getfield 253, 3) := by decide +kernel
theorem dX10_tick_48 : decode cX10_tick 48 = .ok (.ireturn, 1) := by decide +kernel
theorem dX10_clock_0 : decode cX10_clock 0 = .ok (.aload_n 0, 1) := by decide +kernel
theorem dX10_clock_1 : decode cX10_clock 1 = .ok (.iconst 1, 1) := by decide +kernel
theorem dX10_clock_2 : decode cX10_clock 2 = .ok (.invokevirtual 207, 3) := by decide +kernel
theorem dX10_clock_5 : decode cX10_clock 5 = .ok (.ifCond .eq 7, 3) := by decide +kernel
theorem dX10_clock_8 : decode cX10_clock 8 = .ok (.iconst 0, 1) := by decide +kernel
theorem dX10_clock_9 : decode cX10_clock 9 = .ok (.goto 9, 3) := by decide +kernel
theorem dX10_clock_12 : decode cX10_clock 12 = .ok (.aload_n 0, 1) := by decide +kernel
theorem dX10_clock_13 : decode cX10_clock 13 = .ok (.getfield 7, 3) := by decide +kernel
theorem dX10_clock_16 : decode cX10_clock 16 = .ok (.iconst 0, 1) := by decide +kernel
theorem dX10_clock_17 : decode cX10_clock 17 = .ok (.iaload, 1) := by decide +kernel
theorem dX10_clock_18 : decode cX10_clock 18 = .ok (.ireturn, 1) := by decide +kernel
theorem dX10_temperature_0 : decode cX10_temperature 0 = .ok (.aload_n 0, 1) := by decide +kernel
theorem dX10_temperature_1 : decode cX10_temperature 1 = .ok (.aload_n 0, 1) := by decide +kernel
theorem dX10_temperature_2 : decode cX10_temperature 2 = .ok (.iload_n 1, 1) := by decide +kernel
theorem dX10_temperature_3 : decode cX10_temperature 3 = .ok (.invokevirtual 274, 3) := by decide +kernel
theorem dX10_temperature_6 : decode cX10_temperature 6 = .ok (.invokevirtual 207, 3) := by decide +kernel
theorem dX10_temperature_9 : decode cX10_temperature 9 = .ok (.ifCond .eq 7, 3) := by decide +kernel
theorem dX10_temperature_12 : decode cX10_temperature 12 = .ok (.iconst 0, 1) := by decide +kernel
theorem dX10_temperature_13 : decode cX10_temperature 13 = .ok (.goto 9, 3) := by decide +kernel
theorem dX10_temperature_16 : decode cX10_temperature 16 = .ok (.aload_n 0, 1) := by decide +kernel
theorem dX10_temperature_17 : decode cX10_temperature 17 = .ok (.iload_n 1, 1) := by decide +kernel
theorem dX10_temperature_18 : decode cX10_temperature 18 = .ok (.iconst 2, 1) := by decide +kernel
theorem dX10_temperature_19 : decode cX10_temperature 19 = .ok (.invokevirtual 214, 3) := by decide +kernel
theorem dX10_temperature_22 : decode cX10_temperature 22 = .ok (.ireturn, 1) := by decide +kernel
theorem dX10_level_0 : decode cX10_level 0 = .ok (.aload_n 0, 1) := by decide +kernel
theorem dX10_level_1 : decode cX10_level 1 = .ok (.aload_n 0, 1) := by decide +kernel
theorem dX10_level_2 : decode cX10_level 2 = .ok (.iload_n 1, 1) := by decide +kernel
theorem dX10_level_3 : decode cX10_level 3 = .ok (.invokevirtual 274, 3) := by decide +kernel
theorem dX10_level_6 : decode cX10_level 6 = .ok (.invokevirtual 207, 3) := by decide +kernel
theorem dX10_level_9 : decode cX10_level 9 = .ok (.ifCond .eq 7, 3) := by decide +kernel
theorem dX10_level_12 : decode cX10_level 12 = .ok (.iconst 0, 1) := by decide +kernel
theorem dX10_level_13 : decode cX10_level 13 = .ok (.goto 9, 3) := by decide +kernel
theorem dX10_level_16 : decode cX10_level 16 = .ok (.aload_n 0, 1) := by decide +kernel
theorem dX10_level_17 : decode cX10_level 17 = .ok (.iload_n 1, 1) := by decide +kernel
theorem dX10_level_18 : decode cX10_level 18 = .ok (.iconst 3, 1) := by decide +kernel
theorem dX10_level_19 : decode cX10_level 19 = .ok (.invokevirtual 214, 3) := by decide +kernel
theorem dX10_level_22 : decode cX10_level 22 = .ok (.ireturn, 1) := by decide +kernel
theorem dX10_energy_0 : decode cX10_energy 0 = .ok (.aload_n 0, 1) := by decide +kernel
theorem dX10_energy_1 : decode cX10_energy 1 = .ok (.aload_n 0, 1) := by decide +kernel
theorem dX10_energy_2 : decode cX10_energy 2 = .ok (.iload_n 1, 1) := by decide +kernel
theorem dX10_energy_3 : decode cX10_energy 3 = .ok (.invokevirtual 274, 3) := by decide +kernel
theorem dX10_energy_6 : decode cX10_energy 6 = .ok (.invokevirtual 207, 3) := by decide +kernel
theorem dX10_energy_9 : decode cX10_energy 9 = .ok (.ifCond .eq 7, 3) := by decide +kernel
theorem dX10_energy_12 : decode cX10_energy 12 = .ok (.iconst 0, 1) := by decide +kernel
theorem dX10_energy_13 : decode cX10_energy 13 = .ok (.goto 9, 3) := by decide +kernel
theorem dX10_energy_16 : decode cX10_energy 16 = .ok (.aload_n 0, 1) := by decide +kernel
theorem dX10_energy_17 : decode cX10_energy 17 = .ok (.iload_n 1, 1) := by decide +kernel
theorem dX10_energy_18 : decode cX10_energy 18 = .ok (.iconst 4, 1) := by decide +kernel
theorem dX10_energy_19 : decode cX10_energy 19 = .ok (.invokevirtual 214, 3) := by decide +kernel
theorem dX10_energy_22 : decode cX10_energy 22 = .ok (.ireturn, 1) := by decide +kernel
theorem dX10_domainValue_0 : decode cX10_domainValue 0 = .ok (.aload_n 0, 1) := by decide +kernel
theorem dX10_domainValue_1 : decode cX10_domainValue 1 = .ok (.aload_n 0, 1) := by decide +kernel
theorem dX10_domainValue_2 : decode cX10_domainValue 2 = .ok (.iload_n 1, 1) := by decide +kernel
theorem dX10_domainValue_3 : decode cX10_domainValue 3 = .ok (.invokevirtual 274, 3) := by decide +kernel
theorem dX10_domainValue_6 : decode cX10_domainValue 6 = .ok (.ifCond .eq 19, 3) := by decide +kernel
theorem dX10_domainValue_9 : decode cX10_domainValue 9 = .ok (.iload_n 2, 1) := by decide +kernel
theorem dX10_domainValue_10 : decode cX10_domainValue 10 = .ok (.i2l, 1) := by decide +kernel
theorem dX10_domainValue_11 : decode cX10_domainValue 11 = .ok (.lconst 0, 1) := by decide +kernel
theorem dX10_domainValue_12 : decode cX10_domainValue 12 = .ok (.ldc2_w 304, 3) := by decide +kernel
theorem dX10_domainValue_15 : decode cX10_domainValue 15 = .ok (.invokestatic 88, 3) := by decide +kernel
theorem dX10_domainValue_18 : decode cX10_domainValue 18 = .ok (.ifCond .eq 7, 3) := by decide +kernel
theorem dX10_domainValue_21 : decode cX10_domainValue 21 = .ok (.iconst 1, 1) := by decide +kernel
theorem dX10_domainValue_22 : decode cX10_domainValue 22 = .ok (.goto 4, 3) := by decide +kernel
theorem dX10_domainValue_25 : decode cX10_domainValue 25 = .ok (.iconst 0, 1) := by decide +kernel
theorem dX10_domainValue_26 : decode cX10_domainValue 26 = .ok (.invokevirtual 207, 3) := by decide +kernel
theorem dX10_domainValue_29 : decode cX10_domainValue 29 = .ok (.ifCond .eq 5, 3) := by decide +kernel
theorem dX10_domainValue_32 : decode cX10_domainValue 32 = .ok (.iconst 0, 1) := by decide +kernel
theorem dX10_domainValue_33 : decode cX10_domainValue 33 = .ok (.ireturn, 1) := by decide +kernel
theorem dX10_domainValue_34 : decode cX10_domainValue 34 = .ok (.iload_n 2, 1) := by decide +kernel
theorem dX10_domainValue_35 : decode cX10_domainValue 35 = .ok (.tableswitch 104 0 7 #[45, 52, 60, 68, 76, 83, 90, 97], 45) := by decide +kernel
theorem dX10_domainValue_80 : decode cX10_domainValue 80 = .ok (.aload_n 0, 1) := by decide +kernel
theorem dX10_domainValue_81 : decode cX10_domainValue 81 = .ok (.iload_n 1, 1) := by decide +kernel
theorem dX10_domainValue_82 : decode cX10_domainValue 82 = .ok (.iconst 5, 1) := by decide +kernel
theorem dX10_domainValue_83 : decode cX10_domainValue 83 = .ok (.invokevirtual 214, 3) := by decide +kernel
theorem dX10_domainValue_86 : decode cX10_domainValue 86 = .ok (.ireturn, 1) := by decide +kernel
theorem dX10_domainValue_87 : decode cX10_domainValue 87 = .ok (.aload_n 0, 1) := by decide +kernel
theorem dX10_domainValue_88 : decode cX10_domainValue 88 = .ok (.iload_n 1, 1) := by decide +kernel
theorem dX10_domainValue_89 : decode cX10_domainValue 89 = .ok (.bipush 6, 2) := by decide +kernel
theorem dX10_domainValue_91 : decode cX10_domainValue 91 = .ok (.invokevirtual 214, 3) := by decide +kernel
theorem dX10_domainValue_94 : decode cX10_domainValue 94 = .ok (.ireturn, 1) := by decide +kernel
theorem dX10_domainValue_95 : decode cX10_domainValue 95 = .ok (.aload_n 0, 1) := by decide +kernel
theorem dX10_domainValue_96 : decode cX10_domainValue 96 = .ok (.iload_n 1, 1) := by decide +kernel
theorem dX10_domainValue_97 : decode cX10_domainValue 97 = .ok (.bipush 7, 2) := by decide +kernel
theorem dX10_domainValue_99 : decode cX10_domainValue 99 = .ok (.invokevirtual 214, 3) := by decide +kernel
theorem dX10_domainValue_102 : decode cX10_domainValue 102 = .ok (.ireturn, 1) := by decide +kernel
theorem dX10_domainValue_103 : decode cX10_domainValue 103 = .ok (.aload_n 0, 1) := by decide +kernel
theorem dX10_domainValue_104 : decode cX10_domainValue 104 = .ok (.iload_n 1, 1) := by decide +kernel
theorem dX10_domainValue_105 : decode cX10_domainValue 105 = .ok (.bipush 8, 2) := by decide +kernel
theorem dX10_domainValue_107 : decode cX10_domainValue 107 = .ok (.invokevirtual 214, 3) := by decide +kernel
theorem dX10_domainValue_110 : decode cX10_domainValue 110 = .ok (.ireturn, 1) := by decide +kernel
theorem dX10_domainValue_111 : decode cX10_domainValue 111 = .ok (.aload_n 0, 1) := by decide +kernel
theorem dX10_domainValue_112 : decode cX10_domainValue 112 = .ok (.iload_n 1, 1) := by decide +kernel
theorem dX10_domainValue_113 : decode cX10_domainValue 113 = .ok (.iconst 0, 1) := by decide +kernel
theorem dX10_domainValue_114 : decode cX10_domainValue 114 = .ok (.invokevirtual 214, 3) := by decide +kernel
theorem dX10_domainValue_117 : decode cX10_domainValue 117 = .ok (.ireturn, 1) := by decide +kernel
theorem dX10_domainValue_118 : decode cX10_domainValue 118 = .ok (.aload_n 0, 1) := by decide +kernel
theorem dX10_domainValue_119 : decode cX10_domainValue 119 = .ok (.iload_n 1, 1) := by decide +kernel
theorem dX10_domainValue_120 : decode cX10_domainValue 120 = .ok (.iconst 1, 1) := by decide +kernel
theorem dX10_domainValue_121 : decode cX10_domainValue 121 = .ok (.invokevirtual 214, 3) := by decide +kernel
theorem dX10_domainValue_124 : decode cX10_domainValue 124 = .ok (.ireturn, 1) := by decide +kernel
theorem dX10_domainValue_125 : decode cX10_domainValue 125 = .ok (.aload_n 0, 1) := by decide +kernel
theorem dX10_domainValue_126 : decode cX10_domainValue 126 = .ok (.getfield 34, 3) := by decide +kernel
theorem dX10_domainValue_129 : decode cX10_domainValue 129 = .ok (.iload_n 1, 1) := by decide +kernel
theorem dX10_domainValue_130 : decode cX10_domainValue 130 = .ok (.iaload, 1) := by decide +kernel
theorem dX10_domainValue_131 : decode cX10_domainValue 131 = .ok (.ireturn, 1) := by decide +kernel
theorem dX10_domainValue_132 : decode cX10_domainValue 132 = .ok (.aload_n 0, 1) := by decide +kernel
theorem dX10_domainValue_133 : decode cX10_domainValue 133 = .ok (.getfield 16, 3) := by decide +kernel
theorem dX10_domainValue_136 : decode cX10_domainValue 136 = .ok (.iload_n 1, 1) := by decide +kernel
theorem dX10_domainValue_137 : decode cX10_domainValue 137 = .ok (.iaload, 1) := by decide +kernel
theorem dX10_domainValue_138 : decode cX10_domainValue 138 = .ok (.ireturn, 1) := by decide +kernel
theorem dX10_domainValue_139 : decode cX10_domainValue 139 = .ok (.aload_n 0, 1) := by decide +kernel
theorem dX10_domainValue_140 : decode cX10_domainValue 140 = .ok (.getfield 28, 3) := by decide +kernel
theorem dX10_domainValue_143 : decode cX10_domainValue 143 = .ok (.iload_n 1, 1) := by decide +kernel
theorem dX10_domainValue_144 : decode cX10_domainValue 144 = .ok (.iaload, 1) := by decide +kernel
theorem dX10_domainValue_145 : decode cX10_domainValue 145 = .ok (.ireturn, 1) := by decide +kernel
theorem dX10_jobOn_0 : decode cX10_jobOn 0 = .ok (.aload_n 0, 1) := by decide +kernel
theorem dX10_jobOn_1 : decode cX10_jobOn 1 = .ok (.aload_n 0, 1) := by decide +kernel
theorem dX10_jobOn_2 : decode cX10_jobOn 2 = .ok (.iload_n 1, 1) := by decide +kernel
theorem dX10_jobOn_3 : decode cX10_jobOn 3 = .ok (.invokevirtual 274, 3) := by decide +kernel
theorem dX10_jobOn_6 : decode cX10_jobOn 6 = .ok (.ifCond .eq 37, 3) := by decide +kernel
theorem dX10_jobOn_9 : decode cX10_jobOn 9 = .ok (.iload_n 2, 1) := by decide +kernel
theorem dX10_jobOn_10 : decode cX10_jobOn 10 = .ok (.i2l, 1) := by decide +kernel
theorem dX10_jobOn_11 : decode cX10_jobOn 11 = .ok (.lconst 0, 1) := by decide +kernel
theorem dX10_jobOn_12 : decode cX10_jobOn 12 = .ok (.aload_n 0, 1) := by decide +kernel
theorem dX10_jobOn_13 : decode cX10_jobOn 13 = .ok (.iload_n 1, 1) := by decide +kernel
theorem dX10_jobOn_14 : decode cX10_jobOn 14 = .ok (.invokevirtual 274, 3) := by decide +kernel
theorem dX10_jobOn_17 : decode cX10_jobOn 17 = .ok (.ifCond .eq 12, 3) := by decide +kernel
theorem dX10_jobOn_20 : decode cX10_jobOn 20 = .ok (.aload_n 0, 1) := by decide +kernel
theorem dX10_jobOn_21 : decode cX10_jobOn 21 = .ok (.getfield 16, 3) := by decide +kernel
theorem dX10_jobOn_24 : decode cX10_jobOn 24 = .ok (.iload_n 1, 1) := by decide +kernel
theorem dX10_jobOn_25 : decode cX10_jobOn 25 = .ok (.iaload, 1) := by decide +kernel
theorem dX10_jobOn_26 : decode cX10_jobOn 26 = .ok (.goto 4, 3) := by decide +kernel
theorem dX10_jobOn_29 : decode cX10_jobOn 29 = .ok (.iconst 0, 1) := by decide +kernel
theorem dX10_jobOn_30 : decode cX10_jobOn 30 = .ok (.iconst 1, 1) := by decide +kernel
theorem dX10_jobOn_31 : decode cX10_jobOn 31 = .ok (.isub, 1) := by decide +kernel
theorem dX10_jobOn_32 : decode cX10_jobOn 32 = .ok (.i2l, 1) := by decide +kernel
theorem dX10_jobOn_33 : decode cX10_jobOn 33 = .ok (.invokestatic 88, 3) := by decide +kernel
theorem dX10_jobOn_36 : decode cX10_jobOn 36 = .ok (.ifCond .eq 7, 3) := by decide +kernel
theorem dX10_jobOn_39 : decode cX10_jobOn 39 = .ok (.iconst 1, 1) := by decide +kernel
theorem dX10_jobOn_40 : decode cX10_jobOn 40 = .ok (.goto 4, 3) := by decide +kernel
theorem dX10_jobOn_43 : decode cX10_jobOn 43 = .ok (.iconst 0, 1) := by decide +kernel
theorem dX10_jobOn_44 : decode cX10_jobOn 44 = .ok (.invokevirtual 207, 3) := by decide +kernel
theorem dX10_jobOn_47 : decode cX10_jobOn 47 = .ok (.ifCond .eq 5, 3) := by decide +kernel
theorem dX10_jobOn_50 : decode cX10_jobOn 50 = .ok (.iconst 0, 1) := by decide +kernel
theorem dX10_jobOn_51 : decode cX10_jobOn 51 = .ok (.ireturn, 1) := by decide +kernel
theorem dX10_jobOn_52 : decode cX10_jobOn 52 = .ok (.aload_n 0, 1) := by decide +kernel
theorem dX10_jobOn_53 : decode cX10_jobOn 53 = .ok (.iload_n 1, 1) := by decide +kernel
theorem dX10_jobOn_54 : decode cX10_jobOn 54 = .ok (.bipush 9, 2) := by decide +kernel
theorem dX10_jobOn_56 : decode cX10_jobOn 56 = .ok (.iload_n 2, 1) := by decide +kernel
theorem dX10_jobOn_57 : decode cX10_jobOn 57 = .ok (.iadd, 1) := by decide +kernel
theorem dX10_jobOn_58 : decode cX10_jobOn 58 = .ok (.invokevirtual 214, 3) := by decide +kernel
theorem dX10_jobOn_61 : decode cX10_jobOn 61 = .ok (.iconst (-1), 1) := by decide +kernel
theorem dX10_jobOn_62 : decode cX10_jobOn 62 = .ok (.if_icmp .ne 8, 3) := by decide +kernel
theorem dX10_jobOn_65 : decode cX10_jobOn 65 = .ok (.bipush (-2), 2) := by decide +kernel
theorem dX10_jobOn_67 : decode cX10_jobOn 67 = .ok (.goto 12, 3) := by decide +kernel
theorem dX10_jobOn_70 : decode cX10_jobOn 70 = .ok (.aload_n 0, 1) := by decide +kernel
theorem dX10_jobOn_71 : decode cX10_jobOn 71 = .ok (.iload_n 1, 1) := by decide +kernel
theorem dX10_jobOn_72 : decode cX10_jobOn 72 = .ok (.bipush 9, 2) := by decide +kernel
theorem dX10_jobOn_74 : decode cX10_jobOn 74 = .ok (.iload_n 2, 1) := by decide +kernel
theorem dX10_jobOn_75 : decode cX10_jobOn 75 = .ok (.iadd, 1) := by decide +kernel
theorem dX10_jobOn_76 : decode cX10_jobOn 76 = .ok (.invokevirtual 214, 3) := by decide +kernel
theorem dX10_jobOn_79 : decode cX10_jobOn 79 = .ok (.ireturn, 1) := by decide +kernel
theorem dX10_room_0 : decode cX10_room 0 = .ok (.aload_n 0, 1) := by decide +kernel
theorem dX10_room_1 : decode cX10_room 1 = .ok (.iload_n 1, 1) := by decide +kernel
theorem dX10_room_2 : decode cX10_room 2 = .ok (.iconst 0, 1) := by decide +kernel
theorem dX10_room_3 : decode cX10_room 3 = .ok (.invokevirtual 214, 3) := by decide +kernel
theorem dX10_room_6 : decode cX10_room 6 = .ok (.aload_n 0, 1) := by decide +kernel
theorem dX10_room_7 : decode cX10_room 7 = .ok (.iload_n 1, 1) := by decide +kernel
theorem dX10_room_8 : decode cX10_room 8 = .ok (.iconst 2, 1) := by decide +kernel
theorem dX10_room_9 : decode cX10_room 9 = .ok (.invokevirtual 214, 3) := by decide +kernel
theorem dX10_room_12 : decode cX10_room 12 = .ok (.isub, 1) := by decide +kernel
theorem dX10_room_13 : decode cX10_room 13 = .ok (.ireturn, 1) := by decide +kernel
theorem dX10_throttleOrder_0 : decode cX10_throttleOrder 0 = .ok (.aload_n 0, 1) := by decide +kernel
theorem dX10_throttleOrder_1 : decode cX10_throttleOrder 1 = .ok (.iload_n 1, 1) := by decide +kernel
theorem dX10_throttleOrder_2 : decode cX10_throttleOrder 2 = .ok (.ifCond .lt 7, 3) := by decide +kernel
theorem dX10_throttleOrder_5 : decode cX10_throttleOrder 5 = .ok (.iconst 1, 1) := by decide +kernel
theorem dX10_throttleOrder_6 : decode cX10_throttleOrder 6 = .ok (.goto 4, 3) := by decide +kernel
theorem dX10_throttleOrder_9 : decode cX10_throttleOrder 9 = .ok (.iconst 0, 1) := by decide +kernel
theorem dX10_throttleOrder_10 : decode cX10_throttleOrder 10 = .ok (.invokevirtual 207, 3) := by decide +kernel
theorem dX10_throttleOrder_13 : decode cX10_throttleOrder 13 = .ok (.ifCond .eq 5, 3) := by decide +kernel
theorem dX10_throttleOrder_16 : decode cX10_throttleOrder 16 = .ok (.iconst 0, 1) := by decide +kernel
theorem dX10_throttleOrder_17 : decode cX10_throttleOrder 17 = .ok (.ireturn, 1) := by decide +kernel
theorem dX10_throttleOrder_18 : decode cX10_throttleOrder 18 = .ok (.iconst 0, 1) := by decide +kernel
theorem dX10_throttleOrder_19 : decode cX10_throttleOrder 19 = .ok (.istore_n 2, 1) := by decide +kernel
theorem dX10_throttleOrder_20 : decode cX10_throttleOrder 20 = .ok (.iload_n 2, 1) := by decide +kernel
theorem dX10_throttleOrder_21 : decode cX10_throttleOrder 21 = .ok (.aload_n 0, 1) := by decide +kernel
theorem dX10_throttleOrder_22 : decode cX10_throttleOrder 22 = .ok (.getfield 193, 3) := by decide +kernel
theorem dX10_throttleOrder_25 : decode cX10_throttleOrder 25 = .ok (.if_icmp .ge 78, 3) := by decide +kernel
theorem dX10_throttleOrder_28 : decode cX10_throttleOrder 28 = .ok (.iconst 0, 1) := by decide +kernel
theorem dX10_throttleOrder_29 : decode cX10_throttleOrder 29 = .ok (.istore_n 3, 1) := by decide +kernel
theorem dX10_throttleOrder_30 : decode cX10_throttleOrder 30 = .ok (.iconst 0, 1) := by decide +kernel
theorem dX10_throttleOrder_31 : decode cX10_throttleOrder 31 = .ok (.istore 4, 2) := by decide +kernel
theorem dX10_throttleOrder_33 : decode cX10_throttleOrder 33 = .ok (.iload 4, 2) := by decide +kernel
theorem dX10_throttleOrder_35 : decode cX10_throttleOrder 35 = .ok (.aload_n 0, 1) := by decide +kernel
theorem dX10_throttleOrder_36 : decode cX10_throttleOrder 36 = .ok (.getfield 193, 3) := by decide +kernel
theorem dX10_throttleOrder_39 : decode cX10_throttleOrder 39 = .ok (.if_icmp .ge 51, 3) := by decide +kernel
theorem dX10_throttleOrder_42 : decode cX10_throttleOrder 42 = .ok (.iload_n 3, 1) := by decide +kernel
theorem dX10_throttleOrder_43 : decode cX10_throttleOrder 43 = .ok (.aload_n 0, 1) := by decide +kernel
theorem dX10_throttleOrder_44 : decode cX10_throttleOrder 44 = .ok (.iload 4, 2) := by decide +kernel
theorem dX10_throttleOrder_46 : decode cX10_throttleOrder 46 = .ok (.invokevirtual 306, 3) := by decide +kernel
theorem dX10_throttleOrder_49 : decode cX10_throttleOrder 49 = .ok (.aload_n 0, 1) := by decide +kernel
theorem dX10_throttleOrder_50 : decode cX10_throttleOrder 50 = .ok (.iload_n 2, 1) := by decide +kernel
theorem dX10_throttleOrder_51 : decode cX10_throttleOrder 51 = .ok (.invokevirtual 306, 3) := by decide +kernel
theorem dX10_throttleOrder_54 : decode cX10_throttleOrder 54 = .ok (.if_icmp .lt 23, 3) := by decide +kernel
theorem dX10_throttleOrder_57 : decode cX10_throttleOrder 57 = .ok (.aload_n 0, 1) := by decide +kernel
theorem dX10_throttleOrder_58 : decode cX10_throttleOrder 58 = .ok (.iload 4, 2) := by decide +kernel
theorem dX10_throttleOrder_60 : decode cX10_throttleOrder 60 = .ok (.invokevirtual 306, 3) := by decide +kernel
theorem dX10_throttleOrder_63 : decode cX10_throttleOrder 63 = .ok (.aload_n 0, 1) := by decide +kernel
theorem dX10_throttleOrder_64 : decode cX10_throttleOrder 64 = .ok (.iload_n 2, 1) := by decide +kernel
theorem dX10_throttleOrder_65 : decode cX10_throttleOrder 65 = .ok (.invokevirtual 306, 3) := by decide +kernel
theorem dX10_throttleOrder_68 : decode cX10_throttleOrder 68 = .ok (.if_icmp .ne 13, 3) := by decide +kernel
theorem dX10_throttleOrder_71 : decode cX10_throttleOrder 71 = .ok (.iload 4, 2) := by decide +kernel
theorem dX10_throttleOrder_73 : decode cX10_throttleOrder 73 = .ok (.iload_n 2, 1) := by decide +kernel
theorem dX10_throttleOrder_74 : decode cX10_throttleOrder 74 = .ok (.if_icmp .ge 7, 3) := by decide +kernel
theorem dX10_throttleOrder_77 : decode cX10_throttleOrder 77 = .ok (.iconst 1, 1) := by decide +kernel
theorem dX10_throttleOrder_78 : decode cX10_throttleOrder 78 = .ok (.goto 4, 3) := by decide +kernel
theorem dX10_throttleOrder_81 : decode cX10_throttleOrder 81 = .ok (.iconst 0, 1) := by decide +kernel
theorem dX10_throttleOrder_82 : decode cX10_throttleOrder 82 = .ok (.iadd, 1) := by decide +kernel
theorem dX10_throttleOrder_83 : decode cX10_throttleOrder 83 = .ok (.istore_n 3, 1) := by decide +kernel
theorem dX10_throttleOrder_84 : decode cX10_throttleOrder 84 = .ok (.iinc 4 1, 3) := by decide +kernel
theorem dX10_throttleOrder_87 : decode cX10_throttleOrder 87 = .ok (.goto (-54), 3) := by decide +kernel
theorem dX10_throttleOrder_90 : decode cX10_throttleOrder 90 = .ok (.iload_n 3, 1) := by decide +kernel
theorem dX10_throttleOrder_91 : decode cX10_throttleOrder 91 = .ok (.iload_n 1, 1) := by decide +kernel
theorem dX10_throttleOrder_92 : decode cX10_throttleOrder 92 = .ok (.if_icmp .ne 5, 3) := by decide +kernel
theorem dX10_throttleOrder_95 : decode cX10_throttleOrder 95 = .ok (.iload_n 2, 1) := by decide +kernel
theorem dX10_throttleOrder_96 : decode cX10_throttleOrder 96 = .ok (.ireturn, 1) := by decide +kernel
theorem dX10_throttleOrder_97 : decode cX10_throttleOrder 97 = .ok (.iinc 2 1, 3) := by decide +kernel
theorem dX10_throttleOrder_100 : decode cX10_throttleOrder 100 = .ok (.goto (-80), 3) := by decide +kernel
theorem dX10_throttleOrder_103 : decode cX10_throttleOrder 103 = .ok (.aload_n 0, 1) := by decide +kernel
theorem dX10_throttleOrder_104 : decode cX10_throttleOrder 104 = .ok (.iconst 3, 1) := by decide +kernel
theorem dX10_throttleOrder_105 : decode cX10_throttleOrder 105 = .ok (.putfield 74, 3) := by decide +kernel
theorem dX10_throttleOrder_108 : decode cX10_throttleOrder 108 = .ok (.iconst 0, 1) := by decide +kernel
theorem dX10_throttleOrder_109 : decode cX10_throttleOrder 109 = .ok (.ireturn, 1) := by decide +kernel
theorem dX10_meanPower_0 : decode cX10_meanPower 0 = .ok (.aload_n 0, 1) := by decide +kernel
theorem dX10_meanPower_1 : decode cX10_meanPower 1 = .ok (.aload_n 0, 1) := by decide +kernel
theorem dX10_meanPower_2 : decode cX10_meanPower 2 = .ok (.iload_n 1, 1) := by decide +kernel
theorem dX10_meanPower_3 : decode cX10_meanPower 3 = .ok (.invokevirtual 274, 3) := by decide +kernel
theorem dX10_meanPower_6 : decode cX10_meanPower 6 = .ok (.invokevirtual 207, 3) := by decide +kernel
theorem dX10_meanPower_9 : decode cX10_meanPower 9 = .ok (.ifCond .eq 5, 3) := by decide +kernel
theorem dX10_meanPower_12 : decode cX10_meanPower 12 = .ok (.fconst 0, 1) := by decide +kernel
theorem dX10_meanPower_13 : decode cX10_meanPower 13 = .ok (.freturn, 1) := by decide +kernel
theorem dX10_meanPower_14 : decode cX10_meanPower 14 = .ok (.aload_n 0, 1) := by decide +kernel
theorem dX10_meanPower_15 : decode cX10_meanPower 15 = .ok (.aload_n 0, 1) := by decide +kernel
theorem dX10_meanPower_16 : decode cX10_meanPower 16 = .ok (.getfield 7, 3) := by decide +kernel
theorem dX10_meanPower_19 : decode cX10_meanPower 19 = .ok (.iconst 0, 1) := by decide +kernel
theorem dX10_meanPower_20 : decode cX10_meanPower 20 = .ok (.iaload, 1) := by decide +kernel
theorem dX10_meanPower_21 : decode cX10_meanPower 21 = .ok (.ifCond .ne 7, 3) := by decide +kernel
theorem dX10_meanPower_24 : decode cX10_meanPower 24 = .ok (.iconst 3, 1) := by decide +kernel
theorem dX10_meanPower_25 : decode cX10_meanPower 25 = .ok (.goto 4, 3) := by decide +kernel
theorem dX10_meanPower_28 : decode cX10_meanPower 28 = .ok (.iconst 0, 1) := by decide +kernel
theorem dX10_meanPower_29 : decode cX10_meanPower 29 = .ok (.putfield 74, 3) := by decide +kernel
theorem dX10_meanPower_32 : decode cX10_meanPower 32 = .ok (.aload_n 0, 1) := by decide +kernel
theorem dX10_meanPower_33 : decode cX10_meanPower 33 = .ok (.getfield 74, 3) := by decide +kernel
theorem dX10_meanPower_36 : decode cX10_meanPower 36 = .ok (.iconst 3, 1) := by decide +kernel
theorem dX10_meanPower_37 : decode cX10_meanPower 37 = .ok (.if_icmp .ne 7, 3) := by decide +kernel
theorem dX10_meanPower_40 : decode cX10_meanPower 40 = .ok (.fconst 0, 1) := by decide +kernel
theorem dX10_meanPower_41 : decode cX10_meanPower 41 = .ok (.goto 18, 3) := by decide +kernel
theorem dX10_meanPower_44 : decode cX10_meanPower 44 = .ok (.aload_n 0, 1) := by decide +kernel
theorem dX10_meanPower_45 : decode cX10_meanPower 45 = .ok (.iload_n 1, 1) := by decide +kernel
theorem dX10_meanPower_46 : decode cX10_meanPower 46 = .ok (.iconst 4, 1) := by decide +kernel
theorem dX10_meanPower_47 : decode cX10_meanPower 47 = .ok (.invokevirtual 214, 3) := by decide +kernel
theorem dX10_meanPower_50 : decode cX10_meanPower 50 = .ok (.i2f, 1) := by decide +kernel
theorem dX10_meanPower_51 : decode cX10_meanPower 51 = .ok (.aload_n 0, 1) := by decide +kernel
theorem dX10_meanPower_52 : decode cX10_meanPower 52 = .ok (.getfield 7, 3) := by decide +kernel
theorem dX10_meanPower_55 : decode cX10_meanPower 55 = .ok (.iconst 0, 1) := by decide +kernel
theorem dX10_meanPower_56 : decode cX10_meanPower 56 = .ok (.iaload, 1) := by decide +kernel
theorem dX10_meanPower_57 : decode cX10_meanPower 57 = .ok (.i2f, 1) := by decide +kernel
theorem dX10_meanPower_58 : decode cX10_meanPower 58 = .ok (.fdiv, 1) := by decide +kernel
theorem dX10_meanPower_59 : decode cX10_meanPower 59 = .ok (.freturn, 1) := by decide +kernel
theorem dX10_jobCount_0 : decode cX10_jobCount 0 = .ok (.aload_n 0, 1) := by decide +kernel
theorem dX10_jobCount_1 : decode cX10_jobCount 1 = .ok (.iconst 1, 1) := by decide +kernel
theorem dX10_jobCount_2 : decode cX10_jobCount 2 = .ok (.invokevirtual 207, 3) := by decide +kernel
theorem dX10_jobCount_5 : decode cX10_jobCount 5 = .ok (.ifCond .eq 7, 3) := by decide +kernel
theorem dX10_jobCount_8 : decode cX10_jobCount 8 = .ok (.iconst 0, 1) := by decide +kernel
theorem dX10_jobCount_9 : decode cX10_jobCount 9 = .ok (.goto 9, 3) := by decide +kernel
theorem dX10_jobCount_12 : decode cX10_jobCount 12 = .ok (.aload_n 0, 1) := by decide +kernel
theorem dX10_jobCount_13 : decode cX10_jobCount 13 = .ok (.getfield 7, 3) := by decide +kernel
theorem dX10_jobCount_16 : decode cX10_jobCount 16 = .ok (.iconst 2, 1) := by decide +kernel
theorem dX10_jobCount_17 : decode cX10_jobCount 17 = .ok (.iaload, 1) := by decide +kernel
theorem dX10_jobCount_18 : decode cX10_jobCount 18 = .ok (.ireturn, 1) := by decide +kernel
theorem dX10_jobValue_0 : decode cX10_jobValue 0 = .ok (.aload_n 0, 1) := by decide +kernel
theorem dX10_jobValue_1 : decode cX10_jobValue 1 = .ok (.aload_n 0, 1) := by decide +kernel
theorem dX10_jobValue_2 : decode cX10_jobValue 2 = .ok (.iload_n 1, 1) := by decide +kernel
theorem dX10_jobValue_3 : decode cX10_jobValue 3 = .ok (.invokevirtual 286, 3) := by decide +kernel
theorem dX10_jobValue_6 : decode cX10_jobValue 6 = .ok (.ifCond .eq 19, 3) := by decide +kernel
theorem dX10_jobValue_9 : decode cX10_jobValue 9 = .ok (.iload_n 2, 1) := by decide +kernel
theorem dX10_jobValue_10 : decode cX10_jobValue 10 = .ok (.i2l, 1) := by decide +kernel
theorem dX10_jobValue_11 : decode cX10_jobValue 11 = .ok (.lconst 0, 1) := by decide +kernel
theorem dX10_jobValue_12 : decode cX10_jobValue 12 = .ok (.ldc2_w 277, 3) := by decide +kernel
theorem dX10_jobValue_15 : decode cX10_jobValue 15 = .ok (.invokestatic 88, 3) := by decide +kernel
theorem dX10_jobValue_18 : decode cX10_jobValue 18 = .ok (.ifCond .eq 7, 3) := by decide +kernel
theorem dX10_jobValue_21 : decode cX10_jobValue 21 = .ok (.iconst 1, 1) := by decide +kernel
theorem dX10_jobValue_22 : decode cX10_jobValue 22 = .ok (.goto 4, 3) := by decide +kernel
theorem dX10_jobValue_25 : decode cX10_jobValue 25 = .ok (.iconst 0, 1) := by decide +kernel
theorem dX10_jobValue_26 : decode cX10_jobValue 26 = .ok (.invokevirtual 207, 3) := by decide +kernel
theorem dX10_jobValue_29 : decode cX10_jobValue 29 = .ok (.ifCond .eq 7, 3) := by decide +kernel
theorem dX10_jobValue_32 : decode cX10_jobValue 32 = .ok (.iconst 0, 1) := by decide +kernel
theorem dX10_jobValue_33 : decode cX10_jobValue 33 = .ok (.goto 9, 3) := by decide +kernel
theorem dX10_jobValue_36 : decode cX10_jobValue 36 = .ok (.aload_n 0, 1) := by decide +kernel
theorem dX10_jobValue_37 : decode cX10_jobValue 37 = .ok (.iload_n 1, 1) := by decide +kernel
theorem dX10_jobValue_38 : decode cX10_jobValue 38 = .ok (.iload_n 2, 1) := by decide +kernel
theorem dX10_jobValue_39 : decode cX10_jobValue 39 = .ok (.invokevirtual 211, 3) := by decide +kernel
theorem dX10_jobValue_42 : decode cX10_jobValue 42 = .ok (.ireturn, 1) := by decide +kernel
theorem dX10_doneAt_0 : decode cX10_doneAt 0 = .ok (.aload_n 0, 1) := by decide +kernel
theorem dX10_doneAt_1 : decode cX10_doneAt 1 = .ok (.aload_n 0, 1) := by decide +kernel
theorem dX10_doneAt_2 : decode cX10_doneAt 2 = .ok (.iload_n 1, 1) := by decide +kernel
theorem dX10_doneAt_3 : decode cX10_doneAt 3 = .ok (.invokevirtual 286, 3) := by decide +kernel
theorem dX10_doneAt_6 : decode cX10_doneAt 6 = .ok (.invokevirtual 207, 3) := by decide +kernel
theorem dX10_doneAt_9 : decode cX10_doneAt 9 = .ok (.ifCond .eq 5, 3) := by decide +kernel
theorem dX10_doneAt_12 : decode cX10_doneAt 12 = .ok (.iconst 0, 1) := by decide +kernel
theorem dX10_doneAt_13 : decode cX10_doneAt 13 = .ok (.ireturn, 1) := by decide +kernel
theorem dX10_doneAt_14 : decode cX10_doneAt 14 = .ok (.aload_n 0, 1) := by decide +kernel
theorem dX10_doneAt_15 : decode cX10_doneAt 15 = .ok (.iload_n 1, 1) := by decide +kernel
theorem dX10_doneAt_16 : decode cX10_doneAt 16 = .ok (.bipush 7, 2) := by decide +kernel
theorem dX10_doneAt_18 : decode cX10_doneAt 18 = .ok (.invokevirtual 211, 3) := by decide +kernel
theorem dX10_doneAt_21 : decode cX10_doneAt 21 = .ok (.iconst 3, 1) := by decide +kernel
theorem dX10_doneAt_22 : decode cX10_doneAt 22 = .ok (.if_icmp .ne 13, 3) := by decide +kernel
theorem dX10_doneAt_25 : decode cX10_doneAt 25 = .ok (.aload_n 0, 1) := by decide +kernel
theorem dX10_doneAt_26 : decode cX10_doneAt 26 = .ok (.iload_n 1, 1) := by decide +kernel
theorem dX10_doneAt_27 : decode cX10_doneAt 27 = .ok (.bipush 8, 2) := by decide +kernel
theorem dX10_doneAt_29 : decode cX10_doneAt 29 = .ok (.invokevirtual 211, 3) := by decide +kernel
theorem dX10_doneAt_32 : decode cX10_doneAt 32 = .ok (.goto 5, 3) := by decide +kernel
theorem dX10_doneAt_35 : decode cX10_doneAt 35 = .ok (.bipush (-2), 2) := by decide +kernel
theorem dX10_doneAt_37 : decode cX10_doneAt 37 = .ok (.ireturn, 1) := by decide +kernel
theorem dX10_isLate_0 : decode cX10_isLate 0 = .ok (.aload_n 0, 1) := by decide +kernel
theorem dX10_isLate_1 : decode cX10_isLate 1 = .ok (.iload_n 1, 1) := by decide +kernel
theorem dX10_isLate_2 : decode cX10_isLate 2 = .ok (.bipush 7, 2) := by decide +kernel
theorem dX10_isLate_4 : decode cX10_isLate 4 = .ok (.invokevirtual 211, 3) := by decide +kernel
theorem dX10_isLate_7 : decode cX10_isLate 7 = .ok (.iconst 3, 1) := by decide +kernel
theorem dX10_isLate_8 : decode cX10_isLate 8 = .ok (.if_icmp .ne 23, 3) := by decide +kernel
theorem dX10_isLate_11 : decode cX10_isLate 11 = .ok (.aload_n 0, 1) := by decide +kernel
theorem dX10_isLate_12 : decode cX10_isLate 12 = .ok (.iload_n 1, 1) := by decide +kernel
theorem dX10_isLate_13 : decode cX10_isLate 13 = .ok (.bipush 8, 2) := by decide +kernel
theorem dX10_isLate_15 : decode cX10_isLate 15 = .ok (.invokevirtual 211, 3) := by decide +kernel
theorem dX10_isLate_18 : decode cX10_isLate 18 = .ok (.aload_n 0, 1) := by decide +kernel
theorem dX10_isLate_19 : decode cX10_isLate 19 = .ok (.iload_n 1, 1) := by decide +kernel
theorem dX10_isLate_20 : decode cX10_isLate 20 = .ok (.iconst 5, 1) := by decide +kernel
theorem dX10_isLate_21 : decode cX10_isLate 21 = .ok (.invokevirtual 211, 3) := by decide +kernel
theorem dX10_isLate_24 : decode cX10_isLate 24 = .ok (.if_icmp .le 7, 3) := by decide +kernel
theorem dX10_isLate_27 : decode cX10_isLate 27 = .ok (.iconst 1, 1) := by decide +kernel
