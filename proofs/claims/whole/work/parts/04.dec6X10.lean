theorem dX10_isLate_28 : decode cX10_isLate 28 = .ok (.goto 4, 3) := by decide +kernel
theorem dX10_isLate_31 : decode cX10_isLate 31 = .ok (.iconst 0, 1) := by decide +kernel
theorem dX10_isLate_32 : decode cX10_isLate 32 = .ok (.ireturn, 1) := by decide +kernel
theorem dX10_lateJobs_0 : decode cX10_lateJobs 0 = .ok (.aload_n 0, 1) := by decide +kernel
theorem dX10_lateJobs_1 : decode cX10_lateJobs 1 = .ok (.iconst 1, 1) := by decide +kernel
theorem dX10_lateJobs_2 : decode cX10_lateJobs 2 = .ok (.invokevirtual 207, 3) := by decide +kernel
theorem dX10_lateJobs_5 : decode cX10_lateJobs 5 = .ok (.ifCond .eq 5, 3) := by decide +kernel
theorem dX10_lateJobs_8 : decode cX10_lateJobs 8 = .ok (.iconst 0, 1) := by decide +kernel
theorem dX10_lateJobs_9 : decode cX10_lateJobs 9 = .ok (.ireturn, 1) := by decide +kernel
theorem dX10_lateJobs_10 : decode cX10_lateJobs 10 = .ok (.iconst 0, 1) := by decide +kernel
theorem dX10_lateJobs_11 : decode cX10_lateJobs 11 = .ok (.istore_n 1, 1) := by decide +kernel
theorem dX10_lateJobs_12 : decode cX10_lateJobs 12 = .ok (.iconst 0, 1) := by decide +kernel
theorem dX10_lateJobs_13 : decode cX10_lateJobs 13 = .ok (.istore_n 2, 1) := by decide +kernel
theorem dX10_lateJobs_14 : decode cX10_lateJobs 14 = .ok (.iload_n 2, 1) := by decide +kernel
theorem dX10_lateJobs_15 : decode cX10_lateJobs 15 = .ok (.aload_n 0, 1) := by decide +kernel
theorem dX10_lateJobs_16 : decode cX10_lateJobs 16 = .ok (.getfield 7, 3) := by decide +kernel
theorem dX10_lateJobs_19 : decode cX10_lateJobs 19 = .ok (.iconst 2, 1) := by decide +kernel
theorem dX10_lateJobs_20 : decode cX10_lateJobs 20 = .ok (.iaload, 1) := by decide +kernel
theorem dX10_lateJobs_21 : decode cX10_lateJobs 21 = .ok (.if_icmp .ge 27, 3) := by decide +kernel
theorem dX10_lateJobs_24 : decode cX10_lateJobs 24 = .ok (.iload_n 1, 1) := by decide +kernel
theorem dX10_lateJobs_25 : decode cX10_lateJobs 25 = .ok (.aload_n 0, 1) := by decide +kernel
theorem dX10_lateJobs_26 : decode cX10_lateJobs 26 = .ok (.iload_n 2, 1) := by decide +kernel
theorem dX10_lateJobs_27 : decode cX10_lateJobs 27 = .ok (.invokevirtual 309, 3) := by decide +kernel
theorem dX10_lateJobs_30 : decode cX10_lateJobs 30 = .ok (.ifCond .eq 9, 3) := by decide +kernel
theorem dX10_lateJobs_33 : decode cX10_lateJobs 33 = .ok (.iconst 1, 1) := by decide +kernel
theorem dX10_lateJobs_34 : decode cX10_lateJobs 34 = .ok (.iload_n 2, 1) := by decide +kernel
theorem dX10_lateJobs_35 : decode cX10_lateJobs 35 = .ok (.ishl, 1) := by decide +kernel
theorem dX10_lateJobs_36 : decode cX10_lateJobs 36 = .ok (.goto 4, 3) := by decide +kernel
theorem dX10_lateJobs_39 : decode cX10_lateJobs 39 = .ok (.iconst 0, 1) := by decide +kernel
theorem dX10_lateJobs_40 : decode cX10_lateJobs 40 = .ok (.ior, 1) := by decide +kernel
theorem dX10_lateJobs_41 : decode cX10_lateJobs 41 = .ok (.istore_n 1, 1) := by decide +kernel
theorem dX10_lateJobs_42 : decode cX10_lateJobs 42 = .ok (.iinc 2 1, 3) := by decide +kernel
theorem dX10_lateJobs_45 : decode cX10_lateJobs 45 = .ok (.goto (-31), 3) := by decide +kernel
theorem dX10_lateJobs_48 : decode cX10_lateJobs 48 = .ok (.iload_n 1, 1) := by decide +kernel
theorem dX10_lateJobs_49 : decode cX10_lateJobs 49 = .ok (.ireturn, 1) := by decide +kernel
theorem dX10_isQueued_0 : decode cX10_isQueued 0 = .ok (.aload_n 0, 1) := by decide +kernel
theorem dX10_isQueued_1 : decode cX10_isQueued 1 = .ok (.iload_n 2, 1) := by decide +kernel
theorem dX10_isQueued_2 : decode cX10_isQueued 2 = .ok (.iconst 0, 1) := by decide +kernel
theorem dX10_isQueued_3 : decode cX10_isQueued 3 = .ok (.invokevirtual 211, 3) := by decide +kernel
theorem dX10_isQueued_6 : decode cX10_isQueued 6 = .ok (.iload_n 1, 1) := by decide +kernel
theorem dX10_isQueued_7 : decode cX10_isQueued 7 = .ok (.if_icmp .ne 18, 3) := by decide +kernel
theorem dX10_isQueued_10 : decode cX10_isQueued 10 = .ok (.aload_n 0, 1) := by decide +kernel
theorem dX10_isQueued_11 : decode cX10_isQueued 11 = .ok (.iload_n 2, 1) := by decide +kernel
theorem dX10_isQueued_12 : decode cX10_isQueued 12 = .ok (.bipush 7, 2) := by decide +kernel
theorem dX10_isQueued_14 : decode cX10_isQueued 14 = .ok (.invokevirtual 211, 3) := by decide +kernel
theorem dX10_isQueued_17 : decode cX10_isQueued 17 = .ok (.iconst 1, 1) := by decide +kernel
theorem dX10_isQueued_18 : decode cX10_isQueued 18 = .ok (.if_icmp .gt 7, 3) := by decide +kernel
theorem dX10_isQueued_21 : decode cX10_isQueued 21 = .ok (.iconst 1, 1) := by decide +kernel
theorem dX10_isQueued_22 : decode cX10_isQueued 22 = .ok (.goto 4, 3) := by decide +kernel
theorem dX10_isQueued_25 : decode cX10_isQueued 25 = .ok (.iconst 0, 1) := by decide +kernel
theorem dX10_isQueued_26 : decode cX10_isQueued 26 = .ok (.ireturn, 1) := by decide +kernel
theorem dX10_queued_0 : decode cX10_queued 0 = .ok (.aload_n 0, 1) := by decide +kernel
theorem dX10_queued_1 : decode cX10_queued 1 = .ok (.aload_n 0, 1) := by decide +kernel
theorem dX10_queued_2 : decode cX10_queued 2 = .ok (.iload_n 1, 1) := by decide +kernel
theorem dX10_queued_3 : decode cX10_queued 3 = .ok (.invokevirtual 274, 3) := by decide +kernel
theorem dX10_queued_6 : decode cX10_queued 6 = .ok (.ifCond .eq 11, 3) := by decide +kernel
theorem dX10_queued_9 : decode cX10_queued 9 = .ok (.iload_n 2, 1) := by decide +kernel
theorem dX10_queued_10 : decode cX10_queued 10 = .ok (.ifCond .lt 7, 3) := by decide +kernel
theorem dX10_queued_13 : decode cX10_queued 13 = .ok (.iconst 1, 1) := by decide +kernel
theorem dX10_queued_14 : decode cX10_queued 14 = .ok (.goto 4, 3) := by decide +kernel
theorem dX10_queued_17 : decode cX10_queued 17 = .ok (.iconst 0, 1) := by decide +kernel
theorem dX10_queued_18 : decode cX10_queued 18 = .ok (.invokevirtual 207, 3) := by decide +kernel
theorem dX10_queued_21 : decode cX10_queued 21 = .ok (.ifCond .eq 5, 3) := by decide +kernel
theorem dX10_queued_24 : decode cX10_queued 24 = .ok (.iconst 0, 1) := by decide +kernel
theorem dX10_queued_25 : decode cX10_queued 25 = .ok (.ireturn, 1) := by decide +kernel
theorem dX10_queued_26 : decode cX10_queued 26 = .ok (.iconst 0, 1) := by decide +kernel
theorem dX10_queued_27 : decode cX10_queued 27 = .ok (.istore_n 3, 1) := by decide +kernel
theorem dX10_queued_28 : decode cX10_queued 28 = .ok (.iload_n 3, 1) := by decide +kernel
theorem dX10_queued_29 : decode cX10_queued 29 = .ok (.aload_n 0, 1) := by decide +kernel
theorem dX10_queued_30 : decode cX10_queued 30 = .ok (.getfield 7, 3) := by decide +kernel
theorem dX10_queued_33 : decode cX10_queued 33 = .ok (.iconst 2, 1) := by decide +kernel
theorem dX10_queued_34 : decode cX10_queued 34 = .ok (.iaload, 1) := by decide +kernel
theorem dX10_queued_35 : decode cX10_queued 35 = .ok (.if_icmp .ge 101, 3) := by decide +kernel
theorem dX10_queued_38 : decode cX10_queued 38 = .ok (.iconst 0, 1) := by decide +kernel
theorem dX10_queued_39 : decode cX10_queued 39 = .ok (.istore 4, 2) := by decide +kernel
theorem dX10_queued_41 : decode cX10_queued 41 = .ok (.iconst 0, 1) := by decide +kernel
theorem dX10_queued_42 : decode cX10_queued 42 = .ok (.istore 5, 2) := by decide +kernel
theorem dX10_queued_44 : decode cX10_queued 44 = .ok (.iload 5, 2) := by decide +kernel
theorem dX10_queued_46 : decode cX10_queued 46 = .ok (.aload_n 0, 1) := by decide +kernel
theorem dX10_queued_47 : decode cX10_queued 47 = .ok (.getfield 7, 3) := by decide +kernel
theorem dX10_queued_50 : decode cX10_queued 50 = .ok (.iconst 2, 1) := by decide +kernel
theorem dX10_queued_51 : decode cX10_queued 51 = .ok (.iaload, 1) := by decide +kernel
theorem dX10_queued_52 : decode cX10_queued 52 = .ok (.if_icmp .ge 61, 3) := by decide +kernel
theorem dX10_queued_55 : decode cX10_queued 55 = .ok (.aload_n 0, 1) := by decide +kernel
theorem dX10_queued_56 : decode cX10_queued 56 = .ok (.iload 5, 2) := by decide +kernel
theorem dX10_queued_58 : decode cX10_queued 58 = .ok (.iconst 5, 1) := by decide +kernel
theorem dX10_queued_59 : decode cX10_queued 59 = .ok (.invokevirtual 211, 3) := by decide +kernel
theorem dX10_queued_62 : decode cX10_queued 62 = .ok (.aload_n 0, 1) := by decide +kernel
theorem dX10_queued_63 : decode cX10_queued 63 = .ok (.iload_n 3, 1) := by decide +kernel
theorem dX10_queued_64 : decode cX10_queued 64 = .ok (.iconst 5, 1) := by decide +kernel
theorem dX10_queued_65 : decode cX10_queued 65 = .ok (.invokevirtual 211, 3) := by decide +kernel
theorem dX10_queued_68 : decode cX10_queued 68 = .ok (.isub, 1) := by decide +kernel
theorem dX10_queued_69 : decode cX10_queued 69 = .ok (.istore 6, 2) := by decide +kernel
theorem dX10_queued_71 : decode cX10_queued 71 = .ok (.iload 4, 2) := by decide +kernel
theorem dX10_queued_73 : decode cX10_queued 73 = .ok (.aload_n 0, 1) := by decide +kernel
theorem dX10_queued_74 : decode cX10_queued 74 = .ok (.iload_n 1, 1) := by decide +kernel
theorem dX10_queued_75 : decode cX10_queued 75 = .ok (.iload 5, 2) := by decide +kernel
theorem dX10_queued_77 : decode cX10_queued 77 = .ok (.invokevirtual 312, 3) := by decide +kernel
theorem dX10_queued_80 : decode cX10_queued 80 = .ok (.ifCond .eq 23, 3) := by decide +kernel
theorem dX10_queued_83 : decode cX10_queued 83 = .ok (.iload 6, 2) := by decide +kernel
theorem dX10_queued_85 : decode cX10_queued 85 = .ok (.ifCond .lt 14, 3) := by decide +kernel
theorem dX10_queued_88 : decode cX10_queued 88 = .ok (.iload 6, 2) := by decide +kernel
theorem dX10_queued_90 : decode cX10_queued 90 = .ok (.ifCond .ne 13, 3) := by decide +kernel
theorem dX10_queued_93 : decode cX10_queued 93 = .ok (.iload 5, 2) := by decide +kernel
theorem dX10_queued_95 : decode cX10_queued 95 = .ok (.iload_n 3, 1) := by decide +kernel
theorem dX10_queued_96 : decode cX10_queued 96 = .ok (.if_icmp .ge 7, 3) := by decide +kernel
theorem dX10_queued_99 : decode cX10_queued 99 = .ok (.iconst 1, 1) := by decide +kernel
theorem dX10_queued_100 : decode cX10_queued 100 = .ok (.goto 4, 3) := by decide +kernel
theorem dX10_queued_103 : decode cX10_queued 103 = .ok (.iconst 0, 1) := by decide +kernel
theorem dX10_queued_104 : decode cX10_queued 104 = .ok (.iadd, 1) := by decide +kernel
theorem dX10_queued_105 : decode cX10_queued 105 = .ok (.istore 4, 2) := by decide +kernel
theorem dX10_queued_107 : decode cX10_queued 107 = .ok (.iinc 5 1, 3) := by decide +kernel
theorem dX10_queued_110 : decode cX10_queued 110 = .ok (.goto (-66), 3) := by decide +kernel
theorem dX10_queued_113 : decode cX10_queued 113 = .ok (.aload_n 0, 1) := by decide +kernel
theorem dX10_queued_114 : decode cX10_queued 114 = .ok (.iload_n 1, 1) := by decide +kernel
theorem dX10_queued_115 : decode cX10_queued 115 = .ok (.iload_n 3, 1) := by decide +kernel
theorem dX10_queued_116 : decode cX10_queued 116 = .ok (.invokevirtual 312, 3) := by decide +kernel
theorem dX10_queued_119 : decode cX10_queued 119 = .ok (.ifCond .eq 11, 3) := by decide +kernel
theorem dX10_queued_122 : decode cX10_queued 122 = .ok (.iload 4, 2) := by decide +kernel
theorem dX10_queued_124 : decode cX10_queued 124 = .ok (.iload_n 2, 1) := by decide +kernel
theorem dX10_queued_125 : decode cX10_queued 125 = .ok (.if_icmp .ne 5, 3) := by decide +kernel
theorem dX10_queued_128 : decode cX10_queued 128 = .ok (.iload_n 3, 1) := by decide +kernel
theorem dX10_queued_129 : decode cX10_queued 129 = .ok (.ireturn, 1) := by decide +kernel
theorem dX10_queued_130 : decode cX10_queued 130 = .ok (.iinc 3 1, 3) := by decide +kernel
theorem dX10_queued_133 : decode cX10_queued 133 = .ok (.goto (-105), 3) := by decide +kernel
theorem dX10_queued_136 : decode cX10_queued 136 = .ok (.aload_n 0, 1) := by decide +kernel
theorem dX10_queued_137 : decode cX10_queued 137 = .ok (.iconst 3, 1) := by decide +kernel
theorem dX10_queued_138 : decode cX10_queued 138 = .ok (.putfield 74, 3) := by decide +kernel
theorem dX10_queued_141 : decode cX10_queued 141 = .ok (.iconst 0, 1) := by decide +kernel
theorem dX10_queued_142 : decode cX10_queued 142 = .ok (.ireturn, 1) := by decide +kernel
theorem dX10_estimate_0 : decode cX10_estimate 0 = .ok (.aload_n 0, 1) := by decide +kernel
theorem dX10_estimate_1 : decode cX10_estimate 1 = .ok (.iload_n 1, 1) := by decide +kernel
theorem dX10_estimate_2 : decode cX10_estimate 2 = .ok (.i2l, 1) := by decide +kernel
theorem dX10_estimate_3 : decode cX10_estimate 3 = .ok (.lconst 0, 1) := by decide +kernel
theorem dX10_estimate_4 : decode cX10_estimate 4 = .ok (.ldc2_w 277, 3) := by decide +kernel
theorem dX10_estimate_7 : decode cX10_estimate 7 = .ok (.invokestatic 88, 3) := by decide +kernel
theorem dX10_estimate_10 : decode cX10_estimate 10 = .ok (.invokevirtual 207, 3) := by decide +kernel
theorem dX10_estimate_13 : decode cX10_estimate 13 = .ok (.ifCond .eq 7, 3) := by decide +kernel
theorem dX10_estimate_16 : decode cX10_estimate 16 = .ok (.iconst 0, 1) := by decide +kernel
theorem dX10_estimate_17 : decode cX10_estimate 17 = .ok (.goto 11, 3) := by decide +kernel
theorem dX10_estimate_20 : decode cX10_estimate 20 = .ok (.aload_n 0, 1) := by decide +kernel
theorem dX10_estimate_21 : decode cX10_estimate 21 = .ok (.getfield 7, 3) := by decide +kernel
theorem dX10_estimate_24 : decode cX10_estimate 24 = .ok (.iconst 3, 1) := by decide +kernel
theorem dX10_estimate_25 : decode cX10_estimate 25 = .ok (.iload_n 1, 1) := by decide +kernel
theorem dX10_estimate_26 : decode cX10_estimate 26 = .ok (.iadd, 1) := by decide +kernel
theorem dX10_estimate_27 : decode cX10_estimate 27 = .ok (.iaload, 1) := by decide +kernel
theorem dX10_estimate_28 : decode cX10_estimate 28 = .ok (.ireturn, 1) := by decide +kernel
theorem dX10_deviation_0 : decode cX10_deviation 0 = .ok (.aload_n 0, 1) := by decide +kernel
theorem dX10_deviation_1 : decode cX10_deviation 1 = .ok (.iload_n 1, 1) := by decide +kernel
theorem dX10_deviation_2 : decode cX10_deviation 2 = .ok (.i2l, 1) := by decide +kernel
theorem dX10_deviation_3 : decode cX10_deviation 3 = .ok (.lconst 0, 1) := by decide +kernel
theorem dX10_deviation_4 : decode cX10_deviation 4 = .ok (.ldc2_w 277, 3) := by decide +kernel
theorem dX10_deviation_7 : decode cX10_deviation 7 = .ok (.invokestatic 88, 3) := by decide +kernel
theorem dX10_deviation_10 : decode cX10_deviation 10 = .ok (.invokevirtual 207, 3) := by decide +kernel
theorem dX10_deviation_13 : decode cX10_deviation 13 = .ok (.ifCond .eq 5, 3) := by decide +kernel
theorem dX10_deviation_16 : decode cX10_deviation 16 = .ok (.dconst 0, 1) := by decide +kernel
theorem dX10_deviation_17 : decode cX10_deviation 17 = .ok (.dreturn, 1) := by decide +kernel
theorem dX10_deviation_18 : decode cX10_deviation 18 = .ok (.lconst 0, 1) := by decide +kernel
theorem dX10_deviation_19 : decode cX10_deviation 19 = .ok (.lstore_n 2, 1) := by decide +kernel
theorem dX10_deviation_20 : decode cX10_deviation 20 = .ok (.iconst 0, 1) := by decide +kernel
theorem dX10_deviation_21 : decode cX10_deviation 21 = .ok (.istore 4, 2) := by decide +kernel
theorem dX10_deviation_23 : decode cX10_deviation 23 = .ok (.iconst 0, 1) := by decide +kernel
theorem dX10_deviation_24 : decode cX10_deviation 24 = .ok (.istore 5, 2) := by decide +kernel
theorem dX10_deviation_26 : decode cX10_deviation 26 = .ok (.iload 5, 2) := by decide +kernel
theorem dX10_deviation_28 : decode cX10_deviation 28 = .ok (.aload_n 0, 1) := by decide +kernel
theorem dX10_deviation_29 : decode cX10_deviation 29 = .ok (.getfield 7, 3) := by decide +kernel
theorem dX10_deviation_32 : decode cX10_deviation 32 = .ok (.iconst 2, 1) := by decide +kernel
theorem dX10_deviation_33 : decode cX10_deviation 33 = .ok (.iaload, 1) := by decide +kernel
theorem dX10_deviation_34 : decode cX10_deviation 34 = .ok (.if_icmp .ge 71, 3) := by decide +kernel
theorem dX10_deviation_37 : decode cX10_deviation 37 = .ok (.aload_n 0, 1) := by decide +kernel
theorem dX10_deviation_38 : decode cX10_deviation 38 = .ok (.iload 5, 2) := by decide +kernel
theorem dX10_deviation_40 : decode cX10_deviation 40 = .ok (.iconst 1, 1) := by decide +kernel
theorem dX10_deviation_41 : decode cX10_deviation 41 = .ok (.invokevirtual 211, 3) := by decide +kernel
theorem dX10_deviation_44 : decode cX10_deviation 44 = .ok (.iload_n 1, 1) := by decide +kernel
theorem dX10_deviation_45 : decode cX10_deviation 45 = .ok (.if_icmp .ne 54, 3) := by decide +kernel
theorem dX10_deviation_48 : decode cX10_deviation 48 = .ok (.aload_n 0, 1) := by decide +kernel
theorem dX10_deviation_49 : decode cX10_deviation 49 = .ok (.iload 5, 2) := by decide +kernel
theorem dX10_deviation_51 : decode cX10_deviation 51 = .ok (.bipush 7, 2) := by decide +kernel
theorem dX10_deviation_53 : decode cX10_deviation 53 = .ok (.invokevirtual 211, 3) := by decide +kernel
theorem dX10_deviation_56 : decode cX10_deviation 56 = .ok (.iconst 3, 1) := by decide +kernel
theorem dX10_deviation_57 : decode cX10_deviation 57 = .ok (.if_icmp .ne 42, 3) := by decide +kernel
theorem dX10_deviation_60 : decode cX10_deviation 60 = .ok (.aload_n 0, 1) := by decide +kernel
theorem dX10_deviation_61 : decode cX10_deviation 61 = .ok (.iload 5, 2) := by decide +kernel
theorem dX10_deviation_63 : decode cX10_deviation 63 = .ok (.iconst 4, 1) := by decide +kernel
theorem dX10_deviation_64 : decode cX10_deviation 64 = .ok (.invokevirtual 211, 3) := by decide +kernel
theorem dX10_deviation_67 : decode cX10_deviation 67 = .ok (.aload_n 0, 1) := by decide +kernel
theorem dX10_deviation_68 : decode cX10_deviation 68 = .ok (.getfield 7, 3) := by decide +kernel
theorem dX10_deviation_71 : decode cX10_deviation 71 = .ok (.iconst 3, 1) := by decide +kernel
theorem dX10_deviation_72 : decode cX10_deviation 72 = .ok (.iload_n 1, 1) := by decide +kernel
theorem dX10_deviation_73 : decode cX10_deviation 73 = .ok (.iadd, 1) := by decide +kernel
theorem dX10_deviation_74 : decode cX10_deviation 74 = .ok (.iaload, 1) := by decide +kernel
theorem dX10_deviation_75 : decode cX10_deviation 75 = .ok (.isub, 1) := by decide +kernel
theorem dX10_deviation_76 : decode cX10_deviation 76 = .ok (.istore 6, 2) := by decide +kernel
theorem dX10_deviation_78 : decode cX10_deviation 78 = .ok (.lload_n 2, 1) := by decide +kernel
theorem dX10_deviation_79 : decode cX10_deviation 79 = .ok (.iload 6, 2) := by decide +kernel
theorem dX10_deviation_81 : decode cX10_deviation 81 = .ok (.ifCond .ge 10, 3) := by decide +kernel
theorem dX10_deviation_84 : decode cX10_deviation 84 = .ok (.iload 6, 2) := by decide +kernel
theorem dX10_deviation_86 : decode cX10_deviation 86 = .ok (.ineg, 1) := by decide +kernel
theorem dX10_deviation_87 : decode cX10_deviation 87 = .ok (.i2l, 1) := by decide +kernel
theorem dX10_deviation_88 : decode cX10_deviation 88 = .ok (.goto 6, 3) := by decide +kernel
theorem dX10_deviation_91 : decode cX10_deviation 91 = .ok (.iload 6, 2) := by decide +kernel
theorem dX10_deviation_93 : decode cX10_deviation 93 = .ok (.i2l, 1) := by decide +kernel
theorem dX10_deviation_94 : decode cX10_deviation 94 = .ok (.ladd, 1) := by decide +kernel
theorem dX10_deviation_95 : decode cX10_deviation 95 = .ok (.lstore_n 2, 1) := by decide +kernel
theorem dX10_deviation_96 : decode cX10_deviation 96 = .ok (.iinc 4 1, 3) := by decide +kernel
theorem dX10_deviation_99 : decode cX10_deviation 99 = .ok (.iinc 5 1, 3) := by decide +kernel
theorem dX10_deviation_102 : decode cX10_deviation 102 = .ok (.goto (-76), 3) := by decide +kernel
theorem dX10_deviation_105 : decode cX10_deviation 105 = .ok (.aload_n 0, 1) := by decide +kernel
theorem dX10_deviation_106 : decode cX10_deviation 106 = .ok (.iload 4, 2) := by decide +kernel
theorem dX10_deviation_108 : decode cX10_deviation 108 = .ok (.ifCond .ne 7, 3) := by decide +kernel
theorem dX10_deviation_111 : decode cX10_deviation 111 = .ok (.iconst 3, 1) := by decide +kernel
theorem dX10_deviation_112 : decode cX10_deviation 112 = .ok (.goto 4, 3) := by decide +kernel
theorem dX10_deviation_115 : decode cX10_deviation 115 = .ok (.iconst 0, 1) := by decide +kernel
theorem dX10_deviation_116 : decode cX10_deviation 116 = .ok (.putfield 74, 3) := by decide +kernel
theorem dX10_deviation_119 : decode cX10_deviation 119 = .ok (.iload 4, 2) := by decide +kernel
theorem dX10_deviation_121 : decode cX10_deviation 121 = .ok (.ifCond .ne 7, 3) := by decide +kernel
theorem dX10_deviation_124 : decode cX10_deviation 124 = .ok (.dconst 0, 1) := by decide +kernel
theorem dX10_deviation_125 : decode cX10_deviation 125 = .ok (.goto 9, 3) := by decide +kernel
theorem dX10_deviation_128 : decode cX10_deviation 128 = .ok (.lload_n 2, 1) := by decide +kernel
theorem dX10_deviation_129 : decode cX10_deviation 129 = .ok (.l2d, 1) := by decide +kernel
theorem dX10_deviation_130 : decode cX10_deviation 130 = .ok (.iload 4, 2) := by decide +kernel
theorem dX10_deviation_132 : decode cX10_deviation 132 = .ok (.i2d, 1) := by decide +kernel
theorem dX10_deviation_133 : decode cX10_deviation 133 = .ok (.ddiv, 1) := by decide +kernel
theorem dX10_deviation_134 : decode cX10_deviation 134 = .ok (.dreturn, 1) := by decide +kernel
theorem dX10_areOver_0 : decode cX10_areOver 0 = .ok (.iconst 1, 1) := by decide +kernel
theorem dX10_areOver_1 : decode cX10_areOver 1 = .ok (.istore_n 1, 1) := by decide +kernel
theorem dX10_areOver_2 : decode cX10_areOver 2 = .ok (.iconst 0, 1) := by decide +kernel
theorem dX10_areOver_3 : decode cX10_areOver 3 = .ok (.istore_n 2, 1) := by decide +kernel
theorem dX10_areOver_4 : decode cX10_areOver 4 = .ok (.iload_n 2, 1) := by decide +kernel
theorem dX10_areOver_5 : decode cX10_areOver 5 = .ok (.aload_n 0, 1) := by decide +kernel
theorem dX10_areOver_6 : decode cX10_areOver 6 = .ok (.getfield 7, 3) := by decide +kernel
theorem dX10_areOver_9 : decode cX10_areOver 9 = .ok (.iconst 2, 1) := by decide +kernel
theorem dX10_areOver_10 : decode cX10_areOver 10 = .ok (.iaload, 1) := by decide +kernel
theorem dX10_areOver_11 : decode cX10_areOver 11 = .ok (.if_icmp .ge 27, 3) := by decide +kernel
theorem dX10_areOver_14 : decode cX10_areOver 14 = .ok (.iload_n 1, 1) := by decide +kernel
theorem dX10_areOver_15 : decode cX10_areOver 15 = .ok (.ifCond .eq 15, 3) := by decide +kernel
theorem dX10_areOver_18 : decode cX10_areOver 18 = .ok (.aload_n 0, 1) := by decide +kernel
theorem dX10_areOver_19 : decode cX10_areOver 19 = .ok (.iload_n 2, 1) := by decide +kernel
theorem dX10_areOver_20 : decode cX10_areOver 20 = .ok (.invokevirtual 289, 3) := by decide +kernel
theorem dX10_areOver_23 : decode cX10_areOver 23 = .ok (.ifCond .eq 7, 3) := by decide +kernel
theorem dX10_areOver_26 : decode cX10_areOver 26 = .ok (.iconst 1, 1) := by decide +kernel
theorem dX10_areOver_27 : decode cX10_areOver 27 = .ok (.goto 4, 3) := by decide +kernel
theorem dX10_areOver_30 : decode cX10_areOver 30 = .ok (.iconst 0, 1) := by decide +kernel
theorem dX10_areOver_31 : decode cX10_areOver 31 = .ok (.istore_n 1, 1) := by decide +kernel
theorem dX10_areOver_32 : decode cX10_areOver 32 = .ok (.iinc 2 1, 3) := by decide +kernel
theorem dX10_areOver_35 : decode cX10_areOver 35 = .ok (.goto (-31), 3) := by decide +kernel
theorem dX10_areOver_38 : decode cX10_areOver 38 = .ok (.iload_n 1, 1) := by decide +kernel
theorem dX10_areOver_39 : decode cX10_areOver 39 = .ok (.ireturn, 1) := by decide +kernel
theorem dX10_passAll_0 : decode cX10_passAll 0 = .ok (.iconst 0, 1) := by decide +kernel
theorem dX10_passAll_1 : decode cX10_passAll 1 = .ok (.istore_n 1, 1) := by decide +kernel
theorem dX10_passAll_2 : decode cX10_passAll 2 = .ok (.iload_n 1, 1) := by decide +kernel
theorem dX10_passAll_3 : decode cX10_passAll 3 = .ok (.sipush 1000, 3) := by decide +kernel
theorem dX10_passAll_6 : decode cX10_passAll 6 = .ok (.if_icmp .ge 20, 3) := by decide +kernel
theorem dX10_passAll_9 : decode cX10_passAll 9 = .ok (.aload_n 0, 1) := by decide +kernel
theorem dX10_passAll_10 : decode cX10_passAll 10 = .ok (.invokevirtual 316, 3) := by decide +kernel
theorem dX10_passAll_13 : decode cX10_passAll 13 = .ok (.ifCond .ne 13, 3) := by decide +kernel
theorem dX10_passAll_16 : decode cX10_passAll 16 = .ok (.aload_n 0, 1) := by decide +kernel
theorem dX10_passAll_17 : decode cX10_passAll 17 = .ok (.invokevirtual 301, 3) := by decide +kernel
theorem dX10_passAll_20 : decode cX10_passAll 20 = .ok (.iinc 1 1, 3) := by decide +kernel
theorem dX10_passAll_23 : decode cX10_passAll 23 = .ok (.goto (-21), 3) := by decide +kernel
theorem dX10_passAll_26 : decode cX10_passAll 26 = .ok (.return_, 1) := by decide +kernel
theorem dX10_willBeDone_0 : decode cX10_willBeDone 0 = .ok (.aload_n 0, 1) := by decide +kernel
theorem dX10_willBeDone_1 : decode cX10_willBeDone 1 = .ok (.aload_n 0, 1) := by decide +kernel
theorem dX10_willBeDone_2 : decode cX10_willBeDone 2 = .ok (.iload_n 1, 1) := by decide +kernel
theorem dX10_willBeDone_3 : decode cX10_willBeDone 3 = .ok (.invokevirtual 286, 3) := by decide +kernel
theorem dX10_willBeDone_6 : decode cX10_willBeDone 6 = .ok (.invokevirtual 207, 3) := by decide +kernel
theorem dX10_willBeDone_9 : decode cX10_willBeDone 9 = .ok (.ifCond .eq 5, 3) := by decide +kernel
theorem dX10_willBeDone_12 : decode cX10_willBeDone 12 = .ok (.iconst 0, 1) := by decide +kernel
theorem dX10_willBeDone_13 : decode cX10_willBeDone 13 = .ok (.ireturn, 1) := by decide +kernel
theorem dX10_willBeDone_14 : decode cX10_willBeDone 14 = .ok (.aload_n 0, 1) := by decide +kernel
theorem dX10_willBeDone_15 : decode cX10_willBeDone 15 = .ok (.invokevirtual 319, 3) := by decide +kernel
theorem dX10_willBeDone_18 : decode cX10_willBeDone 18 = .ok (.iconst 0, 1) := by decide +kernel
theorem dX10_willBeDone_19 : decode cX10_willBeDone 19 = .ok (.istore_n 2, 1) := by decide +kernel
theorem dX10_willBeDone_20 : decode cX10_willBeDone 20 = .ok (.iload_n 2, 1) := by decide +kernel
theorem dX10_willBeDone_21 : decode cX10_willBeDone 21 = .ok (.sipush 1000, 3) := by decide +kernel
theorem dX10_willBeDone_24 : decode cX10_willBeDone 24 = .ok (.if_icmp .ge 21, 3) := by decide +kernel
theorem dX10_willBeDone_27 : decode cX10_willBeDone 27 = .ok (.aload_n 0, 1) := by decide +kernel
theorem dX10_willBeDone_28 : decode cX10_willBeDone 28 = .ok (.iload_n 1, 1) := by decide +kernel
theorem dX10_willBeDone_29 : decode cX10_willBeDone 29 = .ok (.invokevirtual 289, 3) := by decide +kernel
theorem dX10_willBeDone_32 : decode cX10_willBeDone 32 = .ok (.ifCond .ne 13, 3) := by decide +kernel
theorem dX10_willBeDone_35 : decode cX10_willBeDone 35 = .ok (.aload_n 0, 1) := by decide +kernel
theorem dX10_willBeDone_36 : decode cX10_willBeDone 36 = .ok (.invokevirtual 301, 3) := by decide +kernel
theorem dX10_willBeDone_39 : decode cX10_willBeDone 39 = .ok (.iinc 2 1, 3) := by decide +kernel
theorem dX10_willBeDone_42 : decode cX10_willBeDone 42 = .ok (.goto (-22), 3) := by decide +kernel
theorem dX10_willBeDone_45 : decode cX10_willBeDone 45 = .ok (.aload_n 0, 1) := by decide +kernel
theorem dX10_willBeDone_46 : decode cX10_willBeDone 46 = .ok (.iload_n 1, 1) := by decide +kernel
theorem dX10_willBeDone_47 : decode cX10_willBeDone 47 = .ok (.bipush 7, 2) := by decide +kernel
theorem dX10_willBeDone_49 : decode cX10_willBeDone 49 = .ok (.invokevirtual 211, 3) := by decide +kernel
theorem dX10_willBeDone_52 : decode cX10_willBeDone 52 = .ok (.iconst 3, 1) := by decide +kernel
theorem dX10_willBeDone_53 : decode cX10_willBeDone 53 = .ok (.if_icmp .ne 13, 3) := by decide +kernel
theorem dX10_willBeDone_56 : decode cX10_willBeDone 56 = .ok (.aload_n 0, 1) := by decide +kernel
theorem dX10_willBeDone_57 : decode cX10_willBeDone 57 = .ok (.iload_n 1, 1) := by decide +kernel
theorem dX10_willBeDone_58 : decode cX10_willBeDone 58 = .ok (.bipush 8, 2) := by decide +kernel
theorem dX10_willBeDone_60 : decode cX10_willBeDone 60 = .ok (.invokevirtual 211, 3) := by decide +kernel
theorem dX10_willBeDone_63 : decode cX10_willBeDone 63 = .ok (.goto 5, 3) := by decide +kernel
theorem dX10_willBeDone_66 : decode cX10_willBeDone 66 = .ok (.bipush (-2), 2) := by decide +kernel
theorem dX10_willBeDone_68 : decode cX10_willBeDone 68 = .ok (.istore_n 2, 1) := by decide +kernel
theorem dX10_willBeDone_69 : decode cX10_willBeDone 69 = .ok (.aload_n 0, 1) := by decide +kernel
theorem dX10_willBeDone_70 : decode cX10_willBeDone 70 = .ok (.invokevirtual 322, 3) := by decide +kernel
theorem dX10_willBeDone_73 : decode cX10_willBeDone 73 = .ok (.iload_n 2, 1) := by decide +kernel
theorem dX10_willBeDone_74 : decode cX10_willBeDone 74 = .ok (.ireturn, 1) := by decide +kernel
theorem dX10_allOver_0 : decode cX10_allOver 0 = .ok (.aload_n 0, 1) := by decide +kernel
theorem dX10_allOver_1 : decode cX10_allOver 1 = .ok (.iconst 1, 1) := by decide +kernel
theorem dX10_allOver_2 : decode cX10_allOver 2 = .ok (.invokevirtual 207, 3) := by decide +kernel
theorem dX10_allOver_5 : decode cX10_allOver 5 = .ok (.ifCond .eq 5, 3) := by decide +kernel
theorem dX10_allOver_8 : decode cX10_allOver 8 = .ok (.iconst 0, 1) := by decide +kernel
theorem dX10_allOver_9 : decode cX10_allOver 9 = .ok (.ireturn, 1) := by decide +kernel
theorem dX10_allOver_10 : decode cX10_allOver 10 = .ok (.aload_n 0, 1) := by decide +kernel
theorem dX10_allOver_11 : decode cX10_allOver 11 = .ok (.invokevirtual 319, 3) := by decide +kernel
theorem dX10_allOver_14 : decode cX10_allOver 14 = .ok (.aload_n 0, 1) := by decide +kernel
theorem dX10_allOver_15 : decode cX10_allOver 15 = .ok (.invokevirtual 325, 3) := by decide +kernel
theorem dX10_allOver_18 : decode cX10_allOver 18 = .ok (.aload_n 0, 1) := by decide +kernel
theorem dX10_allOver_19 : decode cX10_allOver 19 = .ok (.invokevirtual 316, 3) := by decide +kernel
theorem dX10_allOver_22 : decode cX10_allOver 22 = .ok (.ifCond .eq 12, 3) := by decide +kernel
theorem dX10_allOver_25 : decode cX10_allOver 25 = .ok (.aload_n 0, 1) := by decide +kernel
theorem dX10_allOver_26 : decode cX10_allOver 26 = .ok (.getfield 7, 3) := by decide +kernel
theorem dX10_allOver_29 : decode cX10_allOver 29 = .ok (.iconst 0, 1) := by decide +kernel
theorem dX10_allOver_30 : decode cX10_allOver 30 = .ok (.iaload, 1) := by decide +kernel
theorem dX10_allOver_31 : decode cX10_allOver 31 = .ok (.goto 5, 3) := by decide +kernel
theorem dX10_allOver_34 : decode cX10_allOver 34 = .ok (.bipush (-2), 2) := by decide +kernel
theorem dX10_allOver_36 : decode cX10_allOver 36 = .ok (.istore_n 1, 1) := by decide +kernel
theorem dX10_allOver_37 : decode cX10_allOver 37 = .ok (.aload_n 0, 1) := by decide +kernel
theorem dX10_allOver_38 : decode cX10_allOver 38 = .ok (.invokevirtual 322, 3) := by decide +kernel
theorem dX10_allOver_41 : decode cX10_allOver 41 = .ok (.iload_n 1, 1) := by decide +kernel
theorem dX10_allOver_42 : decode cX10_allOver 42 = .ok (.ireturn, 1) := by decide +kernel
theorem dX10_lateOrOpen_0 : decode cX10_lateOrOpen 0 = .ok (.iconst 0, 1) := by decide +kernel
theorem dX10_lateOrOpen_1 : decode cX10_lateOrOpen 1 = .ok (.istore_n 1, 1) := by decide +kernel
theorem dX10_lateOrOpen_2 : decode cX10_lateOrOpen 2 = .ok (.iconst 0, 1) := by decide +kernel
theorem dX10_lateOrOpen_3 : decode cX10_lateOrOpen 3 = .ok (.istore_n 2, 1) := by decide +kernel
theorem dX10_lateOrOpen_4 : decode cX10_lateOrOpen 4 = .ok (.iload_n 2, 1) := by decide +kernel
theorem dX10_lateOrOpen_5 : decode cX10_lateOrOpen 5 = .ok (.aload_n 0, 1) := by decide +kernel
theorem dX10_lateOrOpen_6 : decode cX10_lateOrOpen 6 = .ok (.getfield 7, 3) := by decide +kernel
theorem dX10_lateOrOpen_9 : decode cX10_lateOrOpen 9 = .ok (.iconst 2, 1) := by decide +kernel
theorem dX10_lateOrOpen_10 : decode cX10_lateOrOpen 10 = .ok (.iaload, 1) := by decide +kernel
theorem dX10_lateOrOpen_11 : decode cX10_lateOrOpen 11 = .ok (.if_icmp .ge 35, 3) := by decide +kernel
theorem dX10_lateOrOpen_14 : decode cX10_lateOrOpen 14 = .ok (.iload_n 1, 1) := by decide +kernel
theorem dX10_lateOrOpen_15 : decode cX10_lateOrOpen 15 = .ok (.aload_n 0, 1) := by decide +kernel
theorem dX10_lateOrOpen_16 : decode cX10_lateOrOpen 16 = .ok (.iload_n 2, 1) := by decide +kernel
theorem dX10_lateOrOpen_17 : decode cX10_lateOrOpen 17 = .ok (.invokevirtual 309, 3) := by decide +kernel
theorem dX10_lateOrOpen_20 : decode cX10_lateOrOpen 20 = .ok (.ifCond .ne 11, 3) := by decide +kernel
theorem dX10_lateOrOpen_23 : decode cX10_lateOrOpen 23 = .ok (.aload_n 0, 1) := by decide +kernel
theorem dX10_lateOrOpen_24 : decode cX10_lateOrOpen 24 = .ok (.iload_n 2, 1) := by decide +kernel
theorem dX10_lateOrOpen_25 : decode cX10_lateOrOpen 25 = .ok (.invokevirtual 289, 3) := by decide +kernel
theorem dX10_lateOrOpen_28 : decode cX10_lateOrOpen 28 = .ok (.ifCond .ne 9, 3) := by decide +kernel
theorem dX10_lateOrOpen_31 : decode cX10_lateOrOpen 31 = .ok (.iconst 1, 1) := by decide +kernel
theorem dX10_lateOrOpen_32 : decode cX10_lateOrOpen 32 = .ok (.iload_n 2, 1) := by decide +kernel
theorem dX10_lateOrOpen_33 : decode cX10_lateOrOpen 33 = .ok (.ishl, 1) := by decide +kernel
theorem dX10_lateOrOpen_34 : decode cX10_lateOrOpen 34 = .ok (.goto 4, 3) := by decide +kernel
theorem dX10_lateOrOpen_37 : decode cX10_lateOrOpen 37 = .ok (.iconst 0, 1) := by decide +kernel
theorem dX10_lateOrOpen_38 : decode cX10_lateOrOpen 38 = .ok (.ior, 1) := by decide +kernel
theorem dX10_lateOrOpen_39 : decode cX10_lateOrOpen 39 = .ok (.istore_n 1, 1) := by decide +kernel
theorem dX10_lateOrOpen_40 : decode cX10_lateOrOpen 40 = .ok (.iinc 2 1, 3) := by decide +kernel
theorem dX10_lateOrOpen_43 : decode cX10_lateOrOpen 43 = .ok (.goto (-39), 3) := by decide +kernel
theorem dX10_lateOrOpen_46 : decode cX10_lateOrOpen 46 = .ok (.iload_n 1, 1) := by decide +kernel
theorem dX10_lateOrOpen_47 : decode cX10_lateOrOpen 47 = .ok (.ireturn, 1) := by decide +kernel
theorem dX10_willBeLate_0 : decode cX10_willBeLate 0 = .ok (.aload_n 0, 1) := by decide +kernel
theorem dX10_willBeLate_1 : decode cX10_willBeLate 1 = .ok (.iconst 1, 1) := by decide +kernel
theorem dX10_willBeLate_2 : decode cX10_willBeLate 2 = .ok (.invokevirtual 207, 3) := by decide +kernel
theorem dX10_willBeLate_5 : decode cX10_willBeLate 5 = .ok (.ifCond .eq 5, 3) := by decide +kernel
theorem dX10_willBeLate_8 : decode cX10_willBeLate 8 = .ok (.iconst 0, 1) := by decide +kernel
theorem dX10_willBeLate_9 : decode cX10_willBeLate 9 = .ok (.ireturn, 1) := by decide +kernel
theorem dX10_willBeLate_10 : decode cX10_willBeLate 10 = .ok (.aload_n 0, 1) := by decide +kernel
theorem dX10_willBeLate_11 : decode cX10_willBeLate 11 = .ok (.invokevirtual 319, 3) := by decide +kernel
theorem dX10_willBeLate_14 : decode cX10_willBeLate 14 = .ok (.aload_n 0, 1) := by decide +kernel
theorem dX10_willBeLate_15 : decode cX10_willBeLate 15 = .ok (.invokevirtual 325, 3) := by decide +kernel
theorem dX10_willBeLate_18 : decode cX10_willBeLate 18 = .ok (.aload_n 0, 1) := by decide +kernel
theorem dX10_willBeLate_19 : decode cX10_willBeLate 19 = .ok (.invokevirtual 328, 3) := by decide +kernel
theorem dX10_willBeLate_22 : decode cX10_willBeLate 22 = .ok (.istore_n 1, 1) := by decide +kernel
theorem dX10_willBeLate_23 : decode cX10_willBeLate 23 = .ok (.aload_n 0, 1) := by decide +kernel
theorem dX10_willBeLate_24 : decode cX10_willBeLate 24 = .ok (.invokevirtual 322, 3) := by decide +kernel
theorem dX10_willBeLate_27 : decode cX10_willBeLate 27 = .ok (.iload_n 1, 1) := by decide +kernel
theorem dX10_willBeLate_28 : decode cX10_willBeLate 28 = .ok (.ireturn, 1) := by decide +kernel
theorem dX10_peak_0 : decode cX10_peak 0 = .ok (.aload_n 0, 1) := by decide +kernel
theorem dX10_peak_1 : decode cX10_peak 1 = .ok (.aload_n 0, 1) := by decide +kernel
theorem dX10_peak_2 : decode cX10_peak 2 = .ok (.iload_n 1, 1) := by decide +kernel
theorem dX10_peak_3 : decode cX10_peak 3 = .ok (.invokevirtual 274, 3) := by decide +kernel
theorem dX10_peak_6 : decode cX10_peak 6 = .ok (.ifCond .eq 19, 3) := by decide +kernel
theorem dX10_peak_9 : decode cX10_peak 9 = .ok (.iload_n 2, 1) := by decide +kernel
theorem dX10_peak_10 : decode cX10_peak 10 = .ok (.i2l, 1) := by decide +kernel
theorem dX10_peak_11 : decode cX10_peak 11 = .ok (.lconst 1, 1) := by decide +kernel
theorem dX10_peak_12 : decode cX10_peak 12 = .ok (.ldc2_w 299, 3) := by decide +kernel
theorem dX10_peak_15 : decode cX10_peak 15 = .ok (.invokestatic 88, 3) := by decide +kernel
theorem dX10_peak_18 : decode cX10_peak 18 = .ok (.ifCond .eq 7, 3) := by decide +kernel
theorem dX10_peak_21 : decode cX10_peak 21 = .ok (.iconst 1, 1) := by decide +kernel
theorem dX10_peak_22 : decode cX10_peak 22 = .ok (.goto 4, 3) := by decide +kernel
theorem dX10_peak_25 : decode cX10_peak 25 = .ok (.iconst 0, 1) := by decide +kernel
theorem dX10_peak_26 : decode cX10_peak 26 = .ok (.invokevirtual 207, 3) := by decide +kernel
theorem dX10_peak_29 : decode cX10_peak 29 = .ok (.ifCond .eq 5, 3) := by decide +kernel
theorem dX10_peak_32 : decode cX10_peak 32 = .ok (.iconst 0, 1) := by decide +kernel
theorem dX10_peak_33 : decode cX10_peak 33 = .ok (.ireturn, 1) := by decide +kernel
theorem dX10_peak_34 : decode cX10_peak 34 = .ok (.aload_n 0, 1) := by decide +kernel
theorem dX10_peak_35 : decode cX10_peak 35 = .ok (.invokevirtual 319, 3) := by decide +kernel
theorem dX10_peak_38 : decode cX10_peak 38 = .ok (.aload_n 0, 1) := by decide +kernel
theorem dX10_peak_39 : decode cX10_peak 39 = .ok (.iload_n 1, 1) := by decide +kernel
theorem dX10_peak_40 : decode cX10_peak 40 = .ok (.iconst 2, 1) := by decide +kernel
theorem dX10_peak_41 : decode cX10_peak 41 = .ok (.invokevirtual 214, 3) := by decide +kernel
theorem dX10_peak_44 : decode cX10_peak 44 = .ok (.istore_n 3, 1) := by decide +kernel
theorem dX10_peak_45 : decode cX10_peak 45 = .ok (.iconst 0, 1) := by decide +kernel
theorem dX10_peak_46 : decode cX10_peak 46 = .ok (.istore 4, 2) := by decide +kernel
theorem dX10_peak_48 : decode cX10_peak 48 = .ok (.iload 4, 2) := by decide +kernel
theorem dX10_peak_50 : decode cX10_peak 50 = .ok (.iload_n 2, 1) := by decide +kernel
theorem dX10_peak_51 : decode cX10_peak 51 = .ok (.if_icmp .ge 24, 3) := by decide +kernel
theorem dX10_peak_54 : decode cX10_peak 54 = .ok (.aload_n 0, 1) := by decide +kernel
theorem dX10_peak_55 : decode cX10_peak 55 = .ok (.invokevirtual 301, 3) := by decide +kernel
theorem dX10_peak_58 : decode cX10_peak 58 = .ok (.iload_n 3, 1) := by decide +kernel
theorem dX10_peak_59 : decode cX10_peak 59 = .ok (.aload_n 0, 1) := by decide +kernel
theorem dX10_peak_60 : decode cX10_peak 60 = .ok (.iload_n 1, 1) := by decide +kernel
theorem dX10_peak_61 : decode cX10_peak 61 = .ok (.iconst 2, 1) := by decide +kernel
theorem dX10_peak_62 : decode cX10_peak 62 = .ok (.invokevirtual 214, 3) := by decide +kernel
theorem dX10_peak_65 : decode cX10_peak 65 = .ok (.invokestatic 226, 3) := by decide +kernel
theorem dX10_peak_68 : decode cX10_peak 68 = .ok (.istore_n 3, 1) := by decide +kernel
theorem dX10_peak_69 : decode cX10_peak 69 = .ok (.iinc 4 1, 3) := by decide +kernel
theorem dX10_peak_72 : decode cX10_peak 72 = .ok (.goto (-24), 3) := by decide +kernel
theorem dX10_peak_75 : decode cX10_peak 75 = .ok (.aload_n 0, 1) := by decide +kernel
theorem dX10_peak_76 : decode cX10_peak 76 = .ok (.invokevirtual 322, 3) := by decide +kernel
theorem dX10_peak_79 : decode cX10_peak 79 = .ok (.iload_n 3, 1) := by decide +kernel
theorem dX10_peak_80 : decode cX10_peak 80 = .ok (.ireturn, 1) := by decide +kernel
theorem dX10_allEnergy_0 : decode cX10_allEnergy 0 = .ok (.iconst 0, 1) := by decide +kernel
theorem dX10_allEnergy_1 : decode cX10_allEnergy 1 = .ok (.istore_n 1, 1) := by decide +kernel
theorem dX10_allEnergy_2 : decode cX10_allEnergy 2 = .ok (.iconst 0, 1) := by decide +kernel
theorem dX10_allEnergy_3 : decode cX10_allEnergy 3 = .ok (.istore_n 2, 1) := by decide +kernel
theorem dX10_allEnergy_4 : decode cX10_allEnergy 4 = .ok (.iload_n 2, 1) := by decide +kernel
theorem dX10_allEnergy_5 : decode cX10_allEnergy 5 = .ok (.aload_n 0, 1) := by decide +kernel
theorem dX10_allEnergy_6 : decode cX10_allEnergy 6 = .ok (.getfield 193, 3) := by decide +kernel
theorem dX10_allEnergy_9 : decode cX10_allEnergy 9 = .ok (.if_icmp .ge 18, 3) := by decide +kernel
theorem dX10_allEnergy_12 : decode cX10_allEnergy 12 = .ok (.iload_n 1, 1) := by decide +kernel
theorem dX10_allEnergy_13 : decode cX10_allEnergy 13 = .ok (.aload_n 0, 1) := by decide +kernel
theorem dX10_allEnergy_14 : decode cX10_allEnergy 14 = .ok (.iload_n 2, 1) := by decide +kernel
theorem dX10_allEnergy_15 : decode cX10_allEnergy 15 = .ok (.iconst 4, 1) := by decide +kernel
theorem dX10_allEnergy_16 : decode cX10_allEnergy 16 = .ok (.invokevirtual 214, 3) := by decide +kernel
theorem dX10_allEnergy_19 : decode cX10_allEnergy 19 = .ok (.iadd, 1) := by decide +kernel
theorem dX10_allEnergy_20 : decode cX10_allEnergy 20 = .ok (.istore_n 1, 1) := by decide +kernel
theorem dX10_allEnergy_21 : decode cX10_allEnergy 21 = .ok (.iinc 2 1, 3) := by decide +kernel
theorem dX10_allEnergy_24 : decode cX10_allEnergy 24 = .ok (.goto (-20), 3) := by decide +kernel
theorem dX10_allEnergy_27 : decode cX10_allEnergy 27 = .ok (.iload_n 1, 1) := by decide +kernel
theorem dX10_allEnergy_28 : decode cX10_allEnergy 28 = .ok (.ireturn, 1) := by decide +kernel
theorem dX10_energyIn_0 : decode cX10_energyIn 0 = .ok (.aload_n 0, 1) := by decide +kernel
theorem dX10_energyIn_1 : decode cX10_energyIn 1 = .ok (.iload_n 1, 1) := by decide +kernel
theorem dX10_energyIn_2 : decode cX10_energyIn 2 = .ok (.i2l, 1) := by decide +kernel
theorem dX10_energyIn_3 : decode cX10_energyIn 3 = .ok (.lconst 1, 1) := by decide +kernel
theorem dX10_energyIn_4 : decode cX10_energyIn 4 = .ok (.ldc2_w 299, 3) := by decide +kernel
theorem dX10_energyIn_7 : decode cX10_energyIn 7 = .ok (.invokestatic 88, 3) := by decide +kernel
theorem dX10_energyIn_10 : decode cX10_energyIn 10 = .ok (.invokevirtual 207, 3) := by decide +kernel
theorem dX10_energyIn_13 : decode cX10_energyIn 13 = .ok (.ifCond .eq 5, 3) := by decide +kernel
theorem dX10_energyIn_16 : decode cX10_energyIn 16 = .ok (.iconst 0, 1) := by decide +kernel
theorem dX10_energyIn_17 : decode cX10_energyIn 17 = .ok (.ireturn, 1) := by decide +kernel
theorem dX10_energyIn_18 : decode cX10_energyIn 18 = .ok (.aload_n 0, 1) := by decide +kernel
theorem dX10_energyIn_19 : decode cX10_energyIn 19 = .ok (.invokevirtual 319, 3) := by decide +kernel
theorem dX10_energyIn_22 : decode cX10_energyIn 22 = .ok (.aload_n 0, 1) := by decide +kernel
theorem dX10_energyIn_23 : decode cX10_energyIn 23 = .ok (.invokevirtual 331, 3) := by decide +kernel
theorem dX10_energyIn_26 : decode cX10_energyIn 26 = .ok (.istore_n 2, 1) := by decide +kernel
theorem dX10_energyIn_27 : decode cX10_energyIn 27 = .ok (.iconst 0, 1) := by decide +kernel
theorem dX10_energyIn_28 : decode cX10_energyIn 28 = .ok (.istore_n 3, 1) := by decide +kernel
theorem dX10_energyIn_29 : decode cX10_energyIn 29 = .ok (.iload_n 3, 1) := by decide +kernel
theorem dX10_energyIn_30 : decode cX10_energyIn 30 = .ok (.iload_n 1, 1) := by decide +kernel
theorem dX10_energyIn_31 : decode cX10_energyIn 31 = .ok (.if_icmp .ge 13, 3) := by decide +kernel
theorem dX10_energyIn_34 : decode cX10_energyIn 34 = .ok (.aload_n 0, 1) := by decide +kernel
theorem dX10_energyIn_35 : decode cX10_energyIn 35 = .ok (.invokevirtual 301, 3) := by decide +kernel
theorem dX10_energyIn_38 : decode cX10_energyIn 38 = .ok (.iinc 3 1, 3) := by decide +kernel
theorem dX10_energyIn_41 : decode cX10_energyIn 41 = .ok (.goto (-12), 3) := by decide +kernel
theorem dX10_energyIn_44 : decode cX10_energyIn 44 = .ok (.aload_n 0, 1) := by decide +kernel
theorem dX10_energyIn_45 : decode cX10_energyIn 45 = .ok (.invokevirtual 331, 3) := by decide +kernel
theorem dX10_energyIn_48 : decode cX10_energyIn 48 = .ok (.iload_n 2, 1) := by decide +kernel
theorem dX10_energyIn_49 : decode cX10_energyIn 49 = .ok (.isub, 1) := by decide +kernel
theorem dX10_energyIn_50 : decode cX10_energyIn 50 = .ok (.istore_n 3, 1) := by decide +kernel
theorem dX10_energyIn_51 : decode cX10_energyIn 51 = .ok (.aload_n 0, 1) := by decide +kernel
theorem dX10_energyIn_52 : decode cX10_energyIn 52 = .ok (.invokevirtual 322, 3) := by decide +kernel
theorem dX10_energyIn_55 : decode cX10_energyIn 55 = .ok (.iload_n 3, 1) := by decide +kernel
theorem dX10_energyIn_56 : decode cX10_energyIn 56 = .ok (.ireturn, 1) := by decide +kernel
theorem dX10_nextThrottle_0 : decode cX10_nextThrottle 0 = .ok (.aload_n 0, 1) := by decide +kernel
theorem dX10_nextThrottle_1 : decode cX10_nextThrottle 1 = .ok (.aload_n 0, 1) := by decide +kernel
theorem dX10_nextThrottle_2 : decode cX10_nextThrottle 2 = .ok (.iload_n 1, 1) := by decide +kernel
theorem dX10_nextThrottle_3 : decode cX10_nextThrottle 3 = .ok (.invokevirtual 274, 3) := by decide +kernel
theorem dX10_nextThrottle_6 : decode cX10_nextThrottle 6 = .ok (.invokevirtual 207, 3) := by decide +kernel
theorem dX10_nextThrottle_9 : decode cX10_nextThrottle 9 = .ok (.ifCond .eq 5, 3) := by decide +kernel
theorem dX10_nextThrottle_12 : decode cX10_nextThrottle 12 = .ok (.iconst 0, 1) := by decide +kernel
theorem dX10_nextThrottle_13 : decode cX10_nextThrottle 13 = .ok (.ireturn, 1) := by decide +kernel
theorem dX10_nextThrottle_14 : decode cX10_nextThrottle 14 = .ok (.aload_n 0, 1) := by decide +kernel
theorem dX10_nextThrottle_15 : decode cX10_nextThrottle 15 = .ok (.invokevirtual 319, 3) := by decide +kernel
theorem dX10_nextThrottle_18 : decode cX10_nextThrottle 18 = .ok (.aload_n 0, 1) := by decide +kernel
theorem dX10_nextThrottle_19 : decode cX10_nextThrottle 19 = .ok (.iload_n 1, 1) := by decide +kernel
theorem dX10_nextThrottle_20 : decode cX10_nextThrottle 20 = .ok (.bipush 6, 2) := by decide +kernel
theorem dX10_nextThrottle_22 : decode cX10_nextThrottle 22 = .ok (.invokevirtual 214, 3) := by decide +kernel
theorem dX10_nextThrottle_25 : decode cX10_nextThrottle 25 = .ok (.aload_n 0, 1) := by decide +kernel
theorem dX10_nextThrottle_26 : decode cX10_nextThrottle 26 = .ok (.iload_n 1, 1) := by decide +kernel
theorem dX10_nextThrottle_27 : decode cX10_nextThrottle 27 = .ok (.bipush 7, 2) := by decide +kernel
theorem dX10_nextThrottle_29 : decode cX10_nextThrottle 29 = .ok (.invokevirtual 214, 3) := by decide +kernel
theorem dX10_nextThrottle_32 : decode cX10_nextThrottle 32 = .ok (.iadd, 1) := by decide +kernel
theorem dX10_nextThrottle_33 : decode cX10_nextThrottle 33 = .ok (.istore_n 2, 1) := by decide +kernel
theorem dX10_nextThrottle_34 : decode cX10_nextThrottle 34 = .ok (.bipush (-2), 2) := by decide +kernel
theorem dX10_nextThrottle_36 : decode cX10_nextThrottle 36 = .ok (.istore_n 3, 1) := by decide +kernel
theorem dX10_nextThrottle_37 : decode cX10_nextThrottle 37 = .ok (.iconst 1, 1) := by decide +kernel
theorem dX10_nextThrottle_38 : decode cX10_nextThrottle 38 = .ok (.istore 4, 2) := by decide +kernel
theorem dX10_nextThrottle_40 : decode cX10_nextThrottle 40 = .ok (.iload 4, 2) := by decide +kernel
theorem dX10_nextThrottle_42 : decode cX10_nextThrottle 42 = .ok (.sipush 1000, 3) := by decide +kernel
theorem dX10_nextThrottle_45 : decode cX10_nextThrottle 45 = .ok (.if_icmp .gt 46, 3) := by decide +kernel
theorem dX10_nextThrottle_48 : decode cX10_nextThrottle 48 = .ok (.iload_n 3, 1) := by decide +kernel
theorem dX10_nextThrottle_49 : decode cX10_nextThrottle 49 = .ok (.bipush (-2), 2) := by decide +kernel
theorem dX10_nextThrottle_51 : decode cX10_nextThrottle 51 = .ok (.if_icmp .ne 40, 3) := by decide +kernel
theorem dX10_nextThrottle_54 : decode cX10_nextThrottle 54 = .ok (.aload_n 0, 1) := by decide +kernel
theorem dX10_nextThrottle_55 : decode cX10_nextThrottle 55 = .ok (.invokevirtual 301, 3) := by decide +kernel
theorem dX10_nextThrottle_58 : decode cX10_nextThrottle 58 = .ok (.aload_n 0, 1) := by decide +kernel
theorem dX10_nextThrottle_59 : decode cX10_nextThrottle 59 = .ok (.iload_n 1, 1) := by decide +kernel
theorem dX10_nextThrottle_60 : decode cX10_nextThrottle 60 = .ok (.bipush 6, 2) := by decide +kernel
theorem dX10_nextThrottle_62 : decode cX10_nextThrottle 62 = .ok (.invokevirtual 214, 3) := by decide +kernel
theorem dX10_nextThrottle_65 : decode cX10_nextThrottle 65 = .ok (.aload_n 0, 1) := by decide +kernel
theorem dX10_nextThrottle_66 : decode cX10_nextThrottle 66 = .ok (.iload_n 1, 1) := by decide +kernel
theorem dX10_nextThrottle_67 : decode cX10_nextThrottle 67 = .ok (.bipush 7, 2) := by decide +kernel
theorem dX10_nextThrottle_69 : decode cX10_nextThrottle 69 = .ok (.invokevirtual 214, 3) := by decide +kernel
theorem dX10_nextThrottle_72 : decode cX10_nextThrottle 72 = .ok (.iadd, 1) := by decide +kernel
theorem dX10_nextThrottle_73 : decode cX10_nextThrottle 73 = .ok (.iload_n 2, 1) := by decide +kernel
theorem dX10_nextThrottle_74 : decode cX10_nextThrottle 74 = .ok (.if_icmp .le 8, 3) := by decide +kernel
theorem dX10_nextThrottle_77 : decode cX10_nextThrottle 77 = .ok (.iload 4, 2) := by decide +kernel
theorem dX10_nextThrottle_79 : decode cX10_nextThrottle 79 = .ok (.goto 5, 3) := by decide +kernel
theorem dX10_nextThrottle_82 : decode cX10_nextThrottle 82 = .ok (.bipush (-2), 2) := by decide +kernel
theorem dX10_nextThrottle_84 : decode cX10_nextThrottle 84 = .ok (.istore_n 3, 1) := by decide +kernel
theorem dX10_nextThrottle_85 : decode cX10_nextThrottle 85 = .ok (.iinc 4 1, 3) := by decide +kernel
theorem dX10_nextThrottle_88 : decode cX10_nextThrottle 88 = .ok (.goto (-48), 3) := by decide +kernel
theorem dX10_nextThrottle_91 : decode cX10_nextThrottle 91 = .ok (.aload_n 0, 1) := by decide +kernel
theorem dX10_nextThrottle_92 : decode cX10_nextThrottle 92 = .ok (.invokevirtual 322, 3) := by decide +kernel
theorem dX10_nextThrottle_95 : decode cX10_nextThrottle 95 = .ok (.iload_n 3, 1) := by decide +kernel
theorem dX10_nextThrottle_96 : decode cX10_nextThrottle 96 = .ok (.ireturn, 1) := by decide +kernel
theorem dX10_bestPolicy_0 : decode cX10_bestPolicy 0 = .ok (.aload_n 0, 1) := by decide +kernel
theorem dX10_bestPolicy_1 : decode cX10_bestPolicy 1 = .ok (.aload_n 0, 1) := by decide +kernel
theorem dX10_bestPolicy_2 : decode cX10_bestPolicy 2 = .ok (.iload_n 1, 1) := by decide +kernel
theorem dX10_bestPolicy_3 : decode cX10_bestPolicy 3 = .ok (.invokevirtual 274, 3) := by decide +kernel
theorem dX10_bestPolicy_6 : decode cX10_bestPolicy 6 = .ok (.invokevirtual 207, 3) := by decide +kernel
theorem dX10_bestPolicy_9 : decode cX10_bestPolicy 9 = .ok (.ifCond .eq 5, 3) := by decide +kernel
theorem dX10_bestPolicy_12 : decode cX10_bestPolicy 12 = .ok (.iconst 0, 1) := by decide +kernel
theorem dX10_bestPolicy_13 : decode cX10_bestPolicy 13 = .ok (.ireturn, 1) := by decide +kernel
theorem dX10_bestPolicy_14 : decode cX10_bestPolicy 14 = .ok (.aload_n 0, 1) := by decide +kernel
theorem dX10_bestPolicy_15 : decode cX10_bestPolicy 15 = .ok (.invokevirtual 319, 3) := by decide +kernel
theorem dX10_bestPolicy_18 : decode cX10_bestPolicy 18 = .ok (.iconst (-1), 1) := by decide +kernel
theorem dX10_bestPolicy_19 : decode cX10_bestPolicy 19 = .ok (.istore_n 2, 1) := by decide +kernel
theorem dX10_bestPolicy_20 : decode cX10_bestPolicy 20 = .ok (.iconst 0, 1) := by decide +kernel
theorem dX10_bestPolicy_21 : decode cX10_bestPolicy 21 = .ok (.istore_n 3, 1) := by decide +kernel
theorem dX10_bestPolicy_22 : decode cX10_bestPolicy 22 = .ok (.iconst 0, 1) := by decide +kernel
theorem dX10_bestPolicy_23 : decode cX10_bestPolicy 23 = .ok (.istore 4, 2) := by decide +kernel
theorem dX10_bestPolicy_25 : decode cX10_bestPolicy 25 = .ok (.iconst 0, 1) := by decide +kernel
theorem dX10_bestPolicy_26 : decode cX10_bestPolicy 26 = .ok (.istore 5, 2) := by decide +kernel
theorem dX10_bestPolicy_28 : decode cX10_bestPolicy 28 = .ok (.iload 5, 2) := by decide +kernel
theorem dX10_bestPolicy_30 : decode cX10_bestPolicy 30 = .ok (.iconst 3, 1) := by decide +kernel
theorem dX10_bestPolicy_31 : decode cX10_bestPolicy 31 = .ok (.if_icmp .gt 74, 3) := by decide +kernel
theorem dX10_bestPolicy_34 : decode cX10_bestPolicy 34 = .ok (.aload_n 0, 1) := by decide +kernel
theorem dX10_bestPolicy_35 : decode cX10_bestPolicy 35 = .ok (.iload_n 1, 1) := by decide +kernel
theorem dX10_bestPolicy_36 : decode cX10_bestPolicy 36 = .ok (.iconst 1, 1) := by decide +kernel
theorem dX10_bestPolicy_37 : decode cX10_bestPolicy 37 = .ok (.iload 5, 2) := by decide +kernel
theorem dX10_bestPolicy_39 : decode cX10_bestPolicy 39 = .ok (.invokevirtual 203, 3) := by decide +kernel
theorem dX10_bestPolicy_42 : decode cX10_bestPolicy 42 = .ok (.aload_n 0, 1) := by decide +kernel
theorem dX10_bestPolicy_43 : decode cX10_bestPolicy 43 = .ok (.invokevirtual 325, 3) := by decide +kernel
theorem dX10_bestPolicy_46 : decode cX10_bestPolicy 46 = .ok (.aload_n 0, 1) := by decide +kernel
theorem dX10_bestPolicy_47 : decode cX10_bestPolicy 47 = .ok (.invokevirtual 328, 3) := by decide +kernel
theorem dX10_bestPolicy_50 : decode cX10_bestPolicy 50 = .ok (.invokestatic 334, 3) := by decide +kernel
theorem dX10_bestPolicy_53 : decode cX10_bestPolicy 53 = .ok (.istore 6, 2) := by decide +kernel
theorem dX10_bestPolicy_55 : decode cX10_bestPolicy 55 = .ok (.aload_n 0, 1) := by decide +kernel
theorem dX10_bestPolicy_56 : decode cX10_bestPolicy 56 = .ok (.invokevirtual 331, 3) := by decide +kernel
theorem dX10_bestPolicy_59 : decode cX10_bestPolicy 59 = .ok (.istore 7, 2) := by decide +kernel
theorem dX10_bestPolicy_61 : decode cX10_bestPolicy 61 = .ok (.iload_n 2, 1) := by decide +kernel
theorem dX10_bestPolicy_62 : decode cX10_bestPolicy 62 = .ok (.iconst (-1), 1) := by decide +kernel
theorem dX10_bestPolicy_63 : decode cX10_bestPolicy 63 = .ok (.if_icmp .eq 22, 3) := by decide +kernel
theorem dX10_bestPolicy_66 : decode cX10_bestPolicy 66 = .ok (.iload 6, 2) := by decide +kernel
theorem dX10_bestPolicy_68 : decode cX10_bestPolicy 68 = .ok (.iload_n 3, 1) := by decide +kernel
theorem dX10_bestPolicy_69 : decode cX10_bestPolicy 69 = .ok (.if_icmp .lt 16, 3) := by decide +kernel
theorem dX10_bestPolicy_72 : decode cX10_bestPolicy 72 = .ok (.iload 6, 2) := by decide +kernel
theorem dX10_bestPolicy_74 : decode cX10_bestPolicy 74 = .ok (.iload_n 3, 1) := by decide +kernel
theorem dX10_bestPolicy_75 : decode cX10_bestPolicy 75 = .ok (.if_icmp .ne 20, 3) := by decide +kernel
theorem dX10_bestPolicy_78 : decode cX10_bestPolicy 78 = .ok (.iload 7, 2) := by decide +kernel
theorem dX10_bestPolicy_80 : decode cX10_bestPolicy 80 = .ok (.iload 4, 2) := by decide +kernel
theorem dX10_bestPolicy_82 : decode cX10_bestPolicy 82 = .ok (.if_icmp .ge 13, 3) := by decide +kernel
theorem dX10_bestPolicy_85 : decode cX10_bestPolicy 85 = .ok (.iload 5, 2) := by decide +kernel
theorem dX10_bestPolicy_87 : decode cX10_bestPolicy 87 = .ok (.istore_n 2, 1) := by decide +kernel
theorem dX10_bestPolicy_88 : decode cX10_bestPolicy 88 = .ok (.iload 6, 2) := by decide +kernel
theorem dX10_bestPolicy_90 : decode cX10_bestPolicy 90 = .ok (.istore_n 3, 1) := by decide +kernel
theorem dX10_bestPolicy_91 : decode cX10_bestPolicy 91 = .ok (.iload 7, 2) := by decide +kernel
theorem dX10_bestPolicy_93 : decode cX10_bestPolicy 93 = .ok (.istore 4, 2) := by decide +kernel
theorem dX10_bestPolicy_95 : decode cX10_bestPolicy 95 = .ok (.aload_n 0, 1) := by decide +kernel
theorem dX10_bestPolicy_96 : decode cX10_bestPolicy 96 = .ok (.invokevirtual 322, 3) := by decide +kernel
theorem dX10_bestPolicy_99 : decode cX10_bestPolicy 99 = .ok (.iinc 5 1, 3) := by decide +kernel
theorem dX10_bestPolicy_102 : decode cX10_bestPolicy 102 = .ok (.goto (-74), 3) := by decide +kernel
theorem dX10_bestPolicy_105 : decode cX10_bestPolicy 105 = .ok (.iload_n 2, 1) := by decide +kernel
theorem dX10_bestPolicy_106 : decode cX10_bestPolicy 106 = .ok (.ireturn, 1) := by decide +kernel
theorem dX10_coolLimit_0 : decode cX10_coolLimit 0 = .ok (.aload_n 0, 1) := by decide +kernel
theorem dX10_coolLimit_1 : decode cX10_coolLimit 1 = .ok (.aload_n 0, 1) := by decide +kernel
theorem dX10_coolLimit_2 : decode cX10_coolLimit 2 = .ok (.iload_n 1, 1) := by decide +kernel
theorem dX10_coolLimit_3 : decode cX10_coolLimit 3 = .ok (.invokevirtual 274, 3) := by decide +kernel
theorem dX10_coolLimit_6 : decode cX10_coolLimit 6 = .ok (.invokevirtual 207, 3) := by decide +kernel
theorem dX10_coolLimit_9 : decode cX10_coolLimit 9 = .ok (.ifCond .eq 5, 3) := by decide +kernel
theorem dX10_coolLimit_12 : decode cX10_coolLimit 12 = .ok (.iconst 0, 1) := by decide +kernel
theorem dX10_coolLimit_13 : decode cX10_coolLimit 13 = .ok (.ireturn, 1) := by decide +kernel
theorem dX10_coolLimit_14 : decode cX10_coolLimit 14 = .ok (.aload_n 0, 1) := by decide +kernel
theorem dX10_coolLimit_15 : decode cX10_coolLimit 15 = .ok (.invokevirtual 319, 3) := by decide +kernel
theorem dX10_coolLimit_18 : decode cX10_coolLimit 18 = .ok (.aload_n 0, 1) := by decide +kernel
theorem dX10_coolLimit_19 : decode cX10_coolLimit 19 = .ok (.iload_n 1, 1) := by decide +kernel
theorem dX10_coolLimit_20 : decode cX10_coolLimit 20 = .ok (.iconst 0, 1) := by decide +kernel
theorem dX10_coolLimit_21 : decode cX10_coolLimit 21 = .ok (.ldc_w 337, 3) := by decide +kernel
theorem dX10_coolLimit_24 : decode cX10_coolLimit 24 = .ok (.invokevirtual 203, 3) := by decide +kernel
theorem dX10_coolLimit_27 : decode cX10_coolLimit 27 = .ok (.aload_n 0, 1) := by decide +kernel
theorem dX10_coolLimit_28 : decode cX10_coolLimit 28 = .ok (.iload_n 1, 1) := by decide +kernel
theorem dX10_coolLimit_29 : decode cX10_coolLimit 29 = .ok (.putfield 59, 3) := by decide +kernel
theorem dX10_coolLimit_32 : decode cX10_coolLimit 32 = .ok (.aload_n 0, 1) := by decide +kernel
theorem dX10_coolLimit_33 : decode cX10_coolLimit 33 = .ok (.iconst 0, 1) := by decide +kernel
theorem dX10_coolLimit_34 : decode cX10_coolLimit 34 = .ok (.putfield 259, 3) := by decide +kernel
theorem dX10_coolLimit_37 : decode cX10_coolLimit 37 = .ok (.aload_n 0, 1) := by decide +kernel
theorem dX10_coolLimit_38 : decode cX10_coolLimit 38 = .ok (.invokevirtual 325, 3) := by decide +kernel
theorem dX10_coolLimit_41 : decode cX10_coolLimit 41 = .ok (.aload_n 0, 1) := by decide +kernel
theorem dX10_coolLimit_42 : decode cX10_coolLimit 42 = .ok (.iconst (-1), 1) := by decide +kernel
theorem dX10_coolLimit_43 : decode cX10_coolLimit 43 = .ok (.putfield 59, 3) := by decide +kernel
theorem dX10_coolLimit_46 : decode cX10_coolLimit 46 = .ok (.aload_n 0, 1) := by decide +kernel
theorem dX10_coolLimit_47 : decode cX10_coolLimit 47 = .ok (.invokevirtual 322, 3) := by decide +kernel
theorem dX10_coolLimit_50 : decode cX10_coolLimit 50 = .ok (.aload_n 0, 1) := by decide +kernel
theorem dX10_coolLimit_51 : decode cX10_coolLimit 51 = .ok (.getfield 259, 3) := by decide +kernel
theorem dX10_coolLimit_54 : decode cX10_coolLimit 54 = .ok (.ldc 168, 2) := by decide +kernel
theorem dX10_coolLimit_56 : decode cX10_coolLimit 56 = .ok (.if_icmp .le 8, 3) := by decide +kernel
theorem dX10_coolLimit_59 : decode cX10_coolLimit 59 = .ok (.bipush (-2), 2) := by decide +kernel
theorem dX10_coolLimit_61 : decode cX10_coolLimit 61 = .ok (.goto 7, 3) := by decide +kernel
theorem dX10_coolLimit_64 : decode cX10_coolLimit 64 = .ok (.aload_n 0, 1) := by decide +kernel
theorem dX10_coolLimit_65 : decode cX10_coolLimit 65 = .ok (.getfield 259, 3) := by decide +kernel
theorem dX10_coolLimit_68 : decode cX10_coolLimit 68 = .ok (.ireturn, 1) := by decide +kernel
theorem dX10_costOf_0 : decode cX10_costOf 0 = .ok (.iload_n 3, 1) := by decide +kernel
theorem dX10_costOf_1 : decode cX10_costOf 1 = .ok (.aload_n 0, 1) := by decide +kernel
theorem dX10_costOf_2 : decode cX10_costOf 2 = .ok (.getfield 37, 3) := by decide +kernel
theorem dX10_costOf_5 : decode cX10_costOf 5 = .ok (.iconst 5, 1) := by decide +kernel
theorem dX10_costOf_6 : decode cX10_costOf 6 = .ok (.iload_n 1, 1) := by decide +kernel
theorem dX10_costOf_7 : decode cX10_costOf 7 = .ok (.imul, 1) := by decide +kernel
theorem dX10_costOf_8 : decode cX10_costOf 8 = .ok (.iload_n 2, 1) := by decide +kernel
theorem dX10_costOf_9 : decode cX10_costOf 9 = .ok (.iadd, 1) := by decide +kernel
theorem dX10_costOf_10 : decode cX10_costOf 10 = .ok (.iaload, 1) := by decide +kernel
theorem dX10_costOf_11 : decode cX10_costOf 11 = .ok (.invokestatic 228, 3) := by decide +kernel
theorem dX10_costOf_14 : decode cX10_costOf 14 = .ok (.istore 5, 2) := by decide +kernel
theorem dX10_costOf_16 : decode cX10_costOf 16 = .ok (.iload 5, 2) := by decide +kernel
theorem dX10_costOf_18 : decode cX10_costOf 18 = .ok (.iload 4, 2) := by decide +kernel
theorem dX10_costOf_20 : decode cX10_costOf 20 = .ok (.if_icmp .le 8, 3) := by decide +kernel
theorem dX10_costOf_23 : decode cX10_costOf 23 = .ok (.bipush (-2), 2) := by decide +kernel
theorem dX10_costOf_25 : decode cX10_costOf 25 = .ok (.goto 29, 3) := by decide +kernel
theorem dX10_costOf_28 : decode cX10_costOf 28 = .ok (.iload 5, 2) := by decide +kernel
theorem dX10_costOf_30 : decode cX10_costOf 30 = .ok (.aload_n 0, 1) := by decide +kernel
theorem dX10_costOf_31 : decode cX10_costOf 31 = .ok (.getfield 40, 3) := by decide +kernel
theorem dX10_costOf_34 : decode cX10_costOf 34 = .ok (.iconst 5, 1) := by decide +kernel
theorem dX10_costOf_35 : decode cX10_costOf 35 = .ok (.iload_n 1, 1) := by decide +kernel
theorem dX10_costOf_36 : decode cX10_costOf 36 = .ok (.imul, 1) := by decide +kernel
theorem dX10_costOf_37 : decode cX10_costOf 37 = .ok (.iload_n 2, 1) := by decide +kernel
theorem dX10_costOf_38 : decode cX10_costOf 38 = .ok (.iadd, 1) := by decide +kernel
theorem dX10_costOf_39 : decode cX10_costOf 39 = .ok (.iaload, 1) := by decide +kernel
theorem dX10_costOf_40 : decode cX10_costOf 40 = .ok (.imul, 1) := by decide +kernel
theorem dX10_costOf_41 : decode cX10_costOf 41 = .ok (.iload 4, 2) := by decide +kernel
theorem dX10_costOf_43 : decode cX10_costOf 43 = .ok (.iload 5, 2) := by decide +kernel
theorem dX10_costOf_45 : decode cX10_costOf 45 = .ok (.isub, 1) := by decide +kernel
theorem dX10_costOf_46 : decode cX10_costOf 46 = .ok (.aload_n 0, 1) := by decide +kernel
theorem dX10_costOf_47 : decode cX10_costOf 47 = .ok (.getfield 25, 3) := by decide +kernel
theorem dX10_costOf_50 : decode cX10_costOf 50 = .ok (.iload_n 1, 1) := by decide +kernel
theorem dX10_costOf_51 : decode cX10_costOf 51 = .ok (.iaload, 1) := by decide +kernel
theorem dX10_costOf_52 : decode cX10_costOf 52 = .ok (.imul, 1) := by decide +kernel
theorem dX10_costOf_53 : decode cX10_costOf 53 = .ok (.iadd, 1) := by decide +kernel
theorem dX10_costOf_54 : decode cX10_costOf 54 = .ok (.ireturn, 1) := by decide +kernel
theorem dX10_isTask_0 : decode cX10_isTask 0 = .ok (.aload_n 0, 1) := by decide +kernel
theorem dX10_isTask_1 : decode cX10_isTask 1 = .ok (.iload_n 1, 1) := by decide +kernel
theorem dX10_isTask_2 : decode cX10_isTask 2 = .ok (.invokevirtual 274, 3) := by decide +kernel
theorem dX10_isTask_5 : decode cX10_isTask 5 = .ok (.ifCond .eq 31, 3) := by decide +kernel
theorem dX10_isTask_8 : decode cX10_isTask 8 = .ok (.iload_n 2, 1) := by decide +kernel
theorem dX10_isTask_9 : decode cX10_isTask 9 = .ok (.i2l, 1) := by decide +kernel
theorem dX10_isTask_10 : decode cX10_isTask 10 = .ok (.lconst 1, 1) := by decide +kernel
theorem dX10_isTask_11 : decode cX10_isTask 11 = .ok (.iload_n 3, 1) := by decide +kernel
theorem dX10_isTask_12 : decode cX10_isTask 12 = .ok (.i2l, 1) := by decide +kernel
theorem dX10_isTask_13 : decode cX10_isTask 13 = .ok (.invokestatic 88, 3) := by decide +kernel
theorem dX10_isTask_16 : decode cX10_isTask 16 = .ok (.ifCond .eq 20, 3) := by decide +kernel
theorem dX10_isTask_19 : decode cX10_isTask 19 = .ok (.iload 4, 2) := by decide +kernel
theorem dX10_isTask_21 : decode cX10_isTask 21 = .ok (.i2l, 1) := by decide +kernel
theorem dX10_isTask_22 : decode cX10_isTask 22 = .ok (.lconst 1, 1) := by decide +kernel
theorem dX10_isTask_23 : decode cX10_isTask 23 = .ok (.iload 5, 2) := by decide +kernel
theorem dX10_isTask_25 : decode cX10_isTask 25 = .ok (.i2l, 1) := by decide +kernel
theorem dX10_isTask_26 : decode cX10_isTask 26 = .ok (.invokestatic 88, 3) := by decide +kernel
theorem dX10_isTask_29 : decode cX10_isTask 29 = .ok (.ifCond .eq 7, 3) := by decide +kernel
theorem dX10_isTask_32 : decode cX10_isTask 32 = .ok (.iconst 1, 1) := by decide +kernel
theorem dX10_isTask_33 : decode cX10_isTask 33 = .ok (.goto 4, 3) := by decide +kernel
theorem dX10_isTask_36 : decode cX10_isTask 36 = .ok (.iconst 0, 1) := by decide +kernel
theorem dX10_isTask_37 : decode cX10_isTask 37 = .ok (.ireturn, 1) := by decide +kernel
theorem dX10_levelEnergy_0 : decode cX10_levelEnergy 0 = .ok (.aload_n 0, 1) := by decide +kernel
theorem dX10_levelEnergy_1 : decode cX10_levelEnergy 1 = .ok (.aload_n 0, 1) := by decide +kernel
theorem dX10_levelEnergy_2 : decode cX10_levelEnergy 2 = .ok (.iload_n 1, 1) := by decide +kernel
theorem dX10_levelEnergy_3 : decode cX10_levelEnergy 3 = .ok (.iload_n 3, 1) := by decide +kernel
theorem dX10_levelEnergy_4 : decode cX10_levelEnergy 4 = .ok (.sipush 9999, 3) := by decide +kernel
theorem dX10_levelEnergy_7 : decode cX10_levelEnergy 7 = .ok (.iload 4, 2) := by decide +kernel
theorem dX10_levelEnergy_9 : decode cX10_levelEnergy 9 = .ok (.sipush 9999, 3) := by decide +kernel
theorem dX10_levelEnergy_12 : decode cX10_levelEnergy 12 = .ok (.invokevirtual 338, 3) := by decide +kernel
theorem dX10_levelEnergy_15 : decode cX10_levelEnergy 15 = .ok (.ifCond .eq 37, 3) := by decide +kernel
theorem dX10_levelEnergy_18 : decode cX10_levelEnergy 18 = .ok (.iload_n 2, 1) := by decide +kernel
theorem dX10_levelEnergy_19 : decode cX10_levelEnergy 19 = .ok (.i2l, 1) := by decide +kernel
theorem dX10_levelEnergy_20 : decode cX10_levelEnergy 20 = .ok (.lconst 0, 1) := by decide +kernel
theorem dX10_levelEnergy_21 : decode cX10_levelEnergy 21 = .ok (.aload_n 0, 1) := by decide +kernel
theorem dX10_levelEnergy_22 : decode cX10_levelEnergy 22 = .ok (.iload_n 1, 1) := by decide +kernel
theorem dX10_levelEnergy_23 : decode cX10_levelEnergy 23 = .ok (.invokevirtual 274, 3) := by decide +kernel
theorem dX10_levelEnergy_26 : decode cX10_levelEnergy 26 = .ok (.ifCond .eq 12, 3) := by decide +kernel
theorem dX10_levelEnergy_29 : decode cX10_levelEnergy 29 = .ok (.aload_n 0, 1) := by decide +kernel
theorem dX10_levelEnergy_30 : decode cX10_levelEnergy 30 = .ok (.getfield 34, 3) := by decide +kernel
theorem dX10_levelEnergy_33 : decode cX10_levelEnergy 33 = .ok (.iload_n 1, 1) := by decide +kernel
theorem dX10_levelEnergy_34 : decode cX10_levelEnergy 34 = .ok (.iaload, 1) := by decide +kernel
theorem dX10_levelEnergy_35 : decode cX10_levelEnergy 35 = .ok (.goto 4, 3) := by decide +kernel
theorem dX10_levelEnergy_38 : decode cX10_levelEnergy 38 = .ok (.iconst 0, 1) := by decide +kernel
theorem dX10_levelEnergy_39 : decode cX10_levelEnergy 39 = .ok (.iconst 1, 1) := by decide +kernel
theorem dX10_levelEnergy_40 : decode cX10_levelEnergy 40 = .ok (.isub, 1) := by decide +kernel
theorem dX10_levelEnergy_41 : decode cX10_levelEnergy 41 = .ok (.i2l, 1) := by decide +kernel
theorem dX10_levelEnergy_42 : decode cX10_levelEnergy 42 = .ok (.invokestatic 88, 3) := by decide +kernel
theorem dX10_levelEnergy_45 : decode cX10_levelEnergy 45 = .ok (.ifCond .eq 7, 3) := by decide +kernel
theorem dX10_levelEnergy_48 : decode cX10_levelEnergy 48 = .ok (.iconst 1, 1) := by decide +kernel
theorem dX10_levelEnergy_49 : decode cX10_levelEnergy 49 = .ok (.goto 4, 3) := by decide +kernel
theorem dX10_levelEnergy_52 : decode cX10_levelEnergy 52 = .ok (.iconst 0, 1) := by decide +kernel
theorem dX10_levelEnergy_53 : decode cX10_levelEnergy 53 = .ok (.invokevirtual 207, 3) := by decide +kernel
theorem dX10_levelEnergy_56 : decode cX10_levelEnergy 56 = .ok (.ifCond .eq 5, 3) := by decide +kernel
theorem dX10_levelEnergy_59 : decode cX10_levelEnergy 59 = .ok (.iconst 0, 1) := by decide +kernel
theorem dX10_levelEnergy_60 : decode cX10_levelEnergy 60 = .ok (.ireturn, 1) := by decide +kernel
theorem dX10_levelEnergy_61 : decode cX10_levelEnergy 61 = .ok (.aload_n 0, 1) := by decide +kernel
theorem dX10_levelEnergy_62 : decode cX10_levelEnergy 62 = .ok (.iload_n 1, 1) := by decide +kernel
theorem dX10_levelEnergy_63 : decode cX10_levelEnergy 63 = .ok (.iload_n 2, 1) := by decide +kernel
theorem dX10_levelEnergy_64 : decode cX10_levelEnergy 64 = .ok (.iload_n 3, 1) := by decide +kernel
theorem dX10_levelEnergy_65 : decode cX10_levelEnergy 65 = .ok (.iload 4, 2) := by decide +kernel
theorem dX10_levelEnergy_67 : decode cX10_levelEnergy 67 = .ok (.invokevirtual 342, 3) := by decide +kernel
theorem dX10_levelEnergy_70 : decode cX10_levelEnergy 70 = .ok (.ireturn, 1) := by decide +kernel
theorem dX10_bestLevel_0 : decode cX10_bestLevel 0 = .ok (.aload_n 0, 1) := by decide +kernel
theorem dX10_bestLevel_1 : decode cX10_bestLevel 1 = .ok (.aload_n 0, 1) := by decide +kernel
theorem dX10_bestLevel_2 : decode cX10_bestLevel 2 = .ok (.iload_n 1, 1) := by decide +kernel
theorem dX10_bestLevel_3 : decode cX10_bestLevel 3 = .ok (.iload_n 2, 1) := by decide +kernel
theorem dX10_bestLevel_4 : decode cX10_bestLevel 4 = .ok (.sipush 9999, 3) := by decide +kernel
theorem dX10_bestLevel_7 : decode cX10_bestLevel 7 = .ok (.iload_n 3, 1) := by decide +kernel
theorem dX10_bestLevel_8 : decode cX10_bestLevel 8 = .ok (.sipush 9999, 3) := by decide +kernel
theorem dX10_bestLevel_11 : decode cX10_bestLevel 11 = .ok (.invokevirtual 338, 3) := by decide +kernel
theorem dX10_bestLevel_14 : decode cX10_bestLevel 14 = .ok (.invokevirtual 207, 3) := by decide +kernel
theorem dX10_bestLevel_17 : decode cX10_bestLevel 17 = .ok (.ifCond .eq 5, 3) := by decide +kernel
theorem dX10_bestLevel_20 : decode cX10_bestLevel 20 = .ok (.iconst 0, 1) := by decide +kernel
theorem dX10_bestLevel_21 : decode cX10_bestLevel 21 = .ok (.ireturn, 1) := by decide +kernel
theorem dX10_bestLevel_22 : decode cX10_bestLevel 22 = .ok (.bipush (-2), 2) := by decide +kernel
theorem dX10_bestLevel_24 : decode cX10_bestLevel 24 = .ok (.istore 4, 2) := by decide +kernel
theorem dX10_bestLevel_26 : decode cX10_bestLevel 26 = .ok (.iconst 0, 1) := by decide +kernel
theorem dX10_bestLevel_27 : decode cX10_bestLevel 27 = .ok (.istore 5, 2) := by decide +kernel
theorem dX10_bestLevel_29 : decode cX10_bestLevel 29 = .ok (.aload_n 0, 1) := by decide +kernel
theorem dX10_bestLevel_30 : decode cX10_bestLevel 30 = .ok (.getfield 34, 3) := by decide +kernel
theorem dX10_bestLevel_33 : decode cX10_bestLevel 33 = .ok (.iload_n 1, 1) := by decide +kernel
theorem dX10_bestLevel_34 : decode cX10_bestLevel 34 = .ok (.iaload, 1) := by decide +kernel
theorem dX10_bestLevel_35 : decode cX10_bestLevel 35 = .ok (.iconst 1, 1) := by decide +kernel
theorem dX10_bestLevel_36 : decode cX10_bestLevel 36 = .ok (.isub, 1) := by decide +kernel
theorem dX10_bestLevel_37 : decode cX10_bestLevel 37 = .ok (.istore 6, 2) := by decide +kernel
theorem dX10_bestLevel_39 : decode cX10_bestLevel 39 = .ok (.iload 6, 2) := by decide +kernel
theorem dX10_bestLevel_41 : decode cX10_bestLevel 41 = .ok (.ifCond .lt 49, 3) := by decide +kernel
theorem dX10_bestLevel_44 : decode cX10_bestLevel 44 = .ok (.aload_n 0, 1) := by decide +kernel
theorem dX10_bestLevel_45 : decode cX10_bestLevel 45 = .ok (.iload_n 1, 1) := by decide +kernel
theorem dX10_bestLevel_46 : decode cX10_bestLevel 46 = .ok (.iload 6, 2) := by decide +kernel
theorem dX10_bestLevel_48 : decode cX10_bestLevel 48 = .ok (.iload_n 2, 1) := by decide +kernel
theorem dX10_bestLevel_49 : decode cX10_bestLevel 49 = .ok (.iload_n 3, 1) := by decide +kernel
theorem dX10_bestLevel_50 : decode cX10_bestLevel 50 = .ok (.invokevirtual 342, 3) := by decide +kernel
theorem dX10_bestLevel_53 : decode cX10_bestLevel 53 = .ok (.istore 7, 2) := by decide +kernel
theorem dX10_bestLevel_55 : decode cX10_bestLevel 55 = .ok (.iload 7, 2) := by decide +kernel
theorem dX10_bestLevel_57 : decode cX10_bestLevel 57 = .ok (.bipush (-2), 2) := by decide +kernel
theorem dX10_bestLevel_59 : decode cX10_bestLevel 59 = .ok (.if_icmp .eq 25, 3) := by decide +kernel
theorem dX10_bestLevel_62 : decode cX10_bestLevel 62 = .ok (.iload 4, 2) := by decide +kernel
theorem dX10_bestLevel_64 : decode cX10_bestLevel 64 = .ok (.bipush (-2), 2) := by decide +kernel
theorem dX10_bestLevel_66 : decode cX10_bestLevel 66 = .ok (.if_icmp .eq 10, 3) := by decide +kernel
theorem dX10_bestLevel_69 : decode cX10_bestLevel 69 = .ok (.iload 7, 2) := by decide +kernel
theorem dX10_bestLevel_71 : decode cX10_bestLevel 71 = .ok (.iload 5, 2) := by decide +kernel
theorem dX10_bestLevel_73 : decode cX10_bestLevel 73 = .ok (.if_icmp .ge 11, 3) := by decide +kernel
theorem dX10_bestLevel_76 : decode cX10_bestLevel 76 = .ok (.iload 6, 2) := by decide +kernel
theorem dX10_bestLevel_78 : decode cX10_bestLevel 78 = .ok (.istore 4, 2) := by decide +kernel
theorem dX10_bestLevel_80 : decode cX10_bestLevel 80 = .ok (.iload 7, 2) := by decide +kernel
theorem dX10_bestLevel_82 : decode cX10_bestLevel 82 = .ok (.istore 5, 2) := by decide +kernel
theorem dX10_bestLevel_84 : decode cX10_bestLevel 84 = .ok (.iinc 6 (-1), 3) := by decide +kernel
theorem dX10_bestLevel_87 : decode cX10_bestLevel 87 = .ok (.goto (-48), 3) := by decide +kernel
theorem dX10_bestLevel_90 : decode cX10_bestLevel 90 = .ok (.iload 4, 2) := by decide +kernel
theorem dX10_bestLevel_92 : decode cX10_bestLevel 92 = .ok (.ireturn, 1) := by decide +kernel
theorem dX10_mixedEnergy_0 : decode cX10_mixedEnergy 0 = .ok (.aload_n 0, 1) := by decide +kernel
theorem dX10_mixedEnergy_1 : decode cX10_mixedEnergy 1 = .ok (.aload_n 0, 1) := by decide +kernel
theorem dX10_mixedEnergy_2 : decode cX10_mixedEnergy 2 = .ok (.iload_n 1, 1) := by decide +kernel
theorem dX10_mixedEnergy_3 : decode cX10_mixedEnergy 3 = .ok (.iload_n 2, 1) := by decide +kernel
theorem dX10_mixedEnergy_4 : decode cX10_mixedEnergy 4 = .ok (.sipush 500, 3) := by decide +kernel
theorem dX10_mixedEnergy_7 : decode cX10_mixedEnergy 7 = .ok (.iload_n 3, 1) := by decide +kernel
theorem dX10_mixedEnergy_8 : decode cX10_mixedEnergy 8 = .ok (.bipush 100, 2) := by decide +kernel
theorem dX10_mixedEnergy_10 : decode cX10_mixedEnergy 10 = .ok (.invokevirtual 338, 3) := by decide +kernel
theorem dX10_mixedEnergy_13 : decode cX10_mixedEnergy 13 = .ok (.invokevirtual 207, 3) := by decide +kernel
theorem dX10_mixedEnergy_16 : decode cX10_mixedEnergy 16 = .ok (.ifCond .eq 5, 3) := by decide +kernel
theorem dX10_mixedEnergy_19 : decode cX10_mixedEnergy 19 = .ok (.iconst 0, 1) := by decide +kernel
theorem dX10_mixedEnergy_20 : decode cX10_mixedEnergy 20 = .ok (.ireturn, 1) := by decide +kernel
theorem dX10_mixedEnergy_21 : decode cX10_mixedEnergy 21 = .ok (.iconst 0, 1) := by decide +kernel
theorem dX10_mixedEnergy_22 : decode cX10_mixedEnergy 22 = .ok (.istore 4, 2) := by decide +kernel
theorem dX10_mixedEnergy_24 : decode cX10_mixedEnergy 24 = .ok (.iload 4, 2) := by decide +kernel
theorem dX10_mixedEnergy_26 : decode cX10_mixedEnergy 26 = .ok (.iload_n 2, 1) := by decide +kernel
theorem dX10_mixedEnergy_27 : decode cX10_mixedEnergy 27 = .ok (.if_icmp .gt 28, 3) := by decide +kernel
theorem dX10_mixedEnergy_30 : decode cX10_mixedEnergy 30 = .ok (.aload_n 0, 1) := by decide +kernel
theorem dX10_mixedEnergy_31 : decode cX10_mixedEnergy 31 = .ok (.getfield 62, 3) := by decide +kernel
theorem dX10_mixedEnergy_34 : decode cX10_mixedEnergy 34 = .ok (.iload 4, 2) := by decide +kernel
theorem dX10_mixedEnergy_36 : decode cX10_mixedEnergy 36 = .ok (.iload 4, 2) := by decide +kernel
theorem dX10_mixedEnergy_38 : decode cX10_mixedEnergy 38 = .ok (.ifCond .ne 7, 3) := by decide +kernel
theorem dX10_mixedEnergy_41 : decode cX10_mixedEnergy 41 = .ok (.iconst 0, 1) := by decide +kernel
theorem dX10_mixedEnergy_42 : decode cX10_mixedEnergy 42 = .ok (.goto 6, 3) := by decide +kernel
theorem dX10_mixedEnergy_45 : decode cX10_mixedEnergy 45 = .ok (.ldc_w 337, 3) := by decide +kernel
theorem dX10_mixedEnergy_48 : decode cX10_mixedEnergy 48 = .ok (.iastore, 1) := by decide +kernel
theorem dX10_mixedEnergy_49 : decode cX10_mixedEnergy 49 = .ok (.iinc 4 1, 3) := by decide +kernel
theorem dX10_mixedEnergy_52 : decode cX10_mixedEnergy 52 = .ok (.goto (-28), 3) := by decide +kernel
theorem dX10_mixedEnergy_55 : decode cX10_mixedEnergy 55 = .ok (.iconst 0, 1) := by decide +kernel
theorem dX10_mixedEnergy_56 : decode cX10_mixedEnergy 56 = .ok (.istore 4, 2) := by decide +kernel
theorem dX10_mixedEnergy_58 : decode cX10_mixedEnergy 58 = .ok (.iload 4, 2) := by decide +kernel
theorem dX10_mixedEnergy_60 : decode cX10_mixedEnergy 60 = .ok (.iload_n 3, 1) := by decide +kernel
theorem dX10_mixedEnergy_61 : decode cX10_mixedEnergy 61 = .ok (.if_icmp .ge 146, 3) := by decide +kernel
theorem dX10_mixedEnergy_64 : decode cX10_mixedEnergy 64 = .ok (.iconst 0, 1) := by decide +kernel
theorem dX10_mixedEnergy_65 : decode cX10_mixedEnergy 65 = .ok (.istore 5, 2) := by decide +kernel
theorem dX10_mixedEnergy_67 : decode cX10_mixedEnergy 67 = .ok (.iload 5, 2) := by decide +kernel
theorem dX10_mixedEnergy_69 : decode cX10_mixedEnergy 69 = .ok (.iload_n 2, 1) := by decide +kernel
theorem dX10_mixedEnergy_70 : decode cX10_mixedEnergy 70 = .ok (.if_icmp .gt 102, 3) := by decide +kernel
theorem dX10_mixedEnergy_73 : decode cX10_mixedEnergy 73 = .ok (.aload_n 0, 1) := by decide +kernel
theorem dX10_mixedEnergy_74 : decode cX10_mixedEnergy 74 = .ok (.getfield 62, 3) := by decide +kernel
theorem dX10_mixedEnergy_77 : decode cX10_mixedEnergy 77 = .ok (.iload 5, 2) := by decide +kernel
theorem dX10_mixedEnergy_79 : decode cX10_mixedEnergy 79 = .ok (.iaload, 1) := by decide +kernel
theorem dX10_mixedEnergy_80 : decode cX10_mixedEnergy 80 = .ok (.aload_n 0, 1) := by decide +kernel
theorem dX10_mixedEnergy_81 : decode cX10_mixedEnergy 81 = .ok (.getfield 25, 3) := by decide +kernel
theorem dX10_mixedEnergy_84 : decode cX10_mixedEnergy 84 = .ok (.iload_n 1, 1) := by decide +kernel
theorem dX10_mixedEnergy_85 : decode cX10_mixedEnergy 85 = .ok (.iaload, 1) := by decide +kernel
theorem dX10_mixedEnergy_86 : decode cX10_mixedEnergy 86 = .ok (.iadd, 1) := by decide +kernel
theorem dX10_mixedEnergy_87 : decode cX10_mixedEnergy 87 = .ok (.istore 6, 2) := by decide +kernel
theorem dX10_mixedEnergy_89 : decode cX10_mixedEnergy 89 = .ok (.iconst 0, 1) := by decide +kernel
theorem dX10_mixedEnergy_90 : decode cX10_mixedEnergy 90 = .ok (.istore 7, 2) := by decide +kernel
theorem dX10_mixedEnergy_92 : decode cX10_mixedEnergy 92 = .ok (.iload 7, 2) := by decide +kernel
theorem dX10_mixedEnergy_94 : decode cX10_mixedEnergy 94 = .ok (.aload_n 0, 1) := by decide +kernel
theorem dX10_mixedEnergy_95 : decode cX10_mixedEnergy 95 = .ok (.getfield 34, 3) := by decide +kernel
theorem dX10_mixedEnergy_98 : decode cX10_mixedEnergy 98 = .ok (.iload_n 1, 1) := by decide +kernel
theorem dX10_mixedEnergy_99 : decode cX10_mixedEnergy 99 = .ok (.iaload, 1) := by decide +kernel
theorem dX10_mixedEnergy_100 : decode cX10_mixedEnergy 100 = .ok (.if_icmp .ge 51, 3) := by decide +kernel
theorem dX10_mixedEnergy_103 : decode cX10_mixedEnergy 103 = .ok (.iload 6, 2) := by decide +kernel
theorem dX10_mixedEnergy_105 : decode cX10_mixedEnergy 105 = .ok (.aload_n 0, 1) := by decide +kernel
theorem dX10_mixedEnergy_106 : decode cX10_mixedEnergy 106 = .ok (.getfield 62, 3) := by decide +kernel
theorem dX10_mixedEnergy_109 : decode cX10_mixedEnergy 109 = .ok (.iconst 0, 1) := by decide +kernel
theorem dX10_mixedEnergy_110 : decode cX10_mixedEnergy 110 = .ok (.iload 5, 2) := by decide +kernel
theorem dX10_mixedEnergy_112 : decode cX10_mixedEnergy 112 = .ok (.aload_n 0, 1) := by decide +kernel
theorem dX10_mixedEnergy_113 : decode cX10_mixedEnergy 113 = .ok (.getfield 37, 3) := by decide +kernel
theorem dX10_mixedEnergy_116 : decode cX10_mixedEnergy 116 = .ok (.iconst 5, 1) := by decide +kernel
theorem dX10_mixedEnergy_117 : decode cX10_mixedEnergy 117 = .ok (.iload_n 1, 1) := by decide +kernel
theorem dX10_mixedEnergy_118 : decode cX10_mixedEnergy 118 = .ok (.imul, 1) := by decide +kernel
theorem dX10_mixedEnergy_119 : decode cX10_mixedEnergy 119 = .ok (.iload 7, 2) := by decide +kernel
theorem dX10_mixedEnergy_121 : decode cX10_mixedEnergy 121 = .ok (.iadd, 1) := by decide +kernel
theorem dX10_mixedEnergy_122 : decode cX10_mixedEnergy 122 = .ok (.iaload, 1) := by decide +kernel
theorem dX10_mixedEnergy_123 : decode cX10_mixedEnergy 123 = .ok (.isub, 1) := by decide +kernel
theorem dX10_mixedEnergy_124 : decode cX10_mixedEnergy 124 = .ok (.invokestatic 226, 3) := by decide +kernel
theorem dX10_mixedEnergy_127 : decode cX10_mixedEnergy 127 = .ok (.iaload, 1) := by decide +kernel
theorem dX10_mixedEnergy_128 : decode cX10_mixedEnergy 128 = .ok (.aload_n 0, 1) := by decide +kernel
theorem dX10_mixedEnergy_129 : decode cX10_mixedEnergy 129 = .ok (.getfield 40, 3) := by decide +kernel
theorem dX10_mixedEnergy_132 : decode cX10_mixedEnergy 132 = .ok (.iconst 5, 1) := by decide +kernel
theorem dX10_mixedEnergy_133 : decode cX10_mixedEnergy 133 = .ok (.iload_n 1, 1) := by decide +kernel
theorem dX10_mixedEnergy_134 : decode cX10_mixedEnergy 134 = .ok (.imul, 1) := by decide +kernel
theorem dX10_mixedEnergy_135 : decode cX10_mixedEnergy 135 = .ok (.iload 7, 2) := by decide +kernel
theorem dX10_mixedEnergy_137 : decode cX10_mixedEnergy 137 = .ok (.iadd, 1) := by decide +kernel
theorem dX10_mixedEnergy_138 : decode cX10_mixedEnergy 138 = .ok (.iaload, 1) := by decide +kernel
theorem dX10_mixedEnergy_139 : decode cX10_mixedEnergy 139 = .ok (.iadd, 1) := by decide +kernel
theorem dX10_mixedEnergy_140 : decode cX10_mixedEnergy 140 = .ok (.invokestatic 199, 3) := by decide +kernel
theorem dX10_mixedEnergy_143 : decode cX10_mixedEnergy 143 = .ok (.istore 6, 2) := by decide +kernel
theorem dX10_mixedEnergy_145 : decode cX10_mixedEnergy 145 = .ok (.iinc 7 1, 3) := by decide +kernel
theorem dX10_mixedEnergy_148 : decode cX10_mixedEnergy 148 = .ok (.goto (-56), 3) := by decide +kernel
theorem dX10_mixedEnergy_151 : decode cX10_mixedEnergy 151 = .ok (.aload_n 0, 1) := by decide +kernel
theorem dX10_mixedEnergy_152 : decode cX10_mixedEnergy 152 = .ok (.getfield 65, 3) := by decide +kernel
theorem dX10_mixedEnergy_155 : decode cX10_mixedEnergy 155 = .ok (.iload 5, 2) := by decide +kernel
theorem dX10_mixedEnergy_157 : decode cX10_mixedEnergy 157 = .ok (.ldc_w 337, 3) := by decide +kernel
theorem dX10_mixedEnergy_160 : decode cX10_mixedEnergy 160 = .ok (.iload 6, 2) := by decide +kernel
theorem dX10_mixedEnergy_162 : decode cX10_mixedEnergy 162 = .ok (.invokestatic 199, 3) := by decide +kernel
theorem dX10_mixedEnergy_165 : decode cX10_mixedEnergy 165 = .ok (.iastore, 1) := by decide +kernel
theorem dX10_mixedEnergy_166 : decode cX10_mixedEnergy 166 = .ok (.iinc 5 1, 3) := by decide +kernel
theorem dX10_mixedEnergy_169 : decode cX10_mixedEnergy 169 = .ok (.goto (-102), 3) := by decide +kernel
theorem dX10_mixedEnergy_172 : decode cX10_mixedEnergy 172 = .ok (.iconst 0, 1) := by decide +kernel
theorem dX10_mixedEnergy_173 : decode cX10_mixedEnergy 173 = .ok (.istore 5, 2) := by decide +kernel
theorem dX10_mixedEnergy_175 : decode cX10_mixedEnergy 175 = .ok (.iload 5, 2) := by decide +kernel
theorem dX10_mixedEnergy_177 : decode cX10_mixedEnergy 177 = .ok (.iload_n 2, 1) := by decide +kernel
theorem dX10_mixedEnergy_178 : decode cX10_mixedEnergy 178 = .ok (.if_icmp .gt 23, 3) := by decide +kernel
theorem dX10_mixedEnergy_181 : decode cX10_mixedEnergy 181 = .ok (.aload_n 0, 1) := by decide +kernel
theorem dX10_mixedEnergy_182 : decode cX10_mixedEnergy 182 = .ok (.getfield 62, 3) := by decide +kernel
theorem dX10_mixedEnergy_185 : decode cX10_mixedEnergy 185 = .ok (.iload 5, 2) := by decide +kernel
theorem dX10_mixedEnergy_187 : decode cX10_mixedEnergy 187 = .ok (.aload_n 0, 1) := by decide +kernel
theorem dX10_mixedEnergy_188 : decode cX10_mixedEnergy 188 = .ok (.getfield 65, 3) := by decide +kernel
theorem dX10_mixedEnergy_191 : decode cX10_mixedEnergy 191 = .ok (.iload 5, 2) := by decide +kernel
theorem dX10_mixedEnergy_193 : decode cX10_mixedEnergy 193 = .ok (.iaload, 1) := by decide +kernel
theorem dX10_mixedEnergy_194 : decode cX10_mixedEnergy 194 = .ok (.iastore, 1) := by decide +kernel
theorem dX10_mixedEnergy_195 : decode cX10_mixedEnergy 195 = .ok (.iinc 5 1, 3) := by decide +kernel
theorem dX10_mixedEnergy_198 : decode cX10_mixedEnergy 198 = .ok (.goto (-23), 3) := by decide +kernel
theorem dX10_mixedEnergy_201 : decode cX10_mixedEnergy 201 = .ok (.iinc 4 1, 3) := by decide +kernel
theorem dX10_mixedEnergy_204 : decode cX10_mixedEnergy 204 = .ok (.goto (-146), 3) := by decide +kernel
theorem dX10_mixedEnergy_207 : decode cX10_mixedEnergy 207 = .ok (.aload_n 0, 1) := by decide +kernel
theorem dX10_mixedEnergy_208 : decode cX10_mixedEnergy 208 = .ok (.getfield 62, 3) := by decide +kernel
theorem dX10_mixedEnergy_211 : decode cX10_mixedEnergy 211 = .ok (.iload_n 2, 1) := by decide +kernel
theorem dX10_mixedEnergy_212 : decode cX10_mixedEnergy 212 = .ok (.iaload, 1) := by decide +kernel
theorem dX10_mixedEnergy_213 : decode cX10_mixedEnergy 213 = .ok (.ldc_w 337, 3) := by decide +kernel
theorem dX10_mixedEnergy_216 : decode cX10_mixedEnergy 216 = .ok (.if_icmp .ne 8, 3) := by decide +kernel
theorem dX10_mixedEnergy_219 : decode cX10_mixedEnergy 219 = .ok (.bipush (-2), 2) := by decide +kernel
theorem dX10_mixedEnergy_221 : decode cX10_mixedEnergy 221 = .ok (.goto 9, 3) := by decide +kernel
theorem dX10_mixedEnergy_224 : decode cX10_mixedEnergy 224 = .ok (.aload_n 0, 1) := by decide +kernel
theorem dX10_mixedEnergy_225 : decode cX10_mixedEnergy 225 = .ok (.getfield 62, 3) := by decide +kernel
theorem dX10_mixedEnergy_228 : decode cX10_mixedEnergy 228 = .ok (.iload_n 2, 1) := by decide +kernel
theorem dX10_mixedEnergy_229 : decode cX10_mixedEnergy 229 = .ok (.iaload, 1) := by decide +kernel
theorem dX10_mixedEnergy_230 : decode cX10_mixedEnergy 230 = .ok (.ireturn, 1) := by decide +kernel
theorem dX10_fromOf_0 : decode cX10_fromOf 0 = .ok (.aload_n 0, 1) := by decide +kernel
theorem dX10_fromOf_1 : decode cX10_fromOf 1 = .ok (.getfield 7, 3) := by decide +kernel
theorem dX10_fromOf_4 : decode cX10_fromOf 4 = .ok (.iconst 0, 1) := by decide +kernel
theorem dX10_fromOf_5 : decode cX10_fromOf 5 = .ok (.iaload, 1) := by decide +kernel
theorem dX10_fromOf_6 : decode cX10_fromOf 6 = .ok (.aload_n 0, 1) := by decide +kernel
theorem dX10_fromOf_7 : decode cX10_fromOf 7 = .ok (.iload_n 1, 1) := by decide +kernel
theorem dX10_fromOf_8 : decode cX10_fromOf 8 = .ok (.iconst 2, 1) := by decide +kernel
theorem dX10_fromOf_9 : decode cX10_fromOf 9 = .ok (.invokevirtual 211, 3) := by decide +kernel
theorem dX10_fromOf_12 : decode cX10_fromOf 12 = .ok (.invokestatic 226, 3) := by decide +kernel
theorem dX10_fromOf_15 : decode cX10_fromOf 15 = .ok (.ireturn, 1) := by decide +kernel
theorem dX10_toOf_0 : decode cX10_toOf 0 = .ok (.aload_n 0, 1) := by decide +kernel
theorem dX10_toOf_1 : decode cX10_toOf 1 = .ok (.getfield 7, 3) := by decide +kernel
theorem dX10_toOf_4 : decode cX10_toOf 4 = .ok (.iconst 0, 1) := by decide +kernel
theorem dX10_toOf_5 : decode cX10_toOf 5 = .ok (.iaload, 1) := by decide +kernel
theorem dX10_toOf_6 : decode cX10_toOf 6 = .ok (.aload_n 0, 1) := by decide +kernel
theorem dX10_toOf_7 : decode cX10_toOf 7 = .ok (.iload_n 1, 1) := by decide +kernel
theorem dX10_toOf_8 : decode cX10_toOf 8 = .ok (.iconst 2, 1) := by decide +kernel
theorem dX10_toOf_9 : decode cX10_toOf 9 = .ok (.invokevirtual 211, 3) := by decide +kernel
theorem dX10_toOf_12 : decode cX10_toOf 12 = .ok (.aload_n 0, 1) := by decide +kernel
theorem dX10_toOf_13 : decode cX10_toOf 13 = .ok (.iload_n 1, 1) := by decide +kernel
theorem dX10_toOf_14 : decode cX10_toOf 14 = .ok (.iconst 3, 1) := by decide +kernel
theorem dX10_toOf_15 : decode cX10_toOf 15 = .ok (.invokevirtual 211, 3) := by decide +kernel
theorem dX10_toOf_18 : decode cX10_toOf 18 = .ok (.iadd, 1) := by decide +kernel
theorem dX10_toOf_19 : decode cX10_toOf 19 = .ok (.invokestatic 226, 3) := by decide +kernel
theorem dX10_toOf_22 : decode cX10_toOf 22 = .ok (.ireturn, 1) := by decide +kernel
theorem dX10_firstEnd_0 : decode cX10_firstEnd 0 = .ok (.iconst (-1), 1) := by decide +kernel
theorem dX10_firstEnd_1 : decode cX10_firstEnd 1 = .ok (.istore_n 3, 1) := by decide +kernel
theorem dX10_firstEnd_2 : decode cX10_firstEnd 2 = .ok (.iconst 0, 1) := by decide +kernel
theorem dX10_firstEnd_3 : decode cX10_firstEnd 3 = .ok (.istore 4, 2) := by decide +kernel
theorem dX10_firstEnd_5 : decode cX10_firstEnd 5 = .ok (.iload 4, 2) := by decide +kernel
theorem dX10_firstEnd_7 : decode cX10_firstEnd 7 = .ok (.aload_n 0, 1) := by decide +kernel
theorem dX10_firstEnd_8 : decode cX10_firstEnd 8 = .ok (.getfield 7, 3) := by decide +kernel
theorem dX10_firstEnd_11 : decode cX10_firstEnd 11 = .ok (.iconst 2, 1) := by decide +kernel
theorem dX10_firstEnd_12 : decode cX10_firstEnd 12 = .ok (.iaload, 1) := by decide +kernel
theorem dX10_firstEnd_13 : decode cX10_firstEnd 13 = .ok (.if_icmp .ge 78, 3) := by decide +kernel
theorem dX10_firstEnd_16 : decode cX10_firstEnd 16 = .ok (.aload_n 0, 1) := by decide +kernel
theorem dX10_firstEnd_17 : decode cX10_firstEnd 17 = .ok (.iload 4, 2) := by decide +kernel
theorem dX10_firstEnd_19 : decode cX10_firstEnd 19 = .ok (.iconst 0, 1) := by decide +kernel
theorem dX10_firstEnd_20 : decode cX10_firstEnd 20 = .ok (.invokevirtual 211, 3) := by decide +kernel
theorem dX10_firstEnd_23 : decode cX10_firstEnd 23 = .ok (.iload_n 1, 1) := by decide +kernel
theorem dX10_firstEnd_24 : decode cX10_firstEnd 24 = .ok (.if_icmp .ne 27, 3) := by decide +kernel
theorem dX10_firstEnd_27 : decode cX10_firstEnd 27 = .ok (.aload_n 0, 1) := by decide +kernel
theorem dX10_firstEnd_28 : decode cX10_firstEnd 28 = .ok (.iload 4, 2) := by decide +kernel
theorem dX10_firstEnd_30 : decode cX10_firstEnd 30 = .ok (.bipush 7, 2) := by decide +kernel
theorem dX10_firstEnd_32 : decode cX10_firstEnd 32 = .ok (.invokevirtual 211, 3) := by decide +kernel
theorem dX10_firstEnd_35 : decode cX10_firstEnd 35 = .ok (.ifCond .ne 16, 3) := by decide +kernel
theorem dX10_firstEnd_38 : decode cX10_firstEnd 38 = .ok (.iload_n 2, 1) := by decide +kernel
theorem dX10_firstEnd_39 : decode cX10_firstEnd 39 = .ok (.iload 4, 2) := by decide +kernel
theorem dX10_firstEnd_41 : decode cX10_firstEnd 41 = .ok (.ishr, 1) := by decide +kernel
theorem dX10_firstEnd_42 : decode cX10_firstEnd 42 = .ok (.iconst 1, 1) := by decide +kernel
theorem dX10_firstEnd_43 : decode cX10_firstEnd 43 = .ok (.iand, 1) := by decide +kernel
theorem dX10_firstEnd_44 : decode cX10_firstEnd 44 = .ok (.ifCond .ne 7, 3) := by decide +kernel
theorem dX10_firstEnd_47 : decode cX10_firstEnd 47 = .ok (.iconst 1, 1) := by decide +kernel
theorem dX10_firstEnd_48 : decode cX10_firstEnd 48 = .ok (.goto 4, 3) := by decide +kernel
theorem dX10_firstEnd_51 : decode cX10_firstEnd 51 = .ok (.iconst 0, 1) := by decide +kernel
theorem dX10_firstEnd_52 : decode cX10_firstEnd 52 = .ok (.istore 5, 2) := by decide +kernel
theorem dX10_firstEnd_54 : decode cX10_firstEnd 54 = .ok (.iload 5, 2) := by decide +kernel
theorem dX10_firstEnd_56 : decode cX10_firstEnd 56 = .ok (.ifCond .eq 27, 3) := by decide +kernel
theorem dX10_firstEnd_59 : decode cX10_firstEnd 59 = .ok (.iload_n 3, 1) := by decide +kernel
theorem dX10_firstEnd_60 : decode cX10_firstEnd 60 = .ok (.iconst (-1), 1) := by decide +kernel
theorem dX10_firstEnd_61 : decode cX10_firstEnd 61 = .ok (.if_icmp .eq 17, 3) := by decide +kernel
theorem dX10_firstEnd_64 : decode cX10_firstEnd 64 = .ok (.aload_n 0, 1) := by decide +kernel
theorem dX10_firstEnd_65 : decode cX10_firstEnd 65 = .ok (.iload 4, 2) := by decide +kernel
theorem dX10_firstEnd_67 : decode cX10_firstEnd 67 = .ok (.invokevirtual 346, 3) := by decide +kernel
theorem dX10_firstEnd_70 : decode cX10_firstEnd 70 = .ok (.aload_n 0, 1) := by decide +kernel
theorem dX10_firstEnd_71 : decode cX10_firstEnd 71 = .ok (.iload_n 3, 1) := by decide +kernel
theorem dX10_firstEnd_72 : decode cX10_firstEnd 72 = .ok (.invokevirtual 346, 3) := by decide +kernel
theorem dX10_firstEnd_75 : decode cX10_firstEnd 75 = .ok (.if_icmp .ge 8, 3) := by decide +kernel
theorem dX10_firstEnd_78 : decode cX10_firstEnd 78 = .ok (.iload 4, 2) := by decide +kernel
theorem dX10_firstEnd_80 : decode cX10_firstEnd 80 = .ok (.goto 4, 3) := by decide +kernel
theorem dX10_firstEnd_83 : decode cX10_firstEnd 83 = .ok (.iload_n 3, 1) := by decide +kernel
theorem dX10_firstEnd_84 : decode cX10_firstEnd 84 = .ok (.istore_n 3, 1) := by decide +kernel
theorem dX10_firstEnd_85 : decode cX10_firstEnd 85 = .ok (.iinc 4 1, 3) := by decide +kernel
theorem dX10_firstEnd_88 : decode cX10_firstEnd 88 = .ok (.goto (-83), 3) := by decide +kernel
theorem dX10_firstEnd_91 : decode cX10_firstEnd 91 = .ok (.iload_n 3, 1) := by decide +kernel
theorem dX10_firstEnd_92 : decode cX10_firstEnd 92 = .ok (.ireturn, 1) := by decide +kernel
theorem dX10_pack_0 : decode cX10_pack 0 = .ok (.aload_n 0, 1) := by decide +kernel
theorem dX10_pack_1 : decode cX10_pack 1 = .ok (.iconst 0, 1) := by decide +kernel
theorem dX10_pack_2 : decode cX10_pack 2 = .ok (.putfield 349, 3) := by decide +kernel
theorem dX10_pack_5 : decode cX10_pack 5 = .ok (.iconst 0, 1) := by decide +kernel
theorem dX10_pack_6 : decode cX10_pack 6 = .ok (.istore_n 2, 1) := by decide +kernel
theorem dX10_pack_7 : decode cX10_pack 7 = .ok (.aload_n 0, 1) := by decide +kernel
theorem dX10_pack_8 : decode cX10_pack 8 = .ok (.iload_n 1, 1) := by decide +kernel
theorem dX10_pack_9 : decode cX10_pack 9 = .ok (.iload_n 2, 1) := by decide +kernel
theorem dX10_pack_10 : decode cX10_pack 10 = .ok (.invokevirtual 352, 3) := by decide +kernel
theorem dX10_pack_13 : decode cX10_pack 13 = .ok (.istore_n 3, 1) := by decide +kernel
theorem dX10_pack_14 : decode cX10_pack 14 = .ok (.iload_n 3, 1) := by decide +kernel
theorem dX10_pack_15 : decode cX10_pack 15 = .ok (.iconst (-1), 1) := by decide +kernel
theorem dX10_pack_16 : decode cX10_pack 16 = .ok (.if_icmp .eq 159, 3) := by decide +kernel
theorem dX10_pack_19 : decode cX10_pack 19 = .ok (.aload_n 0, 1) := by decide +kernel
theorem dX10_pack_20 : decode cX10_pack 20 = .ok (.iload_n 3, 1) := by decide +kernel
theorem dX10_pack_21 : decode cX10_pack 21 = .ok (.invokevirtual 346, 3) := by decide +kernel
theorem dX10_pack_24 : decode cX10_pack 24 = .ok (.istore 4, 2) := by decide +kernel
theorem dX10_pack_26 : decode cX10_pack 26 = .ok (.iconst 0, 1) := by decide +kernel
theorem dX10_pack_27 : decode cX10_pack 27 = .ok (.istore 5, 2) := by decide +kernel
theorem dX10_pack_29 : decode cX10_pack 29 = .ok (.iconst 0, 1) := by decide +kernel
theorem dX10_pack_30 : decode cX10_pack 30 = .ok (.istore 6, 2) := by decide +kernel
theorem dX10_pack_32 : decode cX10_pack 32 = .ok (.iload 6, 2) := by decide +kernel
theorem dX10_pack_34 : decode cX10_pack 34 = .ok (.aload_n 0, 1) := by decide +kernel
theorem dX10_pack_35 : decode cX10_pack 35 = .ok (.getfield 7, 3) := by decide +kernel
theorem dX10_pack_38 : decode cX10_pack 38 = .ok (.iconst 2, 1) := by decide +kernel
theorem dX10_pack_39 : decode cX10_pack 39 = .ok (.iaload, 1) := by decide +kernel
theorem dX10_pack_40 : decode cX10_pack 40 = .ok (.if_icmp .ge 88, 3) := by decide +kernel
theorem dX10_pack_43 : decode cX10_pack 43 = .ok (.aload_n 0, 1) := by decide +kernel
theorem dX10_pack_44 : decode cX10_pack 44 = .ok (.iload 6, 2) := by decide +kernel
theorem dX10_pack_46 : decode cX10_pack 46 = .ok (.iconst 0, 1) := by decide +kernel
theorem dX10_pack_47 : decode cX10_pack 47 = .ok (.invokevirtual 211, 3) := by decide +kernel
theorem dX10_pack_50 : decode cX10_pack 50 = .ok (.iload_n 1, 1) := by decide +kernel
theorem dX10_pack_51 : decode cX10_pack 51 = .ok (.if_icmp .ne 27, 3) := by decide +kernel
theorem dX10_pack_54 : decode cX10_pack 54 = .ok (.aload_n 0, 1) := by decide +kernel
theorem dX10_pack_55 : decode cX10_pack 55 = .ok (.iload 6, 2) := by decide +kernel
theorem dX10_pack_57 : decode cX10_pack 57 = .ok (.bipush 7, 2) := by decide +kernel
theorem dX10_pack_59 : decode cX10_pack 59 = .ok (.invokevirtual 211, 3) := by decide +kernel
theorem dX10_pack_62 : decode cX10_pack 62 = .ok (.ifCond .ne 16, 3) := by decide +kernel
theorem dX10_pack_65 : decode cX10_pack 65 = .ok (.iload_n 2, 1) := by decide +kernel
theorem dX10_pack_66 : decode cX10_pack 66 = .ok (.iload 6, 2) := by decide +kernel
theorem dX10_pack_68 : decode cX10_pack 68 = .ok (.ishr, 1) := by decide +kernel
theorem dX10_pack_69 : decode cX10_pack 69 = .ok (.iconst 1, 1) := by decide +kernel
theorem dX10_pack_70 : decode cX10_pack 70 = .ok (.iand, 1) := by decide +kernel
theorem dX10_pack_71 : decode cX10_pack 71 = .ok (.ifCond .ne 7, 3) := by decide +kernel
theorem dX10_pack_74 : decode cX10_pack 74 = .ok (.iconst 1, 1) := by decide +kernel
theorem dX10_pack_75 : decode cX10_pack 75 = .ok (.goto 4, 3) := by decide +kernel
theorem dX10_pack_78 : decode cX10_pack 78 = .ok (.iconst 0, 1) := by decide +kernel
theorem dX10_pack_79 : decode cX10_pack 79 = .ok (.istore 7, 2) := by decide +kernel
theorem dX10_pack_81 : decode cX10_pack 81 = .ok (.iload 5, 2) := by decide +kernel
theorem dX10_pack_83 : decode cX10_pack 83 = .ok (.iload 7, 2) := by decide +kernel
theorem dX10_pack_85 : decode cX10_pack 85 = .ok (.ifCond .eq 33, 3) := by decide +kernel
theorem dX10_pack_88 : decode cX10_pack 88 = .ok (.iload 4, 2) := by decide +kernel
theorem dX10_pack_90 : decode cX10_pack 90 = .ok (.i2l, 1) := by decide +kernel
theorem dX10_pack_91 : decode cX10_pack 91 = .ok (.aload_n 0, 1) := by decide +kernel
theorem dX10_pack_92 : decode cX10_pack 92 = .ok (.iload 6, 2) := by decide +kernel
theorem dX10_pack_94 : decode cX10_pack 94 = .ok (.invokevirtual 355, 3) := by decide +kernel
theorem dX10_pack_97 : decode cX10_pack 97 = .ok (.i2l, 1) := by decide +kernel
theorem dX10_pack_98 : decode cX10_pack 98 = .ok (.aload_n 0, 1) := by decide +kernel
theorem dX10_pack_99 : decode cX10_pack 99 = .ok (.iload 6, 2) := by decide +kernel
theorem dX10_pack_101 : decode cX10_pack 101 = .ok (.invokevirtual 346, 3) := by decide +kernel
theorem dX10_pack_104 : decode cX10_pack 104 = .ok (.i2l, 1) := by decide +kernel
theorem dX10_pack_105 : decode cX10_pack 105 = .ok (.invokestatic 88, 3) := by decide +kernel
theorem dX10_pack_108 : decode cX10_pack 108 = .ok (.ifCond .eq 10, 3) := by decide +kernel
theorem dX10_pack_111 : decode cX10_pack 111 = .ok (.iconst 1, 1) := by decide +kernel
theorem dX10_pack_112 : decode cX10_pack 112 = .ok (.iload 6, 2) := by decide +kernel
theorem dX10_pack_114 : decode cX10_pack 114 = .ok (.ishl, 1) := by decide +kernel
theorem dX10_pack_115 : decode cX10_pack 115 = .ok (.goto 4, 3) := by decide +kernel
theorem dX10_pack_118 : decode cX10_pack 118 = .ok (.iconst 0, 1) := by decide +kernel
theorem dX10_pack_119 : decode cX10_pack 119 = .ok (.ior, 1) := by decide +kernel
theorem dX10_pack_120 : decode cX10_pack 120 = .ok (.istore 5, 2) := by decide +kernel
theorem dX10_pack_122 : decode cX10_pack 122 = .ok (.iinc 6 1, 3) := by decide +kernel
theorem dX10_pack_125 : decode cX10_pack 125 = .ok (.goto (-93), 3) := by decide +kernel
theorem dX10_pack_128 : decode cX10_pack 128 = .ok (.aload_n 0, 1) := by decide +kernel
theorem dX10_pack_129 : decode cX10_pack 129 = .ok (.getfield 68, 3) := by decide +kernel
theorem dX10_pack_132 : decode cX10_pack 132 = .ok (.aload_n 0, 1) := by decide +kernel
theorem dX10_pack_133 : decode cX10_pack 133 = .ok (.getfield 349, 3) := by decide +kernel
theorem dX10_pack_136 : decode cX10_pack 136 = .ok (.iload 4, 2) := by decide +kernel
theorem dX10_pack_138 : decode cX10_pack 138 = .ok (.iastore, 1) := by decide +kernel
theorem dX10_pack_139 : decode cX10_pack 139 = .ok (.aload_n 0, 1) := by decide +kernel
theorem dX10_pack_140 : decode cX10_pack 140 = .ok (.getfield 71, 3) := by decide +kernel
theorem dX10_pack_143 : decode cX10_pack 143 = .ok (.aload_n 0, 1) := by decide +kernel
theorem dX10_pack_144 : decode cX10_pack 144 = .ok (.getfield 349, 3) := by decide +kernel
theorem dX10_pack_147 : decode cX10_pack 147 = .ok (.iload 5, 2) := by decide +kernel
theorem dX10_pack_149 : decode cX10_pack 149 = .ok (.iastore, 1) := by decide +kernel
theorem dX10_pack_150 : decode cX10_pack 150 = .ok (.aload_n 0, 1) := by decide +kernel
theorem dX10_pack_151 : decode cX10_pack 151 = .ok (.dup, 1) := by decide +kernel
theorem dX10_pack_152 : decode cX10_pack 152 = .ok (.getfield 349, 3) := by decide +kernel
theorem dX10_pack_155 : decode cX10_pack 155 = .ok (.iconst 1, 1) := by decide +kernel
theorem dX10_pack_156 : decode cX10_pack 156 = .ok (.iadd, 1) := by decide +kernel
theorem dX10_pack_157 : decode cX10_pack 157 = .ok (.putfield 349, 3) := by decide +kernel
theorem dX10_pack_160 : decode cX10_pack 160 = .ok (.iload_n 2, 1) := by decide +kernel
theorem dX10_pack_161 : decode cX10_pack 161 = .ok (.iload 5, 2) := by decide +kernel
theorem dX10_pack_163 : decode cX10_pack 163 = .ok (.ior, 1) := by decide +kernel
theorem dX10_pack_164 : decode cX10_pack 164 = .ok (.istore_n 2, 1) := by decide +kernel
theorem dX10_pack_165 : decode cX10_pack 165 = .ok (.aload_n 0, 1) := by decide +kernel
theorem dX10_pack_166 : decode cX10_pack 166 = .ok (.iload_n 1, 1) := by decide +kernel
theorem dX10_pack_167 : decode cX10_pack 167 = .ok (.iload_n 2, 1) := by decide +kernel
theorem dX10_pack_168 : decode cX10_pack 168 = .ok (.invokevirtual 352, 3) := by decide +kernel
theorem dX10_pack_171 : decode cX10_pack 171 = .ok (.istore_n 3, 1) := by decide +kernel
theorem dX10_pack_172 : decode cX10_pack 172 = .ok (.goto (-158), 3) := by decide +kernel
theorem dX10_pack_175 : decode cX10_pack 175 = .ok (.return_, 1) := by decide +kernel
theorem dX10_packedWakeUps_0 : decode cX10_packedWakeUps 0 = .ok (.aload_n 0, 1) := by decide +kernel
theorem dX10_packedWakeUps_1 : decode cX10_packedWakeUps 1 = .ok (.aload_n 0, 1) := by decide +kernel
theorem dX10_packedWakeUps_2 : decode cX10_packedWakeUps 2 = .ok (.iload_n 1, 1) := by decide +kernel
theorem dX10_packedWakeUps_3 : decode cX10_packedWakeUps 3 = .ok (.invokevirtual 274, 3) := by decide +kernel
theorem dX10_packedWakeUps_6 : decode cX10_packedWakeUps 6 = .ok (.invokevirtual 207, 3) := by decide +kernel
theorem dX10_packedWakeUps_9 : decode cX10_packedWakeUps 9 = .ok (.ifCond .eq 5, 3) := by decide +kernel
theorem dX10_packedWakeUps_12 : decode cX10_packedWakeUps 12 = .ok (.iconst 0, 1) := by decide +kernel
theorem dX10_packedWakeUps_13 : decode cX10_packedWakeUps 13 = .ok (.ireturn, 1) := by decide +kernel
theorem dX10_packedWakeUps_14 : decode cX10_packedWakeUps 14 = .ok (.aload_n 0, 1) := by decide +kernel
theorem dX10_packedWakeUps_15 : decode cX10_packedWakeUps 15 = .ok (.iload_n 1, 1) := by decide +kernel
theorem dX10_packedWakeUps_16 : decode cX10_packedWakeUps 16 = .ok (.invokevirtual 358, 3) := by decide +kernel
theorem dX10_packedWakeUps_19 : decode cX10_packedWakeUps 19 = .ok (.aload_n 0, 1) := by decide +kernel
theorem dX10_packedWakeUps_20 : decode cX10_packedWakeUps 20 = .ok (.getfield 349, 3) := by decide +kernel
theorem dX10_packedWakeUps_23 : decode cX10_packedWakeUps 23 = .ok (.ireturn, 1) := by decide +kernel
theorem dX10_packedTick_0 : decode cX10_packedTick 0 = .ok (.aload_n 0, 1) := by decide +kernel
theorem dX10_packedTick_1 : decode cX10_packedTick 1 = .ok (.aload_n 0, 1) := by decide +kernel
theorem dX10_packedTick_2 : decode cX10_packedTick 2 = .ok (.iload_n 1, 1) := by decide +kernel
theorem dX10_packedTick_3 : decode cX10_packedTick 3 = .ok (.invokevirtual 274, 3) := by decide +kernel
theorem dX10_packedTick_6 : decode cX10_packedTick 6 = .ok (.ifCond .eq 11, 3) := by decide +kernel
theorem dX10_packedTick_9 : decode cX10_packedTick 9 = .ok (.iload_n 2, 1) := by decide +kernel
theorem dX10_packedTick_10 : decode cX10_packedTick 10 = .ok (.ifCond .lt 7, 3) := by decide +kernel
theorem dX10_packedTick_13 : decode cX10_packedTick 13 = .ok (.iconst 1, 1) := by decide +kernel
theorem dX10_packedTick_14 : decode cX10_packedTick 14 = .ok (.goto 4, 3) := by decide +kernel
theorem dX10_packedTick_17 : decode cX10_packedTick 17 = .ok (.iconst 0, 1) := by decide +kernel
theorem dX10_packedTick_18 : decode cX10_packedTick 18 = .ok (.invokevirtual 207, 3) := by decide +kernel
theorem dX10_packedTick_21 : decode cX10_packedTick 21 = .ok (.ifCond .eq 5, 3) := by decide +kernel
theorem dX10_packedTick_24 : decode cX10_packedTick 24 = .ok (.iconst 0, 1) := by decide +kernel
theorem dX10_packedTick_25 : decode cX10_packedTick 25 = .ok (.ireturn, 1) := by decide +kernel
theorem dX10_packedTick_26 : decode cX10_packedTick 26 = .ok (.aload_n 0, 1) := by decide +kernel
theorem dX10_packedTick_27 : decode cX10_packedTick 27 = .ok (.iload_n 1, 1) := by decide +kernel
theorem dX10_packedTick_28 : decode cX10_packedTick 28 = .ok (.invokevirtual 358, 3) := by decide +kernel
theorem dX10_packedTick_31 : decode cX10_packedTick 31 = .ok (.iload_n 2, 1) := by decide +kernel
theorem dX10_packedTick_32 : decode cX10_packedTick 32 = .ok (.aload_n 0, 1) := by decide +kernel
theorem dX10_packedTick_33 : decode cX10_packedTick 33 = .ok (.getfield 349, 3) := by decide +kernel
theorem dX10_packedTick_36 : decode cX10_packedTick 36 = .ok (.if_icmp .ge 12, 3) := by decide +kernel
theorem dX10_packedTick_39 : decode cX10_packedTick 39 = .ok (.aload_n 0, 1) := by decide +kernel
theorem dX10_packedTick_40 : decode cX10_packedTick 40 = .ok (.getfield 68, 3) := by decide +kernel
theorem dX10_packedTick_43 : decode cX10_packedTick 43 = .ok (.iload_n 2, 1) := by decide +kernel
theorem dX10_packedTick_44 : decode cX10_packedTick 44 = .ok (.iaload, 1) := by decide +kernel
theorem dX10_packedTick_45 : decode cX10_packedTick 45 = .ok (.goto 5, 3) := by decide +kernel
theorem dX10_packedTick_48 : decode cX10_packedTick 48 = .ok (.bipush (-2), 2) := by decide +kernel
theorem dX10_packedTick_50 : decode cX10_packedTick 50 = .ok (.ireturn, 1) := by decide +kernel
theorem dX10_packedJobs_0 : decode cX10_packedJobs 0 = .ok (.aload_n 0, 1) := by decide +kernel
theorem dX10_packedJobs_1 : decode cX10_packedJobs 1 = .ok (.aload_n 0, 1) := by decide +kernel
theorem dX10_packedJobs_2 : decode cX10_packedJobs 2 = .ok (.iload_n 1, 1) := by decide +kernel
theorem dX10_packedJobs_3 : decode cX10_packedJobs 3 = .ok (.invokevirtual 274, 3) := by decide +kernel
theorem dX10_packedJobs_6 : decode cX10_packedJobs 6 = .ok (.ifCond .eq 11, 3) := by decide +kernel
theorem dX10_packedJobs_9 : decode cX10_packedJobs 9 = .ok (.iload_n 2, 1) := by decide +kernel
theorem dX10_packedJobs_10 : decode cX10_packedJobs 10 = .ok (.ifCond .lt 7, 3) := by decide +kernel
theorem dX10_packedJobs_13 : decode cX10_packedJobs 13 = .ok (.iconst 1, 1) := by decide +kernel
theorem dX10_packedJobs_14 : decode cX10_packedJobs 14 = .ok (.goto 4, 3) := by decide +kernel
theorem dX10_packedJobs_17 : decode cX10_packedJobs 17 = .ok (.iconst 0, 1) := by decide +kernel
theorem dX10_packedJobs_18 : decode cX10_packedJobs 18 = .ok (.invokevirtual 207, 3) := by decide +kernel
theorem dX10_packedJobs_21 : decode cX10_packedJobs 21 = .ok (.ifCond .eq 5, 3) := by decide +kernel
theorem dX10_packedJobs_24 : decode cX10_packedJobs 24 = .ok (.iconst 0, 1) := by decide +kernel
theorem dX10_packedJobs_25 : decode cX10_packedJobs 25 = .ok (.ireturn, 1) := by decide +kernel
theorem dX10_packedJobs_26 : decode cX10_packedJobs 26 = .ok (.aload_n 0, 1) := by decide +kernel
theorem dX10_packedJobs_27 : decode cX10_packedJobs 27 = .ok (.iload_n 1, 1) := by decide +kernel
theorem dX10_packedJobs_28 : decode cX10_packedJobs 28 = .ok (.invokevirtual 358, 3) := by decide +kernel
theorem dX10_packedJobs_31 : decode cX10_packedJobs 31 = .ok (.iload_n 2, 1) := by decide +kernel
theorem dX10_packedJobs_32 : decode cX10_packedJobs 32 = .ok (.aload_n 0, 1) := by decide +kernel
theorem dX10_packedJobs_33 : decode cX10_packedJobs 33 = .ok (.getfield 349, 3) := by decide +kernel
theorem dX10_packedJobs_36 : decode cX10_packedJobs 36 = .ok (.if_icmp .ge 12, 3) := by decide +kernel
theorem dX10_packedJobs_39 : decode cX10_packedJobs 39 = .ok (.aload_n 0, 1) := by decide +kernel
theorem dX10_packedJobs_40 : decode cX10_packedJobs 40 = .ok (.getfield 71, 3) := by decide +kernel
theorem dX10_packedJobs_43 : decode cX10_packedJobs 43 = .ok (.iload_n 2, 1) := by decide +kernel
theorem dX10_packedJobs_44 : decode cX10_packedJobs 44 = .ok (.iaload, 1) := by decide +kernel
theorem dX10_packedJobs_45 : decode cX10_packedJobs 45 = .ok (.goto 5, 3) := by decide +kernel
theorem dX10_packedJobs_48 : decode cX10_packedJobs 48 = .ok (.bipush (-2), 2) := by decide +kernel
theorem dX10_packedJobs_50 : decode cX10_packedJobs 50 = .ok (.ireturn, 1) := by decide +kernel
