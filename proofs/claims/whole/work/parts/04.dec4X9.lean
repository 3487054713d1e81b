theorem dX9_init_0 : decode cX9_init 0 = .ok (.aload_n 0, 1) := by decide +kernel
theorem dX9_init_1 : decode cX9_init 1 = .ok (.invokespecial 1, 3) := by decide +kernel
theorem dX9_init_4 : decode cX9_init 4 = .ok (.aload_n 0, 1) := by decide +kernel
theorem dX9_init_5 : decode cX9_init 5 = .ok (.new 7, 3) := by decide +kernel
theorem dX9_init_8 : decode cX9_init 8 = .ok (.dup, 1) := by decide +kernel
theorem dX9_init_9 : decode cX9_init 9 = .ok (.invokespecial 9, 3) := by decide +kernel
theorem dX9_init_12 : decode cX9_init 12 = .ok (.putfield 10, 3) := by decide +kernel
theorem dX9_init_15 : decode cX9_init 15 = .ok (.aload_n 0, 1) := by decide +kernel
theorem dX9_init_16 : decode cX9_init 16 = .ok (.new 16, 3) := by decide +kernel
theorem dX9_init_19 : decode cX9_init 19 = .ok (.dup, 1) := by decide +kernel
theorem dX9_init_20 : decode cX9_init 20 = .ok (.aload_n 0, 1) := by decide +kernel
theorem dX9_init_21 : decode cX9_init 21 = .ok (.getfield 10, 3) := by decide +kernel
theorem dX9_init_24 : decode cX9_init 24 = .ok (.invokespecial 18, 3) := by decide +kernel
theorem dX9_init_27 : decode cX9_init 27 = .ok (.putfield 21, 3) := by decide +kernel
theorem dX9_init_30 : decode cX9_init 30 = .ok (.aload_n 0, 1) := by decide +kernel
theorem dX9_init_31 : decode cX9_init 31 = .ok (.new 25, 3) := by decide +kernel
theorem dX9_init_34 : decode cX9_init 34 = .ok (.dup, 1) := by decide +kernel
theorem dX9_init_35 : decode cX9_init 35 = .ok (.invokespecial 27, 3) := by decide +kernel
theorem dX9_init_38 : decode cX9_init 38 = .ok (.putfield 28, 3) := by decide +kernel
theorem dX9_init_41 : decode cX9_init 41 = .ok (.aload_n 0, 1) := by decide +kernel
theorem dX9_init_42 : decode cX9_init 42 = .ok (.new 32, 3) := by decide +kernel
theorem dX9_init_45 : decode cX9_init 45 = .ok (.dup, 1) := by decide +kernel
theorem dX9_init_46 : decode cX9_init 46 = .ok (.aload_n 0, 1) := by decide +kernel
theorem dX9_init_47 : decode cX9_init 47 = .ok (.getfield 28, 3) := by decide +kernel
theorem dX9_init_50 : decode cX9_init 50 = .ok (.invokespecial 34, 3) := by decide +kernel
theorem dX9_init_53 : decode cX9_init 53 = .ok (.putfield 37, 3) := by decide +kernel
theorem dX9_init_56 : decode cX9_init 56 = .ok (.aload_n 0, 1) := by decide +kernel
theorem dX9_init_57 : decode cX9_init 57 = .ok (.new 32, 3) := by decide +kernel
theorem dX9_init_60 : decode cX9_init 60 = .ok (.dup, 1) := by decide +kernel
theorem dX9_init_61 : decode cX9_init 61 = .ok (.aload_n 0, 1) := by decide +kernel
theorem dX9_init_62 : decode cX9_init 62 = .ok (.getfield 28, 3) := by decide +kernel
theorem dX9_init_65 : decode cX9_init 65 = .ok (.invokespecial 34, 3) := by decide +kernel
theorem dX9_init_68 : decode cX9_init 68 = .ok (.putfield 41, 3) := by decide +kernel
theorem dX9_init_71 : decode cX9_init 71 = .ok (.aload_n 0, 1) := by decide +kernel
theorem dX9_init_72 : decode cX9_init 72 = .ok (.new 44, 3) := by decide +kernel
theorem dX9_init_75 : decode cX9_init 75 = .ok (.dup, 1) := by decide +kernel
theorem dX9_init_76 : decode cX9_init 76 = .ok (.aload_n 0, 1) := by decide +kernel
theorem dX9_init_77 : decode cX9_init 77 = .ok (.getfield 28, 3) := by decide +kernel
theorem dX9_init_80 : decode cX9_init 80 = .ok (.invokespecial 46, 3) := by decide +kernel
theorem dX9_init_83 : decode cX9_init 83 = .ok (.putfield 47, 3) := by decide +kernel
theorem dX9_init_86 : decode cX9_init 86 = .ok (.aload_n 0, 1) := by decide +kernel
theorem dX9_init_87 : decode cX9_init 87 = .ok (.new 51, 3) := by decide +kernel
theorem dX9_init_90 : decode cX9_init 90 = .ok (.dup, 1) := by decide +kernel
theorem dX9_init_91 : decode cX9_init 91 = .ok (.invokespecial 53, 3) := by decide +kernel
theorem dX9_init_94 : decode cX9_init 94 = .ok (.putfield 54, 3) := by decide +kernel
theorem dX9_init_97 : decode cX9_init 97 = .ok (.aload_n 0, 1) := by decide +kernel
theorem dX9_init_98 : decode cX9_init 98 = .ok (.new 58, 3) := by decide +kernel
theorem dX9_init_101 : decode cX9_init 101 = .ok (.dup, 1) := by decide +kernel
theorem dX9_init_102 : decode cX9_init 102 = .ok (.invokespecial 60, 3) := by decide +kernel
theorem dX9_init_105 : decode cX9_init 105 = .ok (.putfield 61, 3) := by decide +kernel
theorem dX9_init_108 : decode cX9_init 108 = .ok (.aload_n 0, 1) := by decide +kernel
theorem dX9_init_109 : decode cX9_init 109 = .ok (.iconst 0, 1) := by decide +kernel
theorem dX9_init_110 : decode cX9_init 110 = .ok (.putfield 65, 3) := by decide +kernel
theorem dX9_init_113 : decode cX9_init 113 = .ok (.aload_n 0, 1) := by decide +kernel
theorem dX9_init_114 : decode cX9_init 114 = .ok (.iconst (-1), 1) := by decide +kernel
theorem dX9_init_115 : decode cX9_init 115 = .ok (.putfield 69, 3) := by decide +kernel
theorem dX9_init_118 : decode cX9_init 118 = .ok (.return_, 1) := by decide +kernel
theorem dX9_append_0 : decode cX9_append 0 = .ok (.aload_n 0, 1) := by decide +kernel
theorem dX9_append_1 : decode cX9_append 1 = .ok (.getfield 10, 3) := by decide +kernel
theorem dX9_append_4 : decode cX9_append 4 = .ok (.getfield 73, 3) := by decide +kernel
theorem dX9_append_7 : decode cX9_append 7 = .ok (.sipush 480, 3) := by decide +kernel
theorem dX9_append_10 : decode cX9_append 10 = .ok (.if_icmp .le 13, 3) := by decide +kernel
theorem dX9_append_13 : decode cX9_append 13 = .ok (.new 76, 3) := by decide +kernel
theorem dX9_append_16 : decode cX9_append 16 = .ok (.dup, 1) := by decide +kernel
theorem dX9_append_17 : decode cX9_append 17 = .ok (.ldc 78, 2) := by decide +kernel
theorem dX9_append_19 : decode cX9_append 19 = .ok (.invokespecial 80, 3) := by decide +kernel
theorem dX9_append_22 : decode cX9_append 22 = .ok (.athrow, 1) := by decide +kernel
theorem dX9_append_23 : decode cX9_append 23 = .ok (.aload_n 0, 1) := by decide +kernel
theorem dX9_append_24 : decode cX9_append 24 = .ok (.getfield 10, 3) := by decide +kernel
theorem dX9_append_27 : decode cX9_append 27 = .ok (.iload_n 1, 1) := by decide +kernel
theorem dX9_append_28 : decode cX9_append 28 = .ok (.invokevirtual 83, 3) := by decide +kernel
theorem dX9_append_31 : decode cX9_append 31 = .ok (.aload_n 0, 1) := by decide +kernel
theorem dX9_append_32 : decode cX9_append 32 = .ok (.getfield 10, 3) := by decide +kernel
theorem dX9_append_35 : decode cX9_append 35 = .ok (.iload_n 2, 1) := by decide +kernel
theorem dX9_append_36 : decode cX9_append 36 = .ok (.invokevirtual 83, 3) := by decide +kernel
theorem dX9_append_39 : decode cX9_append 39 = .ok (.aload_n 0, 1) := by decide +kernel
theorem dX9_append_40 : decode cX9_append 40 = .ok (.getfield 10, 3) := by decide +kernel
theorem dX9_append_43 : decode cX9_append 43 = .ok (.iload_n 3, 1) := by decide +kernel
theorem dX9_append_44 : decode cX9_append 44 = .ok (.invokevirtual 83, 3) := by decide +kernel
theorem dX9_append_47 : decode cX9_append 47 = .ok (.aload_n 0, 1) := by decide +kernel
theorem dX9_append_48 : decode cX9_append 48 = .ok (.getfield 10, 3) := by decide +kernel
theorem dX9_append_51 : decode cX9_append 51 = .ok (.iload 4, 2) := by decide +kernel
theorem dX9_append_53 : decode cX9_append 53 = .ok (.invokevirtual 83, 3) := by decide +kernel
theorem dX9_append_56 : decode cX9_append 56 = .ok (.aload_n 0, 1) := by decide +kernel
theorem dX9_append_57 : decode cX9_append 57 = .ok (.getfield 10, 3) := by decide +kernel
theorem dX9_append_60 : decode cX9_append 60 = .ok (.iload 5, 2) := by decide +kernel
theorem dX9_append_62 : decode cX9_append 62 = .ok (.invokevirtual 83, 3) := by decide +kernel
theorem dX9_append_65 : decode cX9_append 65 = .ok (.aload_n 0, 1) := by decide +kernel
theorem dX9_append_66 : decode cX9_append 66 = .ok (.getfield 10, 3) := by decide +kernel
theorem dX9_append_69 : decode cX9_append 69 = .ok (.getfield 73, 3) := by decide +kernel
theorem dX9_append_72 : decode cX9_append 72 = .ok (.ireturn, 1) := by decide +kernel
theorem dX9_truncate_0 : decode cX9_truncate 0 = .ok (.iload_n 1, 1) := by decide +kernel
theorem dX9_truncate_1 : decode cX9_truncate 1 = .ok (.iconst 0, 1) := by decide +kernel
theorem dX9_truncate_2 : decode cX9_truncate 2 = .ok (.aload_n 0, 1) := by decide +kernel
theorem dX9_truncate_3 : decode cX9_truncate 3 = .ok (.getfield 10, 3) := by decide +kernel
theorem dX9_truncate_6 : decode cX9_truncate 6 = .ok (.getfield 73, 3) := by decide +kernel
theorem dX9_truncate_9 : decode cX9_truncate 9 = .ok (.invokestatic 87, 3) := by decide +kernel
theorem dX9_truncate_12 : decode cX9_truncate 12 = .ok (.aload_n 0, 1) := by decide +kernel
theorem dX9_truncate_13 : decode cX9_truncate 13 = .ok (.getfield 10, 3) := by decide +kernel
theorem dX9_truncate_16 : decode cX9_truncate 16 = .ok (.iload_n 1, 1) := by decide +kernel
theorem dX9_truncate_17 : decode cX9_truncate 17 = .ok (.putfield 73, 3) := by decide +kernel
theorem dX9_truncate_20 : decode cX9_truncate 20 = .ok (.iload_n 1, 1) := by decide +kernel
theorem dX9_truncate_21 : decode cX9_truncate 21 = .ok (.ireturn, 1) := by decide +kernel
theorem dX9_load_0 : decode cX9_load 0 = .ok (.aload_n 0, 1) := by decide +kernel
theorem dX9_load_1 : decode cX9_load 1 = .ok (.getfield 21, 3) := by decide +kernel
theorem dX9_load_4 : decode cX9_load 4 = .ok (.invokevirtual 91, 3) := by decide +kernel
theorem dX9_load_7 : decode cX9_load 7 = .ok (.istore_n 1, 1) := by decide +kernel
theorem dX9_load_8 : decode cX9_load 8 = .ok (.aload_n 0, 1) := by decide +kernel
theorem dX9_load_9 : decode cX9_load 9 = .ok (.getfield 10, 3) := by decide +kernel
theorem dX9_load_12 : decode cX9_load 12 = .ok (.iconst 0, 1) := by decide +kernel
theorem dX9_load_13 : decode cX9_load 13 = .ok (.putfield 73, 3) := by decide +kernel
theorem dX9_load_16 : decode cX9_load 16 = .ok (.aload_n 0, 1) := by decide +kernel
theorem dX9_load_17 : decode cX9_load 17 = .ok (.aload_n 0, 1) := by decide +kernel
theorem dX9_load_18 : decode cX9_load 18 = .ok (.getfield 21, 3) := by decide +kernel
theorem dX9_load_21 : decode cX9_load 21 = .ok (.getfield 95, 3) := by decide +kernel
theorem dX9_load_24 : decode cX9_load 24 = .ok (.putfield 69, 3) := by decide +kernel
theorem dX9_load_27 : decode cX9_load 27 = .ok (.iload_n 1, 1) := by decide +kernel
theorem dX9_load_28 : decode cX9_load 28 = .ok (.ifCond .ne 14, 3) := by decide +kernel
theorem dX9_load_31 : decode cX9_load 31 = .ok (.bipush (-10), 2) := by decide +kernel
theorem dX9_load_33 : decode cX9_load 33 = .ok (.aload_n 0, 1) := by decide +kernel
theorem dX9_load_34 : decode cX9_load 34 = .ok (.getfield 21, 3) := by decide +kernel
theorem dX9_load_37 : decode cX9_load 37 = .ok (.getfield 98, 3) := by decide +kernel
theorem dX9_load_40 : decode cX9_load 40 = .ok (.isub, 1) := by decide +kernel
theorem dX9_load_41 : decode cX9_load 41 = .ok (.ireturn, 1) := by decide +kernel
theorem dX9_load_42 : decode cX9_load 42 = .ok (.aload_n 0, 1) := by decide +kernel
theorem dX9_load_43 : decode cX9_load 43 = .ok (.getfield 28, 3) := by decide +kernel
theorem dX9_load_46 : decode cX9_load 46 = .ok (.aload_n 0, 1) := by decide +kernel
theorem dX9_load_47 : decode cX9_load 47 = .ok (.getfield 21, 3) := by decide +kernel
theorem dX9_load_50 : decode cX9_load 50 = .ok (.getfield 101, 3) := by decide +kernel
theorem dX9_load_53 : decode cX9_load 53 = .ok (.invokevirtual 104, 3) := by decide +kernel
theorem dX9_load_56 : decode cX9_load 56 = .ok (.aload_n 0, 1) := by decide +kernel
theorem dX9_load_57 : decode cX9_load 57 = .ok (.getfield 37, 3) := by decide +kernel
theorem dX9_load_60 : decode cX9_load 60 = .ok (.invokevirtual 107, 3) := by decide +kernel
theorem dX9_load_63 : decode cX9_load 63 = .ok (.aload_n 0, 1) := by decide +kernel
theorem dX9_load_64 : decode cX9_load 64 = .ok (.getfield 47, 3) := by decide +kernel
theorem dX9_load_67 : decode cX9_load 67 = .ok (.invokevirtual 110, 3) := by decide +kernel
theorem dX9_load_70 : decode cX9_load 70 = .ok (.aload_n 0, 1) := by decide +kernel
theorem dX9_load_71 : decode cX9_load 71 = .ok (.iconst 1, 1) := by decide +kernel
theorem dX9_load_72 : decode cX9_load 72 = .ok (.putfield 65, 3) := by decide +kernel
theorem dX9_load_75 : decode cX9_load 75 = .ok (.aload_n 0, 1) := by decide +kernel
theorem dX9_load_76 : decode cX9_load 76 = .ok (.getfield 28, 3) := by decide +kernel
theorem dX9_load_79 : decode cX9_load 79 = .ok (.getfield 113, 3) := by decide +kernel
theorem dX9_load_82 : decode cX9_load 82 = .ok (.ireturn, 1) := by decide +kernel
theorem dX9_errorPosition_0 : decode cX9_errorPosition 0 = .ok (.aload_n 0, 1) := by decide +kernel
theorem dX9_errorPosition_1 : decode cX9_errorPosition 1 = .ok (.getfield 69, 3) := by decide +kernel
theorem dX9_errorPosition_4 : decode cX9_errorPosition 4 = .ok (.ireturn, 1) := by decide +kernel
theorem dX9_addJob_0 : decode cX9_addJob 0 = .ok (.aload_n 0, 1) := by decide +kernel
theorem dX9_addJob_1 : decode cX9_addJob 1 = .ok (.iload_n 1, 1) := by decide +kernel
theorem dX9_addJob_2 : decode cX9_addJob 2 = .ok (.invokevirtual 116, 3) := by decide +kernel
theorem dX9_addJob_5 : decode cX9_addJob 5 = .ok (.iload_n 2, 1) := by decide +kernel
theorem dX9_addJob_6 : decode cX9_addJob 6 = .ok (.iconst 0, 1) := by decide +kernel
theorem dX9_addJob_7 : decode cX9_addJob 7 = .ok (.bipush 7, 2) := by decide +kernel
theorem dX9_addJob_9 : decode cX9_addJob 9 = .ok (.invokestatic 87, 3) := by decide +kernel
theorem dX9_addJob_12 : decode cX9_addJob 12 = .ok (.iload_n 3, 1) := by decide +kernel
theorem dX9_addJob_13 : decode cX9_addJob 13 = .ok (.iconst 0, 1) := by decide +kernel
theorem dX9_addJob_14 : decode cX9_addJob 14 = .ok (.sipush 999, 3) := by decide +kernel
theorem dX9_addJob_17 : decode cX9_addJob 17 = .ok (.invokestatic 87, 3) := by decide +kernel
theorem dX9_addJob_20 : decode cX9_addJob 20 = .ok (.iload 4, 2) := by decide +kernel
theorem dX9_addJob_22 : decode cX9_addJob 22 = .ok (.iconst 0, 1) := by decide +kernel
theorem dX9_addJob_23 : decode cX9_addJob 23 = .ok (.sipush 999, 3) := by decide +kernel
theorem dX9_addJob_26 : decode cX9_addJob 26 = .ok (.invokestatic 87, 3) := by decide +kernel
theorem dX9_addJob_29 : decode cX9_addJob 29 = .ok (.iload 5, 2) := by decide +kernel
theorem dX9_addJob_31 : decode cX9_addJob 31 = .ok (.iconst 1, 1) := by decide +kernel
theorem dX9_addJob_32 : decode cX9_addJob 32 = .ok (.sipush 9999, 3) := by decide +kernel
theorem dX9_addJob_35 : decode cX9_addJob 35 = .ok (.invokestatic 87, 3) := by decide +kernel
theorem dX9_addJob_38 : decode cX9_addJob 38 = .ok (.iload 6, 2) := by decide +kernel
theorem dX9_addJob_40 : decode cX9_addJob 40 = .ok (.iconst 1, 1) := by decide +kernel
theorem dX9_addJob_41 : decode cX9_addJob 41 = .ok (.sipush 9999, 3) := by decide +kernel
theorem dX9_addJob_44 : decode cX9_addJob 44 = .ok (.invokestatic 87, 3) := by decide +kernel
theorem dX9_addJob_47 : decode cX9_addJob 47 = .ok (.aload_n 0, 1) := by decide +kernel
theorem dX9_addJob_48 : decode cX9_addJob 48 = .ok (.getfield 37, 3) := by decide +kernel
theorem dX9_addJob_51 : decode cX9_addJob 51 = .ok (.getfield 119, 3) := by decide +kernel
theorem dX9_addJob_54 : decode cX9_addJob 54 = .ok (.getfield 123, 3) := by decide +kernel
theorem dX9_addJob_57 : decode cX9_addJob 57 = .ok (.bipush 24, 2) := by decide +kernel
theorem dX9_addJob_59 : decode cX9_addJob 59 = .ok (.if_icmp .lt 6, 3) := by decide +kernel
theorem dX9_addJob_62 : decode cX9_addJob 62 = .ok (.bipush (-2), 2) := by decide +kernel
theorem dX9_addJob_64 : decode cX9_addJob 64 = .ok (.ireturn, 1) := by decide +kernel
theorem dX9_addJob_65 : decode cX9_addJob 65 = .ok (.aload_n 0, 1) := by decide +kernel
theorem dX9_addJob_66 : decode cX9_addJob 66 = .ok (.getfield 47, 3) := by decide +kernel
theorem dX9_addJob_69 : decode cX9_addJob 69 = .ok (.aload_n 0, 1) := by decide +kernel
theorem dX9_addJob_70 : decode cX9_addJob 70 = .ok (.getfield 37, 3) := by decide +kernel
theorem dX9_addJob_73 : decode cX9_addJob 73 = .ok (.invokevirtual 128, 3) := by decide +kernel
theorem dX9_addJob_76 : decode cX9_addJob 76 = .ok (.aload_n 0, 1) := by decide +kernel
theorem dX9_addJob_77 : decode cX9_addJob 77 = .ok (.getfield 37, 3) := by decide +kernel
theorem dX9_addJob_80 : decode cX9_addJob 80 = .ok (.getfield 119, 3) := by decide +kernel
theorem dX9_addJob_83 : decode cX9_addJob 83 = .ok (.iload_n 1, 1) := by decide +kernel
theorem dX9_addJob_84 : decode cX9_addJob 84 = .ok (.iload_n 2, 1) := by decide +kernel
theorem dX9_addJob_85 : decode cX9_addJob 85 = .ok (.iload 5, 2) := by decide +kernel
theorem dX9_addJob_87 : decode cX9_addJob 87 = .ok (.invokevirtual 132, 3) := by decide +kernel
theorem dX9_addJob_90 : decode cX9_addJob 90 = .ok (.istore 7, 2) := by decide +kernel
theorem dX9_addJob_92 : decode cX9_addJob 92 = .ok (.aload_n 0, 1) := by decide +kernel
theorem dX9_addJob_93 : decode cX9_addJob 93 = .ok (.getfield 37, 3) := by decide +kernel
theorem dX9_addJob_96 : decode cX9_addJob 96 = .ok (.getfield 119, 3) := by decide +kernel
theorem dX9_addJob_99 : decode cX9_addJob 99 = .ok (.iload 7, 2) := by decide +kernel
theorem dX9_addJob_101 : decode cX9_addJob 101 = .ok (.aload_n 0, 1) := by decide +kernel
theorem dX9_addJob_102 : decode cX9_addJob 102 = .ok (.getfield 37, 3) := by decide +kernel
theorem dX9_addJob_105 : decode cX9_addJob 105 = .ok (.getfield 136, 3) := by decide +kernel
theorem dX9_addJob_108 : decode cX9_addJob 108 = .ok (.iload_n 3, 1) := by decide +kernel
theorem dX9_addJob_109 : decode cX9_addJob 109 = .ok (.iadd, 1) := by decide +kernel
theorem dX9_addJob_110 : decode cX9_addJob 110 = .ok (.iload 4, 2) := by decide +kernel
theorem dX9_addJob_112 : decode cX9_addJob 112 = .ok (.iload 6, 2) := by decide +kernel
theorem dX9_addJob_114 : decode cX9_addJob 114 = .ok (.invokevirtual 139, 3) := by decide +kernel
theorem dX9_addJob_117 : decode cX9_addJob 117 = .ok (.iload 7, 2) := by decide +kernel
theorem dX9_addJob_119 : decode cX9_addJob 119 = .ok (.ireturn, 1) := by decide +kernel
theorem dX9_cancelJob_0 : decode cX9_cancelJob 0 = .ok (.aload_n 0, 1) := by decide +kernel
theorem dX9_cancelJob_1 : decode cX9_cancelJob 1 = .ok (.iload_n 1, 1) := by decide +kernel
theorem dX9_cancelJob_2 : decode cX9_cancelJob 2 = .ok (.invokevirtual 143, 3) := by decide +kernel
theorem dX9_cancelJob_5 : decode cX9_cancelJob 5 = .ok (.aload_n 0, 1) := by decide +kernel
theorem dX9_cancelJob_6 : decode cX9_cancelJob 6 = .ok (.getfield 37, 3) := by decide +kernel
theorem dX9_cancelJob_9 : decode cX9_cancelJob 9 = .ok (.getfield 119, 3) := by decide +kernel
theorem dX9_cancelJob_12 : decode cX9_cancelJob 12 = .ok (.iload_n 1, 1) := by decide +kernel
theorem dX9_cancelJob_13 : decode cX9_cancelJob 13 = .ok (.invokevirtual 146, 3) := by decide +kernel
theorem dX9_cancelJob_16 : decode cX9_cancelJob 16 = .ok (.ifCond .eq 6, 3) := by decide +kernel
theorem dX9_cancelJob_19 : decode cX9_cancelJob 19 = .ok (.bipush (-2), 2) := by decide +kernel
theorem dX9_cancelJob_21 : decode cX9_cancelJob 21 = .ok (.ireturn, 1) := by decide +kernel
theorem dX9_cancelJob_22 : decode cX9_cancelJob 22 = .ok (.aload_n 0, 1) := by decide +kernel
theorem dX9_cancelJob_23 : decode cX9_cancelJob 23 = .ok (.getfield 47, 3) := by decide +kernel
theorem dX9_cancelJob_26 : decode cX9_cancelJob 26 = .ok (.aload_n 0, 1) := by decide +kernel
theorem dX9_cancelJob_27 : decode cX9_cancelJob 27 = .ok (.getfield 37, 3) := by decide +kernel
theorem dX9_cancelJob_30 : decode cX9_cancelJob 30 = .ok (.invokevirtual 128, 3) := by decide +kernel
theorem dX9_cancelJob_33 : decode cX9_cancelJob 33 = .ok (.aload_n 0, 1) := by decide +kernel
theorem dX9_cancelJob_34 : decode cX9_cancelJob 34 = .ok (.getfield 37, 3) := by decide +kernel
theorem dX9_cancelJob_37 : decode cX9_cancelJob 37 = .ok (.iload_n 1, 1) := by decide +kernel
theorem dX9_cancelJob_38 : decode cX9_cancelJob 38 = .ok (.invokevirtual 150, 3) := by decide +kernel
theorem dX9_cancelJob_41 : decode cX9_cancelJob 41 = .ok (.aload_n 0, 1) := by decide +kernel
theorem dX9_cancelJob_42 : decode cX9_cancelJob 42 = .ok (.getfield 37, 3) := by decide +kernel
theorem dX9_cancelJob_45 : decode cX9_cancelJob 45 = .ok (.getfield 119, 3) := by decide +kernel
theorem dX9_cancelJob_48 : decode cX9_cancelJob 48 = .ok (.getfield 153, 3) := by decide +kernel
theorem dX9_cancelJob_51 : decode cX9_cancelJob 51 = .ok (.iload_n 1, 1) := by decide +kernel
theorem dX9_cancelJob_52 : decode cX9_cancelJob 52 = .ok (.iaload, 1) := by decide +kernel
theorem dX9_cancelJob_53 : decode cX9_cancelJob 53 = .ok (.ireturn, 1) := by decide +kernel
theorem dX9_setPolicy_0 : decode cX9_setPolicy 0 = .ok (.aload_n 0, 1) := by decide +kernel
theorem dX9_setPolicy_1 : decode cX9_setPolicy 1 = .ok (.iload_n 1, 1) := by decide +kernel
theorem dX9_setPolicy_2 : decode cX9_setPolicy 2 = .ok (.invokevirtual 116, 3) := by decide +kernel
theorem dX9_setPolicy_5 : decode cX9_setPolicy 5 = .ok (.iload_n 2, 1) := by decide +kernel
theorem dX9_setPolicy_6 : decode cX9_setPolicy 6 = .ok (.iconst 0, 1) := by decide +kernel
theorem dX9_setPolicy_7 : decode cX9_setPolicy 7 = .ok (.iconst 3, 1) := by decide +kernel
theorem dX9_setPolicy_8 : decode cX9_setPolicy 8 = .ok (.invokestatic 87, 3) := by decide +kernel
theorem dX9_setPolicy_11 : decode cX9_setPolicy 11 = .ok (.aload_n 0, 1) := by decide +kernel
theorem dX9_setPolicy_12 : decode cX9_setPolicy 12 = .ok (.getfield 47, 3) := by decide +kernel
theorem dX9_setPolicy_15 : decode cX9_setPolicy 15 = .ok (.aload_n 0, 1) := by decide +kernel
theorem dX9_setPolicy_16 : decode cX9_setPolicy 16 = .ok (.getfield 37, 3) := by decide +kernel
theorem dX9_setPolicy_19 : decode cX9_setPolicy 19 = .ok (.invokevirtual 128, 3) := by decide +kernel
theorem dX9_setPolicy_22 : decode cX9_setPolicy 22 = .ok (.aload_n 0, 1) := by decide +kernel
theorem dX9_setPolicy_23 : decode cX9_setPolicy 23 = .ok (.getfield 37, 3) := by decide +kernel
theorem dX9_setPolicy_26 : decode cX9_setPolicy 26 = .ok (.getfield 157, 3) := by decide +kernel
theorem dX9_setPolicy_29 : decode cX9_setPolicy 29 = .ok (.iload_n 1, 1) := by decide +kernel
theorem dX9_setPolicy_30 : decode cX9_setPolicy 30 = .ok (.iaload, 1) := by decide +kernel
theorem dX9_setPolicy_31 : decode cX9_setPolicy 31 = .ok (.istore_n 3, 1) := by decide +kernel
theorem dX9_setPolicy_32 : decode cX9_setPolicy 32 = .ok (.aload_n 0, 1) := by decide +kernel
theorem dX9_setPolicy_33 : decode cX9_setPolicy 33 = .ok (.getfield 37, 3) := by decide +kernel
theorem dX9_setPolicy_36 : decode cX9_setPolicy 36 = .ok (.getfield 157, 3) := by decide +kernel
theorem dX9_setPolicy_39 : decode cX9_setPolicy 39 = .ok (.iload_n 1, 1) := by decide +kernel
theorem dX9_setPolicy_40 : decode cX9_setPolicy 40 = .ok (.iload_n 2, 1) := by decide +kernel
theorem dX9_setPolicy_41 : decode cX9_setPolicy 41 = .ok (.iastore, 1) := by decide +kernel
theorem dX9_setPolicy_42 : decode cX9_setPolicy 42 = .ok (.iload_n 3, 1) := by decide +kernel
theorem dX9_setPolicy_43 : decode cX9_setPolicy 43 = .ok (.ireturn, 1) := by decide +kernel
theorem dX9_setLimit_0 : decode cX9_setLimit 0 = .ok (.aload_n 0, 1) := by decide +kernel
theorem dX9_setLimit_1 : decode cX9_setLimit 1 = .ok (.iload_n 1, 1) := by decide +kernel
theorem dX9_setLimit_2 : decode cX9_setLimit 2 = .ok (.invokevirtual 116, 3) := by decide +kernel
theorem dX9_setLimit_5 : decode cX9_setLimit 5 = .ok (.iload_n 2, 1) := by decide +kernel
theorem dX9_setLimit_6 : decode cX9_setLimit 6 = .ok (.iconst 0, 1) := by decide +kernel
theorem dX9_setLimit_7 : decode cX9_setLimit 7 = .ok (.ldc 160, 2) := by decide +kernel
theorem dX9_setLimit_9 : decode cX9_setLimit 9 = .ok (.invokestatic 87, 3) := by decide +kernel
theorem dX9_setLimit_12 : decode cX9_setLimit 12 = .ok (.aload_n 0, 1) := by decide +kernel
theorem dX9_setLimit_13 : decode cX9_setLimit 13 = .ok (.getfield 47, 3) := by decide +kernel
theorem dX9_setLimit_16 : decode cX9_setLimit 16 = .ok (.aload_n 0, 1) := by decide +kernel
theorem dX9_setLimit_17 : decode cX9_setLimit 17 = .ok (.getfield 37, 3) := by decide +kernel
theorem dX9_setLimit_20 : decode cX9_setLimit 20 = .ok (.invokevirtual 128, 3) := by decide +kernel
theorem dX9_setLimit_23 : decode cX9_setLimit 23 = .ok (.aload_n 0, 1) := by decide +kernel
theorem dX9_setLimit_24 : decode cX9_setLimit 24 = .ok (.getfield 37, 3) := by decide +kernel
theorem dX9_setLimit_27 : decode cX9_setLimit 27 = .ok (.getfield 161, 3) := by decide +kernel
theorem dX9_setLimit_30 : decode cX9_setLimit 30 = .ok (.iload_n 1, 1) := by decide +kernel
theorem dX9_setLimit_31 : decode cX9_setLimit 31 = .ok (.iaload, 1) := by decide +kernel
theorem dX9_setLimit_32 : decode cX9_setLimit 32 = .ok (.istore_n 3, 1) := by decide +kernel
theorem dX9_setLimit_33 : decode cX9_setLimit 33 = .ok (.aload_n 0, 1) := by decide +kernel
theorem dX9_setLimit_34 : decode cX9_setLimit 34 = .ok (.getfield 37, 3) := by decide +kernel
theorem dX9_setLimit_37 : decode cX9_setLimit 37 = .ok (.getfield 161, 3) := by decide +kernel
theorem dX9_setLimit_40 : decode cX9_setLimit 40 = .ok (.iload_n 1, 1) := by decide +kernel
theorem dX9_setLimit_41 : decode cX9_setLimit 41 = .ok (.iload_n 2, 1) := by decide +kernel
theorem dX9_setLimit_42 : decode cX9_setLimit 42 = .ok (.iastore, 1) := by decide +kernel
theorem dX9_setLimit_43 : decode cX9_setLimit 43 = .ok (.iload_n 3, 1) := by decide +kernel
theorem dX9_setLimit_44 : decode cX9_setLimit 44 = .ok (.ireturn, 1) := by decide +kernel
theorem dX9_setAmbient_0 : decode cX9_setAmbient 0 = .ok (.aload_n 0, 1) := by decide +kernel
theorem dX9_setAmbient_1 : decode cX9_setAmbient 1 = .ok (.invokevirtual 164, 3) := by decide +kernel
theorem dX9_setAmbient_4 : decode cX9_setAmbient 4 = .ok (.iload_n 1, 1) := by decide +kernel
theorem dX9_setAmbient_5 : decode cX9_setAmbient 5 = .ok (.iconst 0, 1) := by decide +kernel
theorem dX9_setAmbient_6 : decode cX9_setAmbient 6 = .ok (.sipush 9999, 3) := by decide +kernel
theorem dX9_setAmbient_9 : decode cX9_setAmbient 9 = .ok (.invokestatic 87, 3) := by decide +kernel
theorem dX9_setAmbient_12 : decode cX9_setAmbient 12 = .ok (.aload_n 0, 1) := by decide +kernel
theorem dX9_setAmbient_13 : decode cX9_setAmbient 13 = .ok (.getfield 47, 3) := by decide +kernel
theorem dX9_setAmbient_16 : decode cX9_setAmbient 16 = .ok (.aload_n 0, 1) := by decide +kernel
theorem dX9_setAmbient_17 : decode cX9_setAmbient 17 = .ok (.getfield 37, 3) := by decide +kernel
theorem dX9_setAmbient_20 : decode cX9_setAmbient 20 = .ok (.invokevirtual 128, 3) := by decide +kernel
theorem dX9_setAmbient_23 : decode cX9_setAmbient 23 = .ok (.aload_n 0, 1) := by decide +kernel
theorem dX9_setAmbient_24 : decode cX9_setAmbient 24 = .ok (.getfield 37, 3) := by decide +kernel
theorem dX9_setAmbient_27 : decode cX9_setAmbient 27 = .ok (.getfield 167, 3) := by decide +kernel
theorem dX9_setAmbient_30 : decode cX9_setAmbient 30 = .ok (.istore_n 2, 1) := by decide +kernel
theorem dX9_setAmbient_31 : decode cX9_setAmbient 31 = .ok (.aload_n 0, 1) := by decide +kernel
theorem dX9_setAmbient_32 : decode cX9_setAmbient 32 = .ok (.getfield 37, 3) := by decide +kernel
theorem dX9_setAmbient_35 : decode cX9_setAmbient 35 = .ok (.iload_n 1, 1) := by decide +kernel
theorem dX9_setAmbient_36 : decode cX9_setAmbient 36 = .ok (.putfield 167, 3) := by decide +kernel
theorem dX9_setAmbient_39 : decode cX9_setAmbient 39 = .ok (.iload_n 2, 1) := by decide +kernel
theorem dX9_setAmbient_40 : decode cX9_setAmbient 40 = .ok (.ireturn, 1) := by decide +kernel
theorem dX9_tick_0 : decode cX9_tick 0 = .ok (.aload_n 0, 1) := by decide +kernel
theorem dX9_tick_1 : decode cX9_tick 1 = .ok (.invokevirtual 164, 3) := by decide +kernel
theorem dX9_tick_4 : decode cX9_tick 4 = .ok (.iload_n 1, 1) := by decide +kernel
theorem dX9_tick_5 : decode cX9_tick 5 = .ok (.iconst 1, 1) := by decide +kernel
theorem dX9_tick_6 : decode cX9_tick 6 = .ok (.sipush 500, 3) := by decide +kernel
theorem dX9_tick_9 : decode cX9_tick 9 = .ok (.invokestatic 87, 3) := by decide +kernel
theorem dX9_tick_12 : decode cX9_tick 12 = .ok (.aload_n 0, 1) := by decide +kernel
theorem dX9_tick_13 : decode cX9_tick 13 = .ok (.getfield 47, 3) := by decide +kernel
theorem dX9_tick_16 : decode cX9_tick 16 = .ok (.aload_n 0, 1) := by decide +kernel
theorem dX9_tick_17 : decode cX9_tick 17 = .ok (.getfield 37, 3) := by decide +kernel
theorem dX9_tick_20 : decode cX9_tick 20 = .ok (.invokevirtual 128, 3) := by decide +kernel
theorem dX9_tick_23 : decode cX9_tick 23 = .ok (.iconst 0, 1) := by decide +kernel
theorem dX9_tick_24 : decode cX9_tick 24 = .ok (.istore_n 2, 1) := by decide +kernel
theorem dX9_tick_25 : decode cX9_tick 25 = .ok (.iconst 0, 1) := by decide +kernel
theorem dX9_tick_26 : decode cX9_tick 26 = .ok (.istore_n 3, 1) := by decide +kernel
theorem dX9_tick_27 : decode cX9_tick 27 = .ok (.iload_n 3, 1) := by decide +kernel
theorem dX9_tick_28 : decode cX9_tick 28 = .ok (.iload_n 1, 1) := by decide +kernel
theorem dX9_tick_29 : decode cX9_tick 29 = .ok (.if_icmp .ge 19, 3) := by decide +kernel
theorem dX9_tick_32 : decode cX9_tick 32 = .ok (.iload_n 2, 1) := by decide +kernel
theorem dX9_tick_33 : decode cX9_tick 33 = .ok (.aload_n 0, 1) := by decide +kernel
theorem dX9_tick_34 : decode cX9_tick 34 = .ok (.getfield 37, 3) := by decide +kernel
theorem dX9_tick_37 : decode cX9_tick 37 = .ok (.invokevirtual 170, 3) := by decide +kernel
theorem dX9_tick_40 : decode cX9_tick 40 = .ok (.iadd, 1) := by decide +kernel
theorem dX9_tick_41 : decode cX9_tick 41 = .ok (.istore_n 2, 1) := by decide +kernel
theorem dX9_tick_42 : decode cX9_tick 42 = .ok (.iinc 3 1, 3) := by decide +kernel
theorem dX9_tick_45 : decode cX9_tick 45 = .ok (.goto (-18), 3) := by decide +kernel
theorem dX9_tick_48 : decode cX9_tick 48 = .ok (.iload_n 2, 1) := by decide +kernel
theorem dX9_tick_49 : decode cX9_tick 49 = .ok (.ireturn, 1) := by decide +kernel
theorem dX9_clock_0 : decode cX9_clock 0 = .ok (.aload_n 0, 1) := by decide +kernel
theorem dX9_clock_1 : decode cX9_clock 1 = .ok (.invokevirtual 164, 3) := by decide +kernel
theorem dX9_clock_4 : decode cX9_clock 4 = .ok (.aload_n 0, 1) := by decide +kernel
theorem dX9_clock_5 : decode cX9_clock 5 = .ok (.getfield 37, 3) := by decide +kernel
theorem dX9_clock_8 : decode cX9_clock 8 = .ok (.getfield 136, 3) := by decide +kernel
theorem dX9_clock_11 : decode cX9_clock 11 = .ok (.ireturn, 1) := by decide +kernel
theorem dX9_temperature_0 : decode cX9_temperature 0 = .ok (.aload_n 0, 1) := by decide +kernel
theorem dX9_temperature_1 : decode cX9_temperature 1 = .ok (.iload_n 1, 1) := by decide +kernel
theorem dX9_temperature_2 : decode cX9_temperature 2 = .ok (.invokevirtual 116, 3) := by decide +kernel
theorem dX9_temperature_5 : decode cX9_temperature 5 = .ok (.aload_n 0, 1) := by decide +kernel
theorem dX9_temperature_6 : decode cX9_temperature 6 = .ok (.getfield 37, 3) := by decide +kernel
theorem dX9_temperature_9 : decode cX9_temperature 9 = .ok (.getfield 174, 3) := by decide +kernel
theorem dX9_temperature_12 : decode cX9_temperature 12 = .ok (.iload_n 1, 1) := by decide +kernel
theorem dX9_temperature_13 : decode cX9_temperature 13 = .ok (.iaload, 1) := by decide +kernel
theorem dX9_temperature_14 : decode cX9_temperature 14 = .ok (.ireturn, 1) := by decide +kernel
theorem dX9_level_0 : decode cX9_level 0 = .ok (.aload_n 0, 1) := by decide +kernel
theorem dX9_level_1 : decode cX9_level 1 = .ok (.iload_n 1, 1) := by decide +kernel
theorem dX9_level_2 : decode cX9_level 2 = .ok (.invokevirtual 116, 3) := by decide +kernel
theorem dX9_level_5 : decode cX9_level 5 = .ok (.aload_n 0, 1) := by decide +kernel
theorem dX9_level_6 : decode cX9_level 6 = .ok (.getfield 37, 3) := by decide +kernel
theorem dX9_level_9 : decode cX9_level 9 = .ok (.getfield 177, 3) := by decide +kernel
theorem dX9_level_12 : decode cX9_level 12 = .ok (.iload_n 1, 1) := by decide +kernel
theorem dX9_level_13 : decode cX9_level 13 = .ok (.iaload, 1) := by decide +kernel
theorem dX9_level_14 : decode cX9_level 14 = .ok (.ireturn, 1) := by decide +kernel
theorem dX9_energy_0 : decode cX9_energy 0 = .ok (.aload_n 0, 1) := by decide +kernel
theorem dX9_energy_1 : decode cX9_energy 1 = .ok (.iload_n 1, 1) := by decide +kernel
theorem dX9_energy_2 : decode cX9_energy 2 = .ok (.invokevirtual 116, 3) := by decide +kernel
theorem dX9_energy_5 : decode cX9_energy 5 = .ok (.aload_n 0, 1) := by decide +kernel
theorem dX9_energy_6 : decode cX9_energy 6 = .ok (.getfield 37, 3) := by decide +kernel
theorem dX9_energy_9 : decode cX9_energy 9 = .ok (.getfield 180, 3) := by decide +kernel
theorem dX9_energy_12 : decode cX9_energy 12 = .ok (.iload_n 1, 1) := by decide +kernel
theorem dX9_energy_13 : decode cX9_energy 13 = .ok (.iaload, 1) := by decide +kernel
theorem dX9_energy_14 : decode cX9_energy 14 = .ok (.ireturn, 1) := by decide +kernel
theorem dX9_domainValue_0 : decode cX9_domainValue 0 = .ok (.aload_n 0, 1) := by decide +kernel
theorem dX9_domainValue_1 : decode cX9_domainValue 1 = .ok (.iload_n 1, 1) := by decide +kernel
theorem dX9_domainValue_2 : decode cX9_domainValue 2 = .ok (.invokevirtual 116, 3) := by decide +kernel
theorem dX9_domainValue_5 : decode cX9_domainValue 5 = .ok (.iload_n 2, 1) := by decide +kernel
theorem dX9_domainValue_6 : decode cX9_domainValue 6 = .ok (.tableswitch 140 0 8 #[50, 60, 70, 80, 90, 100, 110, 120, 130], 50) := by decide +kernel
theorem dX9_domainValue_56 : decode cX9_domainValue 56 = .ok (.aload_n 0, 1) := by decide +kernel
theorem dX9_domainValue_57 : decode cX9_domainValue 57 = .ok (.getfield 37, 3) := by decide +kernel
theorem dX9_domainValue_60 : decode cX9_domainValue 60 = .ok (.getfield 183, 3) := by decide +kernel
theorem dX9_domainValue_63 : decode cX9_domainValue 63 = .ok (.iload_n 1, 1) := by decide +kernel
theorem dX9_domainValue_64 : decode cX9_domainValue 64 = .ok (.iaload, 1) := by decide +kernel
theorem dX9_domainValue_65 : decode cX9_domainValue 65 = .ok (.ireturn, 1) := by decide +kernel
theorem dX9_domainValue_66 : decode cX9_domainValue 66 = .ok (.aload_n 0, 1) := by decide +kernel
theorem dX9_domainValue_67 : decode cX9_domainValue 67 = .ok (.getfield 37, 3) := by decide +kernel
theorem dX9_domainValue_70 : decode cX9_domainValue 70 = .ok (.getfield 186, 3) := by decide +kernel
theorem dX9_domainValue_73 : decode cX9_domainValue 73 = .ok (.iload_n 1, 1) := by decide +kernel
theorem dX9_domainValue_74 : decode cX9_domainValue 74 = .ok (.iaload, 1) := by decide +kernel
theorem dX9_domainValue_75 : decode cX9_domainValue 75 = .ok (.ireturn, 1) := by decide +kernel
theorem dX9_domainValue_76 : decode cX9_domainValue 76 = .ok (.aload_n 0, 1) := by decide +kernel
theorem dX9_domainValue_77 : decode cX9_domainValue 77 = .ok (.getfield 37, 3) := by decide +kernel
theorem dX9_domainValue_80 : decode cX9_domainValue 80 = .ok (.getfield 189, 3) := by decide +kernel
theorem dX9_domainValue_83 : decode cX9_domainValue 83 = .ok (.iload_n 1, 1) := by decide +kernel
theorem dX9_domainValue_84 : decode cX9_domainValue 84 = .ok (.iaload, 1) := by decide +kernel
theorem dX9_domainValue_85 : decode cX9_domainValue 85 = .ok (.ireturn, 1) := by decide +kernel
theorem dX9_domainValue_86 : decode cX9_domainValue 86 = .ok (.aload_n 0, 1) := by decide +kernel
theorem dX9_domainValue_87 : decode cX9_domainValue 87 = .ok (.getfield 37, 3) := by decide +kernel
theorem dX9_domainValue_90 : decode cX9_domainValue 90 = .ok (.getfield 192, 3) := by decide +kernel
theorem dX9_domainValue_93 : decode cX9_domainValue 93 = .ok (.iload_n 1, 1) := by decide +kernel
theorem dX9_domainValue_94 : decode cX9_domainValue 94 = .ok (.iaload, 1) := by decide +kernel
theorem dX9_domainValue_95 : decode cX9_domainValue 95 = .ok (.ireturn, 1) := by decide +kernel
theorem dX9_domainValue_96 : decode cX9_domainValue 96 = .ok (.aload_n 0, 1) := by decide +kernel
theorem dX9_domainValue_97 : decode cX9_domainValue 97 = .ok (.getfield 37, 3) := by decide +kernel
theorem dX9_domainValue_100 : decode cX9_domainValue 100 = .ok (.getfield 161, 3) := by decide +kernel
theorem dX9_domainValue_103 : decode cX9_domainValue 103 = .ok (.iload_n 1, 1) := by decide +kernel
theorem dX9_domainValue_104 : decode cX9_domainValue 104 = .ok (.iaload, 1) := by decide +kernel
theorem dX9_domainValue_105 : decode cX9_domainValue 105 = .ok (.ireturn, 1) := by decide +kernel
theorem dX9_domainValue_106 : decode cX9_domainValue 106 = .ok (.aload_n 0, 1) := by decide +kernel
theorem dX9_domainValue_107 : decode cX9_domainValue 107 = .ok (.getfield 37, 3) := by decide +kernel
theorem dX9_domainValue_110 : decode cX9_domainValue 110 = .ok (.getfield 157, 3) := by decide +kernel
theorem dX9_domainValue_113 : decode cX9_domainValue 113 = .ok (.iload_n 1, 1) := by decide +kernel
theorem dX9_domainValue_114 : decode cX9_domainValue 114 = .ok (.iaload, 1) := by decide +kernel
theorem dX9_domainValue_115 : decode cX9_domainValue 115 = .ok (.ireturn, 1) := by decide +kernel
theorem dX9_domainValue_116 : decode cX9_domainValue 116 = .ok (.aload_n 0, 1) := by decide +kernel
theorem dX9_domainValue_117 : decode cX9_domainValue 117 = .ok (.getfield 28, 3) := by decide +kernel
theorem dX9_domainValue_120 : decode cX9_domainValue 120 = .ok (.getfield 195, 3) := by decide +kernel
theorem dX9_domainValue_123 : decode cX9_domainValue 123 = .ok (.iload_n 1, 1) := by decide +kernel
theorem dX9_domainValue_124 : decode cX9_domainValue 124 = .ok (.iaload, 1) := by decide +kernel
theorem dX9_domainValue_125 : decode cX9_domainValue 125 = .ok (.ireturn, 1) := by decide +kernel
theorem dX9_domainValue_126 : decode cX9_domainValue 126 = .ok (.aload_n 0, 1) := by decide +kernel
theorem dX9_domainValue_127 : decode cX9_domainValue 127 = .ok (.getfield 28, 3) := by decide +kernel
theorem dX9_domainValue_130 : decode cX9_domainValue 130 = .ok (.getfield 198, 3) := by decide +kernel
theorem dX9_domainValue_133 : decode cX9_domainValue 133 = .ok (.iload_n 1, 1) := by decide +kernel
theorem dX9_domainValue_134 : decode cX9_domainValue 134 = .ok (.iaload, 1) := by decide +kernel
theorem dX9_domainValue_135 : decode cX9_domainValue 135 = .ok (.ireturn, 1) := by decide +kernel
theorem dX9_domainValue_136 : decode cX9_domainValue 136 = .ok (.aload_n 0, 1) := by decide +kernel
theorem dX9_domainValue_137 : decode cX9_domainValue 137 = .ok (.getfield 28, 3) := by decide +kernel
theorem dX9_domainValue_140 : decode cX9_domainValue 140 = .ok (.getfield 201, 3) := by decide +kernel
theorem dX9_domainValue_143 : decode cX9_domainValue 143 = .ok (.iload_n 1, 1) := by decide +kernel
theorem dX9_domainValue_144 : decode cX9_domainValue 144 = .ok (.iaload, 1) := by decide +kernel
theorem dX9_domainValue_145 : decode cX9_domainValue 145 = .ok (.ireturn, 1) := by decide +kernel
theorem dX9_domainValue_146 : decode cX9_domainValue 146 = .ok (.new 204, 3) := by decide +kernel
theorem dX9_domainValue_149 : decode cX9_domainValue 149 = .ok (.dup, 1) := by decide +kernel
theorem dX9_domainValue_150 : decode cX9_domainValue 150 = .ok (.ldc 206, 2) := by decide +kernel
theorem dX9_domainValue_152 : decode cX9_domainValue 152 = .ok (.invokespecial 208, 3) := by decide +kernel
theorem dX9_domainValue_155 : decode cX9_domainValue 155 = .ok (.athrow, 1) := by decide +kernel
theorem dX9_jobOn_0 : decode cX9_jobOn 0 = .ok (.aload_n 0, 1) := by decide +kernel
theorem dX9_jobOn_1 : decode cX9_jobOn 1 = .ok (.iload_n 1, 1) := by decide +kernel
theorem dX9_jobOn_2 : decode cX9_jobOn 2 = .ok (.invokevirtual 116, 3) := by decide +kernel
theorem dX9_jobOn_5 : decode cX9_jobOn 5 = .ok (.iload_n 2, 1) := by decide +kernel
theorem dX9_jobOn_6 : decode cX9_jobOn 6 = .ok (.iconst 0, 1) := by decide +kernel
theorem dX9_jobOn_7 : decode cX9_jobOn 7 = .ok (.aload_n 0, 1) := by decide +kernel
theorem dX9_jobOn_8 : decode cX9_jobOn 8 = .ok (.getfield 28, 3) := by decide +kernel
theorem dX9_jobOn_11 : decode cX9_jobOn 11 = .ok (.getfield 198, 3) := by decide +kernel
theorem dX9_jobOn_14 : decode cX9_jobOn 14 = .ok (.iload_n 1, 1) := by decide +kernel
theorem dX9_jobOn_15 : decode cX9_jobOn 15 = .ok (.iaload, 1) := by decide +kernel
theorem dX9_jobOn_16 : decode cX9_jobOn 16 = .ok (.iconst 1, 1) := by decide +kernel
theorem dX9_jobOn_17 : decode cX9_jobOn 17 = .ok (.isub, 1) := by decide +kernel
theorem dX9_jobOn_18 : decode cX9_jobOn 18 = .ok (.invokestatic 87, 3) := by decide +kernel
theorem dX9_jobOn_21 : decode cX9_jobOn 21 = .ok (.aload_n 0, 1) := by decide +kernel
theorem dX9_jobOn_22 : decode cX9_jobOn 22 = .ok (.getfield 37, 3) := by decide +kernel
theorem dX9_jobOn_25 : decode cX9_jobOn 25 = .ok (.getfield 209, 3) := by decide +kernel
theorem dX9_jobOn_28 : decode cX9_jobOn 28 = .ok (.iload_n 1, 1) := by decide +kernel
theorem dX9_jobOn_29 : decode cX9_jobOn 29 = .ok (.iconst 4, 1) := by decide +kernel
theorem dX9_jobOn_30 : decode cX9_jobOn 30 = .ok (.imul, 1) := by decide +kernel
theorem dX9_jobOn_31 : decode cX9_jobOn 31 = .ok (.iload_n 2, 1) := by decide +kernel
theorem dX9_jobOn_32 : decode cX9_jobOn 32 = .ok (.iadd, 1) := by decide +kernel
theorem dX9_jobOn_33 : decode cX9_jobOn 33 = .ok (.iaload, 1) := by decide +kernel
theorem dX9_jobOn_34 : decode cX9_jobOn 34 = .ok (.ireturn, 1) := by decide +kernel
theorem dX9_throttleOrder_0 : decode cX9_throttleOrder 0 = .ok (.aload_n 0, 1) := by decide +kernel
theorem dX9_throttleOrder_1 : decode cX9_throttleOrder 1 = .ok (.invokevirtual 164, 3) := by decide +kernel
theorem dX9_throttleOrder_4 : decode cX9_throttleOrder 4 = .ok (.iload_n 1, 1) := by decide +kernel
theorem dX9_throttleOrder_5 : decode cX9_throttleOrder 5 = .ok (.invokestatic 212, 3) := by decide +kernel
theorem dX9_throttleOrder_8 : decode cX9_throttleOrder 8 = .ok (.iconst 0, 1) := by decide +kernel
theorem dX9_throttleOrder_9 : decode cX9_throttleOrder 9 = .ok (.istore_n 2, 1) := by decide +kernel
theorem dX9_throttleOrder_10 : decode cX9_throttleOrder 10 = .ok (.iload_n 2, 1) := by decide +kernel
theorem dX9_throttleOrder_11 : decode cX9_throttleOrder 11 = .ok (.aload_n 0, 1) := by decide +kernel
theorem dX9_throttleOrder_12 : decode cX9_throttleOrder 12 = .ok (.getfield 28, 3) := by decide +kernel
theorem dX9_throttleOrder_15 : decode cX9_throttleOrder 15 = .ok (.getfield 113, 3) := by decide +kernel
theorem dX9_throttleOrder_18 : decode cX9_throttleOrder 18 = .ok (.if_icmp .ge 23, 3) := by decide +kernel
theorem dX9_throttleOrder_21 : decode cX9_throttleOrder 21 = .ok (.aload_n 0, 1) := by decide +kernel
theorem dX9_throttleOrder_22 : decode cX9_throttleOrder 22 = .ok (.getfield 37, 3) := by decide +kernel
theorem dX9_throttleOrder_25 : decode cX9_throttleOrder 25 = .ok (.iload_n 2, 1) := by decide +kernel
theorem dX9_throttleOrder_26 : decode cX9_throttleOrder 26 = .ok (.invokevirtual 215, 3) := by decide +kernel
theorem dX9_throttleOrder_29 : decode cX9_throttleOrder 29 = .ok (.iload_n 1, 1) := by decide +kernel
theorem dX9_throttleOrder_30 : decode cX9_throttleOrder 30 = .ok (.if_icmp .ne 5, 3) := by decide +kernel
theorem dX9_throttleOrder_33 : decode cX9_throttleOrder 33 = .ok (.iload_n 2, 1) := by decide +kernel
theorem dX9_throttleOrder_34 : decode cX9_throttleOrder 34 = .ok (.ireturn, 1) := by decide +kernel
theorem dX9_throttleOrder_35 : decode cX9_throttleOrder 35 = .ok (.iinc 2 1, 3) := by decide +kernel
theorem dX9_throttleOrder_38 : decode cX9_throttleOrder 38 = .ok (.goto (-28), 3) := by decide +kernel
theorem dX9_throttleOrder_41 : decode cX9_throttleOrder 41 = .ok (.new 219, 3) := by decide +kernel
theorem dX9_throttleOrder_44 : decode cX9_throttleOrder 44 = .ok (.dup, 1) := by decide +kernel
theorem dX9_throttleOrder_45 : decode cX9_throttleOrder 45 = .ok (.ldc 221, 2) := by decide +kernel
theorem dX9_throttleOrder_47 : decode cX9_throttleOrder 47 = .ok (.invokespecial 223, 3) := by decide +kernel
theorem dX9_throttleOrder_50 : decode cX9_throttleOrder 50 = .ok (.athrow, 1) := by decide +kernel
theorem dX9_meanPower_0 : decode cX9_meanPower 0 = .ok (.aload_n 0, 1) := by decide +kernel
theorem dX9_meanPower_1 : decode cX9_meanPower 1 = .ok (.iload_n 1, 1) := by decide +kernel
theorem dX9_meanPower_2 : decode cX9_meanPower 2 = .ok (.invokevirtual 116, 3) := by decide +kernel
theorem dX9_meanPower_5 : decode cX9_meanPower 5 = .ok (.aload_n 0, 1) := by decide +kernel
theorem dX9_meanPower_6 : decode cX9_meanPower 6 = .ok (.getfield 37, 3) := by decide +kernel
theorem dX9_meanPower_9 : decode cX9_meanPower 9 = .ok (.getfield 136, 3) := by decide +kernel
theorem dX9_meanPower_12 : decode cX9_meanPower 12 = .ok (.ifCond .ne 13, 3) := by decide +kernel
theorem dX9_meanPower_15 : decode cX9_meanPower 15 = .ok (.new 224, 3) := by decide +kernel
theorem dX9_meanPower_18 : decode cX9_meanPower 18 = .ok (.dup, 1) := by decide +kernel
theorem dX9_meanPower_19 : decode cX9_meanPower 19 = .ok (.ldc 226, 2) := by decide +kernel
theorem dX9_meanPower_21 : decode cX9_meanPower 21 = .ok (.invokespecial 228, 3) := by decide +kernel
theorem dX9_meanPower_24 : decode cX9_meanPower 24 = .ok (.athrow, 1) := by decide +kernel
theorem dX9_meanPower_25 : decode cX9_meanPower 25 = .ok (.aload_n 0, 1) := by decide +kernel
theorem dX9_meanPower_26 : decode cX9_meanPower 26 = .ok (.getfield 37, 3) := by decide +kernel
theorem dX9_meanPower_29 : decode cX9_meanPower 29 = .ok (.getfield 180, 3) := by decide +kernel
theorem dX9_meanPower_32 : decode cX9_meanPower 32 = .ok (.iload_n 1, 1) := by decide +kernel
theorem dX9_meanPower_33 : decode cX9_meanPower 33 = .ok (.iaload, 1) := by decide +kernel
theorem dX9_meanPower_34 : decode cX9_meanPower 34 = .ok (.i2f, 1) := by decide +kernel
theorem dX9_meanPower_35 : decode cX9_meanPower 35 = .ok (.aload_n 0, 1) := by decide +kernel
theorem dX9_meanPower_36 : decode cX9_meanPower 36 = .ok (.getfield 37, 3) := by decide +kernel
theorem dX9_meanPower_39 : decode cX9_meanPower 39 = .ok (.getfield 136, 3) := by decide +kernel
theorem dX9_meanPower_42 : decode cX9_meanPower 42 = .ok (.i2f, 1) := by decide +kernel
theorem dX9_meanPower_43 : decode cX9_meanPower 43 = .ok (.fdiv, 1) := by decide +kernel
theorem dX9_meanPower_44 : decode cX9_meanPower 44 = .ok (.freturn, 1) := by decide +kernel
theorem dX9_jobCount_0 : decode cX9_jobCount 0 = .ok (.aload_n 0, 1) := by decide +kernel
theorem dX9_jobCount_1 : decode cX9_jobCount 1 = .ok (.invokevirtual 164, 3) := by decide +kernel
theorem dX9_jobCount_4 : decode cX9_jobCount 4 = .ok (.aload_n 0, 1) := by decide +kernel
theorem dX9_jobCount_5 : decode cX9_jobCount 5 = .ok (.getfield 37, 3) := by decide +kernel
theorem dX9_jobCount_8 : decode cX9_jobCount 8 = .ok (.getfield 119, 3) := by decide +kernel
theorem dX9_jobCount_11 : decode cX9_jobCount 11 = .ok (.getfield 123, 3) := by decide +kernel
theorem dX9_jobCount_14 : decode cX9_jobCount 14 = .ok (.ireturn, 1) := by decide +kernel
theorem dX9_jobValue_0 : decode cX9_jobValue 0 = .ok (.aload_n 0, 1) := by decide +kernel
theorem dX9_jobValue_1 : decode cX9_jobValue 1 = .ok (.iload_n 1, 1) := by decide +kernel
theorem dX9_jobValue_2 : decode cX9_jobValue 2 = .ok (.invokevirtual 143, 3) := by decide +kernel
theorem dX9_jobValue_5 : decode cX9_jobValue 5 = .ok (.aload_n 0, 1) := by decide +kernel
theorem dX9_jobValue_6 : decode cX9_jobValue 6 = .ok (.getfield 37, 3) := by decide +kernel
theorem dX9_jobValue_9 : decode cX9_jobValue 9 = .ok (.getfield 119, 3) := by decide +kernel
theorem dX9_jobValue_12 : decode cX9_jobValue 12 = .ok (.astore_n 3, 1) := by decide +kernel
theorem dX9_jobValue_13 : decode cX9_jobValue 13 = .ok (.iload_n 2, 1) := by decide +kernel
theorem dX9_jobValue_14 : decode cX9_jobValue 14 = .ok (.tableswitch 101 0 7 #[46, 53, 60, 67, 74, 81, 88, 95], 46) := by decide +kernel
theorem dX9_jobValue_60 : decode cX9_jobValue 60 = .ok (.aload_n 3, 1) := by decide +kernel
theorem dX9_jobValue_61 : decode cX9_jobValue 61 = .ok (.getfield 229, 3) := by decide +kernel
theorem dX9_jobValue_64 : decode cX9_jobValue 64 = .ok (.iload_n 1, 1) := by decide +kernel
theorem dX9_jobValue_65 : decode cX9_jobValue 65 = .ok (.iaload, 1) := by decide +kernel
theorem dX9_jobValue_66 : decode cX9_jobValue 66 = .ok (.ireturn, 1) := by decide +kernel
theorem dX9_jobValue_67 : decode cX9_jobValue 67 = .ok (.aload_n 3, 1) := by decide +kernel
theorem dX9_jobValue_68 : decode cX9_jobValue 68 = .ok (.getfield 232, 3) := by decide +kernel
theorem dX9_jobValue_71 : decode cX9_jobValue 71 = .ok (.iload_n 1, 1) := by decide +kernel
theorem dX9_jobValue_72 : decode cX9_jobValue 72 = .ok (.iaload, 1) := by decide +kernel
theorem dX9_jobValue_73 : decode cX9_jobValue 73 = .ok (.ireturn, 1) := by decide +kernel
theorem dX9_jobValue_74 : decode cX9_jobValue 74 = .ok (.aload_n 3, 1) := by decide +kernel
theorem dX9_jobValue_75 : decode cX9_jobValue 75 = .ok (.getfield 235, 3) := by decide +kernel
theorem dX9_jobValue_78 : decode cX9_jobValue 78 = .ok (.iload_n 1, 1) := by decide +kernel
theorem dX9_jobValue_79 : decode cX9_jobValue 79 = .ok (.iaload, 1) := by decide +kernel
theorem dX9_jobValue_80 : decode cX9_jobValue 80 = .ok (.ireturn, 1) := by decide +kernel
theorem dX9_jobValue_81 : decode cX9_jobValue 81 = .ok (.aload_n 3, 1) := by decide +kernel
theorem dX9_jobValue_82 : decode cX9_jobValue 82 = .ok (.getfield 238, 3) := by decide +kernel
theorem dX9_jobValue_85 : decode cX9_jobValue 85 = .ok (.iload_n 1, 1) := by decide +kernel
theorem dX9_jobValue_86 : decode cX9_jobValue 86 = .ok (.iaload, 1) := by decide +kernel
theorem dX9_jobValue_87 : decode cX9_jobValue 87 = .ok (.ireturn, 1) := by decide +kernel
theorem dX9_jobValue_88 : decode cX9_jobValue 88 = .ok (.aload_n 3, 1) := by decide +kernel
theorem dX9_jobValue_89 : decode cX9_jobValue 89 = .ok (.getfield 241, 3) := by decide +kernel
theorem dX9_jobValue_92 : decode cX9_jobValue 92 = .ok (.iload_n 1, 1) := by decide +kernel
theorem dX9_jobValue_93 : decode cX9_jobValue 93 = .ok (.iaload, 1) := by decide +kernel
theorem dX9_jobValue_94 : decode cX9_jobValue 94 = .ok (.ireturn, 1) := by decide +kernel
theorem dX9_jobValue_95 : decode cX9_jobValue 95 = .ok (.aload_n 3, 1) := by decide +kernel
theorem dX9_jobValue_96 : decode cX9_jobValue 96 = .ok (.getfield 244, 3) := by decide +kernel
theorem dX9_jobValue_99 : decode cX9_jobValue 99 = .ok (.iload_n 1, 1) := by decide +kernel
theorem dX9_jobValue_100 : decode cX9_jobValue 100 = .ok (.iaload, 1) := by decide +kernel
theorem dX9_jobValue_101 : decode cX9_jobValue 101 = .ok (.ireturn, 1) := by decide +kernel
theorem dX9_jobValue_102 : decode cX9_jobValue 102 = .ok (.aload_n 3, 1) := by decide +kernel
theorem dX9_jobValue_103 : decode cX9_jobValue 103 = .ok (.getfield 153, 3) := by decide +kernel
theorem dX9_jobValue_106 : decode cX9_jobValue 106 = .ok (.iload_n 1, 1) := by decide +kernel
theorem dX9_jobValue_107 : decode cX9_jobValue 107 = .ok (.iaload, 1) := by decide +kernel
theorem dX9_jobValue_108 : decode cX9_jobValue 108 = .ok (.ireturn, 1) := by decide +kernel
theorem dX9_jobValue_109 : decode cX9_jobValue 109 = .ok (.aload_n 3, 1) := by decide +kernel
theorem dX9_jobValue_110 : decode cX9_jobValue 110 = .ok (.iload_n 1, 1) := by decide +kernel
theorem dX9_jobValue_111 : decode cX9_jobValue 111 = .ok (.invokevirtual 247, 3) := by decide +kernel
theorem dX9_jobValue_114 : decode cX9_jobValue 114 = .ok (.ireturn, 1) := by decide +kernel
theorem dX9_jobValue_115 : decode cX9_jobValue 115 = .ok (.new 204, 3) := by decide +kernel
theorem dX9_jobValue_118 : decode cX9_jobValue 118 = .ok (.dup, 1) := by decide +kernel
theorem dX9_jobValue_119 : decode cX9_jobValue 119 = .ok (.ldc 206, 2) := by decide +kernel
theorem dX9_jobValue_121 : decode cX9_jobValue 121 = .ok (.invokespecial 208, 3) := by decide +kernel
theorem dX9_jobValue_124 : decode cX9_jobValue 124 = .ok (.athrow, 1) := by decide +kernel
theorem dX9_doneAt_0 : decode cX9_doneAt 0 = .ok (.aload_n 0, 1) := by decide +kernel
theorem dX9_doneAt_1 : decode cX9_doneAt 1 = .ok (.iload_n 1, 1) := by decide +kernel
theorem dX9_doneAt_2 : decode cX9_doneAt 2 = .ok (.invokevirtual 143, 3) := by decide +kernel
theorem dX9_doneAt_5 : decode cX9_doneAt 5 = .ok (.aload_n 0, 1) := by decide +kernel
theorem dX9_doneAt_6 : decode cX9_doneAt 6 = .ok (.getfield 37, 3) := by decide +kernel
theorem dX9_doneAt_9 : decode cX9_doneAt 9 = .ok (.getfield 119, 3) := by decide +kernel
theorem dX9_doneAt_12 : decode cX9_doneAt 12 = .ok (.iload_n 1, 1) := by decide +kernel
theorem dX9_doneAt_13 : decode cX9_doneAt 13 = .ok (.invokevirtual 250, 3) := by decide +kernel
theorem dX9_doneAt_16 : decode cX9_doneAt 16 = .ok (.ireturn, 1) := by decide +kernel
theorem dX9_lateJobs_0 : decode cX9_lateJobs 0 = .ok (.aload_n 0, 1) := by decide +kernel
theorem dX9_lateJobs_1 : decode cX9_lateJobs 1 = .ok (.invokevirtual 164, 3) := by decide +kernel
theorem dX9_lateJobs_4 : decode cX9_lateJobs 4 = .ok (.aload_n 0, 1) := by decide +kernel
theorem dX9_lateJobs_5 : decode cX9_lateJobs 5 = .ok (.getfield 37, 3) := by decide +kernel
theorem dX9_lateJobs_8 : decode cX9_lateJobs 8 = .ok (.getfield 119, 3) := by decide +kernel
theorem dX9_lateJobs_11 : decode cX9_lateJobs 11 = .ok (.aload_n 0, 1) := by decide +kernel
theorem dX9_lateJobs_12 : decode cX9_lateJobs 12 = .ok (.getfield 37, 3) := by decide +kernel
theorem dX9_lateJobs_15 : decode cX9_lateJobs 15 = .ok (.getfield 119, 3) := by decide +kernel
theorem dX9_lateJobs_18 : decode cX9_lateJobs 18 = .ok (.getfield 253, 3) := by decide +kernel
theorem dX9_lateJobs_21 : decode cX9_lateJobs 21 = .ok (.invokevirtual 256, 3) := by decide +kernel
theorem dX9_lateJobs_24 : decode cX9_lateJobs 24 = .ok (.ireturn, 1) := by decide +kernel
theorem dX9_queued_0 : decode cX9_queued 0 = .ok (.aload_n 0, 1) := by decide +kernel
theorem dX9_queued_1 : decode cX9_queued 1 = .ok (.iload_n 1, 1) := by decide +kernel
theorem dX9_queued_2 : decode cX9_queued 2 = .ok (.invokevirtual 116, 3) := by decide +kernel
theorem dX9_queued_5 : decode cX9_queued 5 = .ok (.iload_n 2, 1) := by decide +kernel
theorem dX9_queued_6 : decode cX9_queued 6 = .ok (.invokestatic 212, 3) := by decide +kernel
theorem dX9_queued_9 : decode cX9_queued 9 = .ok (.aload_n 0, 1) := by decide +kernel
theorem dX9_queued_10 : decode cX9_queued 10 = .ok (.getfield 37, 3) := by decide +kernel
theorem dX9_queued_13 : decode cX9_queued 13 = .ok (.getfield 119, 3) := by decide +kernel
theorem dX9_queued_16 : decode cX9_queued 16 = .ok (.astore_n 3, 1) := by decide +kernel
theorem dX9_queued_17 : decode cX9_queued 17 = .ok (.aload_n 3, 1) := by decide +kernel
theorem dX9_queued_18 : decode cX9_queued 18 = .ok (.getfield 259, 3) := by decide +kernel
theorem dX9_queued_21 : decode cX9_queued 21 = .ok (.iload_n 1, 1) := by decide +kernel
theorem dX9_queued_22 : decode cX9_queued 22 = .ok (.iaload, 1) := by decide +kernel
theorem dX9_queued_23 : decode cX9_queued 23 = .ok (.aload_n 3, 1) := by decide +kernel
theorem dX9_queued_24 : decode cX9_queued 24 = .ok (.getfield 262, 3) := by decide +kernel
theorem dX9_queued_27 : decode cX9_queued 27 = .ok (.iload_n 1, 1) := by decide +kernel
theorem dX9_queued_28 : decode cX9_queued 28 = .ok (.iaload, 1) := by decide +kernel
theorem dX9_queued_29 : decode cX9_queued 29 = .ok (.ior, 1) := by decide +kernel
theorem dX9_queued_30 : decode cX9_queued 30 = .ok (.istore 4, 2) := by decide +kernel
theorem dX9_queued_32 : decode cX9_queued 32 = .ok (.iload_n 2, 1) := by decide +kernel
theorem dX9_queued_33 : decode cX9_queued 33 = .ok (.iload 4, 2) := by decide +kernel
theorem dX9_queued_35 : decode cX9_queued 35 = .ok (.invokestatic 265, 3) := by decide +kernel
theorem dX9_queued_38 : decode cX9_queued 38 = .ok (.if_icmp .lt 14, 3) := by decide +kernel
theorem dX9_queued_41 : decode cX9_queued 41 = .ok (.new 219, 3) := by decide +kernel
theorem dX9_queued_44 : decode cX9_queued 44 = .ok (.dup, 1) := by decide +kernel
theorem dX9_queued_45 : decode cX9_queued 45 = .ok (.ldc_w 270, 3) := by decide +kernel
theorem dX9_queued_48 : decode cX9_queued 48 = .ok (.invokespecial 223, 3) := by decide +kernel
theorem dX9_queued_51 : decode cX9_queued 51 = .ok (.athrow, 1) := by decide +kernel
theorem dX9_queued_52 : decode cX9_queued 52 = .ok (.iconst 0, 1) := by decide +kernel
theorem dX9_queued_53 : decode cX9_queued 53 = .ok (.istore 5, 2) := by decide +kernel
theorem dX9_queued_55 : decode cX9_queued 55 = .ok (.iload 5, 2) := by decide +kernel
theorem dX9_queued_57 : decode cX9_queued 57 = .ok (.iload_n 2, 1) := by decide +kernel
theorem dX9_queued_58 : decode cX9_queued 58 = .ok (.if_icmp .ge 22, 3) := by decide +kernel
theorem dX9_queued_61 : decode cX9_queued 61 = .ok (.iload 4, 2) := by decide +kernel
theorem dX9_queued_63 : decode cX9_queued 63 = .ok (.aload_n 3, 1) := by decide +kernel
theorem dX9_queued_64 : decode cX9_queued 64 = .ok (.iload 4, 2) := by decide +kernel
theorem dX9_queued_66 : decode cX9_queued 66 = .ok (.invokevirtual 272, 3) := by decide +kernel
theorem dX9_queued_69 : decode cX9_queued 69 = .ok (.invokestatic 275, 3) := by decide +kernel
theorem dX9_queued_72 : decode cX9_queued 72 = .ok (.istore 4, 2) := by decide +kernel
theorem dX9_queued_74 : decode cX9_queued 74 = .ok (.iinc 5 1, 3) := by decide +kernel
theorem dX9_queued_77 : decode cX9_queued 77 = .ok (.goto (-22), 3) := by decide +kernel
theorem dX9_queued_80 : decode cX9_queued 80 = .ok (.aload_n 3, 1) := by decide +kernel
theorem dX9_queued_81 : decode cX9_queued 81 = .ok (.iload 4, 2) := by decide +kernel
theorem dX9_queued_83 : decode cX9_queued 83 = .ok (.invokevirtual 272, 3) := by decide +kernel
theorem dX9_queued_86 : decode cX9_queued 86 = .ok (.ireturn, 1) := by decide +kernel
theorem dX9_estimate_0 : decode cX9_estimate 0 = .ok (.aload_n 0, 1) := by decide +kernel
theorem dX9_estimate_1 : decode cX9_estimate 1 = .ok (.invokevirtual 164, 3) := by decide +kernel
theorem dX9_estimate_4 : decode cX9_estimate 4 = .ok (.iload_n 1, 1) := by decide +kernel
theorem dX9_estimate_5 : decode cX9_estimate 5 = .ok (.iconst 0, 1) := by decide +kernel
theorem dX9_estimate_6 : decode cX9_estimate 6 = .ok (.bipush 7, 2) := by decide +kernel
theorem dX9_estimate_8 : decode cX9_estimate 8 = .ok (.invokestatic 87, 3) := by decide +kernel
theorem dX9_estimate_11 : decode cX9_estimate 11 = .ok (.aload_n 0, 1) := by decide +kernel
theorem dX9_estimate_12 : decode cX9_estimate 12 = .ok (.getfield 37, 3) := by decide +kernel
theorem dX9_estimate_15 : decode cX9_estimate 15 = .ok (.getfield 119, 3) := by decide +kernel
theorem dX9_estimate_18 : decode cX9_estimate 18 = .ok (.getfield 279, 3) := by decide +kernel
theorem dX9_estimate_21 : decode cX9_estimate 21 = .ok (.iload_n 1, 1) := by decide +kernel
theorem dX9_estimate_22 : decode cX9_estimate 22 = .ok (.iaload, 1) := by decide +kernel
theorem dX9_estimate_23 : decode cX9_estimate 23 = .ok (.ireturn, 1) := by decide +kernel
theorem dX9_deviation_0 : decode cX9_deviation 0 = .ok (.aload_n 0, 1) := by decide +kernel
theorem dX9_deviation_1 : decode cX9_deviation 1 = .ok (.invokevirtual 164, 3) := by decide +kernel
theorem dX9_deviation_4 : decode cX9_deviation 4 = .ok (.iload_n 1, 1) := by decide +kernel
theorem dX9_deviation_5 : decode cX9_deviation 5 = .ok (.iconst 0, 1) := by decide +kernel
theorem dX9_deviation_6 : decode cX9_deviation 6 = .ok (.bipush 7, 2) := by decide +kernel
theorem dX9_deviation_8 : decode cX9_deviation 8 = .ok (.invokestatic 87, 3) := by decide +kernel
theorem dX9_deviation_11 : decode cX9_deviation 11 = .ok (.aload_n 0, 1) := by decide +kernel
theorem dX9_deviation_12 : decode cX9_deviation 12 = .ok (.getfield 37, 3) := by decide +kernel
theorem dX9_deviation_15 : decode cX9_deviation 15 = .ok (.getfield 119, 3) := by decide +kernel
theorem dX9_deviation_18 : decode cX9_deviation 18 = .ok (.getfield 282, 3) := by decide +kernel
theorem dX9_deviation_21 : decode cX9_deviation 21 = .ok (.iload_n 1, 1) := by decide +kernel
theorem dX9_deviation_22 : decode cX9_deviation 22 = .ok (.iaload, 1) := by decide +kernel
theorem dX9_deviation_23 : decode cX9_deviation 23 = .ok (.istore_n 2, 1) := by decide +kernel
theorem dX9_deviation_24 : decode cX9_deviation 24 = .ok (.iload_n 2, 1) := by decide +kernel
theorem dX9_deviation_25 : decode cX9_deviation 25 = .ok (.ifCond .ne 14, 3) := by decide +kernel
theorem dX9_deviation_28 : decode cX9_deviation 28 = .ok (.new 224, 3) := by decide +kernel
theorem dX9_deviation_31 : decode cX9_deviation 31 = .ok (.dup, 1) := by decide +kernel
theorem dX9_deviation_32 : decode cX9_deviation 32 = .ok (.ldc_w 285, 3) := by decide +kernel
theorem dX9_deviation_35 : decode cX9_deviation 35 = .ok (.invokespecial 228, 3) := by decide +kernel
theorem dX9_deviation_38 : decode cX9_deviation 38 = .ok (.athrow, 1) := by decide +kernel
theorem dX9_deviation_39 : decode cX9_deviation 39 = .ok (.aload_n 0, 1) := by decide +kernel
theorem dX9_deviation_40 : decode cX9_deviation 40 = .ok (.getfield 37, 3) := by decide +kernel
theorem dX9_deviation_43 : decode cX9_deviation 43 = .ok (.getfield 119, 3) := by decide +kernel
theorem dX9_deviation_46 : decode cX9_deviation 46 = .ok (.iload_n 1, 1) := by decide +kernel
theorem dX9_deviation_47 : decode cX9_deviation 47 = .ok (.invokevirtual 287, 3) := by decide +kernel
theorem dX9_deviation_50 : decode cX9_deviation 50 = .ok (.i2d, 1) := by decide +kernel
theorem dX9_deviation_51 : decode cX9_deviation 51 = .ok (.iload_n 2, 1) := by decide +kernel
theorem dX9_deviation_52 : decode cX9_deviation 52 = .ok (.i2d, 1) := by decide +kernel
theorem dX9_deviation_53 : decode cX9_deviation 53 = .ok (.ddiv, 1) := by decide +kernel
theorem dX9_deviation_54 : decode cX9_deviation 54 = .ok (.dreturn, 1) := by decide +kernel
theorem dX9_willBeDone_0 : decode cX9_willBeDone 0 = .ok (.aload_n 0, 1) := by decide +kernel
theorem dX9_willBeDone_1 : decode cX9_willBeDone 1 = .ok (.iload_n 1, 1) := by decide +kernel
theorem dX9_willBeDone_2 : decode cX9_willBeDone 2 = .ok (.invokevirtual 143, 3) := by decide +kernel
theorem dX9_willBeDone_5 : decode cX9_willBeDone 5 = .ok (.aload_n 0, 1) := by decide +kernel
theorem dX9_willBeDone_6 : decode cX9_willBeDone 6 = .ok (.getfield 41, 3) := by decide +kernel
theorem dX9_willBeDone_9 : decode cX9_willBeDone 9 = .ok (.aload_n 0, 1) := by decide +kernel
theorem dX9_willBeDone_10 : decode cX9_willBeDone 10 = .ok (.getfield 37, 3) := by decide +kernel
theorem dX9_willBeDone_13 : decode cX9_willBeDone 13 = .ok (.invokevirtual 290, 3) := by decide +kernel
theorem dX9_willBeDone_16 : decode cX9_willBeDone 16 = .ok (.iconst 0, 1) := by decide +kernel
theorem dX9_willBeDone_17 : decode cX9_willBeDone 17 = .ok (.istore_n 2, 1) := by decide +kernel
theorem dX9_willBeDone_18 : decode cX9_willBeDone 18 = .ok (.iload_n 2, 1) := by decide +kernel
theorem dX9_willBeDone_19 : decode cX9_willBeDone 19 = .ok (.sipush 1000, 3) := by decide +kernel
theorem dX9_willBeDone_22 : decode cX9_willBeDone 22 = .ok (.if_icmp .ge 31, 3) := by decide +kernel
theorem dX9_willBeDone_25 : decode cX9_willBeDone 25 = .ok (.aload_n 0, 1) := by decide +kernel
theorem dX9_willBeDone_26 : decode cX9_willBeDone 26 = .ok (.getfield 41, 3) := by decide +kernel
theorem dX9_willBeDone_29 : decode cX9_willBeDone 29 = .ok (.getfield 119, 3) := by decide +kernel
theorem dX9_willBeDone_32 : decode cX9_willBeDone 32 = .ok (.iload_n 1, 1) := by decide +kernel
theorem dX9_willBeDone_33 : decode cX9_willBeDone 33 = .ok (.invokevirtual 146, 3) := by decide +kernel
theorem dX9_willBeDone_36 : decode cX9_willBeDone 36 = .ok (.ifCond .ne 17, 3) := by decide +kernel
theorem dX9_willBeDone_39 : decode cX9_willBeDone 39 = .ok (.aload_n 0, 1) := by decide +kernel
theorem dX9_willBeDone_40 : decode cX9_willBeDone 40 = .ok (.getfield 41, 3) := by decide +kernel
theorem dX9_willBeDone_43 : decode cX9_willBeDone 43 = .ok (.invokevirtual 170, 3) := by decide +kernel
theorem dX9_willBeDone_46 : decode cX9_willBeDone 46 = .ok (.pop, 1) := by decide +kernel
theorem dX9_willBeDone_47 : decode cX9_willBeDone 47 = .ok (.iinc 2 1, 3) := by decide +kernel
theorem dX9_willBeDone_50 : decode cX9_willBeDone 50 = .ok (.goto (-32), 3) := by decide +kernel
theorem dX9_willBeDone_53 : decode cX9_willBeDone 53 = .ok (.aload_n 0, 1) := by decide +kernel
theorem dX9_willBeDone_54 : decode cX9_willBeDone 54 = .ok (.getfield 41, 3) := by decide +kernel
theorem dX9_willBeDone_57 : decode cX9_willBeDone 57 = .ok (.getfield 119, 3) := by decide +kernel
theorem dX9_willBeDone_60 : decode cX9_willBeDone 60 = .ok (.iload_n 1, 1) := by decide +kernel
theorem dX9_willBeDone_61 : decode cX9_willBeDone 61 = .ok (.invokevirtual 250, 3) := by decide +kernel
theorem dX9_willBeDone_64 : decode cX9_willBeDone 64 = .ok (.ireturn, 1) := by decide +kernel
theorem dX9_allOver_0 : decode cX9_allOver 0 = .ok (.aload_n 0, 1) := by decide +kernel
theorem dX9_allOver_1 : decode cX9_allOver 1 = .ok (.invokevirtual 164, 3) := by decide +kernel
theorem dX9_allOver_4 : decode cX9_allOver 4 = .ok (.aload_n 0, 1) := by decide +kernel
theorem dX9_allOver_5 : decode cX9_allOver 5 = .ok (.getfield 41, 3) := by decide +kernel
theorem dX9_allOver_8 : decode cX9_allOver 8 = .ok (.aload_n 0, 1) := by decide +kernel
theorem dX9_allOver_9 : decode cX9_allOver 9 = .ok (.getfield 37, 3) := by decide +kernel
theorem dX9_allOver_12 : decode cX9_allOver 12 = .ok (.invokevirtual 290, 3) := by decide +kernel
theorem dX9_allOver_15 : decode cX9_allOver 15 = .ok (.aload_n 0, 1) := by decide +kernel
theorem dX9_allOver_16 : decode cX9_allOver 16 = .ok (.getfield 41, 3) := by decide +kernel
theorem dX9_allOver_19 : decode cX9_allOver 19 = .ok (.invokevirtual 292, 3) := by decide +kernel
theorem dX9_allOver_22 : decode cX9_allOver 22 = .ok (.aload_n 0, 1) := by decide +kernel
theorem dX9_allOver_23 : decode cX9_allOver 23 = .ok (.getfield 41, 3) := by decide +kernel
theorem dX9_allOver_26 : decode cX9_allOver 26 = .ok (.getfield 119, 3) := by decide +kernel
theorem dX9_allOver_29 : decode cX9_allOver 29 = .ok (.invokevirtual 295, 3) := by decide +kernel
theorem dX9_allOver_32 : decode cX9_allOver 32 = .ok (.ifCond .eq 13, 3) := by decide +kernel
theorem dX9_allOver_35 : decode cX9_allOver 35 = .ok (.aload_n 0, 1) := by decide +kernel
theorem dX9_allOver_36 : decode cX9_allOver 36 = .ok (.getfield 41, 3) := by decide +kernel
theorem dX9_allOver_39 : decode cX9_allOver 39 = .ok (.getfield 136, 3) := by decide +kernel
theorem dX9_allOver_42 : decode cX9_allOver 42 = .ok (.goto 5, 3) := by decide +kernel
theorem dX9_allOver_45 : decode cX9_allOver 45 = .ok (.bipush (-2), 2) := by decide +kernel
theorem dX9_allOver_47 : decode cX9_allOver 47 = .ok (.ireturn, 1) := by decide +kernel
theorem dX9_willBeLate_0 : decode cX9_willBeLate 0 = .ok (.aload_n 0, 1) := by decide +kernel
theorem dX9_willBeLate_1 : decode cX9_willBeLate 1 = .ok (.invokevirtual 164, 3) := by decide +kernel
theorem dX9_willBeLate_4 : decode cX9_willBeLate 4 = .ok (.aload_n 0, 1) := by decide +kernel
theorem dX9_willBeLate_5 : decode cX9_willBeLate 5 = .ok (.getfield 41, 3) := by decide +kernel
theorem dX9_willBeLate_8 : decode cX9_willBeLate 8 = .ok (.aload_n 0, 1) := by decide +kernel
theorem dX9_willBeLate_9 : decode cX9_willBeLate 9 = .ok (.getfield 37, 3) := by decide +kernel
theorem dX9_willBeLate_12 : decode cX9_willBeLate 12 = .ok (.invokevirtual 290, 3) := by decide +kernel
theorem dX9_willBeLate_15 : decode cX9_willBeLate 15 = .ok (.aload_n 0, 1) := by decide +kernel
theorem dX9_willBeLate_16 : decode cX9_willBeLate 16 = .ok (.getfield 41, 3) := by decide +kernel
theorem dX9_willBeLate_19 : decode cX9_willBeLate 19 = .ok (.invokevirtual 292, 3) := by decide +kernel
theorem dX9_willBeLate_22 : decode cX9_willBeLate 22 = .ok (.aload_n 0, 1) := by decide +kernel
theorem dX9_willBeLate_23 : decode cX9_willBeLate 23 = .ok (.getfield 41, 3) := by decide +kernel
theorem dX9_willBeLate_26 : decode cX9_willBeLate 26 = .ok (.getfield 119, 3) := by decide +kernel
theorem dX9_willBeLate_29 : decode cX9_willBeLate 29 = .ok (.invokevirtual 298, 3) := by decide +kernel
theorem dX9_willBeLate_32 : decode cX9_willBeLate 32 = .ok (.ireturn, 1) := by decide +kernel
theorem dX9_peak_0 : decode cX9_peak 0 = .ok (.aload_n 0, 1) := by decide +kernel
theorem dX9_peak_1 : decode cX9_peak 1 = .ok (.iload_n 1, 1) := by decide +kernel
theorem dX9_peak_2 : decode cX9_peak 2 = .ok (.invokevirtual 116, 3) := by decide +kernel
theorem dX9_peak_5 : decode cX9_peak 5 = .ok (.iload_n 2, 1) := by decide +kernel
theorem dX9_peak_6 : decode cX9_peak 6 = .ok (.iconst 1, 1) := by decide +kernel
theorem dX9_peak_7 : decode cX9_peak 7 = .ok (.sipush 500, 3) := by decide +kernel
theorem dX9_peak_10 : decode cX9_peak 10 = .ok (.invokestatic 87, 3) := by decide +kernel
theorem dX9_peak_13 : decode cX9_peak 13 = .ok (.aload_n 0, 1) := by decide +kernel
theorem dX9_peak_14 : decode cX9_peak 14 = .ok (.getfield 41, 3) := by decide +kernel
theorem dX9_peak_17 : decode cX9_peak 17 = .ok (.aload_n 0, 1) := by decide +kernel
theorem dX9_peak_18 : decode cX9_peak 18 = .ok (.getfield 37, 3) := by decide +kernel
theorem dX9_peak_21 : decode cX9_peak 21 = .ok (.invokevirtual 290, 3) := by decide +kernel
theorem dX9_peak_24 : decode cX9_peak 24 = .ok (.aload_n 0, 1) := by decide +kernel
theorem dX9_peak_25 : decode cX9_peak 25 = .ok (.getfield 41, 3) := by decide +kernel
theorem dX9_peak_28 : decode cX9_peak 28 = .ok (.getfield 174, 3) := by decide +kernel
theorem dX9_peak_31 : decode cX9_peak 31 = .ok (.iload_n 1, 1) := by decide +kernel
theorem dX9_peak_32 : decode cX9_peak 32 = .ok (.iaload, 1) := by decide +kernel
theorem dX9_peak_33 : decode cX9_peak 33 = .ok (.istore_n 3, 1) := by decide +kernel
theorem dX9_peak_34 : decode cX9_peak 34 = .ok (.iconst 0, 1) := by decide +kernel
theorem dX9_peak_35 : decode cX9_peak 35 = .ok (.istore 4, 2) := by decide +kernel
theorem dX9_peak_37 : decode cX9_peak 37 = .ok (.iload 4, 2) := by decide +kernel
theorem dX9_peak_39 : decode cX9_peak 39 = .ok (.iload_n 2, 1) := by decide +kernel
theorem dX9_peak_40 : decode cX9_peak 40 = .ok (.if_icmp .ge 31, 3) := by decide +kernel
theorem dX9_peak_43 : decode cX9_peak 43 = .ok (.aload_n 0, 1) := by decide +kernel
theorem dX9_peak_44 : decode cX9_peak 44 = .ok (.getfield 41, 3) := by decide +kernel
theorem dX9_peak_47 : decode cX9_peak 47 = .ok (.invokevirtual 170, 3) := by decide +kernel
theorem dX9_peak_50 : decode cX9_peak 50 = .ok (.pop, 1) := by decide +kernel
theorem dX9_peak_51 : decode cX9_peak 51 = .ok (.iload_n 3, 1) := by decide +kernel
theorem dX9_peak_52 : decode cX9_peak 52 = .ok (.aload_n 0, 1) := by decide +kernel
theorem dX9_peak_53 : decode cX9_peak 53 = .ok (.getfield 41, 3) := by decide +kernel
theorem dX9_peak_56 : decode cX9_peak 56 = .ok (.getfield 174, 3) := by decide +kernel
theorem dX9_peak_59 : decode cX9_peak 59 = .ok (.iload_n 1, 1) := by decide +kernel
theorem dX9_peak_60 : decode cX9_peak 60 = .ok (.iaload, 1) := by decide +kernel
theorem dX9_peak_61 : decode cX9_peak 61 = .ok (.invokestatic 301, 3) := by decide +kernel
theorem dX9_peak_64 : decode cX9_peak 64 = .ok (.istore_n 3, 1) := by decide +kernel
theorem dX9_peak_65 : decode cX9_peak 65 = .ok (.iinc 4 1, 3) := by decide +kernel
theorem dX9_peak_68 : decode cX9_peak 68 = .ok (.goto (-31), 3) := by decide +kernel
theorem dX9_peak_71 : decode cX9_peak 71 = .ok (.iload_n 3, 1) := by decide +kernel
theorem dX9_peak_72 : decode cX9_peak 72 = .ok (.ireturn, 1) := by decide +kernel
theorem dX9_energyIn_0 : decode cX9_energyIn 0 = .ok (.aload_n 0, 1) := by decide +kernel
theorem dX9_energyIn_1 : decode cX9_energyIn 1 = .ok (.invokevirtual 164, 3) := by decide +kernel
theorem dX9_energyIn_4 : decode cX9_energyIn 4 = .ok (.iload_n 1, 1) := by decide +kernel
theorem dX9_energyIn_5 : decode cX9_energyIn 5 = .ok (.iconst 1, 1) := by decide +kernel
theorem dX9_energyIn_6 : decode cX9_energyIn 6 = .ok (.sipush 500, 3) := by decide +kernel
theorem dX9_energyIn_9 : decode cX9_energyIn 9 = .ok (.invokestatic 87, 3) := by decide +kernel
theorem dX9_energyIn_12 : decode cX9_energyIn 12 = .ok (.aload_n 0, 1) := by decide +kernel
theorem dX9_energyIn_13 : decode cX9_energyIn 13 = .ok (.getfield 41, 3) := by decide +kernel
theorem dX9_energyIn_16 : decode cX9_energyIn 16 = .ok (.aload_n 0, 1) := by decide +kernel
theorem dX9_energyIn_17 : decode cX9_energyIn 17 = .ok (.getfield 37, 3) := by decide +kernel
theorem dX9_energyIn_20 : decode cX9_energyIn 20 = .ok (.invokevirtual 290, 3) := by decide +kernel
theorem dX9_energyIn_23 : decode cX9_energyIn 23 = .ok (.iconst 0, 1) := by decide +kernel
theorem dX9_energyIn_24 : decode cX9_energyIn 24 = .ok (.istore_n 2, 1) := by decide +kernel
theorem dX9_energyIn_25 : decode cX9_energyIn 25 = .ok (.iload_n 2, 1) := by decide +kernel
theorem dX9_energyIn_26 : decode cX9_energyIn 26 = .ok (.iload_n 1, 1) := by decide +kernel
theorem dX9_energyIn_27 : decode cX9_energyIn 27 = .ok (.if_icmp .ge 17, 3) := by decide +kernel
theorem dX9_energyIn_30 : decode cX9_energyIn 30 = .ok (.aload_n 0, 1) := by decide +kernel
theorem dX9_energyIn_31 : decode cX9_energyIn 31 = .ok (.getfield 41, 3) := by decide +kernel
theorem dX9_energyIn_34 : decode cX9_energyIn 34 = .ok (.invokevirtual 170, 3) := by decide +kernel
theorem dX9_energyIn_37 : decode cX9_energyIn 37 = .ok (.pop, 1) := by decide +kernel
theorem dX9_energyIn_38 : decode cX9_energyIn 38 = .ok (.iinc 2 1, 3) := by decide +kernel
theorem dX9_energyIn_41 : decode cX9_energyIn 41 = .ok (.goto (-16), 3) := by decide +kernel
theorem dX9_energyIn_44 : decode cX9_energyIn 44 = .ok (.aload_n 0, 1) := by decide +kernel
theorem dX9_energyIn_45 : decode cX9_energyIn 45 = .ok (.getfield 41, 3) := by decide +kernel
theorem dX9_energyIn_48 : decode cX9_energyIn 48 = .ok (.invokevirtual 306, 3) := by decide +kernel
theorem dX9_energyIn_51 : decode cX9_energyIn 51 = .ok (.aload_n 0, 1) := by decide +kernel
theorem dX9_energyIn_52 : decode cX9_energyIn 52 = .ok (.getfield 37, 3) := by decide +kernel
theorem dX9_energyIn_55 : decode cX9_energyIn 55 = .ok (.invokevirtual 306, 3) := by decide +kernel
theorem dX9_energyIn_58 : decode cX9_energyIn 58 = .ok (.lsub, 1) := by decide +kernel
theorem dX9_energyIn_59 : decode cX9_energyIn 59 = .ok (.l2i, 1) := by decide +kernel
theorem dX9_energyIn_60 : decode cX9_energyIn 60 = .ok (.ireturn, 1) := by decide +kernel
theorem dX9_nextThrottle_0 : decode cX9_nextThrottle 0 = .ok (.aload_n 0, 1) := by decide +kernel
theorem dX9_nextThrottle_1 : decode cX9_nextThrottle 1 = .ok (.iload_n 1, 1) := by decide +kernel
theorem dX9_nextThrottle_2 : decode cX9_nextThrottle 2 = .ok (.invokevirtual 116, 3) := by decide +kernel
theorem dX9_nextThrottle_5 : decode cX9_nextThrottle 5 = .ok (.aload_n 0, 1) := by decide +kernel
theorem dX9_nextThrottle_6 : decode cX9_nextThrottle 6 = .ok (.getfield 41, 3) := by decide +kernel
theorem dX9_nextThrottle_9 : decode cX9_nextThrottle 9 = .ok (.aload_n 0, 1) := by decide +kernel
theorem dX9_nextThrottle_10 : decode cX9_nextThrottle 10 = .ok (.getfield 37, 3) := by decide +kernel
theorem dX9_nextThrottle_13 : decode cX9_nextThrottle 13 = .ok (.invokevirtual 290, 3) := by decide +kernel
theorem dX9_nextThrottle_16 : decode cX9_nextThrottle 16 = .ok (.aload_n 0, 1) := by decide +kernel
theorem dX9_nextThrottle_17 : decode cX9_nextThrottle 17 = .ok (.getfield 37, 3) := by decide +kernel
theorem dX9_nextThrottle_20 : decode cX9_nextThrottle 20 = .ok (.getfield 186, 3) := by decide +kernel
theorem dX9_nextThrottle_23 : decode cX9_nextThrottle 23 = .ok (.iload_n 1, 1) := by decide +kernel
theorem dX9_nextThrottle_24 : decode cX9_nextThrottle 24 = .ok (.iaload, 1) := by decide +kernel
theorem dX9_nextThrottle_25 : decode cX9_nextThrottle 25 = .ok (.aload_n 0, 1) := by decide +kernel
theorem dX9_nextThrottle_26 : decode cX9_nextThrottle 26 = .ok (.getfield 37, 3) := by decide +kernel
theorem dX9_nextThrottle_29 : decode cX9_nextThrottle 29 = .ok (.getfield 189, 3) := by decide +kernel
theorem dX9_nextThrottle_32 : decode cX9_nextThrottle 32 = .ok (.iload_n 1, 1) := by decide +kernel
theorem dX9_nextThrottle_33 : decode cX9_nextThrottle 33 = .ok (.iaload, 1) := by decide +kernel
theorem dX9_nextThrottle_34 : decode cX9_nextThrottle 34 = .ok (.iadd, 1) := by decide +kernel
theorem dX9_nextThrottle_35 : decode cX9_nextThrottle 35 = .ok (.istore_n 2, 1) := by decide +kernel
theorem dX9_nextThrottle_36 : decode cX9_nextThrottle 36 = .ok (.iconst 1, 1) := by decide +kernel
theorem dX9_nextThrottle_37 : decode cX9_nextThrottle 37 = .ok (.istore_n 3, 1) := by decide +kernel
theorem dX9_nextThrottle_38 : decode cX9_nextThrottle 38 = .ok (.iload_n 3, 1) := by decide +kernel
theorem dX9_nextThrottle_39 : decode cX9_nextThrottle 39 = .ok (.sipush 1000, 3) := by decide +kernel
theorem dX9_nextThrottle_42 : decode cX9_nextThrottle 42 = .ok (.if_icmp .gt 42, 3) := by decide +kernel
theorem dX9_nextThrottle_45 : decode cX9_nextThrottle 45 = .ok (.aload_n 0, 1) := by decide +kernel
theorem dX9_nextThrottle_46 : decode cX9_nextThrottle 46 = .ok (.getfield 41, 3) := by decide +kernel
theorem dX9_nextThrottle_49 : decode cX9_nextThrottle 49 = .ok (.invokevirtual 170, 3) := by decide +kernel
theorem dX9_nextThrottle_52 : decode cX9_nextThrottle 52 = .ok (.pop, 1) := by decide +kernel
theorem dX9_nextThrottle_53 : decode cX9_nextThrottle 53 = .ok (.aload_n 0, 1) := by decide +kernel
theorem dX9_nextThrottle_54 : decode cX9_nextThrottle 54 = .ok (.getfield 41, 3) := by decide +kernel
theorem dX9_nextThrottle_57 : decode cX9_nextThrottle 57 = .ok (.getfield 186, 3) := by decide +kernel
theorem dX9_nextThrottle_60 : decode cX9_nextThrottle 60 = .ok (.iload_n 1, 1) := by decide +kernel
theorem dX9_nextThrottle_61 : decode cX9_nextThrottle 61 = .ok (.iaload, 1) := by decide +kernel
theorem dX9_nextThrottle_62 : decode cX9_nextThrottle 62 = .ok (.aload_n 0, 1) := by decide +kernel
theorem dX9_nextThrottle_63 : decode cX9_nextThrottle 63 = .ok (.getfield 41, 3) := by decide +kernel
theorem dX9_nextThrottle_66 : decode cX9_nextThrottle 66 = .ok (.getfield 189, 3) := by decide +kernel
theorem dX9_nextThrottle_69 : decode cX9_nextThrottle 69 = .ok (.iload_n 1, 1) := by decide +kernel
theorem dX9_nextThrottle_70 : decode cX9_nextThrottle 70 = .ok (.iaload, 1) := by decide +kernel
theorem dX9_nextThrottle_71 : decode cX9_nextThrottle 71 = .ok (.iadd, 1) := by decide +kernel
theorem dX9_nextThrottle_72 : decode cX9_nextThrottle 72 = .ok (.iload_n 2, 1) := by decide +kernel
theorem dX9_nextThrottle_73 : decode cX9_nextThrottle 73 = .ok (.if_icmp .eq 5, 3) := by decide +kernel
theorem dX9_nextThrottle_76 : decode cX9_nextThrottle 76 = .ok (.iload_n 3, 1) := by decide +kernel
theorem dX9_nextThrottle_77 : decode cX9_nextThrottle 77 = .ok (.ireturn, 1) := by decide +kernel
theorem dX9_nextThrottle_78 : decode cX9_nextThrottle 78 = .ok (.iinc 3 1, 3) := by decide +kernel
theorem dX9_nextThrottle_81 : decode cX9_nextThrottle 81 = .ok (.goto (-43), 3) := by decide +kernel
theorem dX9_nextThrottle_84 : decode cX9_nextThrottle 84 = .ok (.bipush (-2), 2) := by decide +kernel
theorem dX9_nextThrottle_86 : decode cX9_nextThrottle 86 = .ok (.ireturn, 1) := by decide +kernel
theorem dX9_bestPolicy_0 : decode cX9_bestPolicy 0 = .ok (.aload_n 0, 1) := by decide +kernel
theorem dX9_bestPolicy_1 : decode cX9_bestPolicy 1 = .ok (.iload_n 1, 1) := by decide +kernel
theorem dX9_bestPolicy_2 : decode cX9_bestPolicy 2 = .ok (.invokevirtual 116, 3) := by decide +kernel
theorem dX9_bestPolicy_5 : decode cX9_bestPolicy 5 = .ok (.iconst 0, 1) := by decide +kernel
theorem dX9_bestPolicy_6 : decode cX9_bestPolicy 6 = .ok (.istore_n 2, 1) := by decide +kernel
theorem dX9_bestPolicy_7 : decode cX9_bestPolicy 7 = .ok (.bipush 25, 2) := by decide +kernel
theorem dX9_bestPolicy_9 : decode cX9_bestPolicy 9 = .ok (.istore_n 3, 1) := by decide +kernel
theorem dX9_bestPolicy_10 : decode cX9_bestPolicy 10 = .ok (.lconst 0, 1) := by decide +kernel
theorem dX9_bestPolicy_11 : decode cX9_bestPolicy 11 = .ok (.lstore 4, 2) := by decide +kernel
theorem dX9_bestPolicy_13 : decode cX9_bestPolicy 13 = .ok (.iconst 0, 1) := by decide +kernel
theorem dX9_bestPolicy_14 : decode cX9_bestPolicy 14 = .ok (.istore 6, 2) := by decide +kernel
theorem dX9_bestPolicy_16 : decode cX9_bestPolicy 16 = .ok (.iload 6, 2) := by decide +kernel
theorem dX9_bestPolicy_18 : decode cX9_bestPolicy 18 = .ok (.iconst 4, 1) := by decide +kernel
theorem dX9_bestPolicy_19 : decode cX9_bestPolicy 19 = .ok (.if_icmp .ge 92, 3) := by decide +kernel
theorem dX9_bestPolicy_22 : decode cX9_bestPolicy 22 = .ok (.aload_n 0, 1) := by decide +kernel
theorem dX9_bestPolicy_23 : decode cX9_bestPolicy 23 = .ok (.getfield 41, 3) := by decide +kernel
theorem dX9_bestPolicy_26 : decode cX9_bestPolicy 26 = .ok (.aload_n 0, 1) := by decide +kernel
theorem dX9_bestPolicy_27 : decode cX9_bestPolicy 27 = .ok (.getfield 37, 3) := by decide +kernel
theorem dX9_bestPolicy_30 : decode cX9_bestPolicy 30 = .ok (.invokevirtual 290, 3) := by decide +kernel
theorem dX9_bestPolicy_33 : decode cX9_bestPolicy 33 = .ok (.aload_n 0, 1) := by decide +kernel
theorem dX9_bestPolicy_34 : decode cX9_bestPolicy 34 = .ok (.getfield 41, 3) := by decide +kernel
theorem dX9_bestPolicy_37 : decode cX9_bestPolicy 37 = .ok (.getfield 157, 3) := by decide +kernel
theorem dX9_bestPolicy_40 : decode cX9_bestPolicy 40 = .ok (.iload_n 1, 1) := by decide +kernel
theorem dX9_bestPolicy_41 : decode cX9_bestPolicy 41 = .ok (.iload 6, 2) := by decide +kernel
theorem dX9_bestPolicy_43 : decode cX9_bestPolicy 43 = .ok (.iastore, 1) := by decide +kernel
theorem dX9_bestPolicy_44 : decode cX9_bestPolicy 44 = .ok (.aload_n 0, 1) := by decide +kernel
theorem dX9_bestPolicy_45 : decode cX9_bestPolicy 45 = .ok (.getfield 41, 3) := by decide +kernel
theorem dX9_bestPolicy_48 : decode cX9_bestPolicy 48 = .ok (.invokevirtual 292, 3) := by decide +kernel
theorem dX9_bestPolicy_51 : decode cX9_bestPolicy 51 = .ok (.aload_n 0, 1) := by decide +kernel
theorem dX9_bestPolicy_52 : decode cX9_bestPolicy 52 = .ok (.getfield 41, 3) := by decide +kernel
theorem dX9_bestPolicy_55 : decode cX9_bestPolicy 55 = .ok (.getfield 119, 3) := by decide +kernel
theorem dX9_bestPolicy_58 : decode cX9_bestPolicy 58 = .ok (.invokevirtual 298, 3) := by decide +kernel
theorem dX9_bestPolicy_61 : decode cX9_bestPolicy 61 = .ok (.invokestatic 265, 3) := by decide +kernel
theorem dX9_bestPolicy_64 : decode cX9_bestPolicy 64 = .ok (.istore 7, 2) := by decide +kernel
theorem dX9_bestPolicy_66 : decode cX9_bestPolicy 66 = .ok (.aload_n 0, 1) := by decide +kernel
theorem dX9_bestPolicy_67 : decode cX9_bestPolicy 67 = .ok (.getfield 41, 3) := by decide +kernel
theorem dX9_bestPolicy_70 : decode cX9_bestPolicy 70 = .ok (.invokevirtual 306, 3) := by decide +kernel
theorem dX9_bestPolicy_73 : decode cX9_bestPolicy 73 = .ok (.lstore 8, 2) := by decide +kernel
theorem dX9_bestPolicy_75 : decode cX9_bestPolicy 75 = .ok (.iload 7, 2) := by decide +kernel
theorem dX9_bestPolicy_77 : decode cX9_bestPolicy 77 = .ok (.iload_n 3, 1) := by decide +kernel
theorem dX9_bestPolicy_78 : decode cX9_bestPolicy 78 = .ok (.if_icmp .lt 17, 3) := by decide +kernel
theorem dX9_bestPolicy_81 : decode cX9_bestPolicy 81 = .ok (.iload 7, 2) := by decide +kernel
theorem dX9_bestPolicy_83 : decode cX9_bestPolicy 83 = .ok (.iload_n 3, 1) := by decide +kernel
theorem dX9_bestPolicy_84 : decode cX9_bestPolicy 84 = .ok (.if_icmp .ne 21, 3) := by decide +kernel
theorem dX9_bestPolicy_87 : decode cX9_bestPolicy 87 = .ok (.lload 8, 2) := by decide +kernel
theorem dX9_bestPolicy_89 : decode cX9_bestPolicy 89 = .ok (.lload 4, 2) := by decide +kernel
theorem dX9_bestPolicy_91 : decode cX9_bestPolicy 91 = .ok (.lcmp, 1) := by decide +kernel
theorem dX9_bestPolicy_92 : decode cX9_bestPolicy 92 = .ok (.ifCond .ge 13, 3) := by decide +kernel
theorem dX9_bestPolicy_95 : decode cX9_bestPolicy 95 = .ok (.iload 6, 2) := by decide +kernel
theorem dX9_bestPolicy_97 : decode cX9_bestPolicy 97 = .ok (.istore_n 2, 1) := by decide +kernel
theorem dX9_bestPolicy_98 : decode cX9_bestPolicy 98 = .ok (.iload 7, 2) := by decide +kernel
theorem dX9_bestPolicy_100 : decode cX9_bestPolicy 100 = .ok (.istore_n 3, 1) := by decide +kernel
theorem dX9_bestPolicy_101 : decode cX9_bestPolicy 101 = .ok (.lload 8, 2) := by decide +kernel
theorem dX9_bestPolicy_103 : decode cX9_bestPolicy 103 = .ok (.lstore 4, 2) := by decide +kernel
theorem dX9_bestPolicy_105 : decode cX9_bestPolicy 105 = .ok (.iinc 6 1, 3) := by decide +kernel
theorem dX9_bestPolicy_108 : decode cX9_bestPolicy 108 = .ok (.goto (-92), 3) := by decide +kernel
theorem dX9_bestPolicy_111 : decode cX9_bestPolicy 111 = .ok (.iload_n 2, 1) := by decide +kernel
theorem dX9_bestPolicy_112 : decode cX9_bestPolicy 112 = .ok (.ireturn, 1) := by decide +kernel
theorem dX9_coolLimit_0 : decode cX9_coolLimit 0 = .ok (.aload_n 0, 1) := by decide +kernel
theorem dX9_coolLimit_1 : decode cX9_coolLimit 1 = .ok (.iload_n 1, 1) := by decide +kernel
theorem dX9_coolLimit_2 : decode cX9_coolLimit 2 = .ok (.invokevirtual 116, 3) := by decide +kernel
theorem dX9_coolLimit_5 : decode cX9_coolLimit 5 = .ok (.aload_n 0, 1) := by decide +kernel
theorem dX9_coolLimit_6 : decode cX9_coolLimit 6 = .ok (.getfield 41, 3) := by decide +kernel
theorem dX9_coolLimit_9 : decode cX9_coolLimit 9 = .ok (.aload_n 0, 1) := by decide +kernel
theorem dX9_coolLimit_10 : decode cX9_coolLimit 10 = .ok (.getfield 37, 3) := by decide +kernel
theorem dX9_coolLimit_13 : decode cX9_coolLimit 13 = .ok (.invokevirtual 290, 3) := by decide +kernel
theorem dX9_coolLimit_16 : decode cX9_coolLimit 16 = .ok (.aload_n 0, 1) := by decide +kernel
theorem dX9_coolLimit_17 : decode cX9_coolLimit 17 = .ok (.getfield 41, 3) := by decide +kernel
theorem dX9_coolLimit_20 : decode cX9_coolLimit 20 = .ok (.getfield 161, 3) := by decide +kernel
theorem dX9_coolLimit_23 : decode cX9_coolLimit 23 = .ok (.iload_n 1, 1) := by decide +kernel
theorem dX9_coolLimit_24 : decode cX9_coolLimit 24 = .ok (.ldc_w 310, 3) := by decide +kernel
theorem dX9_coolLimit_27 : decode cX9_coolLimit 27 = .ok (.iastore, 1) := by decide +kernel
theorem dX9_coolLimit_28 : decode cX9_coolLimit 28 = .ok (.iconst 0, 1) := by decide +kernel
theorem dX9_coolLimit_29 : decode cX9_coolLimit 29 = .ok (.istore_n 2, 1) := by decide +kernel
theorem dX9_coolLimit_30 : decode cX9_coolLimit 30 = .ok (.iconst 0, 1) := by decide +kernel
theorem dX9_coolLimit_31 : decode cX9_coolLimit 31 = .ok (.istore_n 3, 1) := by decide +kernel
theorem dX9_coolLimit_32 : decode cX9_coolLimit 32 = .ok (.iload_n 3, 1) := by decide +kernel
theorem dX9_coolLimit_33 : decode cX9_coolLimit 33 = .ok (.sipush 1000, 3) := by decide +kernel
theorem dX9_coolLimit_36 : decode cX9_coolLimit 36 = .ok (.if_icmp .ge 56, 3) := by decide +kernel
theorem dX9_coolLimit_39 : decode cX9_coolLimit 39 = .ok (.aload_n 0, 1) := by decide +kernel
theorem dX9_coolLimit_40 : decode cX9_coolLimit 40 = .ok (.getfield 41, 3) := by decide +kernel
theorem dX9_coolLimit_43 : decode cX9_coolLimit 43 = .ok (.getfield 119, 3) := by decide +kernel
theorem dX9_coolLimit_46 : decode cX9_coolLimit 46 = .ok (.invokevirtual 295, 3) := by decide +kernel
theorem dX9_coolLimit_49 : decode cX9_coolLimit 49 = .ok (.ifCond .ne 43, 3) := by decide +kernel
theorem dX9_coolLimit_52 : decode cX9_coolLimit 52 = .ok (.aload_n 0, 1) := by decide +kernel
theorem dX9_coolLimit_53 : decode cX9_coolLimit 53 = .ok (.getfield 41, 3) := by decide +kernel
theorem dX9_coolLimit_56 : decode cX9_coolLimit 56 = .ok (.invokevirtual 170, 3) := by decide +kernel
theorem dX9_coolLimit_59 : decode cX9_coolLimit 59 = .ok (.pop, 1) := by decide +kernel
theorem dX9_coolLimit_60 : decode cX9_coolLimit 60 = .ok (.aload_n 0, 1) := by decide +kernel
theorem dX9_coolLimit_61 : decode cX9_coolLimit 61 = .ok (.getfield 41, 3) := by decide +kernel
theorem dX9_coolLimit_64 : decode cX9_coolLimit 64 = .ok (.getfield 311, 3) := by decide +kernel
theorem dX9_coolLimit_67 : decode cX9_coolLimit 67 = .ok (.iload_n 1, 1) := by decide +kernel
theorem dX9_coolLimit_68 : decode cX9_coolLimit 68 = .ok (.iaload, 1) := by decide +kernel
theorem dX9_coolLimit_69 : decode cX9_coolLimit 69 = .ok (.ifCond .le 17, 3) := by decide +kernel
theorem dX9_coolLimit_72 : decode cX9_coolLimit 72 = .ok (.iload_n 2, 1) := by decide +kernel
theorem dX9_coolLimit_73 : decode cX9_coolLimit 73 = .ok (.aload_n 0, 1) := by decide +kernel
theorem dX9_coolLimit_74 : decode cX9_coolLimit 74 = .ok (.getfield 41, 3) := by decide +kernel
theorem dX9_coolLimit_77 : decode cX9_coolLimit 77 = .ok (.getfield 174, 3) := by decide +kernel
theorem dX9_coolLimit_80 : decode cX9_coolLimit 80 = .ok (.iload_n 1, 1) := by decide +kernel
theorem dX9_coolLimit_81 : decode cX9_coolLimit 81 = .ok (.iaload, 1) := by decide +kernel
theorem dX9_coolLimit_82 : decode cX9_coolLimit 82 = .ok (.invokestatic 301, 3) := by decide +kernel
theorem dX9_coolLimit_85 : decode cX9_coolLimit 85 = .ok (.istore_n 2, 1) := by decide +kernel
theorem dX9_coolLimit_86 : decode cX9_coolLimit 86 = .ok (.iinc 3 1, 3) := by decide +kernel
theorem dX9_coolLimit_89 : decode cX9_coolLimit 89 = .ok (.goto (-57), 3) := by decide +kernel
theorem dX9_coolLimit_92 : decode cX9_coolLimit 92 = .ok (.iload_n 2, 1) := by decide +kernel
theorem dX9_coolLimit_93 : decode cX9_coolLimit 93 = .ok (.ldc 160, 2) := by decide +kernel
theorem dX9_coolLimit_95 : decode cX9_coolLimit 95 = .ok (.if_icmp .le 8, 3) := by decide +kernel
theorem dX9_coolLimit_98 : decode cX9_coolLimit 98 = .ok (.bipush (-2), 2) := by decide +kernel
theorem dX9_coolLimit_100 : decode cX9_coolLimit 100 = .ok (.goto 4, 3) := by decide +kernel
theorem dX9_coolLimit_103 : decode cX9_coolLimit 103 = .ok (.iload_n 2, 1) := by decide +kernel
theorem dX9_coolLimit_104 : decode cX9_coolLimit 104 = .ok (.ireturn, 1) := by decide +kernel
theorem dX9_levelEnergy_0 : decode cX9_levelEnergy 0 = .ok (.aload_n 0, 1) := by decide +kernel
theorem dX9_levelEnergy_1 : decode cX9_levelEnergy 1 = .ok (.iload_n 1, 1) := by decide +kernel
theorem dX9_levelEnergy_2 : decode cX9_levelEnergy 2 = .ok (.invokevirtual 116, 3) := by decide +kernel
theorem dX9_levelEnergy_5 : decode cX9_levelEnergy 5 = .ok (.iload_n 2, 1) := by decide +kernel
theorem dX9_levelEnergy_6 : decode cX9_levelEnergy 6 = .ok (.iconst 0, 1) := by decide +kernel
theorem dX9_levelEnergy_7 : decode cX9_levelEnergy 7 = .ok (.aload_n 0, 1) := by decide +kernel
theorem dX9_levelEnergy_8 : decode cX9_levelEnergy 8 = .ok (.getfield 28, 3) := by decide +kernel
theorem dX9_levelEnergy_11 : decode cX9_levelEnergy 11 = .ok (.getfield 195, 3) := by decide +kernel
theorem dX9_levelEnergy_14 : decode cX9_levelEnergy 14 = .ok (.iload_n 1, 1) := by decide +kernel
theorem dX9_levelEnergy_15 : decode cX9_levelEnergy 15 = .ok (.iaload, 1) := by decide +kernel
theorem dX9_levelEnergy_16 : decode cX9_levelEnergy 16 = .ok (.iconst 1, 1) := by decide +kernel
theorem dX9_levelEnergy_17 : decode cX9_levelEnergy 17 = .ok (.isub, 1) := by decide +kernel
theorem dX9_levelEnergy_18 : decode cX9_levelEnergy 18 = .ok (.invokestatic 87, 3) := by decide +kernel
theorem dX9_levelEnergy_21 : decode cX9_levelEnergy 21 = .ok (.iload_n 3, 1) := by decide +kernel
theorem dX9_levelEnergy_22 : decode cX9_levelEnergy 22 = .ok (.iconst 1, 1) := by decide +kernel
theorem dX9_levelEnergy_23 : decode cX9_levelEnergy 23 = .ok (.sipush 9999, 3) := by decide +kernel
theorem dX9_levelEnergy_26 : decode cX9_levelEnergy 26 = .ok (.invokestatic 87, 3) := by decide +kernel
theorem dX9_levelEnergy_29 : decode cX9_levelEnergy 29 = .ok (.iload 4, 2) := by decide +kernel
theorem dX9_levelEnergy_31 : decode cX9_levelEnergy 31 = .ok (.iconst 1, 1) := by decide +kernel
theorem dX9_levelEnergy_32 : decode cX9_levelEnergy 32 = .ok (.sipush 9999, 3) := by decide +kernel
theorem dX9_levelEnergy_35 : decode cX9_levelEnergy 35 = .ok (.invokestatic 87, 3) := by decide +kernel
theorem dX9_levelEnergy_38 : decode cX9_levelEnergy 38 = .ok (.aload_n 0, 1) := by decide +kernel
theorem dX9_levelEnergy_39 : decode cX9_levelEnergy 39 = .ok (.getfield 28, 3) := by decide +kernel
theorem dX9_levelEnergy_42 : decode cX9_levelEnergy 42 = .ok (.iload_n 1, 1) := by decide +kernel
theorem dX9_levelEnergy_43 : decode cX9_levelEnergy 43 = .ok (.iload_n 2, 1) := by decide +kernel
theorem dX9_levelEnergy_44 : decode cX9_levelEnergy 44 = .ok (.iload_n 3, 1) := by decide +kernel
theorem dX9_levelEnergy_45 : decode cX9_levelEnergy 45 = .ok (.iload 4, 2) := by decide +kernel
theorem dX9_levelEnergy_47 : decode cX9_levelEnergy 47 = .ok (.invokevirtual 314, 3) := by decide +kernel
theorem dX9_levelEnergy_50 : decode cX9_levelEnergy 50 = .ok (.ireturn, 1) := by decide +kernel
theorem dX9_bestLevel_0 : decode cX9_bestLevel 0 = .ok (.aload_n 0, 1) := by decide +kernel
theorem dX9_bestLevel_1 : decode cX9_bestLevel 1 = .ok (.iload_n 1, 1) := by decide +kernel
theorem dX9_bestLevel_2 : decode cX9_bestLevel 2 = .ok (.invokevirtual 116, 3) := by decide +kernel
theorem dX9_bestLevel_5 : decode cX9_bestLevel 5 = .ok (.iload_n 2, 1) := by decide +kernel
theorem dX9_bestLevel_6 : decode cX9_bestLevel 6 = .ok (.iconst 1, 1) := by decide +kernel
theorem dX9_bestLevel_7 : decode cX9_bestLevel 7 = .ok (.sipush 9999, 3) := by decide +kernel
theorem dX9_bestLevel_10 : decode cX9_bestLevel 10 = .ok (.invokestatic 87, 3) := by decide +kernel
theorem dX9_bestLevel_13 : decode cX9_bestLevel 13 = .ok (.iload_n 3, 1) := by decide +kernel
theorem dX9_bestLevel_14 : decode cX9_bestLevel 14 = .ok (.iconst 1, 1) := by decide +kernel
theorem dX9_bestLevel_15 : decode cX9_bestLevel 15 = .ok (.sipush 9999, 3) := by decide +kernel
theorem dX9_bestLevel_18 : decode cX9_bestLevel 18 = .ok (.invokestatic 87, 3) := by decide +kernel
theorem dX9_bestLevel_21 : decode cX9_bestLevel 21 = .ok (.bipush (-2), 2) := by decide +kernel
theorem dX9_bestLevel_23 : decode cX9_bestLevel 23 = .ok (.istore 4, 2) := by decide +kernel
theorem dX9_bestLevel_25 : decode cX9_bestLevel 25 = .ok (.ldc_w 310, 3) := by decide +kernel
theorem dX9_bestLevel_28 : decode cX9_bestLevel 28 = .ok (.istore 5, 2) := by decide +kernel
theorem dX9_bestLevel_30 : decode cX9_bestLevel 30 = .ok (.iconst 0, 1) := by decide +kernel
theorem dX9_bestLevel_31 : decode cX9_bestLevel 31 = .ok (.istore 6, 2) := by decide +kernel
theorem dX9_bestLevel_33 : decode cX9_bestLevel 33 = .ok (.iload 6, 2) := by decide +kernel
theorem dX9_bestLevel_35 : decode cX9_bestLevel 35 = .ok (.aload_n 0, 1) := by decide +kernel
theorem dX9_bestLevel_36 : decode cX9_bestLevel 36 = .ok (.getfield 28, 3) := by decide +kernel
theorem dX9_bestLevel_39 : decode cX9_bestLevel 39 = .ok (.getfield 195, 3) := by decide +kernel
theorem dX9_bestLevel_42 : decode cX9_bestLevel 42 = .ok (.iload_n 1, 1) := by decide +kernel
theorem dX9_bestLevel_43 : decode cX9_bestLevel 43 = .ok (.iaload, 1) := by decide +kernel
theorem dX9_bestLevel_44 : decode cX9_bestLevel 44 = .ok (.if_icmp .ge 45, 3) := by decide +kernel
theorem dX9_bestLevel_47 : decode cX9_bestLevel 47 = .ok (.aload_n 0, 1) := by decide +kernel
theorem dX9_bestLevel_48 : decode cX9_bestLevel 48 = .ok (.getfield 28, 3) := by decide +kernel
theorem dX9_bestLevel_51 : decode cX9_bestLevel 51 = .ok (.iload_n 1, 1) := by decide +kernel
theorem dX9_bestLevel_52 : decode cX9_bestLevel 52 = .ok (.iload 6, 2) := by decide +kernel
theorem dX9_bestLevel_54 : decode cX9_bestLevel 54 = .ok (.iload_n 2, 1) := by decide +kernel
theorem dX9_bestLevel_55 : decode cX9_bestLevel 55 = .ok (.iload_n 3, 1) := by decide +kernel
theorem dX9_bestLevel_56 : decode cX9_bestLevel 56 = .ok (.invokevirtual 314, 3) := by decide +kernel
theorem dX9_bestLevel_59 : decode cX9_bestLevel 59 = .ok (.istore 7, 2) := by decide +kernel
theorem dX9_bestLevel_61 : decode cX9_bestLevel 61 = .ok (.iload 7, 2) := by decide +kernel
theorem dX9_bestLevel_63 : decode cX9_bestLevel 63 = .ok (.bipush (-2), 2) := by decide +kernel
theorem dX9_bestLevel_65 : decode cX9_bestLevel 65 = .ok (.if_icmp .eq 18, 3) := by decide +kernel
theorem dX9_bestLevel_68 : decode cX9_bestLevel 68 = .ok (.iload 7, 2) := by decide +kernel
theorem dX9_bestLevel_70 : decode cX9_bestLevel 70 = .ok (.iload 5, 2) := by decide +kernel
theorem dX9_bestLevel_72 : decode cX9_bestLevel 72 = .ok (.if_icmp .gt 11, 3) := by decide +kernel
theorem dX9_bestLevel_75 : decode cX9_bestLevel 75 = .ok (.iload 6, 2) := by decide +kernel
theorem dX9_bestLevel_77 : decode cX9_bestLevel 77 = .ok (.istore 4, 2) := by decide +kernel
theorem dX9_bestLevel_79 : decode cX9_bestLevel 79 = .ok (.iload 7, 2) := by decide +kernel
theorem dX9_bestLevel_81 : decode cX9_bestLevel 81 = .ok (.istore 5, 2) := by decide +kernel
theorem dX9_bestLevel_83 : decode cX9_bestLevel 83 = .ok (.iinc 6 1, 3) := by decide +kernel
theorem dX9_bestLevel_86 : decode cX9_bestLevel 86 = .ok (.goto (-53), 3) := by decide +kernel
theorem dX9_bestLevel_89 : decode cX9_bestLevel 89 = .ok (.iload 4, 2) := by decide +kernel
theorem dX9_bestLevel_91 : decode cX9_bestLevel 91 = .ok (.ireturn, 1) := by decide +kernel
theorem dX9_mixedEnergy_0 : decode cX9_mixedEnergy 0 = .ok (.aload_n 0, 1) := by decide +kernel
theorem dX9_mixedEnergy_1 : decode cX9_mixedEnergy 1 = .ok (.iload_n 1, 1) := by decide +kernel
theorem dX9_mixedEnergy_2 : decode cX9_mixedEnergy 2 = .ok (.invokevirtual 116, 3) := by decide +kernel
theorem dX9_mixedEnergy_5 : decode cX9_mixedEnergy 5 = .ok (.iload_n 2, 1) := by decide +kernel
theorem dX9_mixedEnergy_6 : decode cX9_mixedEnergy 6 = .ok (.iconst 1, 1) := by decide +kernel
theorem dX9_mixedEnergy_7 : decode cX9_mixedEnergy 7 = .ok (.sipush 500, 3) := by decide +kernel
theorem dX9_mixedEnergy_10 : decode cX9_mixedEnergy 10 = .ok (.invokestatic 87, 3) := by decide +kernel
theorem dX9_mixedEnergy_13 : decode cX9_mixedEnergy 13 = .ok (.iload_n 3, 1) := by decide +kernel
theorem dX9_mixedEnergy_14 : decode cX9_mixedEnergy 14 = .ok (.iconst 1, 1) := by decide +kernel
theorem dX9_mixedEnergy_15 : decode cX9_mixedEnergy 15 = .ok (.bipush 100, 2) := by decide +kernel
theorem dX9_mixedEnergy_17 : decode cX9_mixedEnergy 17 = .ok (.invokestatic 87, 3) := by decide +kernel
theorem dX9_mixedEnergy_20 : decode cX9_mixedEnergy 20 = .ok (.aload_n 0, 1) := by decide +kernel
theorem dX9_mixedEnergy_21 : decode cX9_mixedEnergy 21 = .ok (.getfield 61, 3) := by decide +kernel
theorem dX9_mixedEnergy_24 : decode cX9_mixedEnergy 24 = .ok (.aload_n 0, 1) := by decide +kernel
theorem dX9_mixedEnergy_25 : decode cX9_mixedEnergy 25 = .ok (.getfield 28, 3) := by decide +kernel
theorem dX9_mixedEnergy_28 : decode cX9_mixedEnergy 28 = .ok (.iload_n 1, 1) := by decide +kernel
theorem dX9_mixedEnergy_29 : decode cX9_mixedEnergy 29 = .ok (.iload_n 2, 1) := by decide +kernel
theorem dX9_mixedEnergy_30 : decode cX9_mixedEnergy 30 = .ok (.iload_n 3, 1) := by decide +kernel
theorem dX9_mixedEnergy_31 : decode cX9_mixedEnergy 31 = .ok (.invokevirtual 318, 3) := by decide +kernel
theorem dX9_mixedEnergy_34 : decode cX9_mixedEnergy 34 = .ok (.ireturn, 1) := by decide +kernel
theorem dX9_packedWakeUps_0 : decode cX9_packedWakeUps 0 = .ok (.aload_n 0, 1) := by decide +kernel
theorem dX9_packedWakeUps_1 : decode cX9_packedWakeUps 1 = .ok (.iload_n 1, 1) := by decide +kernel
theorem dX9_packedWakeUps_2 : decode cX9_packedWakeUps 2 = .ok (.invokevirtual 116, 3) := by decide +kernel
theorem dX9_packedWakeUps_5 : decode cX9_packedWakeUps 5 = .ok (.aload_n 0, 1) := by decide +kernel
theorem dX9_packedWakeUps_6 : decode cX9_packedWakeUps 6 = .ok (.getfield 54, 3) := by decide +kernel
theorem dX9_packedWakeUps_9 : decode cX9_packedWakeUps 9 = .ok (.aload_n 0, 1) := by decide +kernel
theorem dX9_packedWakeUps_10 : decode cX9_packedWakeUps 10 = .ok (.getfield 37, 3) := by decide +kernel
theorem dX9_packedWakeUps_13 : decode cX9_packedWakeUps 13 = .ok (.iload_n 1, 1) := by decide +kernel
theorem dX9_packedWakeUps_14 : decode cX9_packedWakeUps 14 = .ok (.invokevirtual 322, 3) := by decide +kernel
theorem dX9_packedWakeUps_17 : decode cX9_packedWakeUps 17 = .ok (.aload_n 0, 1) := by decide +kernel
theorem dX9_packedWakeUps_18 : decode cX9_packedWakeUps 18 = .ok (.getfield 54, 3) := by decide +kernel
theorem dX9_packedWakeUps_21 : decode cX9_packedWakeUps 21 = .ok (.getfield 326, 3) := by decide +kernel
theorem dX9_packedWakeUps_24 : decode cX9_packedWakeUps 24 = .ok (.ireturn, 1) := by decide +kernel
theorem dX9_packedTick_0 : decode cX9_packedTick 0 = .ok (.aload_n 0, 1) := by decide +kernel
theorem dX9_packedTick_1 : decode cX9_packedTick 1 = .ok (.iload_n 1, 1) := by decide +kernel
theorem dX9_packedTick_2 : decode cX9_packedTick 2 = .ok (.invokevirtual 116, 3) := by decide +kernel
theorem dX9_packedTick_5 : decode cX9_packedTick 5 = .ok (.iload_n 2, 1) := by decide +kernel
theorem dX9_packedTick_6 : decode cX9_packedTick 6 = .ok (.invokestatic 212, 3) := by decide +kernel
theorem dX9_packedTick_9 : decode cX9_packedTick 9 = .ok (.aload_n 0, 1) := by decide +kernel
theorem dX9_packedTick_10 : decode cX9_packedTick 10 = .ok (.getfield 54, 3) := by decide +kernel
theorem dX9_packedTick_13 : decode cX9_packedTick 13 = .ok (.aload_n 0, 1) := by decide +kernel
theorem dX9_packedTick_14 : decode cX9_packedTick 14 = .ok (.getfield 37, 3) := by decide +kernel
theorem dX9_packedTick_17 : decode cX9_packedTick 17 = .ok (.iload_n 1, 1) := by decide +kernel
theorem dX9_packedTick_18 : decode cX9_packedTick 18 = .ok (.invokevirtual 322, 3) := by decide +kernel
theorem dX9_packedTick_21 : decode cX9_packedTick 21 = .ok (.iload_n 2, 1) := by decide +kernel
theorem dX9_packedTick_22 : decode cX9_packedTick 22 = .ok (.aload_n 0, 1) := by decide +kernel
theorem dX9_packedTick_23 : decode cX9_packedTick 23 = .ok (.getfield 54, 3) := by decide +kernel
theorem dX9_packedTick_26 : decode cX9_packedTick 26 = .ok (.getfield 326, 3) := by decide +kernel
theorem dX9_packedTick_29 : decode cX9_packedTick 29 = .ok (.if_icmp .ge 15, 3) := by decide +kernel
theorem dX9_packedTick_32 : decode cX9_packedTick 32 = .ok (.aload_n 0, 1) := by decide +kernel
theorem dX9_packedTick_33 : decode cX9_packedTick 33 = .ok (.getfield 54, 3) := by decide +kernel
theorem dX9_packedTick_36 : decode cX9_packedTick 36 = .ok (.getfield 327, 3) := by decide +kernel
theorem dX9_packedTick_39 : decode cX9_packedTick 39 = .ok (.iload_n 2, 1) := by decide +kernel
theorem dX9_packedTick_40 : decode cX9_packedTick 40 = .ok (.iaload, 1) := by decide +kernel
theorem dX9_packedTick_41 : decode cX9_packedTick 41 = .ok (.goto 5, 3) := by decide +kernel
theorem dX9_packedTick_44 : decode cX9_packedTick 44 = .ok (.bipush (-2), 2) := by decide +kernel
theorem dX9_packedTick_46 : decode cX9_packedTick 46 = .ok (.ireturn, 1) := by decide +kernel
theorem dX9_packedJobs_0 : decode cX9_packedJobs 0 = .ok (.aload_n 0, 1) := by decide +kernel
theorem dX9_packedJobs_1 : decode cX9_packedJobs 1 = .ok (.iload_n 1, 1) := by decide +kernel
theorem dX9_packedJobs_2 : decode cX9_packedJobs 2 = .ok (.invokevirtual 116, 3) := by decide +kernel
theorem dX9_packedJobs_5 : decode cX9_packedJobs 5 = .ok (.iload_n 2, 1) := by decide +kernel
theorem dX9_packedJobs_6 : decode cX9_packedJobs 6 = .ok (.invokestatic 212, 3) := by decide +kernel
theorem dX9_packedJobs_9 : decode cX9_packedJobs 9 = .ok (.aload_n 0, 1) := by decide +kernel
theorem dX9_packedJobs_10 : decode cX9_packedJobs 10 = .ok (.getfield 54, 3) := by decide +kernel
theorem dX9_packedJobs_13 : decode cX9_packedJobs 13 = .ok (.aload_n 0, 1) := by decide +kernel
theorem dX9_packedJobs_14 : decode cX9_packedJobs 14 = .ok (.getfield 37, 3) := by decide +kernel
theorem dX9_packedJobs_17 : decode cX9_packedJobs 17 = .ok (.iload_n 1, 1) := by decide +kernel
theorem dX9_packedJobs_18 : decode cX9_packedJobs 18 = .ok (.invokevirtual 322, 3) := by decide +kernel
theorem dX9_packedJobs_21 : decode cX9_packedJobs 21 = .ok (.iload_n 2, 1) := by decide +kernel
theorem dX9_packedJobs_22 : decode cX9_packedJobs 22 = .ok (.aload_n 0, 1) := by decide +kernel
theorem dX9_packedJobs_23 : decode cX9_packedJobs 23 = .ok (.getfield 54, 3) := by decide +kernel
theorem dX9_packedJobs_26 : decode cX9_packedJobs 26 = .ok (.getfield 326, 3) := by decide +kernel
theorem dX9_packedJobs_29 : decode cX9_packedJobs 29 = .ok (.if_icmp .ge 15, 3) := by decide +kernel
theorem dX9_packedJobs_32 : decode cX9_packedJobs 32 = .ok (.aload_n 0, 1) := by decide +kernel
theorem dX9_packedJobs_33 : decode cX9_packedJobs 33 = .ok (.getfield 54, 3) := by decide +kernel
theorem dX9_packedJobs_36 : decode cX9_packedJobs 36 = .ok (.getfield 330, 3) := by decide +kernel
theorem dX9_packedJobs_39 : decode cX9_packedJobs 39 = .ok (.iload_n 2, 1) := by decide +kernel
theorem dX9_packedJobs_40 : decode cX9_packedJobs 40 = .ok (.iaload, 1) := by decide +kernel
theorem dX9_packedJobs_41 : decode cX9_packedJobs 41 = .ok (.goto 5, 3) := by decide +kernel
theorem dX9_packedJobs_44 : decode cX9_packedJobs 44 = .ok (.bipush (-2), 2) := by decide +kernel
theorem dX9_packedJobs_46 : decode cX9_packedJobs 46 = .ok (.ireturn, 1) := by decide +kernel
theorem dX9_undo_0 : decode cX9_undo 0 = .ok (.aload_n 0, 1) := by decide +kernel
theorem dX9_undo_1 : decode cX9_undo 1 = .ok (.invokevirtual 164, 3) := by decide +kernel
theorem dX9_undo_4 : decode cX9_undo 4 = .ok (.aload_n 0, 1) := by decide +kernel
theorem dX9_undo_5 : decode cX9_undo 5 = .ok (.getfield 47, 3) := by decide +kernel
theorem dX9_undo_8 : decode cX9_undo 8 = .ok (.getfield 333, 3) := by decide +kernel
theorem dX9_undo_11 : decode cX9_undo 11 = .ok (.ifCond .ne 6, 3) := by decide +kernel
theorem dX9_undo_14 : decode cX9_undo 14 = .ok (.bipush (-2), 2) := by decide +kernel
theorem dX9_undo_16 : decode cX9_undo 16 = .ok (.ireturn, 1) := by decide +kernel
theorem dX9_undo_17 : decode cX9_undo 17 = .ok (.aload_n 0, 1) := by decide +kernel
theorem dX9_undo_18 : decode cX9_undo 18 = .ok (.getfield 47, 3) := by decide +kernel
theorem dX9_undo_21 : decode cX9_undo 21 = .ok (.aload_n 0, 1) := by decide +kernel
theorem dX9_undo_22 : decode cX9_undo 22 = .ok (.getfield 37, 3) := by decide +kernel
theorem dX9_undo_25 : decode cX9_undo 25 = .ok (.invokevirtual 334, 3) := by decide +kernel
theorem dX9_undo_28 : decode cX9_undo 28 = .ok (.aload_n 0, 1) := by decide +kernel
theorem dX9_undo_29 : decode cX9_undo 29 = .ok (.getfield 47, 3) := by decide +kernel
theorem dX9_undo_32 : decode cX9_undo 32 = .ok (.getfield 333, 3) := by decide +kernel
theorem dX9_undo_35 : decode cX9_undo 35 = .ok (.ireturn, 1) := by decide +kernel
theorem dX9_needSystem_0 : decode cX9_needSystem 0 = .ok (.aload_n 0, 1) := by decide +kernel
theorem dX9_needSystem_1 : decode cX9_needSystem 1 = .ok (.getfield 65, 3) := by decide +kernel
theorem dX9_needSystem_4 : decode cX9_needSystem 4 = .ok (.ifCond .ne 14, 3) := by decide +kernel
theorem dX9_needSystem_7 : decode cX9_needSystem 7 = .ok (.new 76, 3) := by decide +kernel
theorem dX9_needSystem_10 : decode cX9_needSystem 10 = .ok (.dup, 1) := by decide +kernel
theorem dX9_needSystem_11 : decode cX9_needSystem 11 = .ok (.ldc_w 337, 3) := by decide +kernel
theorem dX9_needSystem_14 : decode cX9_needSystem 14 = .ok (.invokespecial 80, 3) := by decide +kernel
theorem dX9_needSystem_17 : decode cX9_needSystem 17 = .ok (.athrow, 1) := by decide +kernel
theorem dX9_needSystem_18 : decode cX9_needSystem 18 = .ok (.return_, 1) := by decide +kernel
theorem dX9_needDomain_0 : decode cX9_needDomain 0 = .ok (.aload_n 0, 1) := by decide +kernel
theorem dX9_needDomain_1 : decode cX9_needDomain 1 = .ok (.invokevirtual 164, 3) := by decide +kernel
theorem dX9_needDomain_4 : decode cX9_needDomain 4 = .ok (.iload_n 1, 1) := by decide +kernel
theorem dX9_needDomain_5 : decode cX9_needDomain 5 = .ok (.iconst 0, 1) := by decide +kernel
theorem dX9_needDomain_6 : decode cX9_needDomain 6 = .ok (.aload_n 0, 1) := by decide +kernel
theorem dX9_needDomain_7 : decode cX9_needDomain 7 = .ok (.getfield 28, 3) := by decide +kernel
theorem dX9_needDomain_10 : decode cX9_needDomain 10 = .ok (.getfield 113, 3) := by decide +kernel
theorem dX9_needDomain_13 : decode cX9_needDomain 13 = .ok (.iconst 1, 1) := by decide +kernel
theorem dX9_needDomain_14 : decode cX9_needDomain 14 = .ok (.isub, 1) := by decide +kernel
theorem dX9_needDomain_15 : decode cX9_needDomain 15 = .ok (.invokestatic 87, 3) := by decide +kernel
theorem dX9_needDomain_18 : decode cX9_needDomain 18 = .ok (.return_, 1) := by decide +kernel
theorem dX9_needJob_0 : decode cX9_needJob 0 = .ok (.aload_n 0, 1) := by decide +kernel
theorem dX9_needJob_1 : decode cX9_needJob 1 = .ok (.invokevirtual 164, 3) := by decide +kernel
theorem dX9_needJob_4 : decode cX9_needJob 4 = .ok (.iload_n 1, 1) := by decide +kernel
theorem dX9_needJob_5 : decode cX9_needJob 5 = .ok (.iconst 0, 1) := by decide +kernel
theorem dX9_needJob_6 : decode cX9_needJob 6 = .ok (.aload_n 0, 1) := by decide +kernel
theorem dX9_needJob_7 : decode cX9_needJob 7 = .ok (.getfield 37, 3) := by decide +kernel
theorem dX9_needJob_10 : decode cX9_needJob 10 = .ok (.getfield 119, 3) := by decide +kernel
theorem dX9_needJob_13 : decode cX9_needJob 13 = .ok (.getfield 123, 3) := by decide +kernel
theorem dX9_needJob_16 : decode cX9_needJob 16 = .ok (.iconst 1, 1) := by decide +kernel
theorem dX9_needJob_17 : decode cX9_needJob 17 = .ok (.isub, 1) := by decide +kernel
theorem dX9_needJob_18 : decode cX9_needJob 18 = .ok (.invokestatic 87, 3) := by decide +kernel
theorem dX9_needJob_21 : decode cX9_needJob 21 = .ok (.return_, 1) := by decide +kernel
theorem dX9_needRange_0 : decode cX9_needRange 0 = .ok (.iload_n 0, 1) := by decide +kernel
theorem dX9_needRange_1 : decode cX9_needRange 1 = .ok (.iload_n 1, 1) := by decide +kernel
theorem dX9_needRange_2 : decode cX9_needRange 2 = .ok (.if_icmp .lt 8, 3) := by decide +kernel
theorem dX9_needRange_5 : decode cX9_needRange 5 = .ok (.iload_n 0, 1) := by decide +kernel
theorem dX9_needRange_6 : decode cX9_needRange 6 = .ok (.iload_n 2, 1) := by decide +kernel
theorem dX9_needRange_7 : decode cX9_needRange 7 = .ok (.if_icmp .le 14, 3) := by decide +kernel
theorem dX9_needRange_10 : decode cX9_needRange 10 = .ok (.new 204, 3) := by decide +kernel
theorem dX9_needRange_13 : decode cX9_needRange 13 = .ok (.dup, 1) := by decide +kernel
theorem dX9_needRange_14 : decode cX9_needRange 14 = .ok (.ldc_w 339, 3) := by decide +kernel
theorem dX9_needRange_17 : decode cX9_needRange 17 = .ok (.invokespecial 208, 3) := by decide +kernel
theorem dX9_needRange_20 : decode cX9_needRange 20 = .ok (.athrow, 1) := by decide +kernel
theorem dX9_needRange_21 : decode cX9_needRange 21 = .ok (.return_, 1) := by decide +kernel
theorem dX9_needNotNegative_0 : decode cX9_needNotNegative 0 = .ok (.iload_n 0, 1) := by decide +kernel
theorem dX9_needNotNegative_1 : decode cX9_needNotNegative 1 = .ok (.ifCond .ge 14, 3) := by decide +kernel
theorem dX9_needNotNegative_4 : decode cX9_needNotNegative 4 = .ok (.new 204, 3) := by decide +kernel
theorem dX9_needNotNegative_7 : decode cX9_needNotNegative 7 = .ok (.dup, 1) := by decide +kernel
theorem dX9_needNotNegative_8 : decode cX9_needNotNegative 8 = .ok (.ldc_w 341, 3) := by decide +kernel
theorem dX9_needNotNegative_11 : decode cX9_needNotNegative 11 = .ok (.invokespecial 208, 3) := by decide +kernel
theorem dX9_needNotNegative_14 : decode cX9_needNotNegative 14 = .ok (.athrow, 1) := by decide +kernel
theorem dX9_needNotNegative_15 : decode cX9_needNotNegative 15 = .ok (.return_, 1) := by decide +kernel
theorem dX9_holds_0 : decode cX9_holds 0 = .ok (.iload_n 0, 1) := by decide +kernel
theorem dX9_holds_1 : decode cX9_holds 1 = .ok (.iload_n 1, 1) := by decide +kernel
theorem dX9_holds_2 : decode cX9_holds 2 = .ok (.iushr, 1) := by decide +kernel
theorem dX9_holds_3 : decode cX9_holds 3 = .ok (.iconst 1, 1) := by decide +kernel
theorem dX9_holds_4 : decode cX9_holds 4 = .ok (.iand, 1) := by decide +kernel
theorem dX9_holds_5 : decode cX9_holds 5 = .ok (.iconst 1, 1) := by decide +kernel
theorem dX9_holds_6 : decode cX9_holds 6 = .ok (.if_icmp .ne 7, 3) := by decide +kernel
theorem dX9_holds_9 : decode cX9_holds 9 = .ok (.iconst 1, 1) := by decide +kernel
theorem dX9_holds_10 : decode cX9_holds 10 = .ok (.goto 4, 3) := by decide +kernel
theorem dX9_holds_13 : decode cX9_holds 13 = .ok (.iconst 0, 1) := by decide +kernel
theorem dX9_holds_14 : decode cX9_holds 14 = .ok (.ireturn, 1) := by decide +kernel
theorem dX9_with_0 : decode cX9_with 0 = .ok (.iload_n 0, 1) := by decide +kernel
theorem dX9_with_1 : decode cX9_with 1 = .ok (.iconst 1, 1) := by decide +kernel
theorem dX9_with_2 : decode cX9_with 2 = .ok (.iload_n 1, 1) := by decide +kernel
theorem dX9_with_3 : decode cX9_with 3 = .ok (.ishl, 1) := by decide +kernel
theorem dX9_with_4 : decode cX9_with 4 = .ok (.ior, 1) := by decide +kernel
theorem dX9_with_5 : decode cX9_with 5 = .ok (.ireturn, 1) := by decide +kernel
theorem dX9_without_0 : decode cX9_without 0 = .ok (.iload_n 0, 1) := by decide +kernel
theorem dX9_without_1 : decode cX9_without 1 = .ok (.iconst 1, 1) := by decide +kernel
theorem dX9_without_2 : decode cX9_without 2 = .ok (.iload_n 1, 1) := by decide +kernel
theorem dX9_without_3 : decode cX9_without 3 = .ok (.ishl, 1) := by decide +kernel
theorem dX9_without_4 : decode cX9_without 4 = .ok (.iconst (-1), 1) := by decide +kernel
theorem dX9_without_5 : decode cX9_without 5 = .ok (.ixor, 1) := by decide +kernel
theorem dX9_without_6 : decode cX9_without 6 = .ok (.iand, 1) := by decide +kernel
theorem dX9_without_7 : decode cX9_without 7 = .ok (.ireturn, 1) := by decide +kernel
theorem dX9_dividedUp_0 : decode cX9_dividedUp 0 = .ok (.iload_n 1, 1) := by decide +kernel
theorem dX9_dividedUp_1 : decode cX9_dividedUp 1 = .ok (.ifCond .le 7, 3) := by decide +kernel
theorem dX9_dividedUp_4 : decode cX9_dividedUp 4 = .ok (.iload_n 1, 1) := by decide +kernel
theorem dX9_dividedUp_5 : decode cX9_dividedUp 5 = .ok (.goto 4, 3) := by decide +kernel
theorem dX9_dividedUp_8 : decode cX9_dividedUp 8 = .ok (.iconst 1, 1) := by decide +kernel
theorem dX9_dividedUp_9 : decode cX9_dividedUp 9 = .ok (.istore_n 2, 1) := by decide +kernel
theorem dX9_dividedUp_10 : decode cX9_dividedUp 10 = .ok (.iload_n 0, 1) := by decide +kernel
theorem dX9_dividedUp_11 : decode cX9_dividedUp 11 = .ok (.iload_n 2, 1) := by decide +kernel
theorem dX9_dividedUp_12 : decode cX9_dividedUp 12 = .ok (.idiv, 1) := by decide +kernel
theorem dX9_dividedUp_13 : decode cX9_dividedUp 13 = .ok (.iload_n 0, 1) := by decide +kernel
theorem dX9_dividedUp_14 : decode cX9_dividedUp 14 = .ok (.iload_n 2, 1) := by decide +kernel
theorem dX9_dividedUp_15 : decode cX9_dividedUp 15 = .ok (.irem, 1) := by decide +kernel
theorem dX9_dividedUp_16 : decode cX9_dividedUp 16 = .ok (.ifCond .le 7, 3) := by decide +kernel
theorem dX9_dividedUp_19 : decode cX9_dividedUp 19 = .ok (.iconst 1, 1) := by decide +kernel
theorem dX9_dividedUp_20 : decode cX9_dividedUp 20 = .ok (.goto 4, 3) := by decide +kernel
theorem dX9_dividedUp_23 : decode cX9_dividedUp 23 = .ok (.iconst 0, 1) := by decide +kernel
theorem dX9_dividedUp_24 : decode cX9_dividedUp 24 = .ok (.iadd, 1) := by decide +kernel
theorem dX9_dividedUp_25 : decode cX9_dividedUp 25 = .ok (.ireturn, 1) := by decide +kernel
theorem dX9_copyRow_0 : decode cX9_copyRow 0 = .ok (.aload_n 0, 1) := by decide +kernel
theorem dX9_copyRow_1 : decode cX9_copyRow 1 = .ok (.iconst 0, 1) := by decide +kernel
theorem dX9_copyRow_2 : decode cX9_copyRow 2 = .ok (.aload_n 1, 1) := by decide +kernel
theorem dX9_copyRow_3 : decode cX9_copyRow 3 = .ok (.iconst 0, 1) := by decide +kernel
theorem dX9_copyRow_4 : decode cX9_copyRow 4 = .ok (.aload_n 0, 1) := by decide +kernel
theorem dX9_copyRow_5 : decode cX9_copyRow 5 = .ok (.arraylength, 1) := by decide +kernel
theorem dX9_copyRow_6 : decode cX9_copyRow 6 = .ok (.aload_n 1, 1) := by decide +kernel
theorem dX9_copyRow_7 : decode cX9_copyRow 7 = .ok (.arraylength, 1) := by decide +kernel
theorem dX9_copyRow_8 : decode cX9_copyRow 8 = .ok (.invokestatic 343, 3) := by decide +kernel
theorem dX9_copyRow_11 : decode cX9_copyRow 11 = .ok (.invokestatic 346, 3) := by decide +kernel
theorem dX9_copyRow_14 : decode cX9_copyRow 14 = .ok (.return_, 1) := by decide +kernel
