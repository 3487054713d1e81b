theorem dX7_numberHere_8 : decode cX7_numberHere 8 = .ok (.aload_n 0, 1) := by decide +kernel
theorem dX7_numberHere_9 : decode cX7_numberHere 9 = .ok (.getfield 13, 3) := by decide +kernel
theorem dX7_numberHere_12 : decode cX7_numberHere 12 = .ok (.if_icmp .ge 26, 3) := by decide +kernel
theorem dX7_numberHere_15 : decode cX7_numberHere 15 = .ok (.iload_n 1, 1) := by decide +kernel
theorem dX7_numberHere_16 : decode cX7_numberHere 16 = .ok (.bipush 10, 2) := by decide +kernel
theorem dX7_numberHere_18 : decode cX7_numberHere 18 = .ok (.imul, 1) := by decide +kernel
theorem dX7_numberHere_19 : decode cX7_numberHere 19 = .ok (.aload_n 0, 1) := by decide +kernel
theorem dX7_numberHere_20 : decode cX7_numberHere 20 = .ok (.getfield 7, 3) := by decide +kernel
theorem dX7_numberHere_23 : decode cX7_numberHere 23 = .ok (.iload_n 2, 1) := by decide +kernel
theorem dX7_numberHere_24 : decode cX7_numberHere 24 = .ok (.invokevirtual 41, 3) := by decide +kernel
theorem dX7_numberHere_27 : decode cX7_numberHere 27 = .ok (.bipush 48, 2) := by decide +kernel
theorem dX7_numberHere_29 : decode cX7_numberHere 29 = .ok (.isub, 1) := by decide +kernel
theorem dX7_numberHere_30 : decode cX7_numberHere 30 = .ok (.iadd, 1) := by decide +kernel
theorem dX7_numberHere_31 : decode cX7_numberHere 31 = .ok (.istore_n 1, 1) := by decide +kernel
theorem dX7_numberHere_32 : decode cX7_numberHere 32 = .ok (.iinc 2 1, 3) := by decide +kernel
theorem dX7_numberHere_35 : decode cX7_numberHere 35 = .ok (.goto (-28), 3) := by decide +kernel
theorem dX7_numberHere_38 : decode cX7_numberHere 38 = .ok (.iload_n 1, 1) := by decide +kernel
theorem dX7_numberHere_39 : decode cX7_numberHere 39 = .ok (.ireturn, 1) := by decide +kernel
theorem dX8_init_0 : decode cX8_init 0 = .ok (.aload_n 0, 1) := by decide +kernel
theorem dX8_init_1 : decode cX8_init 1 = .ok (.invokespecial 3, 3) := by decide +kernel
theorem dX8_init_4 : decode cX8_init 4 = .ok (.aload_n 0, 1) := by decide +kernel
theorem dX8_init_5 : decode cX8_init 5 = .ok (.bipush 24, 2) := by decide +kernel
theorem dX8_init_7 : decode cX8_init 7 = .ok (.newarray .int, 2) := by decide +kernel
theorem dX8_init_9 : decode cX8_init 9 = .ok (.putfield 9, 3) := by decide +kernel
theorem dX8_init_12 : decode cX8_init 12 = .ok (.aload_n 0, 1) := by decide +kernel
theorem dX8_init_13 : decode cX8_init 13 = .ok (.bipush 24, 2) := by decide +kernel
theorem dX8_init_15 : decode cX8_init 15 = .ok (.newarray .int, 2) := by decide +kernel
theorem dX8_init_17 : decode cX8_init 17 = .ok (.putfield 15, 3) := by decide +kernel
theorem dX8_init_20 : decode cX8_init 20 = .ok (.return_, 1) := by decide +kernel
theorem dX8_makeFor_0 : decode cX8_makeFor 0 = .ok (.aload_n 1, 1) := by decide +kernel
theorem dX8_makeFor_1 : decode cX8_makeFor 1 = .ok (.getfield 18, 3) := by decide +kernel
theorem dX8_makeFor_4 : decode cX8_makeFor 4 = .ok (.astore_n 3, 1) := by decide +kernel
theorem dX8_makeFor_5 : decode cX8_makeFor 5 = .ok (.aload_n 3, 1) := by decide +kernel
theorem dX8_makeFor_6 : decode cX8_makeFor 6 = .ok (.getfield 24, 3) := by decide +kernel
theorem dX8_makeFor_9 : decode cX8_makeFor 9 = .ok (.iload_n 2, 1) := by decide +kernel
theorem dX8_makeFor_10 : decode cX8_makeFor 10 = .ok (.iaload, 1) := by decide +kernel
theorem dX8_makeFor_11 : decode cX8_makeFor 11 = .ok (.istore 4, 2) := by decide +kernel
theorem dX8_makeFor_13 : decode cX8_makeFor 13 = .ok (.aload_n 0, 1) := by decide +kernel
theorem dX8_makeFor_14 : decode cX8_makeFor 14 = .ok (.iconst 0, 1) := by decide +kernel
theorem dX8_makeFor_15 : decode cX8_makeFor 15 = .ok (.putfield 29, 3) := by decide +kernel
theorem dX8_makeFor_18 : decode cX8_makeFor 18 = .ok (.iload 4, 2) := by decide +kernel
theorem dX8_makeFor_20 : decode cX8_makeFor 20 = .ok (.ifCond .eq 84, 3) := by decide +kernel
theorem dX8_makeFor_23 : decode cX8_makeFor 23 = .ok (.aload_n 0, 1) := by decide +kernel
theorem dX8_makeFor_24 : decode cX8_makeFor 24 = .ok (.getfield 29, 3) := by decide +kernel
theorem dX8_makeFor_27 : decode cX8_makeFor 27 = .ok (.bipush 24, 2) := by decide +kernel
theorem dX8_makeFor_29 : decode cX8_makeFor 29 = .ok (.if_icmp .ge 75, 3) := by decide +kernel
theorem dX8_makeFor_32 : decode cX8_makeFor 32 = .ok (.aload_n 3, 1) := by decide +kernel
theorem dX8_makeFor_33 : decode cX8_makeFor 33 = .ok (.iload 4, 2) := by decide +kernel
theorem dX8_makeFor_35 : decode cX8_makeFor 35 = .ok (.invokevirtual 33, 3) := by decide +kernel
theorem dX8_makeFor_38 : decode cX8_makeFor 38 = .ok (.aload_n 1, 1) := by decide +kernel
theorem dX8_makeFor_39 : decode cX8_makeFor 39 = .ok (.getfield 37, 3) := by decide +kernel
theorem dX8_makeFor_42 : decode cX8_makeFor 42 = .ok (.invokestatic 40, 3) := by decide +kernel
theorem dX8_makeFor_45 : decode cX8_makeFor 45 = .ok (.istore 5, 2) := by decide +kernel
theorem dX8_makeFor_47 : decode cX8_makeFor 47 = .ok (.aload_n 0, 1) := by decide +kernel
theorem dX8_makeFor_48 : decode cX8_makeFor 48 = .ok (.getfield 9, 3) := by decide +kernel
theorem dX8_makeFor_51 : decode cX8_makeFor 51 = .ok (.aload_n 0, 1) := by decide +kernel
theorem dX8_makeFor_52 : decode cX8_makeFor 52 = .ok (.getfield 29, 3) := by decide +kernel
theorem dX8_makeFor_55 : decode cX8_makeFor 55 = .ok (.iload 5, 2) := by decide +kernel
theorem dX8_makeFor_57 : decode cX8_makeFor 57 = .ok (.iastore, 1) := by decide +kernel
theorem dX8_makeFor_58 : decode cX8_makeFor 58 = .ok (.aload_n 0, 1) := by decide +kernel
theorem dX8_makeFor_59 : decode cX8_makeFor 59 = .ok (.getfield 15, 3) := by decide +kernel
theorem dX8_makeFor_62 : decode cX8_makeFor 62 = .ok (.aload_n 0, 1) := by decide +kernel
theorem dX8_makeFor_63 : decode cX8_makeFor 63 = .ok (.getfield 29, 3) := by decide +kernel
theorem dX8_makeFor_66 : decode cX8_makeFor 66 = .ok (.aload_n 3, 1) := by decide +kernel
theorem dX8_makeFor_67 : decode cX8_makeFor 67 = .ok (.iload 5, 2) := by decide +kernel
theorem dX8_makeFor_69 : decode cX8_makeFor 69 = .ok (.iload 4, 2) := by decide +kernel
theorem dX8_makeFor_71 : decode cX8_makeFor 71 = .ok (.invokevirtual 46, 3) := by decide +kernel
theorem dX8_makeFor_74 : decode cX8_makeFor 74 = .ok (.iastore, 1) := by decide +kernel
theorem dX8_makeFor_75 : decode cX8_makeFor 75 = .ok (.iload 4, 2) := by decide +kernel
theorem dX8_makeFor_77 : decode cX8_makeFor 77 = .ok (.aload_n 0, 1) := by decide +kernel
theorem dX8_makeFor_78 : decode cX8_makeFor 78 = .ok (.getfield 15, 3) := by decide +kernel
theorem dX8_makeFor_81 : decode cX8_makeFor 81 = .ok (.aload_n 0, 1) := by decide +kernel
theorem dX8_makeFor_82 : decode cX8_makeFor 82 = .ok (.getfield 29, 3) := by decide +kernel
theorem dX8_makeFor_85 : decode cX8_makeFor 85 = .ok (.iaload, 1) := by decide +kernel
theorem dX8_makeFor_86 : decode cX8_makeFor 86 = .ok (.iconst (-1), 1) := by decide +kernel
theorem dX8_makeFor_87 : decode cX8_makeFor 87 = .ok (.ixor, 1) := by decide +kernel
theorem dX8_makeFor_88 : decode cX8_makeFor 88 = .ok (.iand, 1) := by decide +kernel
theorem dX8_makeFor_89 : decode cX8_makeFor 89 = .ok (.istore 4, 2) := by decide +kernel
theorem dX8_makeFor_91 : decode cX8_makeFor 91 = .ok (.aload_n 0, 1) := by decide +kernel
theorem dX8_makeFor_92 : decode cX8_makeFor 92 = .ok (.dup, 1) := by decide +kernel
theorem dX8_makeFor_93 : decode cX8_makeFor 93 = .ok (.getfield 29, 3) := by decide +kernel
theorem dX8_makeFor_96 : decode cX8_makeFor 96 = .ok (.iconst 1, 1) := by decide +kernel
theorem dX8_makeFor_97 : decode cX8_makeFor 97 = .ok (.iadd, 1) := by decide +kernel
theorem dX8_makeFor_98 : decode cX8_makeFor 98 = .ok (.putfield 29, 3) := by decide +kernel
theorem dX8_makeFor_101 : decode cX8_makeFor 101 = .ok (.goto (-83), 3) := by decide +kernel
theorem dX8_makeFor_104 : decode cX8_makeFor 104 = .ok (.return_, 1) := by decide +kernel
