theorem dX0_init_0 : decode cX0_init 0 = .ok (.aload_n 0, 1) := by decide +kernel
theorem dX0_init_1 : decode cX0_init 1 = .ok (.invokespecial 3, 3) := by decide +kernel
theorem dX0_init_4 : decode cX0_init 4 = .ok (.aload_n 0, 1) := by decide +kernel
theorem dX0_init_5 : decode cX0_init 5 = .ok (.bipush 10, 2) := by decide +kernel
theorem dX0_init_7 : decode cX0_init 7 = .ok (.anewarray 9, 3) := by decide +kernel
theorem dX0_init_10 : decode cX0_init 10 = .ok (.putfield 11, 3) := by decide +kernel
theorem dX0_init_13 : decode cX0_init 13 = .ok (.iconst 0, 1) := by decide +kernel
theorem dX0_init_14 : decode cX0_init 14 = .ok (.istore_n 2, 1) := by decide +kernel
theorem dX0_init_15 : decode cX0_init 15 = .ok (.iload_n 2, 1) := by decide +kernel
theorem dX0_init_16 : decode cX0_init 16 = .ok (.aload_n 0, 1) := by decide +kernel
theorem dX0_init_17 : decode cX0_init 17 = .ok (.getfield 11, 3) := by decide +kernel
theorem dX0_init_20 : decode cX0_init 20 = .ok (.arraylength, 1) := by decide +kernel
theorem dX0_init_21 : decode cX0_init 21 = .ok (.if_icmp .ge 23, 3) := by decide +kernel
theorem dX0_init_24 : decode cX0_init 24 = .ok (.aload_n 0, 1) := by decide +kernel
theorem dX0_init_25 : decode cX0_init 25 = .ok (.getfield 11, 3) := by decide +kernel
theorem dX0_init_28 : decode cX0_init 28 = .ok (.iload_n 2, 1) := by decide +kernel
theorem dX0_init_29 : decode cX0_init 29 = .ok (.new 9, 3) := by decide +kernel
theorem dX0_init_32 : decode cX0_init 32 = .ok (.dup, 1) := by decide +kernel
theorem dX0_init_33 : decode cX0_init 33 = .ok (.aload_n 1, 1) := by decide +kernel
theorem dX0_init_34 : decode cX0_init 34 = .ok (.invokespecial 17, 3) := by decide +kernel
theorem dX0_init_37 : decode cX0_init 37 = .ok (.aastore, 1) := by decide +kernel
theorem dX0_init_38 : decode cX0_init 38 = .ok (.iinc 2 1, 3) := by decide +kernel
theorem dX0_init_41 : decode cX0_init 41 = .ok (.goto (-26), 3) := by decide +kernel
theorem dX0_init_44 : decode cX0_init 44 = .ok (.return_, 1) := by decide +kernel
theorem dX0_forgetAll_0 : decode cX0_forgetAll 0 = .ok (.aload_n 0, 1) := by decide +kernel
theorem dX0_forgetAll_1 : decode cX0_forgetAll 1 = .ok (.iconst 0, 1) := by decide +kernel
theorem dX0_forgetAll_2 : decode cX0_forgetAll 2 = .ok (.putfield 20, 3) := by decide +kernel
theorem dX0_forgetAll_5 : decode cX0_forgetAll 5 = .ok (.return_, 1) := by decide +kernel
theorem dX0_remember_0 : decode cX0_remember 0 = .ok (.aload_n 0, 1) := by decide +kernel
theorem dX0_remember_1 : decode cX0_remember 1 = .ok (.aload_n 0, 1) := by decide +kernel
theorem dX0_remember_2 : decode cX0_remember 2 = .ok (.getfield 24, 3) := by decide +kernel
theorem dX0_remember_5 : decode cX0_remember 5 = .ok (.iconst 1, 1) := by decide +kernel
theorem dX0_remember_6 : decode cX0_remember 6 = .ok (.iadd, 1) := by decide +kernel
theorem dX0_remember_7 : decode cX0_remember 7 = .ok (.aload_n 0, 1) := by decide +kernel
theorem dX0_remember_8 : decode cX0_remember 8 = .ok (.getfield 11, 3) := by decide +kernel
theorem dX0_remember_11 : decode cX0_remember 11 = .ok (.arraylength, 1) := by decide +kernel
theorem dX0_remember_12 : decode cX0_remember 12 = .ok (.if_icmp .ge 12, 3) := by decide +kernel
theorem dX0_remember_15 : decode cX0_remember 15 = .ok (.aload_n 0, 1) := by decide +kernel
theorem dX0_remember_16 : decode cX0_remember 16 = .ok (.getfield 24, 3) := by decide +kernel
theorem dX0_remember_19 : decode cX0_remember 19 = .ok (.iconst 1, 1) := by decide +kernel
theorem dX0_remember_20 : decode cX0_remember 20 = .ok (.iadd, 1) := by decide +kernel
theorem dX0_remember_21 : decode cX0_remember 21 = .ok (.goto 4, 3) := by decide +kernel
theorem dX0_remember_24 : decode cX0_remember 24 = .ok (.iconst 0, 1) := by decide +kernel
theorem dX0_remember_25 : decode cX0_remember 25 = .ok (.putfield 24, 3) := by decide +kernel
theorem dX0_remember_28 : decode cX0_remember 28 = .ok (.aload_n 0, 1) := by decide +kernel
theorem dX0_remember_29 : decode cX0_remember 29 = .ok (.getfield 11, 3) := by decide +kernel
theorem dX0_remember_32 : decode cX0_remember 32 = .ok (.aload_n 0, 1) := by decide +kernel
theorem dX0_remember_33 : decode cX0_remember 33 = .ok (.getfield 24, 3) := by decide +kernel
theorem dX0_remember_36 : decode cX0_remember 36 = .ok (.aaload, 1) := by decide +kernel
theorem dX0_remember_37 : decode cX0_remember 37 = .ok (.astore_n 2, 1) := by decide +kernel
theorem dX0_remember_38 : decode cX0_remember 38 = .ok (.aload_n 2, 1) := by decide +kernel
theorem dX0_remember_39 : decode cX0_remember 39 = .ok (.ifnull 8, 3) := by decide +kernel
theorem dX0_remember_42 : decode cX0_remember 42 = .ok (.aload_n 2, 1) := by decide +kernel
theorem dX0_remember_43 : decode cX0_remember 43 = .ok (.aload_n 1, 1) := by decide +kernel
theorem dX0_remember_44 : decode cX0_remember 44 = .ok (.invokevirtual 27, 3) := by decide +kernel
theorem dX0_remember_47 : decode cX0_remember 47 = .ok (.aload_n 0, 1) := by decide +kernel
theorem dX0_remember_48 : decode cX0_remember 48 = .ok (.aload_n 0, 1) := by decide +kernel
theorem dX0_remember_49 : decode cX0_remember 49 = .ok (.getfield 20, 3) := by decide +kernel
theorem dX0_remember_52 : decode cX0_remember 52 = .ok (.iconst 1, 1) := by decide +kernel
theorem dX0_remember_53 : decode cX0_remember 53 = .ok (.iadd, 1) := by decide +kernel
theorem dX0_remember_54 : decode cX0_remember 54 = .ok (.aload_n 0, 1) := by decide +kernel
theorem dX0_remember_55 : decode cX0_remember 55 = .ok (.getfield 11, 3) := by decide +kernel
theorem dX0_remember_58 : decode cX0_remember 58 = .ok (.arraylength, 1) := by decide +kernel
theorem dX0_remember_59 : decode cX0_remember 59 = .ok (.invokestatic 31, 3) := by decide +kernel
theorem dX0_remember_62 : decode cX0_remember 62 = .ok (.putfield 20, 3) := by decide +kernel
theorem dX0_remember_65 : decode cX0_remember 65 = .ok (.return_, 1) := by decide +kernel
theorem dX0_takeBackInto_0 : decode cX0_takeBackInto 0 = .ok (.aload_n 0, 1) := by decide +kernel
theorem dX0_takeBackInto_1 : decode cX0_takeBackInto 1 = .ok (.getfield 11, 3) := by decide +kernel
theorem dX0_takeBackInto_4 : decode cX0_takeBackInto 4 = .ok (.aload_n 0, 1) := by decide +kernel
theorem dX0_takeBackInto_5 : decode cX0_takeBackInto 5 = .ok (.getfield 24, 3) := by decide +kernel
theorem dX0_takeBackInto_8 : decode cX0_takeBackInto 8 = .ok (.aaload, 1) := by decide +kernel
theorem dX0_takeBackInto_9 : decode cX0_takeBackInto 9 = .ok (.astore_n 2, 1) := by decide +kernel
theorem dX0_takeBackInto_10 : decode cX0_takeBackInto 10 = .ok (.aload_n 2, 1) := by decide +kernel
theorem dX0_takeBackInto_11 : decode cX0_takeBackInto 11 = .ok (.ifnull 52, 3) := by decide +kernel
theorem dX0_takeBackInto_14 : decode cX0_takeBackInto 14 = .ok (.aload_n 0, 1) := by decide +kernel
theorem dX0_takeBackInto_15 : decode cX0_takeBackInto 15 = .ok (.getfield 20, 3) := by decide +kernel
theorem dX0_takeBackInto_18 : decode cX0_takeBackInto 18 = .ok (.ifCond .le 45, 3) := by decide +kernel
theorem dX0_takeBackInto_21 : decode cX0_takeBackInto 21 = .ok (.aload_n 1, 1) := by decide +kernel
theorem dX0_takeBackInto_22 : decode cX0_takeBackInto 22 = .ok (.aload_n 2, 1) := by decide +kernel
theorem dX0_takeBackInto_23 : decode cX0_takeBackInto 23 = .ok (.invokevirtual 27, 3) := by decide +kernel
theorem dX0_takeBackInto_26 : decode cX0_takeBackInto 26 = .ok (.aload_n 0, 1) := by decide +kernel
theorem dX0_takeBackInto_27 : decode cX0_takeBackInto 27 = .ok (.aload_n 0, 1) := by decide +kernel
theorem dX0_takeBackInto_28 : decode cX0_takeBackInto 28 = .ok (.getfield 24, 3) := by decide +kernel
theorem dX0_takeBackInto_31 : decode cX0_takeBackInto 31 = .ok (.ifCond .le 12, 3) := by decide +kernel
theorem dX0_takeBackInto_34 : decode cX0_takeBackInto 34 = .ok (.aload_n 0, 1) := by decide +kernel
theorem dX0_takeBackInto_35 : decode cX0_takeBackInto 35 = .ok (.getfield 24, 3) := by decide +kernel
theorem dX0_takeBackInto_38 : decode cX0_takeBackInto 38 = .ok (.iconst 1, 1) := by decide +kernel
theorem dX0_takeBackInto_39 : decode cX0_takeBackInto 39 = .ok (.isub, 1) := by decide +kernel
theorem dX0_takeBackInto_40 : decode cX0_takeBackInto 40 = .ok (.goto 10, 3) := by decide +kernel
theorem dX0_takeBackInto_43 : decode cX0_takeBackInto 43 = .ok (.aload_n 0, 1) := by decide +kernel
theorem dX0_takeBackInto_44 : decode cX0_takeBackInto 44 = .ok (.getfield 11, 3) := by decide +kernel
theorem dX0_takeBackInto_47 : decode cX0_takeBackInto 47 = .ok (.arraylength, 1) := by decide +kernel
theorem dX0_takeBackInto_48 : decode cX0_takeBackInto 48 = .ok (.iconst 1, 1) := by decide +kernel
theorem dX0_takeBackInto_49 : decode cX0_takeBackInto 49 = .ok (.isub, 1) := by decide +kernel
theorem dX0_takeBackInto_50 : decode cX0_takeBackInto 50 = .ok (.putfield 24, 3) := by decide +kernel
theorem dX0_takeBackInto_53 : decode cX0_takeBackInto 53 = .ok (.aload_n 0, 1) := by decide +kernel
theorem dX0_takeBackInto_54 : decode cX0_takeBackInto 54 = .ok (.dup, 1) := by decide +kernel
theorem dX0_takeBackInto_55 : decode cX0_takeBackInto 55 = .ok (.getfield 20, 3) := by decide +kernel
theorem dX0_takeBackInto_58 : decode cX0_takeBackInto 58 = .ok (.iconst 1, 1) := by decide +kernel
theorem dX0_takeBackInto_59 : decode cX0_takeBackInto 59 = .ok (.isub, 1) := by decide +kernel
theorem dX0_takeBackInto_60 : decode cX0_takeBackInto 60 = .ok (.putfield 20, 3) := by decide +kernel
theorem dX0_takeBackInto_63 : decode cX0_takeBackInto 63 = .ok (.return_, 1) := by decide +kernel
theorem dX1_init_0 : decode cX1_init 0 = .ok (.aload_n 0, 1) := by decide +kernel
theorem dX1_init_1 : decode cX1_init 1 = .ok (.invokespecial 3, 3) := by decide +kernel
theorem dX1_init_4 : decode cX1_init 4 = .ok (.aload_n 0, 1) := by decide +kernel
theorem dX1_init_5 : decode cX1_init 5 = .ok (.iconst 4, 1) := by decide +kernel
theorem dX1_init_6 : decode cX1_init 6 = .ok (.newarray .int, 2) := by decide +kernel
theorem dX1_init_8 : decode cX1_init 8 = .ok (.putfield 9, 3) := by decide +kernel
theorem dX1_init_11 : decode cX1_init 11 = .ok (.aload_n 0, 1) := by decide +kernel
theorem dX1_init_12 : decode cX1_init 12 = .ok (.iconst 4, 1) := by decide +kernel
theorem dX1_init_13 : decode cX1_init 13 = .ok (.newarray .int, 2) := by decide +kernel
theorem dX1_init_15 : decode cX1_init 15 = .ok (.putfield 15, 3) := by decide +kernel
theorem dX1_init_18 : decode cX1_init 18 = .ok (.aload_n 0, 1) := by decide +kernel
theorem dX1_init_19 : decode cX1_init 19 = .ok (.bipush 24, 2) := by decide +kernel
theorem dX1_init_21 : decode cX1_init 21 = .ok (.newarray .int, 2) := by decide +kernel
theorem dX1_init_23 : decode cX1_init 23 = .ok (.putfield 18, 3) := by decide +kernel
theorem dX1_init_26 : decode cX1_init 26 = .ok (.aload_n 0, 1) := by decide +kernel
theorem dX1_init_27 : decode cX1_init 27 = .ok (.bipush 24, 2) := by decide +kernel
theorem dX1_init_29 : decode cX1_init 29 = .ok (.newarray .int, 2) := by decide +kernel
theorem dX1_init_31 : decode cX1_init 31 = .ok (.putfield 21, 3) := by decide +kernel
theorem dX1_init_34 : decode cX1_init 34 = .ok (.aload_n 0, 1) := by decide +kernel
theorem dX1_init_35 : decode cX1_init 35 = .ok (.bipush 24, 2) := by decide +kernel
theorem dX1_init_37 : decode cX1_init 37 = .ok (.newarray .int, 2) := by decide +kernel
theorem dX1_init_39 : decode cX1_init 39 = .ok (.putfield 24, 3) := by decide +kernel
theorem dX1_init_42 : decode cX1_init 42 = .ok (.aload_n 0, 1) := by decide +kernel
theorem dX1_init_43 : decode cX1_init 43 = .ok (.bipush 24, 2) := by decide +kernel
theorem dX1_init_45 : decode cX1_init 45 = .ok (.newarray .int, 2) := by decide +kernel
theorem dX1_init_47 : decode cX1_init 47 = .ok (.putfield 27, 3) := by decide +kernel
theorem dX1_init_50 : decode cX1_init 50 = .ok (.aload_n 0, 1) := by decide +kernel
theorem dX1_init_51 : decode cX1_init 51 = .ok (.bipush 24, 2) := by decide +kernel
theorem dX1_init_53 : decode cX1_init 53 = .ok (.newarray .int, 2) := by decide +kernel
theorem dX1_init_55 : decode cX1_init 55 = .ok (.putfield 30, 3) := by decide +kernel
theorem dX1_init_58 : decode cX1_init 58 = .ok (.aload_n 0, 1) := by decide +kernel
theorem dX1_init_59 : decode cX1_init 59 = .ok (.bipush 24, 2) := by decide +kernel
theorem dX1_init_61 : decode cX1_init 61 = .ok (.newarray .int, 2) := by decide +kernel
theorem dX1_init_63 : decode cX1_init 63 = .ok (.putfield 33, 3) := by decide +kernel
theorem dX1_init_66 : decode cX1_init 66 = .ok (.aload_n 0, 1) := by decide +kernel
theorem dX1_init_67 : decode cX1_init 67 = .ok (.bipush 24, 2) := by decide +kernel
theorem dX1_init_69 : decode cX1_init 69 = .ok (.newarray .int, 2) := by decide +kernel
theorem dX1_init_71 : decode cX1_init 71 = .ok (.putfield 36, 3) := by decide +kernel
theorem dX1_init_74 : decode cX1_init 74 = .ok (.aload_n 0, 1) := by decide +kernel
theorem dX1_init_75 : decode cX1_init 75 = .ok (.bipush 24, 2) := by decide +kernel
theorem dX1_init_77 : decode cX1_init 77 = .ok (.newarray .int, 2) := by decide +kernel
theorem dX1_init_79 : decode cX1_init 79 = .ok (.putfield 39, 3) := by decide +kernel
theorem dX1_init_82 : decode cX1_init 82 = .ok (.aload_n 0, 1) := by decide +kernel
theorem dX1_init_83 : decode cX1_init 83 = .ok (.bipush 8, 2) := by decide +kernel
theorem dX1_init_85 : decode cX1_init 85 = .ok (.newarray .int, 2) := by decide +kernel
theorem dX1_init_87 : decode cX1_init 87 = .ok (.putfield 42, 3) := by decide +kernel
theorem dX1_init_90 : decode cX1_init 90 = .ok (.aload_n 0, 1) := by decide +kernel
theorem dX1_init_91 : decode cX1_init 91 = .ok (.bipush 8, 2) := by decide +kernel
theorem dX1_init_93 : decode cX1_init 93 = .ok (.newarray .int, 2) := by decide +kernel
theorem dX1_init_95 : decode cX1_init 95 = .ok (.putfield 45, 3) := by decide +kernel
theorem dX1_init_98 : decode cX1_init 98 = .ok (.return_, 1) := by decide +kernel
theorem dX1_reset_0 : decode cX1_reset 0 = .ok (.aload_n 0, 1) := by decide +kernel
theorem dX1_reset_1 : decode cX1_reset 1 = .ok (.iconst 0, 1) := by decide +kernel
theorem dX1_reset_2 : decode cX1_reset 2 = .ok (.putfield 48, 3) := by decide +kernel
theorem dX1_reset_5 : decode cX1_reset 5 = .ok (.aload_n 0, 1) := by decide +kernel
theorem dX1_reset_6 : decode cX1_reset 6 = .ok (.iconst 0, 1) := by decide +kernel
theorem dX1_reset_7 : decode cX1_reset 7 = .ok (.putfield 52, 3) := by decide +kernel
theorem dX1_reset_10 : decode cX1_reset 10 = .ok (.aload_n 0, 1) := by decide +kernel
theorem dX1_reset_11 : decode cX1_reset 11 = .ok (.iconst 0, 1) := by decide +kernel
theorem dX1_reset_12 : decode cX1_reset 12 = .ok (.putfield 55, 3) := by decide +kernel
theorem dX1_reset_15 : decode cX1_reset 15 = .ok (.iconst 0, 1) := by decide +kernel
theorem dX1_reset_16 : decode cX1_reset 16 = .ok (.istore_n 1, 1) := by decide +kernel
theorem dX1_reset_17 : decode cX1_reset 17 = .ok (.iload_n 1, 1) := by decide +kernel
theorem dX1_reset_18 : decode cX1_reset 18 = .ok (.iconst 4, 1) := by decide +kernel
theorem dX1_reset_19 : decode cX1_reset 19 = .ok (.if_icmp .ge 23, 3) := by decide +kernel
theorem dX1_reset_22 : decode cX1_reset 22 = .ok (.aload_n 0, 1) := by decide +kernel
theorem dX1_reset_23 : decode cX1_reset 23 = .ok (.getfield 9, 3) := by decide +kernel
theorem dX1_reset_26 : decode cX1_reset 26 = .ok (.iload_n 1, 1) := by decide +kernel
theorem dX1_reset_27 : decode cX1_reset 27 = .ok (.iconst 0, 1) := by decide +kernel
theorem dX1_reset_28 : decode cX1_reset 28 = .ok (.iastore, 1) := by decide +kernel
theorem dX1_reset_29 : decode cX1_reset 29 = .ok (.aload_n 0, 1) := by decide +kernel
theorem dX1_reset_30 : decode cX1_reset 30 = .ok (.getfield 15, 3) := by decide +kernel
theorem dX1_reset_33 : decode cX1_reset 33 = .ok (.iload_n 1, 1) := by decide +kernel
theorem dX1_reset_34 : decode cX1_reset 34 = .ok (.iconst 0, 1) := by decide +kernel
theorem dX1_reset_35 : decode cX1_reset 35 = .ok (.iastore, 1) := by decide +kernel
theorem dX1_reset_36 : decode cX1_reset 36 = .ok (.iinc 1 1, 3) := by decide +kernel
theorem dX1_reset_39 : decode cX1_reset 39 = .ok (.goto (-22), 3) := by decide +kernel
theorem dX1_reset_42 : decode cX1_reset 42 = .ok (.iconst 0, 1) := by decide +kernel
theorem dX1_reset_43 : decode cX1_reset 43 = .ok (.istore_n 1, 1) := by decide +kernel
theorem dX1_reset_44 : decode cX1_reset 44 = .ok (.iload_n 1, 1) := by decide +kernel
theorem dX1_reset_45 : decode cX1_reset 45 = .ok (.bipush 8, 2) := by decide +kernel
theorem dX1_reset_47 : decode cX1_reset 47 = .ok (.if_icmp .ge 23, 3) := by decide +kernel
theorem dX1_reset_50 : decode cX1_reset 50 = .ok (.aload_n 0, 1) := by decide +kernel
theorem dX1_reset_51 : decode cX1_reset 51 = .ok (.getfield 42, 3) := by decide +kernel
theorem dX1_reset_54 : decode cX1_reset 54 = .ok (.iload_n 1, 1) := by decide +kernel
theorem dX1_reset_55 : decode cX1_reset 55 = .ok (.iconst 0, 1) := by decide +kernel
theorem dX1_reset_56 : decode cX1_reset 56 = .ok (.iastore, 1) := by decide +kernel
theorem dX1_reset_57 : decode cX1_reset 57 = .ok (.aload_n 0, 1) := by decide +kernel
theorem dX1_reset_58 : decode cX1_reset 58 = .ok (.getfield 45, 3) := by decide +kernel
theorem dX1_reset_61 : decode cX1_reset 61 = .ok (.iload_n 1, 1) := by decide +kernel
theorem dX1_reset_62 : decode cX1_reset 62 = .ok (.iconst 0, 1) := by decide +kernel
theorem dX1_reset_63 : decode cX1_reset 63 = .ok (.iastore, 1) := by decide +kernel
theorem dX1_reset_64 : decode cX1_reset 64 = .ok (.iinc 1 1, 3) := by decide +kernel
theorem dX1_reset_67 : decode cX1_reset 67 = .ok (.goto (-23), 3) := by decide +kernel
theorem dX1_reset_70 : decode cX1_reset 70 = .ok (.return_, 1) := by decide +kernel
theorem dX1_copyFrom_0 : decode cX1_copyFrom 0 = .ok (.aload_n 0, 1) := by decide +kernel
theorem dX1_copyFrom_1 : decode cX1_copyFrom 1 = .ok (.aload_n 1, 1) := by decide +kernel
theorem dX1_copyFrom_2 : decode cX1_copyFrom 2 = .ok (.getfield 48, 3) := by decide +kernel
theorem dX1_copyFrom_5 : decode cX1_copyFrom 5 = .ok (.putfield 48, 3) := by decide +kernel
theorem dX1_copyFrom_8 : decode cX1_copyFrom 8 = .ok (.aload_n 0, 1) := by decide +kernel
theorem dX1_copyFrom_9 : decode cX1_copyFrom 9 = .ok (.aload_n 1, 1) := by decide +kernel
theorem dX1_copyFrom_10 : decode cX1_copyFrom 10 = .ok (.getfield 52, 3) := by decide +kernel
theorem dX1_copyFrom_13 : decode cX1_copyFrom 13 = .ok (.putfield 52, 3) := by decide +kernel
theorem dX1_copyFrom_16 : decode cX1_copyFrom 16 = .ok (.aload_n 0, 1) := by decide +kernel
theorem dX1_copyFrom_17 : decode cX1_copyFrom 17 = .ok (.aload_n 1, 1) := by decide +kernel
theorem dX1_copyFrom_18 : decode cX1_copyFrom 18 = .ok (.getfield 55, 3) := by decide +kernel
theorem dX1_copyFrom_21 : decode cX1_copyFrom 21 = .ok (.putfield 55, 3) := by decide +kernel
theorem dX1_copyFrom_24 : decode cX1_copyFrom 24 = .ok (.aload_n 1, 1) := by decide +kernel
theorem dX1_copyFrom_25 : decode cX1_copyFrom 25 = .ok (.getfield 9, 3) := by decide +kernel
theorem dX1_copyFrom_28 : decode cX1_copyFrom 28 = .ok (.aload_n 0, 1) := by decide +kernel
theorem dX1_copyFrom_29 : decode cX1_copyFrom 29 = .ok (.getfield 9, 3) := by decide +kernel
theorem dX1_copyFrom_32 : decode cX1_copyFrom 32 = .ok (.invokestatic 58, 3) := by decide +kernel
theorem dX1_copyFrom_35 : decode cX1_copyFrom 35 = .ok (.aload_n 1, 1) := by decide +kernel
theorem dX1_copyFrom_36 : decode cX1_copyFrom 36 = .ok (.getfield 15, 3) := by decide +kernel
theorem dX1_copyFrom_39 : decode cX1_copyFrom 39 = .ok (.aload_n 0, 1) := by decide +kernel
theorem dX1_copyFrom_40 : decode cX1_copyFrom 40 = .ok (.getfield 15, 3) := by decide +kernel
theorem dX1_copyFrom_43 : decode cX1_copyFrom 43 = .ok (.invokestatic 58, 3) := by decide +kernel
theorem dX1_copyFrom_46 : decode cX1_copyFrom 46 = .ok (.aload_n 1, 1) := by decide +kernel
theorem dX1_copyFrom_47 : decode cX1_copyFrom 47 = .ok (.getfield 18, 3) := by decide +kernel
theorem dX1_copyFrom_50 : decode cX1_copyFrom 50 = .ok (.aload_n 0, 1) := by decide +kernel
theorem dX1_copyFrom_51 : decode cX1_copyFrom 51 = .ok (.getfield 18, 3) := by decide +kernel
theorem dX1_copyFrom_54 : decode cX1_copyFrom 54 = .ok (.invokestatic 58, 3) := by decide +kernel
theorem dX1_copyFrom_57 : decode cX1_copyFrom 57 = .ok (.aload_n 1, 1) := by decide +kernel
theorem dX1_copyFrom_58 : decode cX1_copyFrom 58 = .ok (.getfield 21, 3) := by decide +kernel
theorem dX1_copyFrom_61 : decode cX1_copyFrom 61 = .ok (.aload_n 0, 1) := by decide +kernel
theorem dX1_copyFrom_62 : decode cX1_copyFrom 62 = .ok (.getfield 21, 3) := by decide +kernel
theorem dX1_copyFrom_65 : decode cX1_copyFrom 65 = .ok (.invokestatic 58, 3) := by decide +kernel
theorem dX1_copyFrom_68 : decode cX1_copyFrom 68 = .ok (.aload_n 1, 1) := by decide +kernel
theorem dX1_copyFrom_69 : decode cX1_copyFrom 69 = .ok (.getfield 24, 3) := by decide +kernel
theorem dX1_copyFrom_72 : decode cX1_copyFrom 72 = .ok (.aload_n 0, 1) := by decide +kernel
theorem dX1_copyFrom_73 : decode cX1_copyFrom 73 = .ok (.getfield 24, 3) := by decide +kernel
theorem dX1_copyFrom_76 : decode cX1_copyFrom 76 = .ok (.invokestatic 58, 3) := by decide +kernel
theorem dX1_copyFrom_79 : decode cX1_copyFrom 79 = .ok (.aload_n 1, 1) := by decide +kernel
theorem dX1_copyFrom_80 : decode cX1_copyFrom 80 = .ok (.getfield 27, 3) := by decide +kernel
theorem dX1_copyFrom_83 : decode cX1_copyFrom 83 = .ok (.aload_n 0, 1) := by decide +kernel
theorem dX1_copyFrom_84 : decode cX1_copyFrom 84 = .ok (.getfield 27, 3) := by decide +kernel
theorem dX1_copyFrom_87 : decode cX1_copyFrom 87 = .ok (.invokestatic 58, 3) := by decide +kernel
theorem dX1_copyFrom_90 : decode cX1_copyFrom 90 = .ok (.aload_n 1, 1) := by decide +kernel
theorem dX1_copyFrom_91 : decode cX1_copyFrom 91 = .ok (.getfield 30, 3) := by decide +kernel
theorem dX1_copyFrom_94 : decode cX1_copyFrom 94 = .ok (.aload_n 0, 1) := by decide +kernel
theorem dX1_copyFrom_95 : decode cX1_copyFrom 95 = .ok (.getfield 30, 3) := by decide +kernel
theorem dX1_copyFrom_98 : decode cX1_copyFrom 98 = .ok (.invokestatic 58, 3) := by decide +kernel
theorem dX1_copyFrom_101 : decode cX1_copyFrom 101 = .ok (.aload_n 1, 1) := by decide +kernel
theorem dX1_copyFrom_102 : decode cX1_copyFrom 102 = .ok (.getfield 33, 3) := by decide +kernel
theorem dX1_copyFrom_105 : decode cX1_copyFrom 105 = .ok (.aload_n 0, 1) := by decide +kernel
theorem dX1_copyFrom_106 : decode cX1_copyFrom 106 = .ok (.getfield 33, 3) := by decide +kernel
theorem dX1_copyFrom_109 : decode cX1_copyFrom 109 = .ok (.invokestatic 58, 3) := by decide +kernel
theorem dX1_copyFrom_112 : decode cX1_copyFrom 112 = .ok (.aload_n 1, 1) := by decide +kernel
theorem dX1_copyFrom_113 : decode cX1_copyFrom 113 = .ok (.getfield 36, 3) := by decide +kernel
theorem dX1_copyFrom_116 : decode cX1_copyFrom 116 = .ok (.aload_n 0, 1) := by decide +kernel
theorem dX1_copyFrom_117 : decode cX1_copyFrom 117 = .ok (.getfield 36, 3) := by decide +kernel
theorem dX1_copyFrom_120 : decode cX1_copyFrom 120 = .ok (.invokestatic 58, 3) := by decide +kernel
theorem dX1_copyFrom_123 : decode cX1_copyFrom 123 = .ok (.aload_n 1, 1) := by decide +kernel
theorem dX1_copyFrom_124 : decode cX1_copyFrom 124 = .ok (.getfield 39, 3) := by decide +kernel
theorem dX1_copyFrom_127 : decode cX1_copyFrom 127 = .ok (.aload_n 0, 1) := by decide +kernel
theorem dX1_copyFrom_128 : decode cX1_copyFrom 128 = .ok (.getfield 39, 3) := by decide +kernel
theorem dX1_copyFrom_131 : decode cX1_copyFrom 131 = .ok (.invokestatic 58, 3) := by decide +kernel
theorem dX1_copyFrom_134 : decode cX1_copyFrom 134 = .ok (.aload_n 1, 1) := by decide +kernel
theorem dX1_copyFrom_135 : decode cX1_copyFrom 135 = .ok (.getfield 42, 3) := by decide +kernel
theorem dX1_copyFrom_138 : decode cX1_copyFrom 138 = .ok (.aload_n 0, 1) := by decide +kernel
theorem dX1_copyFrom_139 : decode cX1_copyFrom 139 = .ok (.getfield 42, 3) := by decide +kernel
theorem dX1_copyFrom_142 : decode cX1_copyFrom 142 = .ok (.invokestatic 58, 3) := by decide +kernel
theorem dX1_copyFrom_145 : decode cX1_copyFrom 145 = .ok (.aload_n 1, 1) := by decide +kernel
theorem dX1_copyFrom_146 : decode cX1_copyFrom 146 = .ok (.getfield 45, 3) := by decide +kernel
theorem dX1_copyFrom_149 : decode cX1_copyFrom 149 = .ok (.aload_n 0, 1) := by decide +kernel
theorem dX1_copyFrom_150 : decode cX1_copyFrom 150 = .ok (.getfield 45, 3) := by decide +kernel
theorem dX1_copyFrom_153 : decode cX1_copyFrom 153 = .ok (.invokestatic 58, 3) := by decide +kernel
theorem dX1_copyFrom_156 : decode cX1_copyFrom 156 = .ok (.return_, 1) := by decide +kernel
theorem dX1_addTo_0 : decode cX1_addTo 0 = .ok (.aload_n 0, 1) := by decide +kernel
theorem dX1_addTo_1 : decode cX1_addTo 1 = .ok (.getfield 48, 3) := by decide +kernel
theorem dX1_addTo_4 : decode cX1_addTo 4 = .ok (.istore 4, 2) := by decide +kernel
theorem dX1_addTo_6 : decode cX1_addTo 6 = .ok (.iload 4, 2) := by decide +kernel
theorem dX1_addTo_8 : decode cX1_addTo 8 = .ok (.bipush 24, 2) := by decide +kernel
theorem dX1_addTo_10 : decode cX1_addTo 10 = .ok (.if_icmp .lt 6, 3) := by decide +kernel
theorem dX1_addTo_13 : decode cX1_addTo 13 = .ok (.bipush (-2), 2) := by decide +kernel
theorem dX1_addTo_15 : decode cX1_addTo 15 = .ok (.ireturn, 1) := by decide +kernel
theorem dX1_addTo_16 : decode cX1_addTo 16 = .ok (.aload_n 0, 1) := by decide +kernel
theorem dX1_addTo_17 : decode cX1_addTo 17 = .ok (.getfield 18, 3) := by decide +kernel
theorem dX1_addTo_20 : decode cX1_addTo 20 = .ok (.iload 4, 2) := by decide +kernel
theorem dX1_addTo_22 : decode cX1_addTo 22 = .ok (.iload_n 1, 1) := by decide +kernel
theorem dX1_addTo_23 : decode cX1_addTo 23 = .ok (.iastore, 1) := by decide +kernel
theorem dX1_addTo_24 : decode cX1_addTo 24 = .ok (.aload_n 0, 1) := by decide +kernel
theorem dX1_addTo_25 : decode cX1_addTo 25 = .ok (.getfield 21, 3) := by decide +kernel
theorem dX1_addTo_28 : decode cX1_addTo 28 = .ok (.iload 4, 2) := by decide +kernel
theorem dX1_addTo_30 : decode cX1_addTo 30 = .ok (.iload_n 2, 1) := by decide +kernel
theorem dX1_addTo_31 : decode cX1_addTo 31 = .ok (.iastore, 1) := by decide +kernel
theorem dX1_addTo_32 : decode cX1_addTo 32 = .ok (.aload_n 0, 1) := by decide +kernel
theorem dX1_addTo_33 : decode cX1_addTo 33 = .ok (.getfield 30, 3) := by decide +kernel
theorem dX1_addTo_36 : decode cX1_addTo 36 = .ok (.iload 4, 2) := by decide +kernel
theorem dX1_addTo_38 : decode cX1_addTo 38 = .ok (.iload_n 3, 1) := by decide +kernel
theorem dX1_addTo_39 : decode cX1_addTo 39 = .ok (.iastore, 1) := by decide +kernel
theorem dX1_addTo_40 : decode cX1_addTo 40 = .ok (.aload_n 0, 1) := by decide +kernel
theorem dX1_addTo_41 : decode cX1_addTo 41 = .ok (.getfield 36, 3) := by decide +kernel
theorem dX1_addTo_44 : decode cX1_addTo 44 = .ok (.iload 4, 2) := by decide +kernel
theorem dX1_addTo_46 : decode cX1_addTo 46 = .ok (.iload_n 3, 1) := by decide +kernel
theorem dX1_addTo_47 : decode cX1_addTo 47 = .ok (.iastore, 1) := by decide +kernel
theorem dX1_addTo_48 : decode cX1_addTo 48 = .ok (.aload_n 0, 1) := by decide +kernel
theorem dX1_addTo_49 : decode cX1_addTo 49 = .ok (.getfield 9, 3) := by decide +kernel
theorem dX1_addTo_52 : decode cX1_addTo 52 = .ok (.iload_n 1, 1) := by decide +kernel
theorem dX1_addTo_53 : decode cX1_addTo 53 = .ok (.aload_n 0, 1) := by decide +kernel
theorem dX1_addTo_54 : decode cX1_addTo 54 = .ok (.getfield 9, 3) := by decide +kernel
theorem dX1_addTo_57 : decode cX1_addTo 57 = .ok (.iload_n 1, 1) := by decide +kernel
theorem dX1_addTo_58 : decode cX1_addTo 58 = .ok (.iaload, 1) := by decide +kernel
theorem dX1_addTo_59 : decode cX1_addTo 59 = .ok (.iload 4, 2) := by decide +kernel
theorem dX1_addTo_61 : decode cX1_addTo 61 = .ok (.invokestatic 62, 3) := by decide +kernel
theorem dX1_addTo_64 : decode cX1_addTo 64 = .ok (.iastore, 1) := by decide +kernel
theorem dX1_addTo_65 : decode cX1_addTo 65 = .ok (.aload_n 0, 1) := by decide +kernel
theorem dX1_addTo_66 : decode cX1_addTo 66 = .ok (.dup, 1) := by decide +kernel
theorem dX1_addTo_67 : decode cX1_addTo 67 = .ok (.getfield 48, 3) := by decide +kernel
theorem dX1_addTo_70 : decode cX1_addTo 70 = .ok (.iconst 1, 1) := by decide +kernel
theorem dX1_addTo_71 : decode cX1_addTo 71 = .ok (.iadd, 1) := by decide +kernel
theorem dX1_addTo_72 : decode cX1_addTo 72 = .ok (.putfield 48, 3) := by decide +kernel
theorem dX1_addTo_75 : decode cX1_addTo 75 = .ok (.iload 4, 2) := by decide +kernel
theorem dX1_addTo_77 : decode cX1_addTo 77 = .ok (.ireturn, 1) := by decide +kernel
theorem dX1_setTimes_0 : decode cX1_setTimes 0 = .ok (.aload_n 0, 1) := by decide +kernel
theorem dX1_setTimes_1 : decode cX1_setTimes 1 = .ok (.iload_n 1, 1) := by decide +kernel
theorem dX1_setTimes_2 : decode cX1_setTimes 2 = .ok (.invokevirtual 66, 3) := by decide +kernel
theorem dX1_setTimes_5 : decode cX1_setTimes 5 = .ok (.ifCond .eq 27, 3) := by decide +kernel
theorem dX1_setTimes_8 : decode cX1_setTimes 8 = .ok (.aload_n 0, 1) := by decide +kernel
theorem dX1_setTimes_9 : decode cX1_setTimes 9 = .ok (.getfield 24, 3) := by decide +kernel
theorem dX1_setTimes_12 : decode cX1_setTimes 12 = .ok (.iload_n 1, 1) := by decide +kernel
theorem dX1_setTimes_13 : decode cX1_setTimes 13 = .ok (.iload_n 2, 1) := by decide +kernel
theorem dX1_setTimes_14 : decode cX1_setTimes 14 = .ok (.iastore, 1) := by decide +kernel
theorem dX1_setTimes_15 : decode cX1_setTimes 15 = .ok (.aload_n 0, 1) := by decide +kernel
theorem dX1_setTimes_16 : decode cX1_setTimes 16 = .ok (.getfield 27, 3) := by decide +kernel
theorem dX1_setTimes_19 : decode cX1_setTimes 19 = .ok (.iload_n 1, 1) := by decide +kernel
theorem dX1_setTimes_20 : decode cX1_setTimes 20 = .ok (.iload_n 3, 1) := by decide +kernel
theorem dX1_setTimes_21 : decode cX1_setTimes 21 = .ok (.iastore, 1) := by decide +kernel
theorem dX1_setTimes_22 : decode cX1_setTimes 22 = .ok (.aload_n 0, 1) := by decide +kernel
theorem dX1_setTimes_23 : decode cX1_setTimes 23 = .ok (.getfield 33, 3) := by decide +kernel
theorem dX1_setTimes_26 : decode cX1_setTimes 26 = .ok (.iload_n 1, 1) := by decide +kernel
theorem dX1_setTimes_27 : decode cX1_setTimes 27 = .ok (.iload_n 2, 1) := by decide +kernel
theorem dX1_setTimes_28 : decode cX1_setTimes 28 = .ok (.iload 4, 2) := by decide +kernel
theorem dX1_setTimes_30 : decode cX1_setTimes 30 = .ok (.iadd, 1) := by decide +kernel
theorem dX1_setTimes_31 : decode cX1_setTimes 31 = .ok (.iastore, 1) := by decide +kernel
theorem dX1_setTimes_32 : decode cX1_setTimes 32 = .ok (.return_, 1) := by decide +kernel
theorem dX1_has_0 : decode cX1_has 0 = .ok (.iload_n 1, 1) := by decide +kernel
theorem dX1_has_1 : decode cX1_has 1 = .ok (.ifCond .lt 15, 3) := by decide +kernel
theorem dX1_has_4 : decode cX1_has 4 = .ok (.iload_n 1, 1) := by decide +kernel
theorem dX1_has_5 : decode cX1_has 5 = .ok (.aload_n 0, 1) := by decide +kernel
theorem dX1_has_6 : decode cX1_has 6 = .ok (.getfield 48, 3) := by decide +kernel
theorem dX1_has_9 : decode cX1_has 9 = .ok (.if_icmp .ge 7, 3) := by decide +kernel
theorem dX1_has_12 : decode cX1_has 12 = .ok (.iconst 1, 1) := by decide +kernel
theorem dX1_has_13 : decode cX1_has 13 = .ok (.goto 4, 3) := by decide +kernel
theorem dX1_has_16 : decode cX1_has 16 = .ok (.iconst 0, 1) := by decide +kernel
theorem dX1_has_17 : decode cX1_has 17 = .ok (.ireturn, 1) := by decide +kernel
theorem dX1_isOver_0 : decode cX1_isOver 0 = .ok (.aload_n 0, 1) := by decide +kernel
theorem dX1_isOver_1 : decode cX1_isOver 1 = .ok (.getfield 52, 3) := by decide +kernel
theorem dX1_isOver_4 : decode cX1_isOver 4 = .ok (.aload_n 0, 1) := by decide +kernel
theorem dX1_isOver_5 : decode cX1_isOver 5 = .ok (.getfield 55, 3) := by decide +kernel
theorem dX1_isOver_8 : decode cX1_isOver 8 = .ok (.ior, 1) := by decide +kernel
theorem dX1_isOver_9 : decode cX1_isOver 9 = .ok (.iload_n 1, 1) := by decide +kernel
theorem dX1_isOver_10 : decode cX1_isOver 10 = .ok (.invokestatic 70, 3) := by decide +kernel
theorem dX1_isOver_13 : decode cX1_isOver 13 = .ok (.ireturn, 1) := by decide +kernel
theorem dX1_areOver_0 : decode cX1_areOver 0 = .ok (.aload_n 0, 1) := by decide +kernel
theorem dX1_areOver_1 : decode cX1_areOver 1 = .ok (.getfield 52, 3) := by decide +kernel
theorem dX1_areOver_4 : decode cX1_areOver 4 = .ok (.aload_n 0, 1) := by decide +kernel
theorem dX1_areOver_5 : decode cX1_areOver 5 = .ok (.getfield 55, 3) := by decide +kernel
theorem dX1_areOver_8 : decode cX1_areOver 8 = .ok (.ior, 1) := by decide +kernel
theorem dX1_areOver_9 : decode cX1_areOver 9 = .ok (.iconst 1, 1) := by decide +kernel
theorem dX1_areOver_10 : decode cX1_areOver 10 = .ok (.aload_n 0, 1) := by decide +kernel
theorem dX1_areOver_11 : decode cX1_areOver 11 = .ok (.getfield 48, 3) := by decide +kernel
theorem dX1_areOver_14 : decode cX1_areOver 14 = .ok (.ishl, 1) := by decide +kernel
theorem dX1_areOver_15 : decode cX1_areOver 15 = .ok (.iconst 1, 1) := by decide +kernel
theorem dX1_areOver_16 : decode cX1_areOver 16 = .ok (.isub, 1) := by decide +kernel
theorem dX1_areOver_17 : decode cX1_areOver 17 = .ok (.if_icmp .ne 7, 3) := by decide +kernel
theorem dX1_areOver_20 : decode cX1_areOver 20 = .ok (.iconst 1, 1) := by decide +kernel
theorem dX1_areOver_21 : decode cX1_areOver 21 = .ok (.goto 4, 3) := by decide +kernel
theorem dX1_areOver_24 : decode cX1_areOver 24 = .ok (.iconst 0, 1) := by decide +kernel
theorem dX1_areOver_25 : decode cX1_areOver 25 = .ok (.ireturn, 1) := by decide +kernel
theorem dX1_statusOf_0 : decode cX1_statusOf 0 = .ok (.aload_n 0, 1) := by decide +kernel
theorem dX1_statusOf_1 : decode cX1_statusOf 1 = .ok (.getfield 52, 3) := by decide +kernel
theorem dX1_statusOf_4 : decode cX1_statusOf 4 = .ok (.iload_n 1, 1) := by decide +kernel
theorem dX1_statusOf_5 : decode cX1_statusOf 5 = .ok (.invokestatic 70, 3) := by decide +kernel
theorem dX1_statusOf_8 : decode cX1_statusOf 8 = .ok (.ifCond .eq 5, 3) := by decide +kernel
theorem dX1_statusOf_11 : decode cX1_statusOf 11 = .ok (.iconst 3, 1) := by decide +kernel
theorem dX1_statusOf_12 : decode cX1_statusOf 12 = .ok (.ireturn, 1) := by decide +kernel
theorem dX1_statusOf_13 : decode cX1_statusOf 13 = .ok (.aload_n 0, 1) := by decide +kernel
theorem dX1_statusOf_14 : decode cX1_statusOf 14 = .ok (.getfield 55, 3) := by decide +kernel
theorem dX1_statusOf_17 : decode cX1_statusOf 17 = .ok (.iload_n 1, 1) := by decide +kernel
theorem dX1_statusOf_18 : decode cX1_statusOf 18 = .ok (.invokestatic 70, 3) := by decide +kernel
theorem dX1_statusOf_21 : decode cX1_statusOf 21 = .ok (.ifCond .eq 5, 3) := by decide +kernel
theorem dX1_statusOf_24 : decode cX1_statusOf 24 = .ok (.iconst 4, 1) := by decide +kernel
theorem dX1_statusOf_25 : decode cX1_statusOf 25 = .ok (.ireturn, 1) := by decide +kernel
theorem dX1_statusOf_26 : decode cX1_statusOf 26 = .ok (.aload_n 0, 1) := by decide +kernel
theorem dX1_statusOf_27 : decode cX1_statusOf 27 = .ok (.getfield 9, 3) := by decide +kernel
theorem dX1_statusOf_30 : decode cX1_statusOf 30 = .ok (.aload_n 0, 1) := by decide +kernel
theorem dX1_statusOf_31 : decode cX1_statusOf 31 = .ok (.getfield 18, 3) := by decide +kernel
theorem dX1_statusOf_34 : decode cX1_statusOf 34 = .ok (.iload_n 1, 1) := by decide +kernel
theorem dX1_statusOf_35 : decode cX1_statusOf 35 = .ok (.iaload, 1) := by decide +kernel
theorem dX1_statusOf_36 : decode cX1_statusOf 36 = .ok (.iaload, 1) := by decide +kernel
theorem dX1_statusOf_37 : decode cX1_statusOf 37 = .ok (.iload_n 1, 1) := by decide +kernel
theorem dX1_statusOf_38 : decode cX1_statusOf 38 = .ok (.invokestatic 70, 3) := by decide +kernel
theorem dX1_statusOf_41 : decode cX1_statusOf 41 = .ok (.ifCond .eq 5, 3) := by decide +kernel
theorem dX1_statusOf_44 : decode cX1_statusOf 44 = .ok (.iconst 0, 1) := by decide +kernel
theorem dX1_statusOf_45 : decode cX1_statusOf 45 = .ok (.ireturn, 1) := by decide +kernel
theorem dX1_statusOf_46 : decode cX1_statusOf 46 = .ok (.aload_n 0, 1) := by decide +kernel
theorem dX1_statusOf_47 : decode cX1_statusOf 47 = .ok (.getfield 15, 3) := by decide +kernel
theorem dX1_statusOf_50 : decode cX1_statusOf 50 = .ok (.aload_n 0, 1) := by decide +kernel
theorem dX1_statusOf_51 : decode cX1_statusOf 51 = .ok (.getfield 18, 3) := by decide +kernel
theorem dX1_statusOf_54 : decode cX1_statusOf 54 = .ok (.iload_n 1, 1) := by decide +kernel
theorem dX1_statusOf_55 : decode cX1_statusOf 55 = .ok (.iaload, 1) := by decide +kernel
theorem dX1_statusOf_56 : decode cX1_statusOf 56 = .ok (.iaload, 1) := by decide +kernel
theorem dX1_statusOf_57 : decode cX1_statusOf 57 = .ok (.iload_n 1, 1) := by decide +kernel
theorem dX1_statusOf_58 : decode cX1_statusOf 58 = .ok (.invokestatic 70, 3) := by decide +kernel
theorem dX1_statusOf_61 : decode cX1_statusOf 61 = .ok (.ifCond .eq 7, 3) := by decide +kernel
theorem dX1_statusOf_64 : decode cX1_statusOf 64 = .ok (.iconst 1, 1) := by decide +kernel
theorem dX1_statusOf_65 : decode cX1_statusOf 65 = .ok (.goto 4, 3) := by decide +kernel
theorem dX1_statusOf_68 : decode cX1_statusOf 68 = .ok (.iconst 2, 1) := by decide +kernel
theorem dX1_statusOf_69 : decode cX1_statusOf 69 = .ok (.ireturn, 1) := by decide +kernel
theorem dX1_endOf_0 : decode cX1_endOf 0 = .ok (.aload_n 0, 1) := by decide +kernel
theorem dX1_endOf_1 : decode cX1_endOf 1 = .ok (.getfield 52, 3) := by decide +kernel
theorem dX1_endOf_4 : decode cX1_endOf 4 = .ok (.iload_n 1, 1) := by decide +kernel
theorem dX1_endOf_5 : decode cX1_endOf 5 = .ok (.invokestatic 70, 3) := by decide +kernel
theorem dX1_endOf_8 : decode cX1_endOf 8 = .ok (.ifCond .eq 12, 3) := by decide +kernel
theorem dX1_endOf_11 : decode cX1_endOf 11 = .ok (.aload_n 0, 1) := by decide +kernel
theorem dX1_endOf_12 : decode cX1_endOf 12 = .ok (.getfield 39, 3) := by decide +kernel
theorem dX1_endOf_15 : decode cX1_endOf 15 = .ok (.iload_n 1, 1) := by decide +kernel
theorem dX1_endOf_16 : decode cX1_endOf 16 = .ok (.iaload, 1) := by decide +kernel
theorem dX1_endOf_17 : decode cX1_endOf 17 = .ok (.goto 5, 3) := by decide +kernel
theorem dX1_endOf_20 : decode cX1_endOf 20 = .ok (.bipush (-2), 2) := by decide +kernel
theorem dX1_endOf_22 : decode cX1_endOf 22 = .ok (.ireturn, 1) := by decide +kernel
theorem dX1_lateOf_0 : decode cX1_lateOf 0 = .ok (.iconst 0, 1) := by decide +kernel
theorem dX1_lateOf_1 : decode cX1_lateOf 1 = .ok (.istore_n 2, 1) := by decide +kernel
theorem dX1_lateOf_2 : decode cX1_lateOf 2 = .ok (.iconst 0, 1) := by decide +kernel
theorem dX1_lateOf_3 : decode cX1_lateOf 3 = .ok (.istore_n 3, 1) := by decide +kernel
theorem dX1_lateOf_4 : decode cX1_lateOf 4 = .ok (.iload_n 3, 1) := by decide +kernel
theorem dX1_lateOf_5 : decode cX1_lateOf 5 = .ok (.aload_n 0, 1) := by decide +kernel
theorem dX1_lateOf_6 : decode cX1_lateOf 6 = .ok (.getfield 48, 3) := by decide +kernel
theorem dX1_lateOf_9 : decode cX1_lateOf 9 = .ok (.if_icmp .ge 38, 3) := by decide +kernel
theorem dX1_lateOf_12 : decode cX1_lateOf 12 = .ok (.iload_n 1, 1) := by decide +kernel
theorem dX1_lateOf_13 : decode cX1_lateOf 13 = .ok (.iload_n 3, 1) := by decide +kernel
theorem dX1_lateOf_14 : decode cX1_lateOf 14 = .ok (.invokestatic 70, 3) := by decide +kernel
theorem dX1_lateOf_17 : decode cX1_lateOf 17 = .ok (.ifCond .eq 24, 3) := by decide +kernel
theorem dX1_lateOf_20 : decode cX1_lateOf 20 = .ok (.aload_n 0, 1) := by decide +kernel
theorem dX1_lateOf_21 : decode cX1_lateOf 21 = .ok (.getfield 39, 3) := by decide +kernel
theorem dX1_lateOf_24 : decode cX1_lateOf 24 = .ok (.iload_n 3, 1) := by decide +kernel
theorem dX1_lateOf_25 : decode cX1_lateOf 25 = .ok (.iaload, 1) := by decide +kernel
theorem dX1_lateOf_26 : decode cX1_lateOf 26 = .ok (.aload_n 0, 1) := by decide +kernel
theorem dX1_lateOf_27 : decode cX1_lateOf 27 = .ok (.getfield 33, 3) := by decide +kernel
theorem dX1_lateOf_30 : decode cX1_lateOf 30 = .ok (.iload_n 3, 1) := by decide +kernel
theorem dX1_lateOf_31 : decode cX1_lateOf 31 = .ok (.iaload, 1) := by decide +kernel
theorem dX1_lateOf_32 : decode cX1_lateOf 32 = .ok (.if_icmp .le 9, 3) := by decide +kernel
theorem dX1_lateOf_35 : decode cX1_lateOf 35 = .ok (.iload_n 2, 1) := by decide +kernel
theorem dX1_lateOf_36 : decode cX1_lateOf 36 = .ok (.iload_n 3, 1) := by decide +kernel
theorem dX1_lateOf_37 : decode cX1_lateOf 37 = .ok (.invokestatic 62, 3) := by decide +kernel
theorem dX1_lateOf_40 : decode cX1_lateOf 40 = .ok (.istore_n 2, 1) := by decide +kernel
theorem dX1_lateOf_41 : decode cX1_lateOf 41 = .ok (.iinc 3 1, 3) := by decide +kernel
theorem dX1_lateOf_44 : decode cX1_lateOf 44 = .ok (.goto (-40), 3) := by decide +kernel
theorem dX1_lateOf_47 : decode cX1_lateOf 47 = .ok (.iload_n 2, 1) := by decide +kernel
theorem dX1_lateOf_48 : decode cX1_lateOf 48 = .ok (.ireturn, 1) := by decide +kernel
theorem dX1_lateOrOpen_0 : decode cX1_lateOrOpen 0 = .ok (.iconst 1, 1) := by decide +kernel
theorem dX1_lateOrOpen_1 : decode cX1_lateOrOpen 1 = .ok (.aload_n 0, 1) := by decide +kernel
theorem dX1_lateOrOpen_2 : decode cX1_lateOrOpen 2 = .ok (.getfield 48, 3) := by decide +kernel
theorem dX1_lateOrOpen_5 : decode cX1_lateOrOpen 5 = .ok (.ishl, 1) := by decide +kernel
theorem dX1_lateOrOpen_6 : decode cX1_lateOrOpen 6 = .ok (.iconst 1, 1) := by decide +kernel
theorem dX1_lateOrOpen_7 : decode cX1_lateOrOpen 7 = .ok (.isub, 1) := by decide +kernel
theorem dX1_lateOrOpen_8 : decode cX1_lateOrOpen 8 = .ok (.istore_n 1, 1) := by decide +kernel
theorem dX1_lateOrOpen_9 : decode cX1_lateOrOpen 9 = .ok (.iload_n 1, 1) := by decide +kernel
theorem dX1_lateOrOpen_10 : decode cX1_lateOrOpen 10 = .ok (.aload_n 0, 1) := by decide +kernel
theorem dX1_lateOrOpen_11 : decode cX1_lateOrOpen 11 = .ok (.getfield 52, 3) := by decide +kernel
theorem dX1_lateOrOpen_14 : decode cX1_lateOrOpen 14 = .ok (.aload_n 0, 1) := by decide +kernel
theorem dX1_lateOrOpen_15 : decode cX1_lateOrOpen 15 = .ok (.getfield 55, 3) := by decide +kernel
theorem dX1_lateOrOpen_18 : decode cX1_lateOrOpen 18 = .ok (.ior, 1) := by decide +kernel
theorem dX1_lateOrOpen_19 : decode cX1_lateOrOpen 19 = .ok (.iconst (-1), 1) := by decide +kernel
theorem dX1_lateOrOpen_20 : decode cX1_lateOrOpen 20 = .ok (.ixor, 1) := by decide +kernel
theorem dX1_lateOrOpen_21 : decode cX1_lateOrOpen 21 = .ok (.iand, 1) := by decide +kernel
theorem dX1_lateOrOpen_22 : decode cX1_lateOrOpen 22 = .ok (.aload_n 0, 1) := by decide +kernel
theorem dX1_lateOrOpen_23 : decode cX1_lateOrOpen 23 = .ok (.aload_n 0, 1) := by decide +kernel
theorem dX1_lateOrOpen_24 : decode cX1_lateOrOpen 24 = .ok (.getfield 52, 3) := by decide +kernel
theorem dX1_lateOrOpen_27 : decode cX1_lateOrOpen 27 = .ok (.invokevirtual 74, 3) := by decide +kernel
theorem dX1_lateOrOpen_30 : decode cX1_lateOrOpen 30 = .ok (.ior, 1) := by decide +kernel
theorem dX1_lateOrOpen_31 : decode cX1_lateOrOpen 31 = .ok (.ireturn, 1) := by decide +kernel
theorem dX1_deviationSum_0 : decode cX1_deviationSum 0 = .ok (.iconst 0, 1) := by decide +kernel
theorem dX1_deviationSum_1 : decode cX1_deviationSum 1 = .ok (.istore_n 2, 1) := by decide +kernel
theorem dX1_deviationSum_2 : decode cX1_deviationSum 2 = .ok (.iconst 0, 1) := by decide +kernel
theorem dX1_deviationSum_3 : decode cX1_deviationSum 3 = .ok (.istore_n 3, 1) := by decide +kernel
theorem dX1_deviationSum_4 : decode cX1_deviationSum 4 = .ok (.iload_n 3, 1) := by decide +kernel
theorem dX1_deviationSum_5 : decode cX1_deviationSum 5 = .ok (.aload_n 0, 1) := by decide +kernel
theorem dX1_deviationSum_6 : decode cX1_deviationSum 6 = .ok (.getfield 48, 3) := by decide +kernel
theorem dX1_deviationSum_9 : decode cX1_deviationSum 9 = .ok (.if_icmp .ge 49, 3) := by decide +kernel
theorem dX1_deviationSum_12 : decode cX1_deviationSum 12 = .ok (.aload_n 0, 1) := by decide +kernel
theorem dX1_deviationSum_13 : decode cX1_deviationSum 13 = .ok (.getfield 52, 3) := by decide +kernel
theorem dX1_deviationSum_16 : decode cX1_deviationSum 16 = .ok (.iload_n 3, 1) := by decide +kernel
theorem dX1_deviationSum_17 : decode cX1_deviationSum 17 = .ok (.invokestatic 70, 3) := by decide +kernel
theorem dX1_deviationSum_20 : decode cX1_deviationSum 20 = .ok (.ifCond .eq 32, 3) := by decide +kernel
theorem dX1_deviationSum_23 : decode cX1_deviationSum 23 = .ok (.aload_n 0, 1) := by decide +kernel
theorem dX1_deviationSum_24 : decode cX1_deviationSum 24 = .ok (.getfield 21, 3) := by decide +kernel
theorem dX1_deviationSum_27 : decode cX1_deviationSum 27 = .ok (.iload_n 3, 1) := by decide +kernel
theorem dX1_deviationSum_28 : decode cX1_deviationSum 28 = .ok (.iaload, 1) := by decide +kernel
theorem dX1_deviationSum_29 : decode cX1_deviationSum 29 = .ok (.iload_n 1, 1) := by decide +kernel
theorem dX1_deviationSum_30 : decode cX1_deviationSum 30 = .ok (.if_icmp .ne 22, 3) := by decide +kernel
theorem dX1_deviationSum_33 : decode cX1_deviationSum 33 = .ok (.iload_n 2, 1) := by decide +kernel
theorem dX1_deviationSum_34 : decode cX1_deviationSum 34 = .ok (.aload_n 0, 1) := by decide +kernel
theorem dX1_deviationSum_35 : decode cX1_deviationSum 35 = .ok (.getfield 30, 3) := by decide +kernel
theorem dX1_deviationSum_38 : decode cX1_deviationSum 38 = .ok (.iload_n 3, 1) := by decide +kernel
theorem dX1_deviationSum_39 : decode cX1_deviationSum 39 = .ok (.iaload, 1) := by decide +kernel
theorem dX1_deviationSum_40 : decode cX1_deviationSum 40 = .ok (.aload_n 0, 1) := by decide +kernel
theorem dX1_deviationSum_41 : decode cX1_deviationSum 41 = .ok (.getfield 42, 3) := by decide +kernel
theorem dX1_deviationSum_44 : decode cX1_deviationSum 44 = .ok (.iload_n 1, 1) := by decide +kernel
theorem dX1_deviationSum_45 : decode cX1_deviationSum 45 = .ok (.iaload, 1) := by decide +kernel
theorem dX1_deviationSum_46 : decode cX1_deviationSum 46 = .ok (.isub, 1) := by decide +kernel
theorem dX1_deviationSum_47 : decode cX1_deviationSum 47 = .ok (.invokestatic 78, 3) := by decide +kernel
theorem dX1_deviationSum_50 : decode cX1_deviationSum 50 = .ok (.iadd, 1) := by decide +kernel
theorem dX1_deviationSum_51 : decode cX1_deviationSum 51 = .ok (.istore_n 2, 1) := by decide +kernel
theorem dX1_deviationSum_52 : decode cX1_deviationSum 52 = .ok (.iinc 3 1, 3) := by decide +kernel
theorem dX1_deviationSum_55 : decode cX1_deviationSum 55 = .ok (.goto (-51), 3) := by decide +kernel
theorem dX1_deviationSum_58 : decode cX1_deviationSum 58 = .ok (.iload_n 2, 1) := by decide +kernel
theorem dX1_deviationSum_59 : decode cX1_deviationSum 59 = .ok (.ireturn, 1) := by decide +kernel
theorem dX1_firstByDeadline_0 : decode cX1_firstByDeadline 0 = .ok (.bipush (-2), 2) := by decide +kernel
theorem dX1_firstByDeadline_2 : decode cX1_firstByDeadline 2 = .ok (.istore_n 2, 1) := by decide +kernel
theorem dX1_firstByDeadline_3 : decode cX1_firstByDeadline 3 = .ok (.iconst 0, 1) := by decide +kernel
theorem dX1_firstByDeadline_4 : decode cX1_firstByDeadline 4 = .ok (.istore_n 3, 1) := by decide +kernel
theorem dX1_firstByDeadline_5 : decode cX1_firstByDeadline 5 = .ok (.iload_n 3, 1) := by decide +kernel
theorem dX1_firstByDeadline_6 : decode cX1_firstByDeadline 6 = .ok (.aload_n 0, 1) := by decide +kernel
theorem dX1_firstByDeadline_7 : decode cX1_firstByDeadline 7 = .ok (.getfield 48, 3) := by decide +kernel
theorem dX1_firstByDeadline_10 : decode cX1_firstByDeadline 10 = .ok (.if_icmp .ge 40, 3) := by decide +kernel
theorem dX1_firstByDeadline_13 : decode cX1_firstByDeadline 13 = .ok (.iload_n 1, 1) := by decide +kernel
theorem dX1_firstByDeadline_14 : decode cX1_firstByDeadline 14 = .ok (.iload_n 3, 1) := by decide +kernel
theorem dX1_firstByDeadline_15 : decode cX1_firstByDeadline 15 = .ok (.invokestatic 70, 3) := by decide +kernel
theorem dX1_firstByDeadline_18 : decode cX1_firstByDeadline 18 = .ok (.ifCond .eq 26, 3) := by decide +kernel
theorem dX1_firstByDeadline_21 : decode cX1_firstByDeadline 21 = .ok (.iload_n 2, 1) := by decide +kernel
theorem dX1_firstByDeadline_22 : decode cX1_firstByDeadline 22 = .ok (.bipush (-2), 2) := by decide +kernel
theorem dX1_firstByDeadline_24 : decode cX1_firstByDeadline 24 = .ok (.if_icmp .eq 18, 3) := by decide +kernel
theorem dX1_firstByDeadline_27 : decode cX1_firstByDeadline 27 = .ok (.aload_n 0, 1) := by decide +kernel
theorem dX1_firstByDeadline_28 : decode cX1_firstByDeadline 28 = .ok (.getfield 33, 3) := by decide +kernel
theorem dX1_firstByDeadline_31 : decode cX1_firstByDeadline 31 = .ok (.iload_n 3, 1) := by decide +kernel
theorem dX1_firstByDeadline_32 : decode cX1_firstByDeadline 32 = .ok (.iaload, 1) := by decide +kernel
theorem dX1_firstByDeadline_33 : decode cX1_firstByDeadline 33 = .ok (.aload_n 0, 1) := by decide +kernel
theorem dX1_firstByDeadline_34 : decode cX1_firstByDeadline 34 = .ok (.getfield 33, 3) := by decide +kernel
theorem dX1_firstByDeadline_37 : decode cX1_firstByDeadline 37 = .ok (.iload_n 2, 1) := by decide +kernel
theorem dX1_firstByDeadline_38 : decode cX1_firstByDeadline 38 = .ok (.iaload, 1) := by decide +kernel
theorem dX1_firstByDeadline_39 : decode cX1_firstByDeadline 39 = .ok (.if_icmp .ge 5, 3) := by decide +kernel
theorem dX1_firstByDeadline_42 : decode cX1_firstByDeadline 42 = .ok (.iload_n 3, 1) := by decide +kernel
theorem dX1_firstByDeadline_43 : decode cX1_firstByDeadline 43 = .ok (.istore_n 2, 1) := by decide +kernel
theorem dX1_firstByDeadline_44 : decode cX1_firstByDeadline 44 = .ok (.iinc 3 1, 3) := by decide +kernel
theorem dX1_firstByDeadline_47 : decode cX1_firstByDeadline 47 = .ok (.goto (-42), 3) := by decide +kernel
theorem dX1_firstByDeadline_50 : decode cX1_firstByDeadline 50 = .ok (.iload_n 2, 1) := by decide +kernel
theorem dX1_firstByDeadline_51 : decode cX1_firstByDeadline 51 = .ok (.ireturn, 1) := by decide +kernel
theorem dX1_releasedBy_0 : decode cX1_releasedBy 0 = .ok (.iconst 0, 1) := by decide +kernel
theorem dX1_releasedBy_1 : decode cX1_releasedBy 1 = .ok (.istore_n 3, 1) := by decide +kernel
theorem dX1_releasedBy_2 : decode cX1_releasedBy 2 = .ok (.iconst 0, 1) := by decide +kernel
theorem dX1_releasedBy_3 : decode cX1_releasedBy 3 = .ok (.istore 4, 2) := by decide +kernel
theorem dX1_releasedBy_5 : decode cX1_releasedBy 5 = .ok (.iload 4, 2) := by decide +kernel
theorem dX1_releasedBy_7 : decode cX1_releasedBy 7 = .ok (.aload_n 0, 1) := by decide +kernel
theorem dX1_releasedBy_8 : decode cX1_releasedBy 8 = .ok (.getfield 48, 3) := by decide +kernel
theorem dX1_releasedBy_11 : decode cX1_releasedBy 11 = .ok (.if_icmp .ge 36, 3) := by decide +kernel
theorem dX1_releasedBy_14 : decode cX1_releasedBy 14 = .ok (.iload_n 2, 1) := by decide +kernel
theorem dX1_releasedBy_15 : decode cX1_releasedBy 15 = .ok (.iload 4, 2) := by decide +kernel
theorem dX1_releasedBy_17 : decode cX1_releasedBy 17 = .ok (.invokestatic 70, 3) := by decide +kernel
theorem dX1_releasedBy_20 : decode cX1_releasedBy 20 = .ok (.ifCond .eq 21, 3) := by decide +kernel
theorem dX1_releasedBy_23 : decode cX1_releasedBy 23 = .ok (.aload_n 0, 1) := by decide +kernel
theorem dX1_releasedBy_24 : decode cX1_releasedBy 24 = .ok (.getfield 24, 3) := by decide +kernel
theorem dX1_releasedBy_27 : decode cX1_releasedBy 27 = .ok (.iload 4, 2) := by decide +kernel
theorem dX1_releasedBy_29 : decode cX1_releasedBy 29 = .ok (.iaload, 1) := by decide +kernel
theorem dX1_releasedBy_30 : decode cX1_releasedBy 30 = .ok (.iload_n 1, 1) := by decide +kernel
theorem dX1_releasedBy_31 : decode cX1_releasedBy 31 = .ok (.if_icmp .gt 10, 3) := by decide +kernel
theorem dX1_releasedBy_34 : decode cX1_releasedBy 34 = .ok (.iload_n 3, 1) := by decide +kernel
theorem dX1_releasedBy_35 : decode cX1_releasedBy 35 = .ok (.iload 4, 2) := by decide +kernel
theorem dX1_releasedBy_37 : decode cX1_releasedBy 37 = .ok (.invokestatic 62, 3) := by decide +kernel
theorem dX1_releasedBy_40 : decode cX1_releasedBy 40 = .ok (.istore_n 3, 1) := by decide +kernel
theorem dX1_releasedBy_41 : decode cX1_releasedBy 41 = .ok (.iinc 4 1, 3) := by decide +kernel
theorem dX1_releasedBy_44 : decode cX1_releasedBy 44 = .ok (.goto (-39), 3) := by decide +kernel
theorem dX1_releasedBy_47 : decode cX1_releasedBy 47 = .ok (.iload_n 3, 1) := by decide +kernel
theorem dX1_releasedBy_48 : decode cX1_releasedBy 48 = .ok (.ireturn, 1) := by decide +kernel
theorem dX1_leastSlackEnd_0 : decode cX1_leastSlackEnd 0 = .ok (.ldc 83, 2) := by decide +kernel
theorem dX1_leastSlackEnd_2 : decode cX1_leastSlackEnd 2 = .ok (.istore_n 2, 1) := by decide +kernel
theorem dX1_leastSlackEnd_3 : decode cX1_leastSlackEnd 3 = .ok (.iconst 0, 1) := by decide +kernel
theorem dX1_leastSlackEnd_4 : decode cX1_leastSlackEnd 4 = .ok (.istore_n 3, 1) := by decide +kernel
theorem dX1_leastSlackEnd_5 : decode cX1_leastSlackEnd 5 = .ok (.iload_n 3, 1) := by decide +kernel
theorem dX1_leastSlackEnd_6 : decode cX1_leastSlackEnd 6 = .ok (.aload_n 0, 1) := by decide +kernel
theorem dX1_leastSlackEnd_7 : decode cX1_leastSlackEnd 7 = .ok (.getfield 48, 3) := by decide +kernel
theorem dX1_leastSlackEnd_10 : decode cX1_leastSlackEnd 10 = .ok (.if_icmp .ge 35, 3) := by decide +kernel
theorem dX1_leastSlackEnd_13 : decode cX1_leastSlackEnd 13 = .ok (.iload_n 1, 1) := by decide +kernel
theorem dX1_leastSlackEnd_14 : decode cX1_leastSlackEnd 14 = .ok (.iload_n 3, 1) := by decide +kernel
theorem dX1_leastSlackEnd_15 : decode cX1_leastSlackEnd 15 = .ok (.invokestatic 70, 3) := by decide +kernel
theorem dX1_leastSlackEnd_18 : decode cX1_leastSlackEnd 18 = .ok (.ifCond .eq 21, 3) := by decide +kernel
theorem dX1_leastSlackEnd_21 : decode cX1_leastSlackEnd 21 = .ok (.iload_n 2, 1) := by decide +kernel
theorem dX1_leastSlackEnd_22 : decode cX1_leastSlackEnd 22 = .ok (.aload_n 0, 1) := by decide +kernel
theorem dX1_leastSlackEnd_23 : decode cX1_leastSlackEnd 23 = .ok (.getfield 24, 3) := by decide +kernel
theorem dX1_leastSlackEnd_26 : decode cX1_leastSlackEnd 26 = .ok (.iload_n 3, 1) := by decide +kernel
theorem dX1_leastSlackEnd_27 : decode cX1_leastSlackEnd 27 = .ok (.iaload, 1) := by decide +kernel
theorem dX1_leastSlackEnd_28 : decode cX1_leastSlackEnd 28 = .ok (.aload_n 0, 1) := by decide +kernel
theorem dX1_leastSlackEnd_29 : decode cX1_leastSlackEnd 29 = .ok (.getfield 27, 3) := by decide +kernel
theorem dX1_leastSlackEnd_32 : decode cX1_leastSlackEnd 32 = .ok (.iload_n 3, 1) := by decide +kernel
theorem dX1_leastSlackEnd_33 : decode cX1_leastSlackEnd 33 = .ok (.iaload, 1) := by decide +kernel
theorem dX1_leastSlackEnd_34 : decode cX1_leastSlackEnd 34 = .ok (.iadd, 1) := by decide +kernel
theorem dX1_leastSlackEnd_35 : decode cX1_leastSlackEnd 35 = .ok (.invokestatic 84, 3) := by decide +kernel
theorem dX1_leastSlackEnd_38 : decode cX1_leastSlackEnd 38 = .ok (.istore_n 2, 1) := by decide +kernel
theorem dX1_leastSlackEnd_39 : decode cX1_leastSlackEnd 39 = .ok (.iinc 3 1, 3) := by decide +kernel
theorem dX1_leastSlackEnd_42 : decode cX1_leastSlackEnd 42 = .ok (.goto (-37), 3) := by decide +kernel
theorem dX1_leastSlackEnd_45 : decode cX1_leastSlackEnd 45 = .ok (.iload_n 2, 1) := by decide +kernel
theorem dX1_leastSlackEnd_46 : decode cX1_leastSlackEnd 46 = .ok (.ireturn, 1) := by decide +kernel
theorem dX1_cancel_0 : decode cX1_cancel 0 = .ok (.aload_n 0, 1) := by decide +kernel
theorem dX1_cancel_1 : decode cX1_cancel 1 = .ok (.getfield 18, 3) := by decide +kernel
theorem dX1_cancel_4 : decode cX1_cancel 4 = .ok (.iload_n 1, 1) := by decide +kernel
theorem dX1_cancel_5 : decode cX1_cancel 5 = .ok (.iaload, 1) := by decide +kernel
theorem dX1_cancel_6 : decode cX1_cancel 6 = .ok (.istore_n 2, 1) := by decide +kernel
theorem dX1_cancel_7 : decode cX1_cancel 7 = .ok (.aload_n 0, 1) := by decide +kernel
theorem dX1_cancel_8 : decode cX1_cancel 8 = .ok (.getfield 9, 3) := by decide +kernel
theorem dX1_cancel_11 : decode cX1_cancel 11 = .ok (.iload_n 2, 1) := by decide +kernel
theorem dX1_cancel_12 : decode cX1_cancel 12 = .ok (.aload_n 0, 1) := by decide +kernel
theorem dX1_cancel_13 : decode cX1_cancel 13 = .ok (.getfield 9, 3) := by decide +kernel
theorem dX1_cancel_16 : decode cX1_cancel 16 = .ok (.iload_n 2, 1) := by decide +kernel
theorem dX1_cancel_17 : decode cX1_cancel 17 = .ok (.iaload, 1) := by decide +kernel
theorem dX1_cancel_18 : decode cX1_cancel 18 = .ok (.iload_n 1, 1) := by decide +kernel
theorem dX1_cancel_19 : decode cX1_cancel 19 = .ok (.invokestatic 87, 3) := by decide +kernel
theorem dX1_cancel_22 : decode cX1_cancel 22 = .ok (.iastore, 1) := by decide +kernel
theorem dX1_cancel_23 : decode cX1_cancel 23 = .ok (.aload_n 0, 1) := by decide +kernel
theorem dX1_cancel_24 : decode cX1_cancel 24 = .ok (.getfield 15, 3) := by decide +kernel
theorem dX1_cancel_27 : decode cX1_cancel 27 = .ok (.iload_n 2, 1) := by decide +kernel
theorem dX1_cancel_28 : decode cX1_cancel 28 = .ok (.aload_n 0, 1) := by decide +kernel
theorem dX1_cancel_29 : decode cX1_cancel 29 = .ok (.getfield 15, 3) := by decide +kernel
theorem dX1_cancel_32 : decode cX1_cancel 32 = .ok (.iload_n 2, 1) := by decide +kernel
theorem dX1_cancel_33 : decode cX1_cancel 33 = .ok (.iaload, 1) := by decide +kernel
theorem dX1_cancel_34 : decode cX1_cancel 34 = .ok (.iload_n 1, 1) := by decide +kernel
theorem dX1_cancel_35 : decode cX1_cancel 35 = .ok (.invokestatic 87, 3) := by decide +kernel
theorem dX1_cancel_38 : decode cX1_cancel 38 = .ok (.iastore, 1) := by decide +kernel
theorem dX1_cancel_39 : decode cX1_cancel 39 = .ok (.aload_n 0, 1) := by decide +kernel
theorem dX1_cancel_40 : decode cX1_cancel 40 = .ok (.aload_n 0, 1) := by decide +kernel
theorem dX1_cancel_41 : decode cX1_cancel 41 = .ok (.getfield 55, 3) := by decide +kernel
theorem dX1_cancel_44 : decode cX1_cancel 44 = .ok (.iload_n 1, 1) := by decide +kernel
theorem dX1_cancel_45 : decode cX1_cancel 45 = .ok (.invokestatic 62, 3) := by decide +kernel
theorem dX1_cancel_48 : decode cX1_cancel 48 = .ok (.putfield 55, 3) := by decide +kernel
theorem dX1_cancel_51 : decode cX1_cancel 51 = .ok (.return_, 1) := by decide +kernel
theorem dX1_finish_0 : decode cX1_finish 0 = .ok (.aload_n 0, 1) := by decide +kernel
theorem dX1_finish_1 : decode cX1_finish 1 = .ok (.getfield 21, 3) := by decide +kernel
theorem dX1_finish_4 : decode cX1_finish 4 = .ok (.iload_n 1, 1) := by decide +kernel
theorem dX1_finish_5 : decode cX1_finish 5 = .ok (.iaload, 1) := by decide +kernel
theorem dX1_finish_6 : decode cX1_finish 6 = .ok (.istore_n 3, 1) := by decide +kernel
theorem dX1_finish_7 : decode cX1_finish 7 = .ok (.aload_n 0, 1) := by decide +kernel
theorem dX1_finish_8 : decode cX1_finish 8 = .ok (.getfield 36, 3) := by decide +kernel
theorem dX1_finish_11 : decode cX1_finish 11 = .ok (.iload_n 1, 1) := by decide +kernel
theorem dX1_finish_12 : decode cX1_finish 12 = .ok (.iconst 0, 1) := by decide +kernel
theorem dX1_finish_13 : decode cX1_finish 13 = .ok (.iastore, 1) := by decide +kernel
theorem dX1_finish_14 : decode cX1_finish 14 = .ok (.aload_n 0, 1) := by decide +kernel
theorem dX1_finish_15 : decode cX1_finish 15 = .ok (.getfield 39, 3) := by decide +kernel
theorem dX1_finish_18 : decode cX1_finish 18 = .ok (.iload_n 1, 1) := by decide +kernel
theorem dX1_finish_19 : decode cX1_finish 19 = .ok (.iload_n 2, 1) := by decide +kernel
theorem dX1_finish_20 : decode cX1_finish 20 = .ok (.iastore, 1) := by decide +kernel
theorem dX1_finish_21 : decode cX1_finish 21 = .ok (.aload_n 0, 1) := by decide +kernel
theorem dX1_finish_22 : decode cX1_finish 22 = .ok (.aload_n 0, 1) := by decide +kernel
theorem dX1_finish_23 : decode cX1_finish 23 = .ok (.getfield 52, 3) := by decide +kernel
theorem dX1_finish_26 : decode cX1_finish 26 = .ok (.iload_n 1, 1) := by decide +kernel
theorem dX1_finish_27 : decode cX1_finish 27 = .ok (.invokestatic 62, 3) := by decide +kernel
theorem dX1_finish_30 : decode cX1_finish 30 = .ok (.putfield 52, 3) := by decide +kernel
theorem dX1_finish_33 : decode cX1_finish 33 = .ok (.aload_n 0, 1) := by decide +kernel
theorem dX1_finish_34 : decode cX1_finish 34 = .ok (.getfield 45, 3) := by decide +kernel
theorem dX1_finish_37 : decode cX1_finish 37 = .ok (.iload_n 3, 1) := by decide +kernel
theorem dX1_finish_38 : decode cX1_finish 38 = .ok (.iaload, 1) := by decide +kernel
theorem dX1_finish_39 : decode cX1_finish 39 = .ok (.ifCond .ne 18, 3) := by decide +kernel
theorem dX1_finish_42 : decode cX1_finish 42 = .ok (.aload_n 0, 1) := by decide +kernel
theorem dX1_finish_43 : decode cX1_finish 43 = .ok (.getfield 42, 3) := by decide +kernel
theorem dX1_finish_46 : decode cX1_finish 46 = .ok (.iload_n 3, 1) := by decide +kernel
theorem dX1_finish_47 : decode cX1_finish 47 = .ok (.aload_n 0, 1) := by decide +kernel
theorem dX1_finish_48 : decode cX1_finish 48 = .ok (.getfield 30, 3) := by decide +kernel
theorem dX1_finish_51 : decode cX1_finish 51 = .ok (.iload_n 1, 1) := by decide +kernel
theorem dX1_finish_52 : decode cX1_finish 52 = .ok (.iaload, 1) := by decide +kernel
theorem dX1_finish_53 : decode cX1_finish 53 = .ok (.iastore, 1) := by decide +kernel
theorem dX1_finish_54 : decode cX1_finish 54 = .ok (.goto 27, 3) := by decide +kernel
theorem dX1_finish_57 : decode cX1_finish 57 = .ok (.aload_n 0, 1) := by decide +kernel
theorem dX1_finish_58 : decode cX1_finish 58 = .ok (.getfield 42, 3) := by decide +kernel
theorem dX1_finish_61 : decode cX1_finish 61 = .ok (.iload_n 3, 1) := by decide +kernel
theorem dX1_finish_62 : decode cX1_finish 62 = .ok (.dup2, 1) := by decide +kernel
theorem dX1_finish_63 : decode cX1_finish 63 = .ok (.iaload, 1) := by decide +kernel
theorem dX1_finish_64 : decode cX1_finish 64 = .ok (.aload_n 0, 1) := by decide +kernel
theorem dX1_finish_65 : decode cX1_finish 65 = .ok (.getfield 30, 3) := by decide +kernel
theorem dX1_finish_68 : decode cX1_finish 68 = .ok (.iload_n 1, 1) := by decide +kernel
theorem dX1_finish_69 : decode cX1_finish 69 = .ok (.iaload, 1) := by decide +kernel
theorem dX1_finish_70 : decode cX1_finish 70 = .ok (.aload_n 0, 1) := by decide +kernel
theorem dX1_finish_71 : decode cX1_finish 71 = .ok (.getfield 42, 3) := by decide +kernel
theorem dX1_finish_74 : decode cX1_finish 74 = .ok (.iload_n 3, 1) := by decide +kernel
theorem dX1_finish_75 : decode cX1_finish 75 = .ok (.iaload, 1) := by decide +kernel
theorem dX1_finish_76 : decode cX1_finish 76 = .ok (.isub, 1) := by decide +kernel
theorem dX1_finish_77 : decode cX1_finish 77 = .ok (.iconst 4, 1) := by decide +kernel
theorem dX1_finish_78 : decode cX1_finish 78 = .ok (.idiv, 1) := by decide +kernel
theorem dX1_finish_79 : decode cX1_finish 79 = .ok (.iadd, 1) := by decide +kernel
theorem dX1_finish_80 : decode cX1_finish 80 = .ok (.iastore, 1) := by decide +kernel
theorem dX1_finish_81 : decode cX1_finish 81 = .ok (.aload_n 0, 1) := by decide +kernel
theorem dX1_finish_82 : decode cX1_finish 82 = .ok (.getfield 45, 3) := by decide +kernel
theorem dX1_finish_85 : decode cX1_finish 85 = .ok (.iload_n 3, 1) := by decide +kernel
theorem dX1_finish_86 : decode cX1_finish 86 = .ok (.dup2, 1) := by decide +kernel
theorem dX1_finish_87 : decode cX1_finish 87 = .ok (.iaload, 1) := by decide +kernel
theorem dX1_finish_88 : decode cX1_finish 88 = .ok (.iconst 1, 1) := by decide +kernel
theorem dX1_finish_89 : decode cX1_finish 89 = .ok (.iadd, 1) := by decide +kernel
theorem dX1_finish_90 : decode cX1_finish 90 = .ok (.iastore, 1) := by decide +kernel
theorem dX1_finish_91 : decode cX1_finish 91 = .ok (.return_, 1) := by decide +kernel
theorem dX2_init_0 : decode cX2_init 0 = .ok (.aload_n 0, 1) := by decide +kernel
theorem dX2_init_1 : decode cX2_init 1 = .ok (.invokespecial 3, 3) := by decide +kernel
theorem dX2_init_4 : decode cX2_init 4 = .ok (.aload_n 0, 1) := by decide +kernel
theorem dX2_init_5 : decode cX2_init 5 = .ok (.iconst 4, 1) := by decide +kernel
theorem dX2_init_6 : decode cX2_init 6 = .ok (.newarray .int, 2) := by decide +kernel
theorem dX2_init_8 : decode cX2_init 8 = .ok (.putfield 9, 3) := by decide +kernel
theorem dX2_init_11 : decode cX2_init 11 = .ok (.aload_n 0, 1) := by decide +kernel
theorem dX2_init_12 : decode cX2_init 12 = .ok (.iconst 4, 1) := by decide +kernel
theorem dX2_init_13 : decode cX2_init 13 = .ok (.newarray .int, 2) := by decide +kernel
theorem dX2_init_15 : decode cX2_init 15 = .ok (.putfield 15, 3) := by decide +kernel
theorem dX2_init_18 : decode cX2_init 18 = .ok (.aload_n 0, 1) := by decide +kernel
theorem dX2_init_19 : decode cX2_init 19 = .ok (.iconst 4, 1) := by decide +kernel
theorem dX2_init_20 : decode cX2_init 20 = .ok (.newarray .int, 2) := by decide +kernel
theorem dX2_init_22 : decode cX2_init 22 = .ok (.putfield 18, 3) := by decide +kernel
theorem dX2_init_25 : decode cX2_init 25 = .ok (.aload_n 0, 1) := by decide +kernel
theorem dX2_init_26 : decode cX2_init 26 = .ok (.iconst 4, 1) := by decide +kernel
theorem dX2_init_27 : decode cX2_init 27 = .ok (.newarray .int, 2) := by decide +kernel
theorem dX2_init_29 : decode cX2_init 29 = .ok (.putfield 21, 3) := by decide +kernel
theorem dX2_init_32 : decode cX2_init 32 = .ok (.aload_n 0, 1) := by decide +kernel
theorem dX2_init_33 : decode cX2_init 33 = .ok (.iconst 4, 1) := by decide +kernel
theorem dX2_init_34 : decode cX2_init 34 = .ok (.newarray .int, 2) := by decide +kernel
theorem dX2_init_36 : decode cX2_init 36 = .ok (.putfield 24, 3) := by decide +kernel
theorem dX2_init_39 : decode cX2_init 39 = .ok (.aload_n 0, 1) := by decide +kernel
theorem dX2_init_40 : decode cX2_init 40 = .ok (.iconst 4, 1) := by decide +kernel
theorem dX2_init_41 : decode cX2_init 41 = .ok (.newarray .int, 2) := by decide +kernel
theorem dX2_init_43 : decode cX2_init 43 = .ok (.putfield 27, 3) := by decide +kernel
theorem dX2_init_46 : decode cX2_init 46 = .ok (.aload_n 0, 1) := by decide +kernel
theorem dX2_init_47 : decode cX2_init 47 = .ok (.iconst 4, 1) := by decide +kernel
theorem dX2_init_48 : decode cX2_init 48 = .ok (.newarray .int, 2) := by decide +kernel
theorem dX2_init_50 : decode cX2_init 50 = .ok (.putfield 30, 3) := by decide +kernel
theorem dX2_init_53 : decode cX2_init 53 = .ok (.aload_n 0, 1) := by decide +kernel
theorem dX2_init_54 : decode cX2_init 54 = .ok (.iconst 4, 1) := by decide +kernel
theorem dX2_init_55 : decode cX2_init 55 = .ok (.newarray .int, 2) := by decide +kernel
theorem dX2_init_57 : decode cX2_init 57 = .ok (.putfield 33, 3) := by decide +kernel
theorem dX2_init_60 : decode cX2_init 60 = .ok (.aload_n 0, 1) := by decide +kernel
theorem dX2_init_61 : decode cX2_init 61 = .ok (.iconst 4, 1) := by decide +kernel
theorem dX2_init_62 : decode cX2_init 62 = .ok (.newarray .int, 2) := by decide +kernel
theorem dX2_init_64 : decode cX2_init 64 = .ok (.putfield 36, 3) := by decide +kernel
theorem dX2_init_67 : decode cX2_init 67 = .ok (.aload_n 0, 1) := by decide +kernel
theorem dX2_init_68 : decode cX2_init 68 = .ok (.bipush 20, 2) := by decide +kernel
theorem dX2_init_70 : decode cX2_init 70 = .ok (.newarray .int, 2) := by decide +kernel
theorem dX2_init_72 : decode cX2_init 72 = .ok (.putfield 39, 3) := by decide +kernel
theorem dX2_init_75 : decode cX2_init 75 = .ok (.aload_n 0, 1) := by decide +kernel
theorem dX2_init_76 : decode cX2_init 76 = .ok (.bipush 20, 2) := by decide +kernel
theorem dX2_init_78 : decode cX2_init 78 = .ok (.newarray .int, 2) := by decide +kernel
theorem dX2_init_80 : decode cX2_init 80 = .ok (.putfield 42, 3) := by decide +kernel
theorem dX2_init_83 : decode cX2_init 83 = .ok (.return_, 1) := by decide +kernel
theorem dX2_copyFrom_0 : decode cX2_copyFrom 0 = .ok (.aload_n 0, 1) := by decide +kernel
theorem dX2_copyFrom_1 : decode cX2_copyFrom 1 = .ok (.aload_n 1, 1) := by decide +kernel
theorem dX2_copyFrom_2 : decode cX2_copyFrom 2 = .ok (.getfield 45, 3) := by decide +kernel
theorem dX2_copyFrom_5 : decode cX2_copyFrom 5 = .ok (.putfield 45, 3) := by decide +kernel
theorem dX2_copyFrom_8 : decode cX2_copyFrom 8 = .ok (.aload_n 0, 1) := by decide +kernel
theorem dX2_copyFrom_9 : decode cX2_copyFrom 9 = .ok (.aload_n 1, 1) := by decide +kernel
theorem dX2_copyFrom_10 : decode cX2_copyFrom 10 = .ok (.getfield 49, 3) := by decide +kernel
theorem dX2_copyFrom_13 : decode cX2_copyFrom 13 = .ok (.putfield 49, 3) := by decide +kernel
theorem dX2_copyFrom_16 : decode cX2_copyFrom 16 = .ok (.aload_n 1, 1) := by decide +kernel
theorem dX2_copyFrom_17 : decode cX2_copyFrom 17 = .ok (.getfield 9, 3) := by decide +kernel
theorem dX2_copyFrom_20 : decode cX2_copyFrom 20 = .ok (.aload_n 0, 1) := by decide +kernel
theorem dX2_copyFrom_21 : decode cX2_copyFrom 21 = .ok (.getfield 9, 3) := by decide +kernel
theorem dX2_copyFrom_24 : decode cX2_copyFrom 24 = .ok (.invokestatic 52, 3) := by decide +kernel
theorem dX2_copyFrom_27 : decode cX2_copyFrom 27 = .ok (.aload_n 1, 1) := by decide +kernel
theorem dX2_copyFrom_28 : decode cX2_copyFrom 28 = .ok (.getfield 15, 3) := by decide +kernel
theorem dX2_copyFrom_31 : decode cX2_copyFrom 31 = .ok (.aload_n 0, 1) := by decide +kernel
theorem dX2_copyFrom_32 : decode cX2_copyFrom 32 = .ok (.getfield 15, 3) := by decide +kernel
theorem dX2_copyFrom_35 : decode cX2_copyFrom 35 = .ok (.invokestatic 52, 3) := by decide +kernel
theorem dX2_copyFrom_38 : decode cX2_copyFrom 38 = .ok (.aload_n 1, 1) := by decide +kernel
theorem dX2_copyFrom_39 : decode cX2_copyFrom 39 = .ok (.getfield 18, 3) := by decide +kernel
theorem dX2_copyFrom_42 : decode cX2_copyFrom 42 = .ok (.aload_n 0, 1) := by decide +kernel
theorem dX2_copyFrom_43 : decode cX2_copyFrom 43 = .ok (.getfield 18, 3) := by decide +kernel
theorem dX2_copyFrom_46 : decode cX2_copyFrom 46 = .ok (.invokestatic 52, 3) := by decide +kernel
theorem dX2_copyFrom_49 : decode cX2_copyFrom 49 = .ok (.aload_n 1, 1) := by decide +kernel
theorem dX2_copyFrom_50 : decode cX2_copyFrom 50 = .ok (.getfield 21, 3) := by decide +kernel
theorem dX2_copyFrom_53 : decode cX2_copyFrom 53 = .ok (.aload_n 0, 1) := by decide +kernel
theorem dX2_copyFrom_54 : decode cX2_copyFrom 54 = .ok (.getfield 21, 3) := by decide +kernel
theorem dX2_copyFrom_57 : decode cX2_copyFrom 57 = .ok (.invokestatic 52, 3) := by decide +kernel
theorem dX2_copyFrom_60 : decode cX2_copyFrom 60 = .ok (.aload_n 1, 1) := by decide +kernel
theorem dX2_copyFrom_61 : decode cX2_copyFrom 61 = .ok (.getfield 24, 3) := by decide +kernel
theorem dX2_copyFrom_64 : decode cX2_copyFrom 64 = .ok (.aload_n 0, 1) := by decide +kernel
theorem dX2_copyFrom_65 : decode cX2_copyFrom 65 = .ok (.getfield 24, 3) := by decide +kernel
theorem dX2_copyFrom_68 : decode cX2_copyFrom 68 = .ok (.invokestatic 52, 3) := by decide +kernel
theorem dX2_copyFrom_71 : decode cX2_copyFrom 71 = .ok (.aload_n 1, 1) := by decide +kernel
theorem dX2_copyFrom_72 : decode cX2_copyFrom 72 = .ok (.getfield 27, 3) := by decide +kernel
theorem dX2_copyFrom_75 : decode cX2_copyFrom 75 = .ok (.aload_n 0, 1) := by decide +kernel
theorem dX2_copyFrom_76 : decode cX2_copyFrom 76 = .ok (.getfield 27, 3) := by decide +kernel
theorem dX2_copyFrom_79 : decode cX2_copyFrom 79 = .ok (.invokestatic 52, 3) := by decide +kernel
theorem dX2_copyFrom_82 : decode cX2_copyFrom 82 = .ok (.aload_n 1, 1) := by decide +kernel
theorem dX2_copyFrom_83 : decode cX2_copyFrom 83 = .ok (.getfield 30, 3) := by decide +kernel
theorem dX2_copyFrom_86 : decode cX2_copyFrom 86 = .ok (.aload_n 0, 1) := by decide +kernel
theorem dX2_copyFrom_87 : decode cX2_copyFrom 87 = .ok (.getfield 30, 3) := by decide +kernel
theorem dX2_copyFrom_90 : decode cX2_copyFrom 90 = .ok (.invokestatic 52, 3) := by decide +kernel
theorem dX2_copyFrom_93 : decode cX2_copyFrom 93 = .ok (.aload_n 1, 1) := by decide +kernel
theorem dX2_copyFrom_94 : decode cX2_copyFrom 94 = .ok (.getfield 33, 3) := by decide +kernel
theorem dX2_copyFrom_97 : decode cX2_copyFrom 97 = .ok (.aload_n 0, 1) := by decide +kernel
theorem dX2_copyFrom_98 : decode cX2_copyFrom 98 = .ok (.getfield 33, 3) := by decide +kernel
theorem dX2_copyFrom_101 : decode cX2_copyFrom 101 = .ok (.invokestatic 52, 3) := by decide +kernel
theorem dX2_copyFrom_104 : decode cX2_copyFrom 104 = .ok (.aload_n 1, 1) := by decide +kernel
theorem dX2_copyFrom_105 : decode cX2_copyFrom 105 = .ok (.getfield 36, 3) := by decide +kernel
theorem dX2_copyFrom_108 : decode cX2_copyFrom 108 = .ok (.aload_n 0, 1) := by decide +kernel
theorem dX2_copyFrom_109 : decode cX2_copyFrom 109 = .ok (.getfield 36, 3) := by decide +kernel
theorem dX2_copyFrom_112 : decode cX2_copyFrom 112 = .ok (.invokestatic 52, 3) := by decide +kernel
theorem dX2_copyFrom_115 : decode cX2_copyFrom 115 = .ok (.aload_n 1, 1) := by decide +kernel
theorem dX2_copyFrom_116 : decode cX2_copyFrom 116 = .ok (.getfield 39, 3) := by decide +kernel
theorem dX2_copyFrom_119 : decode cX2_copyFrom 119 = .ok (.aload_n 0, 1) := by decide +kernel
theorem dX2_copyFrom_120 : decode cX2_copyFrom 120 = .ok (.getfield 39, 3) := by decide +kernel
theorem dX2_copyFrom_123 : decode cX2_copyFrom 123 = .ok (.invokestatic 52, 3) := by decide +kernel
theorem dX2_copyFrom_126 : decode cX2_copyFrom 126 = .ok (.aload_n 1, 1) := by decide +kernel
theorem dX2_copyFrom_127 : decode cX2_copyFrom 127 = .ok (.getfield 42, 3) := by decide +kernel
theorem dX2_copyFrom_130 : decode cX2_copyFrom 130 = .ok (.aload_n 0, 1) := by decide +kernel
theorem dX2_copyFrom_131 : decode cX2_copyFrom 131 = .ok (.getfield 42, 3) := by decide +kernel
theorem dX2_copyFrom_134 : decode cX2_copyFrom 134 = .ok (.invokestatic 52, 3) := by decide +kernel
theorem dX2_copyFrom_137 : decode cX2_copyFrom 137 = .ok (.return_, 1) := by decide +kernel
theorem dX2_energyAt_0 : decode cX2_energyAt 0 = .ok (.iload_n 1, 1) := by decide +kernel
theorem dX2_energyAt_1 : decode cX2_energyAt 1 = .ok (.iconst 5, 1) := by decide +kernel
theorem dX2_energyAt_2 : decode cX2_energyAt 2 = .ok (.imul, 1) := by decide +kernel
theorem dX2_energyAt_3 : decode cX2_energyAt 3 = .ok (.iload_n 2, 1) := by decide +kernel
theorem dX2_energyAt_4 : decode cX2_energyAt 4 = .ok (.iadd, 1) := by decide +kernel
theorem dX2_energyAt_5 : decode cX2_energyAt 5 = .ok (.istore 5, 2) := by decide +kernel
theorem dX2_energyAt_7 : decode cX2_energyAt 7 = .ok (.iload_n 3, 1) := by decide +kernel
theorem dX2_energyAt_8 : decode cX2_energyAt 8 = .ok (.aload_n 0, 1) := by decide +kernel
theorem dX2_energyAt_9 : decode cX2_energyAt 9 = .ok (.getfield 39, 3) := by decide +kernel
theorem dX2_energyAt_12 : decode cX2_energyAt 12 = .ok (.iload 5, 2) := by decide +kernel
theorem dX2_energyAt_14 : decode cX2_energyAt 14 = .ok (.iaload, 1) := by decide +kernel
theorem dX2_energyAt_15 : decode cX2_energyAt 15 = .ok (.invokestatic 56, 3) := by decide +kernel
theorem dX2_energyAt_18 : decode cX2_energyAt 18 = .ok (.istore 6, 2) := by decide +kernel
theorem dX2_energyAt_20 : decode cX2_energyAt 20 = .ok (.iload 6, 2) := by decide +kernel
theorem dX2_energyAt_22 : decode cX2_energyAt 22 = .ok (.iload 4, 2) := by decide +kernel
theorem dX2_energyAt_24 : decode cX2_energyAt 24 = .ok (.if_icmp .le 6, 3) := by decide +kernel
theorem dX2_energyAt_27 : decode cX2_energyAt 27 = .ok (.bipush (-2), 2) := by decide +kernel
theorem dX2_energyAt_29 : decode cX2_energyAt 29 = .ok (.ireturn, 1) := by decide +kernel
theorem dX2_energyAt_30 : decode cX2_energyAt 30 = .ok (.iload 6, 2) := by decide +kernel
theorem dX2_energyAt_32 : decode cX2_energyAt 32 = .ok (.aload_n 0, 1) := by decide +kernel
theorem dX2_energyAt_33 : decode cX2_energyAt 33 = .ok (.getfield 42, 3) := by decide +kernel
theorem dX2_energyAt_36 : decode cX2_energyAt 36 = .ok (.iload 5, 2) := by decide +kernel
theorem dX2_energyAt_38 : decode cX2_energyAt 38 = .ok (.iaload, 1) := by decide +kernel
theorem dX2_energyAt_39 : decode cX2_energyAt 39 = .ok (.imul, 1) := by decide +kernel
theorem dX2_energyAt_40 : decode cX2_energyAt 40 = .ok (.iload 4, 2) := by decide +kernel
theorem dX2_energyAt_42 : decode cX2_energyAt 42 = .ok (.iload 6, 2) := by decide +kernel
theorem dX2_energyAt_44 : decode cX2_energyAt 44 = .ok (.isub, 1) := by decide +kernel
theorem dX2_energyAt_45 : decode cX2_energyAt 45 = .ok (.aload_n 0, 1) := by decide +kernel
theorem dX2_energyAt_46 : decode cX2_energyAt 46 = .ok (.getfield 24, 3) := by decide +kernel
theorem dX2_energyAt_49 : decode cX2_energyAt 49 = .ok (.iload_n 1, 1) := by decide +kernel
theorem dX2_energyAt_50 : decode cX2_energyAt 50 = .ok (.iaload, 1) := by decide +kernel
theorem dX2_energyAt_51 : decode cX2_energyAt 51 = .ok (.imul, 1) := by decide +kernel
theorem dX2_energyAt_52 : decode cX2_energyAt 52 = .ok (.iadd, 1) := by decide +kernel
theorem dX2_energyAt_53 : decode cX2_energyAt 53 = .ok (.ireturn, 1) := by decide +kernel
theorem dX3_init_0 : decode cX3_init 0 = .ok (.aload_n 0, 1) := by decide +kernel
theorem dX3_init_1 : decode cX3_init 1 = .ok (.invokespecial 3, 3) := by decide +kernel
theorem dX3_init_4 : decode cX3_init 4 = .ok (.aload_n 0, 1) := by decide +kernel
theorem dX3_init_5 : decode cX3_init 5 = .ok (.new 9, 3) := by decide +kernel
theorem dX3_init_8 : decode cX3_init 8 = .ok (.dup, 1) := by decide +kernel
theorem dX3_init_9 : decode cX3_init 9 = .ok (.invokespecial 11, 3) := by decide +kernel
theorem dX3_init_12 : decode cX3_init 12 = .ok (.putfield 12, 3) := by decide +kernel
theorem dX3_init_15 : decode cX3_init 15 = .ok (.aload_n 0, 1) := by decide +kernel
theorem dX3_init_16 : decode cX3_init 16 = .ok (.iconst 4, 1) := by decide +kernel
theorem dX3_init_17 : decode cX3_init 17 = .ok (.newarray .int, 2) := by decide +kernel
theorem dX3_init_19 : decode cX3_init 19 = .ok (.putfield 18, 3) := by decide +kernel
theorem dX3_init_22 : decode cX3_init 22 = .ok (.aload_n 0, 1) := by decide +kernel
theorem dX3_init_23 : decode cX3_init 23 = .ok (.iconst 4, 1) := by decide +kernel
theorem dX3_init_24 : decode cX3_init 24 = .ok (.newarray .int, 2) := by decide +kernel
theorem dX3_init_26 : decode cX3_init 26 = .ok (.putfield 22, 3) := by decide +kernel
theorem dX3_init_29 : decode cX3_init 29 = .ok (.aload_n 0, 1) := by decide +kernel
theorem dX3_init_30 : decode cX3_init 30 = .ok (.iconst 4, 1) := by decide +kernel
theorem dX3_init_31 : decode cX3_init 31 = .ok (.newarray .int, 2) := by decide +kernel
theorem dX3_init_33 : decode cX3_init 33 = .ok (.putfield 25, 3) := by decide +kernel
theorem dX3_init_36 : decode cX3_init 36 = .ok (.aload_n 0, 1) := by decide +kernel
theorem dX3_init_37 : decode cX3_init 37 = .ok (.iconst 4, 1) := by decide +kernel
theorem dX3_init_38 : decode cX3_init 38 = .ok (.newarray .int, 2) := by decide +kernel
theorem dX3_init_40 : decode cX3_init 40 = .ok (.putfield 28, 3) := by decide +kernel
theorem dX3_init_43 : decode cX3_init 43 = .ok (.aload_n 0, 1) := by decide +kernel
theorem dX3_init_44 : decode cX3_init 44 = .ok (.iconst 4, 1) := by decide +kernel
theorem dX3_init_45 : decode cX3_init 45 = .ok (.newarray .int, 2) := by decide +kernel
theorem dX3_init_47 : decode cX3_init 47 = .ok (.putfield 31, 3) := by decide +kernel
theorem dX3_init_50 : decode cX3_init 50 = .ok (.aload_n 0, 1) := by decide +kernel
theorem dX3_init_51 : decode cX3_init 51 = .ok (.iconst 4, 1) := by decide +kernel
theorem dX3_init_52 : decode cX3_init 52 = .ok (.newarray .int, 2) := by decide +kernel
theorem dX3_init_54 : decode cX3_init 54 = .ok (.putfield 34, 3) := by decide +kernel
theorem dX3_init_57 : decode cX3_init 57 = .ok (.aload_n 0, 1) := by decide +kernel
theorem dX3_init_58 : decode cX3_init 58 = .ok (.iconst 4, 1) := by decide +kernel
theorem dX3_init_59 : decode cX3_init 59 = .ok (.newarray .int, 2) := by decide +kernel
theorem dX3_init_61 : decode cX3_init 61 = .ok (.putfield 37, 3) := by decide +kernel
theorem dX3_init_64 : decode cX3_init 64 = .ok (.aload_n 0, 1) := by decide +kernel
theorem dX3_init_65 : decode cX3_init 65 = .ok (.iconst 4, 1) := by decide +kernel
theorem dX3_init_66 : decode cX3_init 66 = .ok (.newarray .int, 2) := by decide +kernel
theorem dX3_init_68 : decode cX3_init 68 = .ok (.putfield 40, 3) := by decide +kernel
theorem dX3_init_71 : decode cX3_init 71 = .ok (.aload_n 0, 1) := by decide +kernel
theorem dX3_init_72 : decode cX3_init 72 = .ok (.iconst 4, 1) := by decide +kernel
theorem dX3_init_73 : decode cX3_init 73 = .ok (.newarray .int, 2) := by decide +kernel
theorem dX3_init_75 : decode cX3_init 75 = .ok (.putfield 43, 3) := by decide +kernel
theorem dX3_init_78 : decode cX3_init 78 = .ok (.aload_n 0, 1) := by decide +kernel
theorem dX3_init_79 : decode cX3_init 79 = .ok (.iconst 4, 1) := by decide +kernel
theorem dX3_init_80 : decode cX3_init 80 = .ok (.newarray .int, 2) := by decide +kernel
theorem dX3_init_82 : decode cX3_init 82 = .ok (.putfield 46, 3) := by decide +kernel
theorem dX3_init_85 : decode cX3_init 85 = .ok (.aload_n 0, 1) := by decide +kernel
theorem dX3_init_86 : decode cX3_init 86 = .ok (.bipush 16, 2) := by decide +kernel
theorem dX3_init_88 : decode cX3_init 88 = .ok (.newarray .int, 2) := by decide +kernel
theorem dX3_init_90 : decode cX3_init 90 = .ok (.putfield 49, 3) := by decide +kernel
theorem dX3_init_93 : decode cX3_init 93 = .ok (.aload_n 0, 1) := by decide +kernel
theorem dX3_init_94 : decode cX3_init 94 = .ok (.aload_n 1, 1) := by decide +kernel
theorem dX3_init_95 : decode cX3_init 95 = .ok (.putfield 52, 3) := by decide +kernel
theorem dX3_init_98 : decode cX3_init 98 = .ok (.return_, 1) := by decide +kernel
theorem dX3_reset_0 : decode cX3_reset 0 = .ok (.aload_n 0, 1) := by decide +kernel
theorem dX3_reset_1 : decode cX3_reset 1 = .ok (.getfield 12, 3) := by decide +kernel
theorem dX3_reset_4 : decode cX3_reset 4 = .ok (.invokevirtual 56, 3) := by decide +kernel
theorem dX3_reset_7 : decode cX3_reset 7 = .ok (.aload_n 0, 1) := by decide +kernel
theorem dX3_reset_8 : decode cX3_reset 8 = .ok (.iconst 0, 1) := by decide +kernel
theorem dX3_reset_9 : decode cX3_reset 9 = .ok (.putfield 59, 3) := by decide +kernel
theorem dX3_reset_12 : decode cX3_reset 12 = .ok (.aload_n 0, 1) := by decide +kernel
theorem dX3_reset_13 : decode cX3_reset 13 = .ok (.aload_n 0, 1) := by decide +kernel
theorem dX3_reset_14 : decode cX3_reset 14 = .ok (.getfield 52, 3) := by decide +kernel
theorem dX3_reset_17 : decode cX3_reset 17 = .ok (.getfield 63, 3) := by decide +kernel
theorem dX3_reset_20 : decode cX3_reset 20 = .ok (.putfield 68, 3) := by decide +kernel
theorem dX3_reset_23 : decode cX3_reset 23 = .ok (.aload_n 0, 1) := by decide +kernel
theorem dX3_reset_24 : decode cX3_reset 24 = .ok (.getfield 52, 3) := by decide +kernel
theorem dX3_reset_27 : decode cX3_reset 27 = .ok (.getfield 69, 3) := by decide +kernel
theorem dX3_reset_30 : decode cX3_reset 30 = .ok (.aload_n 0, 1) := by decide +kernel
theorem dX3_reset_31 : decode cX3_reset 31 = .ok (.getfield 18, 3) := by decide +kernel
theorem dX3_reset_34 : decode cX3_reset 34 = .ok (.invokestatic 70, 3) := by decide +kernel
theorem dX3_reset_37 : decode cX3_reset 37 = .ok (.aload_n 0, 1) := by decide +kernel
theorem dX3_reset_38 : decode cX3_reset 38 = .ok (.getfield 52, 3) := by decide +kernel
theorem dX3_reset_41 : decode cX3_reset 41 = .ok (.getfield 74, 3) := by decide +kernel
theorem dX3_reset_44 : decode cX3_reset 44 = .ok (.aload_n 0, 1) := by decide +kernel
theorem dX3_reset_45 : decode cX3_reset 45 = .ok (.getfield 22, 3) := by decide +kernel
theorem dX3_reset_48 : decode cX3_reset 48 = .ok (.invokestatic 70, 3) := by decide +kernel
theorem dX3_reset_51 : decode cX3_reset 51 = .ok (.aload_n 0, 1) := by decide +kernel
theorem dX3_reset_52 : decode cX3_reset 52 = .ok (.getfield 52, 3) := by decide +kernel
theorem dX3_reset_55 : decode cX3_reset 55 = .ok (.getfield 75, 3) := by decide +kernel
theorem dX3_reset_58 : decode cX3_reset 58 = .ok (.aload_n 0, 1) := by decide +kernel
theorem dX3_reset_59 : decode cX3_reset 59 = .ok (.getfield 34, 3) := by decide +kernel
theorem dX3_reset_62 : decode cX3_reset 62 = .ok (.invokestatic 70, 3) := by decide +kernel
theorem dX3_reset_65 : decode cX3_reset 65 = .ok (.iconst 0, 1) := by decide +kernel
theorem dX3_reset_66 : decode cX3_reset 66 = .ok (.istore_n 1, 1) := by decide +kernel
theorem dX3_reset_67 : decode cX3_reset 67 = .ok (.iload_n 1, 1) := by decide +kernel
theorem dX3_reset_68 : decode cX3_reset 68 = .ok (.iconst 4, 1) := by decide +kernel
theorem dX3_reset_69 : decode cX3_reset 69 = .ok (.if_icmp .ge 64, 3) := by decide +kernel
theorem dX3_reset_72 : decode cX3_reset 72 = .ok (.aload_n 0, 1) := by decide +kernel
theorem dX3_reset_73 : decode cX3_reset 73 = .ok (.getfield 25, 3) := by decide +kernel
theorem dX3_reset_76 : decode cX3_reset 76 = .ok (.iload_n 1, 1) := by decide +kernel
theorem dX3_reset_77 : decode cX3_reset 77 = .ok (.aload_n 0, 1) := by decide +kernel
theorem dX3_reset_78 : decode cX3_reset 78 = .ok (.getfield 52, 3) := by decide +kernel
theorem dX3_reset_81 : decode cX3_reset 81 = .ok (.getfield 63, 3) := by decide +kernel
theorem dX3_reset_84 : decode cX3_reset 84 = .ok (.iastore, 1) := by decide +kernel
theorem dX3_reset_85 : decode cX3_reset 85 = .ok (.aload_n 0, 1) := by decide +kernel
theorem dX3_reset_86 : decode cX3_reset 86 = .ok (.getfield 28, 3) := by decide +kernel
theorem dX3_reset_89 : decode cX3_reset 89 = .ok (.iload_n 1, 1) := by decide +kernel
theorem dX3_reset_90 : decode cX3_reset 90 = .ok (.iconst 0, 1) := by decide +kernel
theorem dX3_reset_91 : decode cX3_reset 91 = .ok (.iastore, 1) := by decide +kernel
theorem dX3_reset_92 : decode cX3_reset 92 = .ok (.aload_n 0, 1) := by decide +kernel
theorem dX3_reset_93 : decode cX3_reset 93 = .ok (.getfield 31, 3) := by decide +kernel
theorem dX3_reset_96 : decode cX3_reset 96 = .ok (.iload_n 1, 1) := by decide +kernel
theorem dX3_reset_97 : decode cX3_reset 97 = .ok (.iconst 0, 1) := by decide +kernel
theorem dX3_reset_98 : decode cX3_reset 98 = .ok (.iastore, 1) := by decide +kernel
theorem dX3_reset_99 : decode cX3_reset 99 = .ok (.aload_n 0, 1) := by decide +kernel
theorem dX3_reset_100 : decode cX3_reset 100 = .ok (.getfield 37, 3) := by decide +kernel
theorem dX3_reset_103 : decode cX3_reset 103 = .ok (.iload_n 1, 1) := by decide +kernel
theorem dX3_reset_104 : decode cX3_reset 104 = .ok (.iconst 0, 1) := by decide +kernel
theorem dX3_reset_105 : decode cX3_reset 105 = .ok (.iastore, 1) := by decide +kernel
theorem dX3_reset_106 : decode cX3_reset 106 = .ok (.aload_n 0, 1) := by decide +kernel
theorem dX3_reset_107 : decode cX3_reset 107 = .ok (.getfield 40, 3) := by decide +kernel
theorem dX3_reset_110 : decode cX3_reset 110 = .ok (.iload_n 1, 1) := by decide +kernel
theorem dX3_reset_111 : decode cX3_reset 111 = .ok (.iconst 0, 1) := by decide +kernel
theorem dX3_reset_112 : decode cX3_reset 112 = .ok (.iastore, 1) := by decide +kernel
theorem dX3_reset_113 : decode cX3_reset 113 = .ok (.aload_n 0, 1) := by decide +kernel
theorem dX3_reset_114 : decode cX3_reset 114 = .ok (.getfield 43, 3) := by decide +kernel
theorem dX3_reset_117 : decode cX3_reset 117 = .ok (.iload_n 1, 1) := by decide +kernel
theorem dX3_reset_118 : decode cX3_reset 118 = .ok (.iconst 0, 1) := by decide +kernel
theorem dX3_reset_119 : decode cX3_reset 119 = .ok (.iastore, 1) := by decide +kernel
theorem dX3_reset_120 : decode cX3_reset 120 = .ok (.aload_n 0, 1) := by decide +kernel
theorem dX3_reset_121 : decode cX3_reset 121 = .ok (.getfield 46, 3) := by decide +kernel
theorem dX3_reset_124 : decode cX3_reset 124 = .ok (.iload_n 1, 1) := by decide +kernel
theorem dX3_reset_125 : decode cX3_reset 125 = .ok (.iconst 0, 1) := by decide +kernel
theorem dX3_reset_126 : decode cX3_reset 126 = .ok (.iastore, 1) := by decide +kernel
theorem dX3_reset_127 : decode cX3_reset 127 = .ok (.iinc 1 1, 3) := by decide +kernel
theorem dX3_reset_130 : decode cX3_reset 130 = .ok (.goto (-63), 3) := by decide +kernel
theorem dX3_reset_133 : decode cX3_reset 133 = .ok (.iconst 0, 1) := by decide +kernel
theorem dX3_reset_134 : decode cX3_reset 134 = .ok (.istore_n 1, 1) := by decide +kernel
theorem dX3_reset_135 : decode cX3_reset 135 = .ok (.iload_n 1, 1) := by decide +kernel
theorem dX3_reset_136 : decode cX3_reset 136 = .ok (.aload_n 0, 1) := by decide +kernel
theorem dX3_reset_137 : decode cX3_reset 137 = .ok (.getfield 49, 3) := by decide +kernel
theorem dX3_reset_140 : decode cX3_reset 140 = .ok (.arraylength, 1) := by decide +kernel
theorem dX3_reset_141 : decode cX3_reset 141 = .ok (.if_icmp .ge 17, 3) := by decide +kernel
theorem dX3_reset_144 : decode cX3_reset 144 = .ok (.aload_n 0, 1) := by decide +kernel
theorem dX3_reset_145 : decode cX3_reset 145 = .ok (.getfield 49, 3) := by decide +kernel
theorem dX3_reset_148 : decode cX3_reset 148 = .ok (.iload_n 1, 1) := by decide +kernel
theorem dX3_reset_149 : decode cX3_reset 149 = .ok (.bipush (-2), 2) := by decide +kernel
theorem dX3_reset_151 : decode cX3_reset 151 = .ok (.iastore, 1) := by decide +kernel
theorem dX3_reset_152 : decode cX3_reset 152 = .ok (.iinc 1 1, 3) := by decide +kernel
theorem dX3_reset_155 : decode cX3_reset 155 = .ok (.goto (-20), 3) := by decide +kernel
theorem dX3_reset_158 : decode cX3_reset 158 = .ok (.return_, 1) := by decide +kernel
theorem dX3_copyFrom_0 : decode cX3_copyFrom 0 = .ok (.aload_n 0, 1) := by decide +kernel
theorem dX3_copyFrom_1 : decode cX3_copyFrom 1 = .ok (.getfield 12, 3) := by decide +kernel
theorem dX3_copyFrom_4 : decode cX3_copyFrom 4 = .ok (.aload_n 1, 1) := by decide +kernel
theorem dX3_copyFrom_5 : decode cX3_copyFrom 5 = .ok (.getfield 12, 3) := by decide +kernel
theorem dX3_copyFrom_8 : decode cX3_copyFrom 8 = .ok (.invokevirtual 78, 3) := by decide +kernel
theorem dX3_copyFrom_11 : decode cX3_copyFrom 11 = .ok (.aload_n 0, 1) := by decide +kernel
theorem dX3_copyFrom_12 : decode cX3_copyFrom 12 = .ok (.aload_n 1, 1) := by decide +kernel
theorem dX3_copyFrom_13 : decode cX3_copyFrom 13 = .ok (.getfield 59, 3) := by decide +kernel
theorem dX3_copyFrom_16 : decode cX3_copyFrom 16 = .ok (.putfield 59, 3) := by decide +kernel
theorem dX3_copyFrom_19 : decode cX3_copyFrom 19 = .ok (.aload_n 0, 1) := by decide +kernel
theorem dX3_copyFrom_20 : decode cX3_copyFrom 20 = .ok (.aload_n 1, 1) := by decide +kernel
theorem dX3_copyFrom_21 : decode cX3_copyFrom 21 = .ok (.getfield 68, 3) := by decide +kernel
theorem dX3_copyFrom_24 : decode cX3_copyFrom 24 = .ok (.putfield 68, 3) := by decide +kernel
theorem dX3_copyFrom_27 : decode cX3_copyFrom 27 = .ok (.aload_n 1, 1) := by decide +kernel
theorem dX3_copyFrom_28 : decode cX3_copyFrom 28 = .ok (.getfield 18, 3) := by decide +kernel
theorem dX3_copyFrom_31 : decode cX3_copyFrom 31 = .ok (.aload_n 0, 1) := by decide +kernel
theorem dX3_copyFrom_32 : decode cX3_copyFrom 32 = .ok (.getfield 18, 3) := by decide +kernel
theorem dX3_copyFrom_35 : decode cX3_copyFrom 35 = .ok (.invokestatic 70, 3) := by decide +kernel
theorem dX3_copyFrom_38 : decode cX3_copyFrom 38 = .ok (.aload_n 1, 1) := by decide +kernel
theorem dX3_copyFrom_39 : decode cX3_copyFrom 39 = .ok (.getfield 22, 3) := by decide +kernel
theorem dX3_copyFrom_42 : decode cX3_copyFrom 42 = .ok (.aload_n 0, 1) := by decide +kernel
theorem dX3_copyFrom_43 : decode cX3_copyFrom 43 = .ok (.getfield 22, 3) := by decide +kernel
theorem dX3_copyFrom_46 : decode cX3_copyFrom 46 = .ok (.invokestatic 70, 3) := by decide +kernel
theorem dX3_copyFrom_49 : decode cX3_copyFrom 49 = .ok (.aload_n 1, 1) := by decide +kernel
theorem dX3_copyFrom_50 : decode cX3_copyFrom 50 = .ok (.getfield 25, 3) := by decide +kernel
theorem dX3_copyFrom_53 : decode cX3_copyFrom 53 = .ok (.aload_n 0, 1) := by decide +kernel
theorem dX3_copyFrom_54 : decode cX3_copyFrom 54 = .ok (.getfield 25, 3) := by decide +kernel
theorem dX3_copyFrom_57 : decode cX3_copyFrom 57 = .ok (.invokestatic 70, 3) := by decide +kernel
theorem dX3_copyFrom_60 : decode cX3_copyFrom 60 = .ok (.aload_n 1, 1) := by decide +kernel
theorem dX3_copyFrom_61 : decode cX3_copyFrom 61 = .ok (.getfield 28, 3) := by decide +kernel
theorem dX3_copyFrom_64 : decode cX3_copyFrom 64 = .ok (.aload_n 0, 1) := by decide +kernel
theorem dX3_copyFrom_65 : decode cX3_copyFrom 65 = .ok (.getfield 28, 3) := by decide +kernel
theorem dX3_copyFrom_68 : decode cX3_copyFrom 68 = .ok (.invokestatic 70, 3) := by decide +kernel
theorem dX3_copyFrom_71 : decode cX3_copyFrom 71 = .ok (.aload_n 1, 1) := by decide +kernel
theorem dX3_copyFrom_72 : decode cX3_copyFrom 72 = .ok (.getfield 31, 3) := by decide +kernel
theorem dX3_copyFrom_75 : decode cX3_copyFrom 75 = .ok (.aload_n 0, 1) := by decide +kernel
theorem dX3_copyFrom_76 : decode cX3_copyFrom 76 = .ok (.getfield 31, 3) := by decide +kernel
theorem dX3_copyFrom_79 : decode cX3_copyFrom 79 = .ok (.invokestatic 70, 3) := by decide +kernel
theorem dX3_copyFrom_82 : decode cX3_copyFrom 82 = .ok (.aload_n 1, 1) := by decide +kernel
theorem dX3_copyFrom_83 : decode cX3_copyFrom 83 = .ok (.getfield 34, 3) := by decide +kernel
theorem dX3_copyFrom_86 : decode cX3_copyFrom 86 = .ok (.aload_n 0, 1) := by decide +kernel
theorem dX3_copyFrom_87 : decode cX3_copyFrom 87 = .ok (.getfield 34, 3) := by decide +kernel
theorem dX3_copyFrom_90 : decode cX3_copyFrom 90 = .ok (.invokestatic 70, 3) := by decide +kernel
theorem dX3_copyFrom_93 : decode cX3_copyFrom 93 = .ok (.aload_n 1, 1) := by decide +kernel
theorem dX3_copyFrom_94 : decode cX3_copyFrom 94 = .ok (.getfield 37, 3) := by decide +kernel
theorem dX3_copyFrom_97 : decode cX3_copyFrom 97 = .ok (.aload_n 0, 1) := by decide +kernel
theorem dX3_copyFrom_98 : decode cX3_copyFrom 98 = .ok (.getfield 37, 3) := by decide +kernel
theorem dX3_copyFrom_101 : decode cX3_copyFrom 101 = .ok (.invokestatic 70, 3) := by decide +kernel
theorem dX3_copyFrom_104 : decode cX3_copyFrom 104 = .ok (.aload_n 1, 1) := by decide +kernel
theorem dX3_copyFrom_105 : decode cX3_copyFrom 105 = .ok (.getfield 40, 3) := by decide +kernel
theorem dX3_copyFrom_108 : decode cX3_copyFrom 108 = .ok (.aload_n 0, 1) := by decide +kernel
theorem dX3_copyFrom_109 : decode cX3_copyFrom 109 = .ok (.getfield 40, 3) := by decide +kernel
theorem dX3_copyFrom_112 : decode cX3_copyFrom 112 = .ok (.invokestatic 70, 3) := by decide +kernel
theorem dX3_copyFrom_115 : decode cX3_copyFrom 115 = .ok (.aload_n 1, 1) := by decide +kernel
theorem dX3_copyFrom_116 : decode cX3_copyFrom 116 = .ok (.getfield 43, 3) := by decide +kernel
theorem dX3_copyFrom_119 : decode cX3_copyFrom 119 = .ok (.aload_n 0, 1) := by decide +kernel
theorem dX3_copyFrom_120 : decode cX3_copyFrom 120 = .ok (.getfield 43, 3) := by decide +kernel
theorem dX3_copyFrom_123 : decode cX3_copyFrom 123 = .ok (.invokestatic 70, 3) := by decide +kernel
theorem dX3_copyFrom_126 : decode cX3_copyFrom 126 = .ok (.aload_n 1, 1) := by decide +kernel
theorem dX3_copyFrom_127 : decode cX3_copyFrom 127 = .ok (.getfield 46, 3) := by decide +kernel
theorem dX3_copyFrom_130 : decode cX3_copyFrom 130 = .ok (.aload_n 0, 1) := by decide +kernel
theorem dX3_copyFrom_131 : decode cX3_copyFrom 131 = .ok (.getfield 46, 3) := by decide +kernel
theorem dX3_copyFrom_134 : decode cX3_copyFrom 134 = .ok (.invokestatic 70, 3) := by decide +kernel
theorem dX3_copyFrom_137 : decode cX3_copyFrom 137 = .ok (.aload_n 1, 1) := by decide +kernel
theorem dX3_copyFrom_138 : decode cX3_copyFrom 138 = .ok (.getfield 49, 3) := by decide +kernel
theorem dX3_copyFrom_141 : decode cX3_copyFrom 141 = .ok (.aload_n 0, 1) := by decide +kernel
theorem dX3_copyFrom_142 : decode cX3_copyFrom 142 = .ok (.getfield 49, 3) := by decide +kernel
theorem dX3_copyFrom_145 : decode cX3_copyFrom 145 = .ok (.invokestatic 70, 3) := by decide +kernel
theorem dX3_copyFrom_148 : decode cX3_copyFrom 148 = .ok (.return_, 1) := by decide +kernel
theorem dX3_cancel_0 : decode cX3_cancel 0 = .ok (.aload_n 0, 1) := by decide +kernel
theorem dX3_cancel_1 : decode cX3_cancel 1 = .ok (.getfield 12, 3) := by decide +kernel
theorem dX3_cancel_4 : decode cX3_cancel 4 = .ok (.iload_n 1, 1) := by decide +kernel
theorem dX3_cancel_5 : decode cX3_cancel 5 = .ok (.invokevirtual 82, 3) := by decide +kernel
theorem dX3_cancel_8 : decode cX3_cancel 8 = .ok (.iconst 0, 1) := by decide +kernel
theorem dX3_cancel_9 : decode cX3_cancel 9 = .ok (.istore_n 2, 1) := by decide +kernel
theorem dX3_cancel_10 : decode cX3_cancel 10 = .ok (.iload_n 2, 1) := by decide +kernel
theorem dX3_cancel_11 : decode cX3_cancel 11 = .ok (.aload_n 0, 1) := by decide +kernel
theorem dX3_cancel_12 : decode cX3_cancel 12 = .ok (.getfield 49, 3) := by decide +kernel
theorem dX3_cancel_15 : decode cX3_cancel 15 = .ok (.arraylength, 1) := by decide +kernel
theorem dX3_cancel_16 : decode cX3_cancel 16 = .ok (.if_icmp .ge 27, 3) := by decide +kernel
theorem dX3_cancel_19 : decode cX3_cancel 19 = .ok (.aload_n 0, 1) := by decide +kernel
theorem dX3_cancel_20 : decode cX3_cancel 20 = .ok (.getfield 49, 3) := by decide +kernel
theorem dX3_cancel_23 : decode cX3_cancel 23 = .ok (.iload_n 2, 1) := by decide +kernel
theorem dX3_cancel_24 : decode cX3_cancel 24 = .ok (.iaload, 1) := by decide +kernel
theorem dX3_cancel_25 : decode cX3_cancel 25 = .ok (.iload_n 1, 1) := by decide +kernel
theorem dX3_cancel_26 : decode cX3_cancel 26 = .ok (.if_icmp .ne 11, 3) := by decide +kernel
theorem dX3_cancel_29 : decode cX3_cancel 29 = .ok (.aload_n 0, 1) := by decide +kernel
theorem dX3_cancel_30 : decode cX3_cancel 30 = .ok (.getfield 49, 3) := by decide +kernel
theorem dX3_cancel_33 : decode cX3_cancel 33 = .ok (.iload_n 2, 1) := by decide +kernel
theorem dX3_cancel_34 : decode cX3_cancel 34 = .ok (.bipush (-2), 2) := by decide +kernel
theorem dX3_cancel_36 : decode cX3_cancel 36 = .ok (.iastore, 1) := by decide +kernel
theorem dX3_cancel_37 : decode cX3_cancel 37 = .ok (.iinc 2 1, 3) := by decide +kernel
theorem dX3_cancel_40 : decode cX3_cancel 40 = .ok (.goto (-30), 3) := by decide +kernel
theorem dX3_cancel_43 : decode cX3_cancel 43 = .ok (.return_, 1) := by decide +kernel
theorem dX3_energySum_0 : decode cX3_energySum 0 = .ok (.lconst 0, 1) := by decide +kernel
theorem dX3_energySum_1 : decode cX3_energySum 1 = .ok (.lstore_n 1, 1) := by decide +kernel
theorem dX3_energySum_2 : decode cX3_energySum 2 = .ok (.iconst 0, 1) := by decide +kernel
theorem dX3_energySum_3 : decode cX3_energySum 3 = .ok (.istore_n 3, 1) := by decide +kernel
theorem dX3_energySum_4 : decode cX3_energySum 4 = .ok (.iload_n 3, 1) := by decide +kernel
theorem dX3_energySum_5 : decode cX3_energySum 5 = .ok (.aload_n 0, 1) := by decide +kernel
theorem dX3_energySum_6 : decode cX3_energySum 6 = .ok (.getfield 52, 3) := by decide +kernel
theorem dX3_energySum_9 : decode cX3_energySum 9 = .ok (.getfield 86, 3) := by decide +kernel
theorem dX3_energySum_12 : decode cX3_energySum 12 = .ok (.if_icmp .ge 19, 3) := by decide +kernel
theorem dX3_energySum_15 : decode cX3_energySum 15 = .ok (.lload_n 1, 1) := by decide +kernel
theorem dX3_energySum_16 : decode cX3_energySum 16 = .ok (.aload_n 0, 1) := by decide +kernel
theorem dX3_energySum_17 : decode cX3_energySum 17 = .ok (.getfield 31, 3) := by decide +kernel
theorem dX3_energySum_20 : decode cX3_energySum 20 = .ok (.iload_n 3, 1) := by decide +kernel
theorem dX3_energySum_21 : decode cX3_energySum 21 = .ok (.iaload, 1) := by decide +kernel
theorem dX3_energySum_22 : decode cX3_energySum 22 = .ok (.i2l, 1) := by decide +kernel
theorem dX3_energySum_23 : decode cX3_energySum 23 = .ok (.ladd, 1) := by decide +kernel
theorem dX3_energySum_24 : decode cX3_energySum 24 = .ok (.lstore_n 1, 1) := by decide +kernel
theorem dX3_energySum_25 : decode cX3_energySum 25 = .ok (.iinc 3 1, 3) := by decide +kernel
theorem dX3_energySum_28 : decode cX3_energySum 28 = .ok (.goto (-24), 3) := by decide +kernel
theorem dX3_energySum_31 : decode cX3_energySum 31 = .ok (.lload_n 1, 1) := by decide +kernel
theorem dX3_energySum_32 : decode cX3_energySum 32 = .ok (.lreturn, 1) := by decide +kernel
theorem dX3_throttleRank_0 : decode cX3_throttleRank 0 = .ok (.aload_n 0, 1) := by decide +kernel
theorem dX3_throttleRank_1 : decode cX3_throttleRank 1 = .ok (.getfield 18, 3) := by decide +kernel
theorem dX3_throttleRank_4 : decode cX3_throttleRank 4 = .ok (.iload_n 1, 1) := by decide +kernel
theorem dX3_throttleRank_5 : decode cX3_throttleRank 5 = .ok (.iaload, 1) := by decide +kernel
theorem dX3_throttleRank_6 : decode cX3_throttleRank 6 = .ok (.aload_n 0, 1) := by decide +kernel
theorem dX3_throttleRank_7 : decode cX3_throttleRank 7 = .ok (.getfield 25, 3) := by decide +kernel
theorem dX3_throttleRank_10 : decode cX3_throttleRank 10 = .ok (.iload_n 1, 1) := by decide +kernel
theorem dX3_throttleRank_11 : decode cX3_throttleRank 11 = .ok (.iaload, 1) := by decide +kernel
theorem dX3_throttleRank_12 : decode cX3_throttleRank 12 = .ok (.isub, 1) := by decide +kernel
theorem dX3_throttleRank_13 : decode cX3_throttleRank 13 = .ok (.istore_n 2, 1) := by decide +kernel
theorem dX3_throttleRank_14 : decode cX3_throttleRank 14 = .ok (.iconst 0, 1) := by decide +kernel
theorem dX3_throttleRank_15 : decode cX3_throttleRank 15 = .ok (.istore_n 3, 1) := by decide +kernel
theorem dX3_throttleRank_16 : decode cX3_throttleRank 16 = .ok (.iconst 0, 1) := by decide +kernel
theorem dX3_throttleRank_17 : decode cX3_throttleRank 17 = .ok (.istore 4, 2) := by decide +kernel
theorem dX3_throttleRank_19 : decode cX3_throttleRank 19 = .ok (.iload 4, 2) := by decide +kernel
theorem dX3_throttleRank_21 : decode cX3_throttleRank 21 = .ok (.aload_n 0, 1) := by decide +kernel
theorem dX3_throttleRank_22 : decode cX3_throttleRank 22 = .ok (.getfield 52, 3) := by decide +kernel
theorem dX3_throttleRank_25 : decode cX3_throttleRank 25 = .ok (.getfield 86, 3) := by decide +kernel
theorem dX3_throttleRank_28 : decode cX3_throttleRank 28 = .ok (.if_icmp .ge 47, 3) := by decide +kernel
theorem dX3_throttleRank_31 : decode cX3_throttleRank 31 = .ok (.aload_n 0, 1) := by decide +kernel
theorem dX3_throttleRank_32 : decode cX3_throttleRank 32 = .ok (.getfield 18, 3) := by decide +kernel
theorem dX3_throttleRank_35 : decode cX3_throttleRank 35 = .ok (.iload 4, 2) := by decide +kernel
theorem dX3_throttleRank_37 : decode cX3_throttleRank 37 = .ok (.iaload, 1) := by decide +kernel
theorem dX3_throttleRank_38 : decode cX3_throttleRank 38 = .ok (.aload_n 0, 1) := by decide +kernel
theorem dX3_throttleRank_39 : decode cX3_throttleRank 39 = .ok (.getfield 25, 3) := by decide +kernel
theorem dX3_throttleRank_42 : decode cX3_throttleRank 42 = .ok (.iload 4, 2) := by decide +kernel
theorem dX3_throttleRank_44 : decode cX3_throttleRank 44 = .ok (.iaload, 1) := by decide +kernel
theorem dX3_throttleRank_45 : decode cX3_throttleRank 45 = .ok (.isub, 1) := by decide +kernel
theorem dX3_throttleRank_46 : decode cX3_throttleRank 46 = .ok (.istore 5, 2) := by decide +kernel
theorem dX3_throttleRank_48 : decode cX3_throttleRank 48 = .ok (.iload 5, 2) := by decide +kernel
theorem dX3_throttleRank_50 : decode cX3_throttleRank 50 = .ok (.iload_n 2, 1) := by decide +kernel
theorem dX3_throttleRank_51 : decode cX3_throttleRank 51 = .ok (.if_icmp .lt 15, 3) := by decide +kernel
theorem dX3_throttleRank_54 : decode cX3_throttleRank 54 = .ok (.iload 5, 2) := by decide +kernel
theorem dX3_throttleRank_56 : decode cX3_throttleRank 56 = .ok (.iload_n 2, 1) := by decide +kernel
theorem dX3_throttleRank_57 : decode cX3_throttleRank 57 = .ok (.if_icmp .ne 12, 3) := by decide +kernel
theorem dX3_throttleRank_60 : decode cX3_throttleRank 60 = .ok (.iload 4, 2) := by decide +kernel
theorem dX3_throttleRank_62 : decode cX3_throttleRank 62 = .ok (.iload_n 1, 1) := by decide +kernel
theorem dX3_throttleRank_63 : decode cX3_throttleRank 63 = .ok (.if_icmp .ge 6, 3) := by decide +kernel
theorem dX3_throttleRank_66 : decode cX3_throttleRank 66 = .ok (.iinc 3 1, 3) := by decide +kernel
theorem dX3_throttleRank_69 : decode cX3_throttleRank 69 = .ok (.iinc 4 1, 3) := by decide +kernel
theorem dX3_throttleRank_72 : decode cX3_throttleRank 72 = .ok (.goto (-53), 3) := by decide +kernel
theorem dX3_throttleRank_75 : decode cX3_throttleRank 75 = .ok (.iload_n 3, 1) := by decide +kernel
theorem dX3_throttleRank_76 : decode cX3_throttleRank 76 = .ok (.ireturn, 1) := by decide +kernel
theorem dX3_passTicksUntilOver_0 : decode cX3_passTicksUntilOver 0 = .ok (.iconst 0, 1) := by decide +kernel
theorem dX3_passTicksUntilOver_1 : decode cX3_passTicksUntilOver 1 = .ok (.istore_n 1, 1) := by decide +kernel
theorem dX3_passTicksUntilOver_2 : decode cX3_passTicksUntilOver 2 = .ok (.iload_n 1, 1) := by decide +kernel
theorem dX3_passTicksUntilOver_3 : decode cX3_passTicksUntilOver 3 = .ok (.sipush 1000, 3) := by decide +kernel
theorem dX3_passTicksUntilOver_6 : decode cX3_passTicksUntilOver 6 = .ok (.if_icmp .ge 24, 3) := by decide +kernel
theorem dX3_passTicksUntilOver_9 : decode cX3_passTicksUntilOver 9 = .ok (.aload_n 0, 1) := by decide +kernel
theorem dX3_passTicksUntilOver_10 : decode cX3_passTicksUntilOver 10 = .ok (.getfield 12, 3) := by decide +kernel
theorem dX3_passTicksUntilOver_13 : decode cX3_passTicksUntilOver 13 = .ok (.invokevirtual 89, 3) := by decide +kernel
theorem dX3_passTicksUntilOver_16 : decode cX3_passTicksUntilOver 16 = .ok (.ifCond .ne 14, 3) := by decide +kernel
theorem dX3_passTicksUntilOver_19 : decode cX3_passTicksUntilOver 19 = .ok (.aload_n 0, 1) := by decide +kernel
theorem dX3_passTicksUntilOver_20 : decode cX3_passTicksUntilOver 20 = .ok (.invokevirtual 93, 3) := by decide +kernel
theorem dX3_passTicksUntilOver_23 : decode cX3_passTicksUntilOver 23 = .ok (.pop, 1) := by decide +kernel
theorem dX3_passTicksUntilOver_24 : decode cX3_passTicksUntilOver 24 = .ok (.iinc 1 1, 3) := by decide +kernel
theorem dX3_passTicksUntilOver_27 : decode cX3_passTicksUntilOver 27 = .ok (.goto (-25), 3) := by decide +kernel
theorem dX3_passTicksUntilOver_30 : decode cX3_passTicksUntilOver 30 = .ok (.return_, 1) := by decide +kernel
theorem dX3_passTick_0 : decode cX3_passTick 0 = .ok (.iconst 0, 1) := by decide +kernel
theorem dX3_passTick_1 : decode cX3_passTick 1 = .ok (.istore_n 1, 1) := by decide +kernel
theorem dX3_passTick_2 : decode cX3_passTick 2 = .ok (.iconst 0, 1) := by decide +kernel
theorem dX3_passTick_3 : decode cX3_passTick 3 = .ok (.istore_n 2, 1) := by decide +kernel
theorem dX3_passTick_4 : decode cX3_passTick 4 = .ok (.iload_n 2, 1) := by decide +kernel
theorem dX3_passTick_5 : decode cX3_passTick 5 = .ok (.aload_n 0, 1) := by decide +kernel
theorem dX3_passTick_6 : decode cX3_passTick 6 = .ok (.getfield 52, 3) := by decide +kernel
theorem dX3_passTick_9 : decode cX3_passTick 9 = .ok (.getfield 86, 3) := by decide +kernel
theorem dX3_passTick_12 : decode cX3_passTick 12 = .ok (.if_icmp .ge 22, 3) := by decide +kernel
theorem dX3_passTick_15 : decode cX3_passTick 15 = .ok (.aload_n 0, 1) := by decide +kernel
theorem dX3_passTick_16 : decode cX3_passTick 16 = .ok (.iload_n 2, 1) := by decide +kernel
theorem dX3_passTick_17 : decode cX3_passTick 17 = .ok (.invokevirtual 97, 3) := by decide +kernel
theorem dX3_passTick_20 : decode cX3_passTick 20 = .ok (.iload_n 1, 1) := by decide +kernel
theorem dX3_passTick_21 : decode cX3_passTick 21 = .ok (.aload_n 0, 1) := by decide +kernel
theorem dX3_passTick_22 : decode cX3_passTick 22 = .ok (.iload_n 2, 1) := by decide +kernel
theorem dX3_passTick_23 : decode cX3_passTick 23 = .ok (.invokevirtual 100, 3) := by decide +kernel
theorem dX3_passTick_26 : decode cX3_passTick 26 = .ok (.iadd, 1) := by decide +kernel
theorem dX3_passTick_27 : decode cX3_passTick 27 = .ok (.istore_n 1, 1) := by decide +kernel
theorem dX3_passTick_28 : decode cX3_passTick 28 = .ok (.iinc 2 1, 3) := by decide +kernel
theorem dX3_passTick_31 : decode cX3_passTick 31 = .ok (.goto (-27), 3) := by decide +kernel
theorem dX3_passTick_34 : decode cX3_passTick 34 = .ok (.aload_n 0, 1) := by decide +kernel
theorem dX3_passTick_35 : decode cX3_passTick 35 = .ok (.dup, 1) := by decide +kernel
theorem dX3_passTick_36 : decode cX3_passTick 36 = .ok (.getfield 59, 3) := by decide +kernel
theorem dX3_passTick_39 : decode cX3_passTick 39 = .ok (.iconst 1, 1) := by decide +kernel
theorem dX3_passTick_40 : decode cX3_passTick 40 = .ok (.iadd, 1) := by decide +kernel
theorem dX3_passTick_41 : decode cX3_passTick 41 = .ok (.putfield 59, 3) := by decide +kernel
theorem dX3_passTick_44 : decode cX3_passTick 44 = .ok (.iload_n 1, 1) := by decide +kernel
theorem dX3_passTick_45 : decode cX3_passTick 45 = .ok (.ireturn, 1) := by decide +kernel
theorem dX3_startJobs_0 : decode cX3_startJobs 0 = .ok (.aload_n 0, 1) := by decide +kernel
theorem dX3_startJobs_1 : decode cX3_startJobs 1 = .ok (.iload_n 1, 1) := by decide +kernel
theorem dX3_startJobs_2 : decode cX3_startJobs 2 = .ok (.invokevirtual 104, 3) := by decide +kernel
theorem dX3_startJobs_5 : decode cX3_startJobs 5 = .ok (.ifCond .le 7, 3) := by decide +kernel
theorem dX3_startJobs_8 : decode cX3_startJobs 8 = .ok (.iconst 1, 1) := by decide +kernel
theorem dX3_startJobs_9 : decode cX3_startJobs 9 = .ok (.goto 4, 3) := by decide +kernel
theorem dX3_startJobs_12 : decode cX3_startJobs 12 = .ok (.iconst 0, 1) := by decide +kernel
theorem dX3_startJobs_13 : decode cX3_startJobs 13 = .ok (.istore_n 2, 1) := by decide +kernel
theorem dX3_startJobs_14 : decode cX3_startJobs 14 = .ok (.aload_n 0, 1) := by decide +kernel
theorem dX3_startJobs_15 : decode cX3_startJobs 15 = .ok (.iload_n 1, 1) := by decide +kernel
theorem dX3_startJobs_16 : decode cX3_startJobs 16 = .ok (.iload_n 2, 1) := by decide +kernel
theorem dX3_startJobs_17 : decode cX3_startJobs 17 = .ok (.invokevirtual 107, 3) := by decide +kernel
theorem dX3_startJobs_20 : decode cX3_startJobs 20 = .ok (.aload_n 0, 1) := by decide +kernel
theorem dX3_startJobs_21 : decode cX3_startJobs 21 = .ok (.iload_n 1, 1) := by decide +kernel
theorem dX3_startJobs_22 : decode cX3_startJobs 22 = .ok (.invokevirtual 111, 3) := by decide +kernel
theorem dX3_startJobs_25 : decode cX3_startJobs 25 = .ok (.aload_n 0, 1) := by decide +kernel
theorem dX3_startJobs_26 : decode cX3_startJobs 26 = .ok (.getfield 46, 3) := by decide +kernel
theorem dX3_startJobs_29 : decode cX3_startJobs 29 = .ok (.iload_n 1, 1) := by decide +kernel
theorem dX3_startJobs_30 : decode cX3_startJobs 30 = .ok (.aload_n 0, 1) := by decide +kernel
theorem dX3_startJobs_31 : decode cX3_startJobs 31 = .ok (.iload_n 1, 1) := by decide +kernel
theorem dX3_startJobs_32 : decode cX3_startJobs 32 = .ok (.invokevirtual 104, 3) := by decide +kernel
theorem dX3_startJobs_35 : decode cX3_startJobs 35 = .ok (.iastore, 1) := by decide +kernel
theorem dX3_startJobs_36 : decode cX3_startJobs 36 = .ok (.iload_n 2, 1) := by decide +kernel
theorem dX3_startJobs_37 : decode cX3_startJobs 37 = .ok (.ifCond .ne 22, 3) := by decide +kernel
theorem dX3_startJobs_40 : decode cX3_startJobs 40 = .ok (.aload_n 0, 1) := by decide +kernel
theorem dX3_startJobs_41 : decode cX3_startJobs 41 = .ok (.getfield 46, 3) := by decide +kernel
theorem dX3_startJobs_44 : decode cX3_startJobs 44 = .ok (.iload_n 1, 1) := by decide +kernel
theorem dX3_startJobs_45 : decode cX3_startJobs 45 = .ok (.iaload, 1) := by decide +kernel
theorem dX3_startJobs_46 : decode cX3_startJobs 46 = .ok (.ifCond .le 13, 3) := by decide +kernel
theorem dX3_startJobs_49 : decode cX3_startJobs 49 = .ok (.aload_n 0, 1) := by decide +kernel
theorem dX3_startJobs_50 : decode cX3_startJobs 50 = .ok (.getfield 43, 3) := by decide +kernel
theorem dX3_startJobs_53 : decode cX3_startJobs 53 = .ok (.iload_n 1, 1) := by decide +kernel
theorem dX3_startJobs_54 : decode cX3_startJobs 54 = .ok (.dup2, 1) := by decide +kernel
theorem dX3_startJobs_55 : decode cX3_startJobs 55 = .ok (.iaload, 1) := by decide +kernel
theorem dX3_startJobs_56 : decode cX3_startJobs 56 = .ok (.iconst 1, 1) := by decide +kernel
theorem dX3_startJobs_57 : decode cX3_startJobs 57 = .ok (.iadd, 1) := by decide +kernel
theorem dX3_startJobs_58 : decode cX3_startJobs 58 = .ok (.iastore, 1) := by decide +kernel
theorem dX3_startJobs_59 : decode cX3_startJobs 59 = .ok (.return_, 1) := by decide +kernel
theorem dX3_countBusyCores_0 : decode cX3_countBusyCores 0 = .ok (.iconst 0, 1) := by decide +kernel
theorem dX3_countBusyCores_1 : decode cX3_countBusyCores 1 = .ok (.istore_n 2, 1) := by decide +kernel
theorem dX3_countBusyCores_2 : decode cX3_countBusyCores 2 = .ok (.iconst 0, 1) := by decide +kernel
theorem dX3_countBusyCores_3 : decode cX3_countBusyCores 3 = .ok (.istore_n 3, 1) := by decide +kernel
theorem dX3_countBusyCores_4 : decode cX3_countBusyCores 4 = .ok (.iload_n 3, 1) := by decide +kernel
theorem dX3_countBusyCores_5 : decode cX3_countBusyCores 5 = .ok (.aload_n 0, 1) := by decide +kernel
theorem dX3_countBusyCores_6 : decode cX3_countBusyCores 6 = .ok (.getfield 52, 3) := by decide +kernel
theorem dX3_countBusyCores_9 : decode cX3_countBusyCores 9 = .ok (.getfield 114, 3) := by decide +kernel
theorem dX3_countBusyCores_12 : decode cX3_countBusyCores 12 = .ok (.iload_n 1, 1) := by decide +kernel
theorem dX3_countBusyCores_13 : decode cX3_countBusyCores 13 = .ok (.iaload, 1) := by decide +kernel
theorem dX3_countBusyCores_14 : decode cX3_countBusyCores 14 = .ok (.if_icmp .ge 27, 3) := by decide +kernel
theorem dX3_countBusyCores_17 : decode cX3_countBusyCores 17 = .ok (.aload_n 0, 1) := by decide +kernel
theorem dX3_countBusyCores_18 : decode cX3_countBusyCores 18 = .ok (.getfield 49, 3) := by decide +kernel
theorem dX3_countBusyCores_21 : decode cX3_countBusyCores 21 = .ok (.iload_n 1, 1) := by decide +kernel
theorem dX3_countBusyCores_22 : decode cX3_countBusyCores 22 = .ok (.iconst 4, 1) := by decide +kernel
theorem dX3_countBusyCores_23 : decode cX3_countBusyCores 23 = .ok (.imul, 1) := by decide +kernel
theorem dX3_countBusyCores_24 : decode cX3_countBusyCores 24 = .ok (.iload_n 3, 1) := by decide +kernel
theorem dX3_countBusyCores_25 : decode cX3_countBusyCores 25 = .ok (.iadd, 1) := by decide +kernel
theorem dX3_countBusyCores_26 : decode cX3_countBusyCores 26 = .ok (.iaload, 1) := by decide +kernel
theorem dX3_countBusyCores_27 : decode cX3_countBusyCores 27 = .ok (.bipush (-2), 2) := by decide +kernel
theorem dX3_countBusyCores_29 : decode cX3_countBusyCores 29 = .ok (.if_icmp .eq 6, 3) := by decide +kernel
theorem dX3_countBusyCores_32 : decode cX3_countBusyCores 32 = .ok (.iinc 2 1, 3) := by decide +kernel
theorem dX3_countBusyCores_35 : decode cX3_countBusyCores 35 = .ok (.iinc 3 1, 3) := by decide +kernel
theorem dX3_countBusyCores_38 : decode cX3_countBusyCores 38 = .ok (.goto (-34), 3) := by decide +kernel
theorem dX3_countBusyCores_41 : decode cX3_countBusyCores 41 = .ok (.iload_n 2, 1) := by decide +kernel
theorem dX3_countBusyCores_42 : decode cX3_countBusyCores 42 = .ok (.ireturn, 1) := by decide +kernel
theorem dX3_releaseJobs_0 : decode cX3_releaseJobs 0 = .ok (.aload_n 0, 1) := by decide +kernel
theorem dX3_releaseJobs_1 : decode cX3_releaseJobs 1 = .ok (.getfield 12, 3) := by decide +kernel
theorem dX3_releaseJobs_4 : decode cX3_releaseJobs 4 = .ok (.getfield 117, 3) := by decide +kernel
theorem dX3_releaseJobs_7 : decode cX3_releaseJobs 7 = .ok (.iload_n 1, 1) := by decide +kernel
theorem dX3_releaseJobs_8 : decode cX3_releaseJobs 8 = .ok (.iaload, 1) := by decide +kernel
theorem dX3_releaseJobs_9 : decode cX3_releaseJobs 9 = .ok (.istore_n 3, 1) := by decide +kernel
theorem dX3_releaseJobs_10 : decode cX3_releaseJobs 10 = .ok (.iload_n 3, 1) := by decide +kernel
theorem dX3_releaseJobs_11 : decode cX3_releaseJobs 11 = .ok (.ifCond .eq 65, 3) := by decide +kernel
theorem dX3_releaseJobs_14 : decode cX3_releaseJobs 14 = .ok (.iload_n 2, 1) := by decide +kernel
theorem dX3_releaseJobs_15 : decode cX3_releaseJobs 15 = .ok (.ifCond .ne 18, 3) := by decide +kernel
theorem dX3_releaseJobs_18 : decode cX3_releaseJobs 18 = .ok (.aload_n 0, 1) := by decide +kernel
theorem dX3_releaseJobs_19 : decode cX3_releaseJobs 19 = .ok (.getfield 12, 3) := by decide +kernel
theorem dX3_releaseJobs_22 : decode cX3_releaseJobs 22 = .ok (.iload_n 3, 1) := by decide +kernel
theorem dX3_releaseJobs_23 : decode cX3_releaseJobs 23 = .ok (.invokevirtual 120, 3) := by decide +kernel
theorem dX3_releaseJobs_26 : decode cX3_releaseJobs 26 = .ok (.aload_n 0, 1) := by decide +kernel
theorem dX3_releaseJobs_27 : decode cX3_releaseJobs 27 = .ok (.getfield 59, 3) := by decide +kernel
theorem dX3_releaseJobs_30 : decode cX3_releaseJobs 30 = .ok (.if_icmp .gt 46, 3) := by decide +kernel
theorem dX3_releaseJobs_33 : decode cX3_releaseJobs 33 = .ok (.aload_n 0, 1) := by decide +kernel
theorem dX3_releaseJobs_34 : decode cX3_releaseJobs 34 = .ok (.getfield 12, 3) := by decide +kernel
theorem dX3_releaseJobs_37 : decode cX3_releaseJobs 37 = .ok (.aload_n 0, 1) := by decide +kernel
theorem dX3_releaseJobs_38 : decode cX3_releaseJobs 38 = .ok (.getfield 59, 3) := by decide +kernel
theorem dX3_releaseJobs_41 : decode cX3_releaseJobs 41 = .ok (.iload_n 3, 1) := by decide +kernel
theorem dX3_releaseJobs_42 : decode cX3_releaseJobs 42 = .ok (.invokevirtual 123, 3) := by decide +kernel
theorem dX3_releaseJobs_45 : decode cX3_releaseJobs 45 = .ok (.istore 4, 2) := by decide +kernel
theorem dX3_releaseJobs_47 : decode cX3_releaseJobs 47 = .ok (.aload_n 0, 1) := by decide +kernel
theorem dX3_releaseJobs_48 : decode cX3_releaseJobs 48 = .ok (.getfield 12, 3) := by decide +kernel
theorem dX3_releaseJobs_51 : decode cX3_releaseJobs 51 = .ok (.getfield 117, 3) := by decide +kernel
theorem dX3_releaseJobs_54 : decode cX3_releaseJobs 54 = .ok (.iload_n 1, 1) := by decide +kernel
theorem dX3_releaseJobs_55 : decode cX3_releaseJobs 55 = .ok (.iload_n 3, 1) := by decide +kernel
theorem dX3_releaseJobs_56 : decode cX3_releaseJobs 56 = .ok (.iload 4, 2) := by decide +kernel
theorem dX3_releaseJobs_58 : decode cX3_releaseJobs 58 = .ok (.iconst (-1), 1) := by decide +kernel
theorem dX3_releaseJobs_59 : decode cX3_releaseJobs 59 = .ok (.ixor, 1) := by decide +kernel
theorem dX3_releaseJobs_60 : decode cX3_releaseJobs 60 = .ok (.iand, 1) := by decide +kernel
theorem dX3_releaseJobs_61 : decode cX3_releaseJobs 61 = .ok (.iastore, 1) := by decide +kernel
theorem dX3_releaseJobs_62 : decode cX3_releaseJobs 62 = .ok (.aload_n 0, 1) := by decide +kernel
theorem dX3_releaseJobs_63 : decode cX3_releaseJobs 63 = .ok (.getfield 12, 3) := by decide +kernel
theorem dX3_releaseJobs_66 : decode cX3_releaseJobs 66 = .ok (.getfield 127, 3) := by decide +kernel
theorem dX3_releaseJobs_69 : decode cX3_releaseJobs 69 = .ok (.iload_n 1, 1) := by decide +kernel
theorem dX3_releaseJobs_70 : decode cX3_releaseJobs 70 = .ok (.dup2, 1) := by decide +kernel
theorem dX3_releaseJobs_71 : decode cX3_releaseJobs 71 = .ok (.iaload, 1) := by decide +kernel
theorem dX3_releaseJobs_72 : decode cX3_releaseJobs 72 = .ok (.iload 4, 2) := by decide +kernel
theorem dX3_releaseJobs_74 : decode cX3_releaseJobs 74 = .ok (.ior, 1) := by decide +kernel
theorem dX3_releaseJobs_75 : decode cX3_releaseJobs 75 = .ok (.iastore, 1) := by decide +kernel
theorem dX3_releaseJobs_76 : decode cX3_releaseJobs 76 = .ok (.return_, 1) := by decide +kernel
theorem dX3_assignJobs_0 : decode cX3_assignJobs 0 = .ok (.iconst 0, 1) := by decide +kernel
theorem dX3_assignJobs_1 : decode cX3_assignJobs 1 = .ok (.istore_n 2, 1) := by decide +kernel
theorem dX3_assignJobs_2 : decode cX3_assignJobs 2 = .ok (.iload_n 2, 1) := by decide +kernel
theorem dX3_assignJobs_3 : decode cX3_assignJobs 3 = .ok (.aload_n 0, 1) := by decide +kernel
theorem dX3_assignJobs_4 : decode cX3_assignJobs 4 = .ok (.getfield 52, 3) := by decide +kernel
theorem dX3_assignJobs_7 : decode cX3_assignJobs 7 = .ok (.getfield 114, 3) := by decide +kernel
theorem dX3_assignJobs_10 : decode cX3_assignJobs 10 = .ok (.iload_n 1, 1) := by decide +kernel
theorem dX3_assignJobs_11 : decode cX3_assignJobs 11 = .ok (.iaload, 1) := by decide +kernel
theorem dX3_assignJobs_12 : decode cX3_assignJobs 12 = .ok (.if_icmp .ge 87, 3) := by decide +kernel
theorem dX3_assignJobs_15 : decode cX3_assignJobs 15 = .ok (.aload_n 0, 1) := by decide +kernel
theorem dX3_assignJobs_16 : decode cX3_assignJobs 16 = .ok (.getfield 12, 3) := by decide +kernel
theorem dX3_assignJobs_19 : decode cX3_assignJobs 19 = .ok (.getfield 127, 3) := by decide +kernel
theorem dX3_assignJobs_22 : decode cX3_assignJobs 22 = .ok (.iload_n 1, 1) := by decide +kernel
theorem dX3_assignJobs_23 : decode cX3_assignJobs 23 = .ok (.iaload, 1) := by decide +kernel
theorem dX3_assignJobs_24 : decode cX3_assignJobs 24 = .ok (.ifCond .eq 75, 3) := by decide +kernel
theorem dX3_assignJobs_27 : decode cX3_assignJobs 27 = .ok (.iload_n 1, 1) := by decide +kernel
theorem dX3_assignJobs_28 : decode cX3_assignJobs 28 = .ok (.iconst 4, 1) := by decide +kernel
theorem dX3_assignJobs_29 : decode cX3_assignJobs 29 = .ok (.imul, 1) := by decide +kernel
theorem dX3_assignJobs_30 : decode cX3_assignJobs 30 = .ok (.iload_n 2, 1) := by decide +kernel
theorem dX3_assignJobs_31 : decode cX3_assignJobs 31 = .ok (.iadd, 1) := by decide +kernel
theorem dX3_assignJobs_32 : decode cX3_assignJobs 32 = .ok (.istore_n 3, 1) := by decide +kernel
theorem dX3_assignJobs_33 : decode cX3_assignJobs 33 = .ok (.aload_n 0, 1) := by decide +kernel
theorem dX3_assignJobs_34 : decode cX3_assignJobs 34 = .ok (.getfield 49, 3) := by decide +kernel
theorem dX3_assignJobs_37 : decode cX3_assignJobs 37 = .ok (.iload_n 3, 1) := by decide +kernel
theorem dX3_assignJobs_38 : decode cX3_assignJobs 38 = .ok (.iaload, 1) := by decide +kernel
theorem dX3_assignJobs_39 : decode cX3_assignJobs 39 = .ok (.bipush (-2), 2) := by decide +kernel
theorem dX3_assignJobs_41 : decode cX3_assignJobs 41 = .ok (.if_icmp .ne 52, 3) := by decide +kernel
theorem dX3_assignJobs_44 : decode cX3_assignJobs 44 = .ok (.aload_n 0, 1) := by decide +kernel
theorem dX3_assignJobs_45 : decode cX3_assignJobs 45 = .ok (.getfield 12, 3) := by decide +kernel
theorem dX3_assignJobs_48 : decode cX3_assignJobs 48 = .ok (.aload_n 0, 1) := by decide +kernel
theorem dX3_assignJobs_49 : decode cX3_assignJobs 49 = .ok (.getfield 12, 3) := by decide +kernel
theorem dX3_assignJobs_52 : decode cX3_assignJobs 52 = .ok (.getfield 127, 3) := by decide +kernel
theorem dX3_assignJobs_55 : decode cX3_assignJobs 55 = .ok (.iload_n 1, 1) := by decide +kernel
theorem dX3_assignJobs_56 : decode cX3_assignJobs 56 = .ok (.iaload, 1) := by decide +kernel
theorem dX3_assignJobs_57 : decode cX3_assignJobs 57 = .ok (.invokevirtual 130, 3) := by decide +kernel
theorem dX3_assignJobs_60 : decode cX3_assignJobs 60 = .ok (.istore 4, 2) := by decide +kernel
theorem dX3_assignJobs_62 : decode cX3_assignJobs 62 = .ok (.aload_n 0, 1) := by decide +kernel
theorem dX3_assignJobs_63 : decode cX3_assignJobs 63 = .ok (.getfield 12, 3) := by decide +kernel
theorem dX3_assignJobs_66 : decode cX3_assignJobs 66 = .ok (.getfield 127, 3) := by decide +kernel
theorem dX3_assignJobs_69 : decode cX3_assignJobs 69 = .ok (.iload_n 1, 1) := by decide +kernel
theorem dX3_assignJobs_70 : decode cX3_assignJobs 70 = .ok (.aload_n 0, 1) := by decide +kernel
theorem dX3_assignJobs_71 : decode cX3_assignJobs 71 = .ok (.getfield 12, 3) := by decide +kernel
theorem dX3_assignJobs_74 : decode cX3_assignJobs 74 = .ok (.getfield 127, 3) := by decide +kernel
theorem dX3_assignJobs_77 : decode cX3_assignJobs 77 = .ok (.iload_n 1, 1) := by decide +kernel
theorem dX3_assignJobs_78 : decode cX3_assignJobs 78 = .ok (.iaload, 1) := by decide +kernel
theorem dX3_assignJobs_79 : decode cX3_assignJobs 79 = .ok (.iload 4, 2) := by decide +kernel
theorem dX3_assignJobs_81 : decode cX3_assignJobs 81 = .ok (.invokestatic 133, 3) := by decide +kernel
theorem dX3_assignJobs_84 : decode cX3_assignJobs 84 = .ok (.iastore, 1) := by decide +kernel
theorem dX3_assignJobs_85 : decode cX3_assignJobs 85 = .ok (.aload_n 0, 1) := by decide +kernel
theorem dX3_assignJobs_86 : decode cX3_assignJobs 86 = .ok (.getfield 49, 3) := by decide +kernel
theorem dX3_assignJobs_89 : decode cX3_assignJobs 89 = .ok (.iload_n 3, 1) := by decide +kernel
theorem dX3_assignJobs_90 : decode cX3_assignJobs 90 = .ok (.iload 4, 2) := by decide +kernel
theorem dX3_assignJobs_92 : decode cX3_assignJobs 92 = .ok (.iastore, 1) := by decide +kernel
theorem dX3_assignJobs_93 : decode cX3_assignJobs 93 = .ok (.iinc 2 1, 3) := by decide +kernel
theorem dX3_assignJobs_96 : decode cX3_assignJobs 96 = .ok (.goto (-94), 3) := by decide +kernel
theorem dX3_assignJobs_99 : decode cX3_assignJobs 99 = .ok (.return_, 1) := by decide +kernel
theorem dX3_runDomain_0 : decode cX3_runDomain 0 = .ok (.aload_n 0, 1) := by decide +kernel
theorem dX3_runDomain_1 : decode cX3_runDomain 1 = .ok (.getfield 46, 3) := by decide +kernel
theorem dX3_runDomain_4 : decode cX3_runDomain 4 = .ok (.iload_n 1, 1) := by decide +kernel
theorem dX3_runDomain_5 : decode cX3_runDomain 5 = .ok (.iaload, 1) := by decide +kernel
theorem dX3_runDomain_6 : decode cX3_runDomain 6 = .ok (.ifCond .le 7, 3) := by decide +kernel
theorem dX3_runDomain_9 : decode cX3_runDomain 9 = .ok (.iconst 1, 1) := by decide +kernel
theorem dX3_runDomain_10 : decode cX3_runDomain 10 = .ok (.goto 4, 3) := by decide +kernel
theorem dX3_runDomain_13 : decode cX3_runDomain 13 = .ok (.iconst 0, 1) := by decide +kernel
theorem dX3_runDomain_14 : decode cX3_runDomain 14 = .ok (.istore_n 2, 1) := by decide +kernel
theorem dX3_runDomain_15 : decode cX3_runDomain 15 = .ok (.aload_n 0, 1) := by decide +kernel
theorem dX3_runDomain_16 : decode cX3_runDomain 16 = .ok (.iload_n 1, 1) := by decide +kernel
theorem dX3_runDomain_17 : decode cX3_runDomain 17 = .ok (.aload_n 0, 1) := by decide +kernel
theorem dX3_runDomain_18 : decode cX3_runDomain 18 = .ok (.iload_n 1, 1) := by decide +kernel
theorem dX3_runDomain_19 : decode cX3_runDomain 19 = .ok (.invokevirtual 136, 3) := by decide +kernel
theorem dX3_runDomain_22 : decode cX3_runDomain 22 = .ok (.invokevirtual 139, 3) := by decide +kernel
theorem dX3_runDomain_25 : decode cX3_runDomain 25 = .ok (.istore_n 3, 1) := by decide +kernel
theorem dX3_runDomain_26 : decode cX3_runDomain 26 = .ok (.iload_n 2, 1) := by decide +kernel
theorem dX3_runDomain_27 : decode cX3_runDomain 27 = .ok (.ifCond .eq 12, 3) := by decide +kernel
theorem dX3_runDomain_30 : decode cX3_runDomain 30 = .ok (.aload_n 0, 1) := by decide +kernel
theorem dX3_runDomain_31 : decode cX3_runDomain 31 = .ok (.iload_n 1, 1) := by decide +kernel
theorem dX3_runDomain_32 : decode cX3_runDomain 32 = .ok (.iload_n 3, 1) := by decide +kernel
theorem dX3_runDomain_33 : decode cX3_runDomain 33 = .ok (.invokevirtual 142, 3) := by decide +kernel
theorem dX3_runDomain_36 : decode cX3_runDomain 36 = .ok (.goto 4, 3) := by decide +kernel
theorem dX3_runDomain_39 : decode cX3_runDomain 39 = .ok (.iload_n 3, 1) := by decide +kernel
theorem dX3_runDomain_40 : decode cX3_runDomain 40 = .ok (.istore 4, 2) := by decide +kernel
theorem dX3_runDomain_42 : decode cX3_runDomain 42 = .ok (.iload_n 2, 1) := by decide +kernel
theorem dX3_runDomain_43 : decode cX3_runDomain 43 = .ok (.ifCond .eq 21, 3) := by decide +kernel
theorem dX3_runDomain_46 : decode cX3_runDomain 46 = .ok (.iload 4, 2) := by decide +kernel
theorem dX3_runDomain_48 : decode cX3_runDomain 48 = .ok (.ifCond .ne 16, 3) := by decide +kernel
theorem dX3_runDomain_51 : decode cX3_runDomain 51 = .ok (.aload_n 0, 1) := by decide +kernel
theorem dX3_runDomain_52 : decode cX3_runDomain 52 = .ok (.iload_n 1, 1) := by decide +kernel
theorem dX3_runDomain_53 : decode cX3_runDomain 53 = .ok (.iconst 0, 1) := by decide +kernel
theorem dX3_runDomain_54 : decode cX3_runDomain 54 = .ok (.invokevirtual 145, 3) := by decide +kernel
theorem dX3_runDomain_57 : decode cX3_runDomain 57 = .ok (.ifCond .eq 7, 3) := by decide +kernel
theorem dX3_runDomain_60 : decode cX3_runDomain 60 = .ok (.iconst 1, 1) := by decide +kernel
theorem dX3_runDomain_61 : decode cX3_runDomain 61 = .ok (.goto 4, 3) := by decide +kernel
theorem dX3_runDomain_64 : decode cX3_runDomain 64 = .ok (.iconst 0, 1) := by decide +kernel
theorem dX3_runDomain_65 : decode cX3_runDomain 65 = .ok (.istore 5, 2) := by decide +kernel
theorem dX3_runDomain_67 : decode cX3_runDomain 67 = .ok (.iload 4, 2) := by decide +kernel
theorem dX3_runDomain_69 : decode cX3_runDomain 69 = .ok (.iload_n 3, 1) := by decide +kernel
theorem dX3_runDomain_70 : decode cX3_runDomain 70 = .ok (.if_icmp .ge 13, 3) := by decide +kernel
theorem dX3_runDomain_73 : decode cX3_runDomain 73 = .ok (.aload_n 0, 1) := by decide +kernel
theorem dX3_runDomain_74 : decode cX3_runDomain 74 = .ok (.getfield 37, 3) := by decide +kernel
theorem dX3_runDomain_77 : decode cX3_runDomain 77 = .ok (.iload_n 1, 1) := by decide +kernel
theorem dX3_runDomain_78 : decode cX3_runDomain 78 = .ok (.dup2, 1) := by decide +kernel
theorem dX3_runDomain_79 : decode cX3_runDomain 79 = .ok (.iaload, 1) := by decide +kernel
theorem dX3_runDomain_80 : decode cX3_runDomain 80 = .ok (.iconst 1, 1) := by decide +kernel
theorem dX3_runDomain_81 : decode cX3_runDomain 81 = .ok (.iadd, 1) := by decide +kernel
theorem dX3_runDomain_82 : decode cX3_runDomain 82 = .ok (.iastore, 1) := by decide +kernel
theorem dX3_runDomain_83 : decode cX3_runDomain 83 = .ok (.iload 5, 2) := by decide +kernel
theorem dX3_runDomain_85 : decode cX3_runDomain 85 = .ok (.ifCond .eq 13, 3) := by decide +kernel
theorem dX3_runDomain_88 : decode cX3_runDomain 88 = .ok (.aload_n 0, 1) := by decide +kernel
theorem dX3_runDomain_89 : decode cX3_runDomain 89 = .ok (.getfield 40, 3) := by decide +kernel
theorem dX3_runDomain_92 : decode cX3_runDomain 92 = .ok (.iload_n 1, 1) := by decide +kernel
theorem dX3_runDomain_93 : decode cX3_runDomain 93 = .ok (.dup2, 1) := by decide +kernel
theorem dX3_runDomain_94 : decode cX3_runDomain 94 = .ok (.iaload, 1) := by decide +kernel
theorem dX3_runDomain_95 : decode cX3_runDomain 95 = .ok (.iconst 1, 1) := by decide +kernel
theorem dX3_runDomain_96 : decode cX3_runDomain 96 = .ok (.iadd, 1) := by decide +kernel
theorem dX3_runDomain_97 : decode cX3_runDomain 97 = .ok (.iastore, 1) := by decide +kernel
theorem dX3_runDomain_98 : decode cX3_runDomain 98 = .ok (.aload_n 0, 1) := by decide +kernel
theorem dX3_runDomain_99 : decode cX3_runDomain 99 = .ok (.getfield 28, 3) := by decide +kernel
theorem dX3_runDomain_102 : decode cX3_runDomain 102 = .ok (.iload_n 1, 1) := by decide +kernel
theorem dX3_runDomain_103 : decode cX3_runDomain 103 = .ok (.iload 4, 2) := by decide +kernel
theorem dX3_runDomain_105 : decode cX3_runDomain 105 = .ok (.iastore, 1) := by decide +kernel
theorem dX3_runDomain_106 : decode cX3_runDomain 106 = .ok (.aload_n 0, 1) := by decide +kernel
theorem dX3_runDomain_107 : decode cX3_runDomain 107 = .ok (.iload_n 1, 1) := by decide +kernel
theorem dX3_runDomain_108 : decode cX3_runDomain 108 = .ok (.iload 4, 2) := by decide +kernel
theorem dX3_runDomain_110 : decode cX3_runDomain 110 = .ok (.iload 5, 2) := by decide +kernel
theorem dX3_runDomain_112 : decode cX3_runDomain 112 = .ok (.ifCond .eq 7, 3) := by decide +kernel
theorem dX3_runDomain_115 : decode cX3_runDomain 115 = .ok (.iconst 0, 1) := by decide +kernel
theorem dX3_runDomain_116 : decode cX3_runDomain 116 = .ok (.goto 9, 3) := by decide +kernel
theorem dX3_runDomain_119 : decode cX3_runDomain 119 = .ok (.aload_n 0, 1) := by decide +kernel
theorem dX3_runDomain_120 : decode cX3_runDomain 120 = .ok (.getfield 46, 3) := by decide +kernel
theorem dX3_runDomain_123 : decode cX3_runDomain 123 = .ok (.iload_n 1, 1) := by decide +kernel
theorem dX3_runDomain_124 : decode cX3_runDomain 124 = .ok (.iaload, 1) := by decide +kernel
theorem dX3_runDomain_125 : decode cX3_runDomain 125 = .ok (.invokevirtual 149, 3) := by decide +kernel
theorem dX3_runDomain_128 : decode cX3_runDomain 128 = .ok (.istore 6, 2) := by decide +kernel
theorem dX3_runDomain_130 : decode cX3_runDomain 130 = .ok (.aload_n 0, 1) := by decide +kernel
theorem dX3_runDomain_131 : decode cX3_runDomain 131 = .ok (.getfield 31, 3) := by decide +kernel
theorem dX3_runDomain_134 : decode cX3_runDomain 134 = .ok (.iload_n 1, 1) := by decide +kernel
theorem dX3_runDomain_135 : decode cX3_runDomain 135 = .ok (.dup2, 1) := by decide +kernel
theorem dX3_runDomain_136 : decode cX3_runDomain 136 = .ok (.iaload, 1) := by decide +kernel
theorem dX3_runDomain_137 : decode cX3_runDomain 137 = .ok (.iload 6, 2) := by decide +kernel
theorem dX3_runDomain_139 : decode cX3_runDomain 139 = .ok (.iadd, 1) := by decide +kernel
theorem dX3_runDomain_140 : decode cX3_runDomain 140 = .ok (.iastore, 1) := by decide +kernel
theorem dX3_runDomain_141 : decode cX3_runDomain 141 = .ok (.aload_n 0, 1) := by decide +kernel
theorem dX3_runDomain_142 : decode cX3_runDomain 142 = .ok (.iload_n 1, 1) := by decide +kernel
theorem dX3_runDomain_143 : decode cX3_runDomain 143 = .ok (.iload_n 2, 1) := by decide +kernel
theorem dX3_runDomain_144 : decode cX3_runDomain 144 = .ok (.ifCond .eq 26, 3) := by decide +kernel
theorem dX3_runDomain_147 : decode cX3_runDomain 147 = .ok (.iload 5, 2) := by decide +kernel
theorem dX3_runDomain_149 : decode cX3_runDomain 149 = .ok (.ifCond .ne 21, 3) := by decide +kernel
theorem dX3_runDomain_152 : decode cX3_runDomain 152 = .ok (.iload 4, 2) := by decide +kernel
theorem dX3_runDomain_154 : decode cX3_runDomain 154 = .ok (.aload_n 0, 1) := by decide +kernel
theorem dX3_runDomain_155 : decode cX3_runDomain 155 = .ok (.getfield 52, 3) := by decide +kernel
theorem dX3_runDomain_158 : decode cX3_runDomain 158 = .ok (.getfield 153, 3) := by decide +kernel
theorem dX3_runDomain_161 : decode cX3_runDomain 161 = .ok (.iload_n 1, 1) := by decide +kernel
theorem dX3_runDomain_162 : decode cX3_runDomain 162 = .ok (.iaload, 1) := by decide +kernel
theorem dX3_runDomain_163 : decode cX3_runDomain 163 = .ok (.if_icmp .le 7, 3) := by decide +kernel
theorem dX3_runDomain_166 : decode cX3_runDomain 166 = .ok (.iconst 1, 1) := by decide +kernel
theorem dX3_runDomain_167 : decode cX3_runDomain 167 = .ok (.goto 4, 3) := by decide +kernel
theorem dX3_runDomain_170 : decode cX3_runDomain 170 = .ok (.iconst 0, 1) := by decide +kernel
theorem dX3_runDomain_171 : decode cX3_runDomain 171 = .ok (.invokevirtual 156, 3) := by decide +kernel
theorem dX3_runDomain_174 : decode cX3_runDomain 174 = .ok (.aload_n 0, 1) := by decide +kernel
theorem dX3_runDomain_175 : decode cX3_runDomain 175 = .ok (.getfield 25, 3) := by decide +kernel
theorem dX3_runDomain_178 : decode cX3_runDomain 178 = .ok (.iload_n 1, 1) := by decide +kernel
theorem dX3_runDomain_179 : decode cX3_runDomain 179 = .ok (.aload_n 0, 1) := by decide +kernel
theorem dX3_runDomain_180 : decode cX3_runDomain 180 = .ok (.iload_n 1, 1) := by decide +kernel
theorem dX3_runDomain_181 : decode cX3_runDomain 181 = .ok (.iload 6, 2) := by decide +kernel
theorem dX3_runDomain_183 : decode cX3_runDomain 183 = .ok (.invokevirtual 159, 3) := by decide +kernel
theorem dX3_runDomain_186 : decode cX3_runDomain 186 = .ok (.iastore, 1) := by decide +kernel
theorem dX3_runDomain_187 : decode cX3_runDomain 187 = .ok (.iload 5, 2) := by decide +kernel
theorem dX3_runDomain_189 : decode cX3_runDomain 189 = .ok (.ifCond .eq 7, 3) := by decide +kernel
theorem dX3_runDomain_192 : decode cX3_runDomain 192 = .ok (.iconst 0, 1) := by decide +kernel
theorem dX3_runDomain_193 : decode cX3_runDomain 193 = .ok (.goto 22, 3) := by decide +kernel
theorem dX3_runDomain_196 : decode cX3_runDomain 196 = .ok (.aload_n 0, 1) := by decide +kernel
theorem dX3_runDomain_197 : decode cX3_runDomain 197 = .ok (.iload_n 1, 1) := by decide +kernel
theorem dX3_runDomain_198 : decode cX3_runDomain 198 = .ok (.aload_n 0, 1) := by decide +kernel
theorem dX3_runDomain_199 : decode cX3_runDomain 199 = .ok (.getfield 52, 3) := by decide +kernel
theorem dX3_runDomain_202 : decode cX3_runDomain 202 = .ok (.getfield 162, 3) := by decide +kernel
theorem dX3_runDomain_205 : decode cX3_runDomain 205 = .ok (.iload_n 1, 1) := by decide +kernel
theorem dX3_runDomain_206 : decode cX3_runDomain 206 = .ok (.iconst 5, 1) := by decide +kernel
theorem dX3_runDomain_207 : decode cX3_runDomain 207 = .ok (.imul, 1) := by decide +kernel
theorem dX3_runDomain_208 : decode cX3_runDomain 208 = .ok (.iload 4, 2) := by decide +kernel
theorem dX3_runDomain_210 : decode cX3_runDomain 210 = .ok (.iadd, 1) := by decide +kernel
theorem dX3_runDomain_211 : decode cX3_runDomain 211 = .ok (.iaload, 1) := by decide +kernel
theorem dX3_runDomain_212 : decode cX3_runDomain 212 = .ok (.invokevirtual 165, 3) := by decide +kernel
theorem dX3_runDomain_215 : decode cX3_runDomain 215 = .ok (.ireturn, 1) := by decide +kernel
theorem dX3_suggestedLevel_0 : decode cX3_suggestedLevel 0 = .ok (.aload_n 0, 1) := by decide +kernel
theorem dX3_suggestedLevel_1 : decode cX3_suggestedLevel 1 = .ok (.getfield 46, 3) := by decide +kernel
theorem dX3_suggestedLevel_4 : decode cX3_suggestedLevel 4 = .ok (.iload_n 1, 1) := by decide +kernel
theorem dX3_suggestedLevel_5 : decode cX3_suggestedLevel 5 = .ok (.iaload, 1) := by decide +kernel
theorem dX3_suggestedLevel_6 : decode cX3_suggestedLevel 6 = .ok (.ifCond .le 7, 3) := by decide +kernel
theorem dX3_suggestedLevel_9 : decode cX3_suggestedLevel 9 = .ok (.iconst 1, 1) := by decide +kernel
theorem dX3_suggestedLevel_10 : decode cX3_suggestedLevel 10 = .ok (.goto 4, 3) := by decide +kernel
theorem dX3_suggestedLevel_13 : decode cX3_suggestedLevel 13 = .ok (.iconst 0, 1) := by decide +kernel
theorem dX3_suggestedLevel_14 : decode cX3_suggestedLevel 14 = .ok (.istore_n 2, 1) := by decide +kernel
theorem dX3_suggestedLevel_15 : decode cX3_suggestedLevel 15 = .ok (.aload_n 0, 1) := by decide +kernel
theorem dX3_suggestedLevel_16 : decode cX3_suggestedLevel 16 = .ok (.getfield 52, 3) := by decide +kernel
theorem dX3_suggestedLevel_19 : decode cX3_suggestedLevel 19 = .ok (.getfield 168, 3) := by decide +kernel
theorem dX3_suggestedLevel_22 : decode cX3_suggestedLevel 22 = .ok (.iload_n 1, 1) := by decide +kernel
theorem dX3_suggestedLevel_23 : decode cX3_suggestedLevel 23 = .ok (.iaload, 1) := by decide +kernel
theorem dX3_suggestedLevel_24 : decode cX3_suggestedLevel 24 = .ok (.iconst 1, 1) := by decide +kernel
theorem dX3_suggestedLevel_25 : decode cX3_suggestedLevel 25 = .ok (.isub, 1) := by decide +kernel
theorem dX3_suggestedLevel_26 : decode cX3_suggestedLevel 26 = .ok (.istore_n 3, 1) := by decide +kernel
theorem dX3_suggestedLevel_27 : decode cX3_suggestedLevel 27 = .ok (.aload_n 0, 1) := by decide +kernel
theorem dX3_suggestedLevel_28 : decode cX3_suggestedLevel 28 = .ok (.getfield 22, 3) := by decide +kernel
theorem dX3_suggestedLevel_31 : decode cX3_suggestedLevel 31 = .ok (.iload_n 1, 1) := by decide +kernel
theorem dX3_suggestedLevel_32 : decode cX3_suggestedLevel 32 = .ok (.iaload, 1) := by decide +kernel
theorem dX3_suggestedLevel_33 : decode cX3_suggestedLevel 33 = .ok (.tableswitch 62 0 3 #[31, 62, 33, 52], 31) := by decide +kernel
theorem dX3_suggestedLevel_64 : decode cX3_suggestedLevel 64 = .ok (.iload_n 3, 1) := by decide +kernel
theorem dX3_suggestedLevel_65 : decode cX3_suggestedLevel 65 = .ok (.ireturn, 1) := by decide +kernel
theorem dX3_suggestedLevel_66 : decode cX3_suggestedLevel 66 = .ok (.iload_n 2, 1) := by decide +kernel
theorem dX3_suggestedLevel_67 : decode cX3_suggestedLevel 67 = .ok (.ifCond .eq 16, 3) := by decide +kernel
theorem dX3_suggestedLevel_70 : decode cX3_suggestedLevel 70 = .ok (.aload_n 0, 1) := by decide +kernel
theorem dX3_suggestedLevel_71 : decode cX3_suggestedLevel 71 = .ok (.iload_n 1, 1) := by decide +kernel
theorem dX3_suggestedLevel_72 : decode cX3_suggestedLevel 72 = .ok (.aload_n 0, 1) := by decide +kernel
theorem dX3_suggestedLevel_73 : decode cX3_suggestedLevel 73 = .ok (.iload_n 1, 1) := by decide +kernel
theorem dX3_suggestedLevel_74 : decode cX3_suggestedLevel 74 = .ok (.invokevirtual 171, 3) := by decide +kernel
theorem dX3_suggestedLevel_77 : decode cX3_suggestedLevel 77 = .ok (.invokevirtual 174, 3) := by decide +kernel
theorem dX3_suggestedLevel_80 : decode cX3_suggestedLevel 80 = .ok (.goto 4, 3) := by decide +kernel
theorem dX3_suggestedLevel_83 : decode cX3_suggestedLevel 83 = .ok (.iconst 0, 1) := by decide +kernel
theorem dX3_suggestedLevel_84 : decode cX3_suggestedLevel 84 = .ok (.ireturn, 1) := by decide +kernel
theorem dX3_suggestedLevel_85 : decode cX3_suggestedLevel 85 = .ok (.iload_n 2, 1) := by decide +kernel
theorem dX3_suggestedLevel_86 : decode cX3_suggestedLevel 86 = .ok (.ifCond .eq 7, 3) := by decide +kernel
theorem dX3_suggestedLevel_89 : decode cX3_suggestedLevel 89 = .ok (.iload_n 3, 1) := by decide +kernel
theorem dX3_suggestedLevel_90 : decode cX3_suggestedLevel 90 = .ok (.goto 4, 3) := by decide +kernel
theorem dX3_suggestedLevel_93 : decode cX3_suggestedLevel 93 = .ok (.iconst 0, 1) := by decide +kernel
theorem dX3_suggestedLevel_94 : decode cX3_suggestedLevel 94 = .ok (.ireturn, 1) := by decide +kernel
theorem dX3_suggestedLevel_95 : decode cX3_suggestedLevel 95 = .ok (.iconst 0, 1) := by decide +kernel
theorem dX3_suggestedLevel_96 : decode cX3_suggestedLevel 96 = .ok (.ireturn, 1) := by decide +kernel
theorem dX3_greatestRequirement_0 : decode cX3_greatestRequirement 0 = .ok (.iconst 0, 1) := by decide +kernel
theorem dX3_greatestRequirement_1 : decode cX3_greatestRequirement 1 = .ok (.istore_n 2, 1) := by decide +kernel
theorem dX3_greatestRequirement_2 : decode cX3_greatestRequirement 2 = .ok (.iconst 0, 1) := by decide +kernel
theorem dX3_greatestRequirement_3 : decode cX3_greatestRequirement 3 = .ok (.istore_n 3, 1) := by decide +kernel
theorem dX3_greatestRequirement_4 : decode cX3_greatestRequirement 4 = .ok (.iload_n 3, 1) := by decide +kernel
theorem dX3_greatestRequirement_5 : decode cX3_greatestRequirement 5 = .ok (.aload_n 0, 1) := by decide +kernel
theorem dX3_greatestRequirement_6 : decode cX3_greatestRequirement 6 = .ok (.getfield 52, 3) := by decide +kernel
theorem dX3_greatestRequirement_9 : decode cX3_greatestRequirement 9 = .ok (.getfield 114, 3) := by decide +kernel
theorem dX3_greatestRequirement_12 : decode cX3_greatestRequirement 12 = .ok (.iload_n 1, 1) := by decide +kernel
theorem dX3_greatestRequirement_13 : decode cX3_greatestRequirement 13 = .ok (.iaload, 1) := by decide +kernel
theorem dX3_greatestRequirement_14 : decode cX3_greatestRequirement 14 = .ok (.if_icmp .ge 70, 3) := by decide +kernel
theorem dX3_greatestRequirement_17 : decode cX3_greatestRequirement 17 = .ok (.aload_n 0, 1) := by decide +kernel
theorem dX3_greatestRequirement_18 : decode cX3_greatestRequirement 18 = .ok (.getfield 49, 3) := by decide +kernel
theorem dX3_greatestRequirement_21 : decode cX3_greatestRequirement 21 = .ok (.iload_n 1, 1) := by decide +kernel
theorem dX3_greatestRequirement_22 : decode cX3_greatestRequirement 22 = .ok (.iconst 4, 1) := by decide +kernel
theorem dX3_greatestRequirement_23 : decode cX3_greatestRequirement 23 = .ok (.imul, 1) := by decide +kernel
theorem dX3_greatestRequirement_24 : decode cX3_greatestRequirement 24 = .ok (.iload_n 3, 1) := by decide +kernel
theorem dX3_greatestRequirement_25 : decode cX3_greatestRequirement 25 = .ok (.iadd, 1) := by decide +kernel
theorem dX3_greatestRequirement_26 : decode cX3_greatestRequirement 26 = .ok (.iaload, 1) := by decide +kernel
theorem dX3_greatestRequirement_27 : decode cX3_greatestRequirement 27 = .ok (.istore 4, 2) := by decide +kernel
theorem dX3_greatestRequirement_29 : decode cX3_greatestRequirement 29 = .ok (.aload_n 0, 1) := by decide +kernel
theorem dX3_greatestRequirement_30 : decode cX3_greatestRequirement 30 = .ok (.getfield 12, 3) := by decide +kernel
theorem dX3_greatestRequirement_33 : decode cX3_greatestRequirement 33 = .ok (.iload 4, 2) := by decide +kernel
theorem dX3_greatestRequirement_35 : decode cX3_greatestRequirement 35 = .ok (.invokevirtual 177, 3) := by decide +kernel
theorem dX3_greatestRequirement_38 : decode cX3_greatestRequirement 38 = .ok (.ifCond .eq 40, 3) := by decide +kernel
theorem dX3_greatestRequirement_41 : decode cX3_greatestRequirement 41 = .ok (.aload_n 0, 1) := by decide +kernel
theorem dX3_greatestRequirement_42 : decode cX3_greatestRequirement 42 = .ok (.getfield 12, 3) := by decide +kernel
theorem dX3_greatestRequirement_45 : decode cX3_greatestRequirement 45 = .ok (.getfield 181, 3) := by decide +kernel
theorem dX3_greatestRequirement_48 : decode cX3_greatestRequirement 48 = .ok (.iload 4, 2) := by decide +kernel
theorem dX3_greatestRequirement_50 : decode cX3_greatestRequirement 50 = .ok (.iaload, 1) := by decide +kernel
theorem dX3_greatestRequirement_51 : decode cX3_greatestRequirement 51 = .ok (.aload_n 0, 1) := by decide +kernel
theorem dX3_greatestRequirement_52 : decode cX3_greatestRequirement 52 = .ok (.getfield 12, 3) := by decide +kernel
theorem dX3_greatestRequirement_55 : decode cX3_greatestRequirement 55 = .ok (.getfield 184, 3) := by decide +kernel
theorem dX3_greatestRequirement_58 : decode cX3_greatestRequirement 58 = .ok (.iload 4, 2) := by decide +kernel
theorem dX3_greatestRequirement_60 : decode cX3_greatestRequirement 60 = .ok (.iaload, 1) := by decide +kernel
theorem dX3_greatestRequirement_61 : decode cX3_greatestRequirement 61 = .ok (.aload_n 0, 1) := by decide +kernel
theorem dX3_greatestRequirement_62 : decode cX3_greatestRequirement 62 = .ok (.getfield 59, 3) := by decide +kernel
theorem dX3_greatestRequirement_65 : decode cX3_greatestRequirement 65 = .ok (.isub, 1) := by decide +kernel
theorem dX3_greatestRequirement_66 : decode cX3_greatestRequirement 66 = .ok (.invokestatic 187, 3) := by decide +kernel
theorem dX3_greatestRequirement_69 : decode cX3_greatestRequirement 69 = .ok (.istore 5, 2) := by decide +kernel
theorem dX3_greatestRequirement_71 : decode cX3_greatestRequirement 71 = .ok (.iload_n 2, 1) := by decide +kernel
theorem dX3_greatestRequirement_72 : decode cX3_greatestRequirement 72 = .ok (.iload 5, 2) := by decide +kernel
theorem dX3_greatestRequirement_74 : decode cX3_greatestRequirement 74 = .ok (.invokestatic 190, 3) := by decide +kernel
theorem dX3_greatestRequirement_77 : decode cX3_greatestRequirement 77 = .ok (.istore_n 2, 1) := by decide +kernel
theorem dX3_greatestRequirement_78 : decode cX3_greatestRequirement 78 = .ok (.iinc 3 1, 3) := by decide +kernel
theorem dX3_greatestRequirement_81 : decode cX3_greatestRequirement 81 = .ok (.goto (-77), 3) := by decide +kernel
theorem dX3_greatestRequirement_84 : decode cX3_greatestRequirement 84 = .ok (.iload_n 2, 1) := by decide +kernel
theorem dX3_greatestRequirement_85 : decode cX3_greatestRequirement 85 = .ok (.ireturn, 1) := by decide +kernel
theorem dX3_levelFor_0 : decode cX3_levelFor 0 = .ok (.iconst 0, 1) := by decide +kernel
theorem dX3_levelFor_1 : decode cX3_levelFor 1 = .ok (.istore_n 3, 1) := by decide +kernel
theorem dX3_levelFor_2 : decode cX3_levelFor 2 = .ok (.iload_n 3, 1) := by decide +kernel
theorem dX3_levelFor_3 : decode cX3_levelFor 3 = .ok (.aload_n 0, 1) := by decide +kernel
theorem dX3_levelFor_4 : decode cX3_levelFor 4 = .ok (.getfield 52, 3) := by decide +kernel
theorem dX3_levelFor_7 : decode cX3_levelFor 7 = .ok (.getfield 168, 3) := by decide +kernel
theorem dX3_levelFor_10 : decode cX3_levelFor 10 = .ok (.iload_n 1, 1) := by decide +kernel
theorem dX3_levelFor_11 : decode cX3_levelFor 11 = .ok (.iaload, 1) := by decide +kernel
theorem dX3_levelFor_12 : decode cX3_levelFor 12 = .ok (.iconst 1, 1) := by decide +kernel
theorem dX3_levelFor_13 : decode cX3_levelFor 13 = .ok (.isub, 1) := by decide +kernel
theorem dX3_levelFor_14 : decode cX3_levelFor 14 = .ok (.if_icmp .ge 26, 3) := by decide +kernel
theorem dX3_levelFor_17 : decode cX3_levelFor 17 = .ok (.aload_n 0, 1) := by decide +kernel
theorem dX3_levelFor_18 : decode cX3_levelFor 18 = .ok (.getfield 52, 3) := by decide +kernel
theorem dX3_levelFor_21 : decode cX3_levelFor 21 = .ok (.getfield 162, 3) := by decide +kernel
theorem dX3_levelFor_24 : decode cX3_levelFor 24 = .ok (.iload_n 1, 1) := by decide +kernel
theorem dX3_levelFor_25 : decode cX3_levelFor 25 = .ok (.iconst 5, 1) := by decide +kernel
theorem dX3_levelFor_26 : decode cX3_levelFor 26 = .ok (.imul, 1) := by decide +kernel
theorem dX3_levelFor_27 : decode cX3_levelFor 27 = .ok (.iload_n 3, 1) := by decide +kernel
theorem dX3_levelFor_28 : decode cX3_levelFor 28 = .ok (.iadd, 1) := by decide +kernel
theorem dX3_levelFor_29 : decode cX3_levelFor 29 = .ok (.iaload, 1) := by decide +kernel
theorem dX3_levelFor_30 : decode cX3_levelFor 30 = .ok (.iload_n 2, 1) := by decide +kernel
theorem dX3_levelFor_31 : decode cX3_levelFor 31 = .ok (.if_icmp .ge 9, 3) := by decide +kernel
theorem dX3_levelFor_34 : decode cX3_levelFor 34 = .ok (.iinc 3 1, 3) := by decide +kernel
theorem dX3_levelFor_37 : decode cX3_levelFor 37 = .ok (.goto (-35), 3) := by decide +kernel
theorem dX3_levelFor_40 : decode cX3_levelFor 40 = .ok (.iload_n 3, 1) := by decide +kernel
theorem dX3_levelFor_41 : decode cX3_levelFor 41 = .ok (.ireturn, 1) := by decide +kernel
theorem dX3_creditedLevel_0 : decode cX3_creditedLevel 0 = .ok (.aload_n 0, 1) := by decide +kernel
theorem dX3_creditedLevel_1 : decode cX3_creditedLevel 1 = .ok (.getfield 46, 3) := by decide +kernel
theorem dX3_creditedLevel_4 : decode cX3_creditedLevel 4 = .ok (.iload_n 1, 1) := by decide +kernel
theorem dX3_creditedLevel_5 : decode cX3_creditedLevel 5 = .ok (.iaload, 1) := by decide +kernel
theorem dX3_creditedLevel_6 : decode cX3_creditedLevel 6 = .ok (.ifCond .le 16, 3) := by decide +kernel
theorem dX3_creditedLevel_9 : decode cX3_creditedLevel 9 = .ok (.aload_n 0, 1) := by decide +kernel
theorem dX3_creditedLevel_10 : decode cX3_creditedLevel 10 = .ok (.getfield 34, 3) := by decide +kernel
theorem dX3_creditedLevel_13 : decode cX3_creditedLevel 13 = .ok (.iload_n 1, 1) := by decide +kernel
theorem dX3_creditedLevel_14 : decode cX3_creditedLevel 14 = .ok (.iaload, 1) := by decide +kernel
theorem dX3_creditedLevel_15 : decode cX3_creditedLevel 15 = .ok (.ifCond .ne 7, 3) := by decide +kernel
theorem dX3_creditedLevel_18 : decode cX3_creditedLevel 18 = .ok (.iconst 1, 1) := by decide +kernel
theorem dX3_creditedLevel_19 : decode cX3_creditedLevel 19 = .ok (.goto 4, 3) := by decide +kernel
theorem dX3_creditedLevel_22 : decode cX3_creditedLevel 22 = .ok (.iconst 0, 1) := by decide +kernel
theorem dX3_creditedLevel_23 : decode cX3_creditedLevel 23 = .ok (.istore_n 3, 1) := by decide +kernel
theorem dX3_creditedLevel_24 : decode cX3_creditedLevel 24 = .ok (.iload_n 3, 1) := by decide +kernel
theorem dX3_creditedLevel_25 : decode cX3_creditedLevel 25 = .ok (.ifCond .eq 19, 3) := by decide +kernel
theorem dX3_creditedLevel_28 : decode cX3_creditedLevel 28 = .ok (.iload_n 2, 1) := by decide +kernel
theorem dX3_creditedLevel_29 : decode cX3_creditedLevel 29 = .ok (.aload_n 0, 1) := by decide +kernel
theorem dX3_creditedLevel_30 : decode cX3_creditedLevel 30 = .ok (.getfield 52, 3) := by decide +kernel
theorem dX3_creditedLevel_33 : decode cX3_creditedLevel 33 = .ok (.getfield 153, 3) := by decide +kernel
theorem dX3_creditedLevel_36 : decode cX3_creditedLevel 36 = .ok (.iload_n 1, 1) := by decide +kernel
theorem dX3_creditedLevel_37 : decode cX3_creditedLevel 37 = .ok (.iaload, 1) := by decide +kernel
theorem dX3_creditedLevel_38 : decode cX3_creditedLevel 38 = .ok (.invokestatic 195, 3) := by decide +kernel
theorem dX3_creditedLevel_41 : decode cX3_creditedLevel 41 = .ok (.goto 4, 3) := by decide +kernel
theorem dX3_creditedLevel_44 : decode cX3_creditedLevel 44 = .ok (.iload_n 2, 1) := by decide +kernel
theorem dX3_creditedLevel_45 : decode cX3_creditedLevel 45 = .ok (.ireturn, 1) := by decide +kernel
theorem dX3_coolLevel_0 : decode cX3_coolLevel 0 = .ok (.iload_n 2, 1) := by decide +kernel
theorem dX3_coolLevel_1 : decode cX3_coolLevel 1 = .ok (.istore_n 3, 1) := by decide +kernel
theorem dX3_coolLevel_2 : decode cX3_coolLevel 2 = .ok (.iload_n 3, 1) := by decide +kernel
theorem dX3_coolLevel_3 : decode cX3_coolLevel 3 = .ok (.ifCond .le 18, 3) := by decide +kernel
theorem dX3_coolLevel_6 : decode cX3_coolLevel 6 = .ok (.aload_n 0, 1) := by decide +kernel
theorem dX3_coolLevel_7 : decode cX3_coolLevel 7 = .ok (.iload_n 1, 1) := by decide +kernel
theorem dX3_coolLevel_8 : decode cX3_coolLevel 8 = .ok (.iload_n 3, 1) := by decide +kernel
theorem dX3_coolLevel_9 : decode cX3_coolLevel 9 = .ok (.invokevirtual 145, 3) := by decide +kernel
theorem dX3_coolLevel_12 : decode cX3_coolLevel 12 = .ok (.ifCond .eq 9, 3) := by decide +kernel
theorem dX3_coolLevel_15 : decode cX3_coolLevel 15 = .ok (.iinc 3 (-1), 3) := by decide +kernel
theorem dX3_coolLevel_18 : decode cX3_coolLevel 18 = .ok (.goto (-16), 3) := by decide +kernel
theorem dX3_coolLevel_21 : decode cX3_coolLevel 21 = .ok (.iload_n 3, 1) := by decide +kernel
theorem dX3_coolLevel_22 : decode cX3_coolLevel 22 = .ok (.ireturn, 1) := by decide +kernel
theorem dX3_isTooHot_0 : decode cX3_isTooHot 0 = .ok (.aload_n 0, 1) := by decide +kernel
theorem dX3_isTooHot_1 : decode cX3_isTooHot 1 = .ok (.iload_n 1, 1) := by decide +kernel
theorem dX3_isTooHot_2 : decode cX3_isTooHot 2 = .ok (.iload_n 2, 1) := by decide +kernel
theorem dX3_isTooHot_3 : decode cX3_isTooHot 3 = .ok (.aload_n 0, 1) := by decide +kernel
theorem dX3_isTooHot_4 : decode cX3_isTooHot 4 = .ok (.getfield 46, 3) := by decide +kernel
theorem dX3_isTooHot_7 : decode cX3_isTooHot 7 = .ok (.iload_n 1, 1) := by decide +kernel
theorem dX3_isTooHot_8 : decode cX3_isTooHot 8 = .ok (.iaload, 1) := by decide +kernel
theorem dX3_isTooHot_9 : decode cX3_isTooHot 9 = .ok (.invokevirtual 149, 3) := by decide +kernel
theorem dX3_isTooHot_12 : decode cX3_isTooHot 12 = .ok (.istore_n 3, 1) := by decide +kernel
theorem dX3_isTooHot_13 : decode cX3_isTooHot 13 = .ok (.aload_n 0, 1) := by decide +kernel
theorem dX3_isTooHot_14 : decode cX3_isTooHot 14 = .ok (.iload_n 1, 1) := by decide +kernel
theorem dX3_isTooHot_15 : decode cX3_isTooHot 15 = .ok (.iload_n 3, 1) := by decide +kernel
theorem dX3_isTooHot_16 : decode cX3_isTooHot 16 = .ok (.invokevirtual 159, 3) := by decide +kernel
theorem dX3_isTooHot_19 : decode cX3_isTooHot 19 = .ok (.aload_n 0, 1) := by decide +kernel
theorem dX3_isTooHot_20 : decode cX3_isTooHot 20 = .ok (.getfield 18, 3) := by decide +kernel
theorem dX3_isTooHot_23 : decode cX3_isTooHot 23 = .ok (.iload_n 1, 1) := by decide +kernel
theorem dX3_isTooHot_24 : decode cX3_isTooHot 24 = .ok (.iaload, 1) := by decide +kernel
theorem dX3_isTooHot_25 : decode cX3_isTooHot 25 = .ok (.if_icmp .le 7, 3) := by decide +kernel
theorem dX3_isTooHot_28 : decode cX3_isTooHot 28 = .ok (.iconst 1, 1) := by decide +kernel
theorem dX3_isTooHot_29 : decode cX3_isTooHot 29 = .ok (.goto 4, 3) := by decide +kernel
theorem dX3_isTooHot_32 : decode cX3_isTooHot 32 = .ok (.iconst 0, 1) := by decide +kernel
theorem dX3_isTooHot_33 : decode cX3_isTooHot 33 = .ok (.ireturn, 1) := by decide +kernel
theorem dX3_powerAt_0 : decode cX3_powerAt 0 = .ok (.aload_n 0, 1) := by decide +kernel
theorem dX3_powerAt_1 : decode cX3_powerAt 1 = .ok (.getfield 52, 3) := by decide +kernel
theorem dX3_powerAt_4 : decode cX3_powerAt 4 = .ok (.getfield 114, 3) := by decide +kernel
theorem dX3_powerAt_7 : decode cX3_powerAt 7 = .ok (.iload_n 1, 1) := by decide +kernel
theorem dX3_powerAt_8 : decode cX3_powerAt 8 = .ok (.iaload, 1) := by decide +kernel
theorem dX3_powerAt_9 : decode cX3_powerAt 9 = .ok (.iload_n 3, 1) := by decide +kernel
theorem dX3_powerAt_10 : decode cX3_powerAt 10 = .ok (.isub, 1) := by decide +kernel
theorem dX3_powerAt_11 : decode cX3_powerAt 11 = .ok (.istore 4, 2) := by decide +kernel
theorem dX3_powerAt_13 : decode cX3_powerAt 13 = .ok (.iload_n 3, 1) := by decide +kernel
theorem dX3_powerAt_14 : decode cX3_powerAt 14 = .ok (.aload_n 0, 1) := by decide +kernel
theorem dX3_powerAt_15 : decode cX3_powerAt 15 = .ok (.getfield 52, 3) := by decide +kernel
theorem dX3_powerAt_18 : decode cX3_powerAt 18 = .ok (.getfield 198, 3) := by decide +kernel
theorem dX3_powerAt_21 : decode cX3_powerAt 21 = .ok (.iload_n 1, 1) := by decide +kernel
theorem dX3_powerAt_22 : decode cX3_powerAt 22 = .ok (.iconst 5, 1) := by decide +kernel
theorem dX3_powerAt_23 : decode cX3_powerAt 23 = .ok (.imul, 1) := by decide +kernel
theorem dX3_powerAt_24 : decode cX3_powerAt 24 = .ok (.iload_n 2, 1) := by decide +kernel
theorem dX3_powerAt_25 : decode cX3_powerAt 25 = .ok (.iadd, 1) := by decide +kernel
theorem dX3_powerAt_26 : decode cX3_powerAt 26 = .ok (.iaload, 1) := by decide +kernel
theorem dX3_powerAt_27 : decode cX3_powerAt 27 = .ok (.imul, 1) := by decide +kernel
theorem dX3_powerAt_28 : decode cX3_powerAt 28 = .ok (.iload 4, 2) := by decide +kernel
theorem dX3_powerAt_30 : decode cX3_powerAt 30 = .ok (.aload_n 0, 1) := by decide +kernel
theorem dX3_powerAt_31 : decode cX3_powerAt 31 = .ok (.getfield 52, 3) := by decide +kernel
theorem dX3_powerAt_34 : decode cX3_powerAt 34 = .ok (.getfield 201, 3) := by decide +kernel
theorem dX3_powerAt_37 : decode cX3_powerAt 37 = .ok (.iload_n 1, 1) := by decide +kernel
theorem dX3_powerAt_38 : decode cX3_powerAt 38 = .ok (.iaload, 1) := by decide +kernel
theorem dX3_powerAt_39 : decode cX3_powerAt 39 = .ok (.imul, 1) := by decide +kernel
theorem dX3_powerAt_40 : decode cX3_powerAt 40 = .ok (.iadd, 1) := by decide +kernel
theorem dX3_powerAt_41 : decode cX3_powerAt 41 = .ok (.ireturn, 1) := by decide +kernel
theorem dX3_temperatureAfter_0 : decode cX3_temperatureAfter 0 = .ok (.aload_n 0, 1) := by decide +kernel
theorem dX3_temperatureAfter_1 : decode cX3_temperatureAfter 1 = .ok (.getfield 25, 3) := by decide +kernel
theorem dX3_temperatureAfter_4 : decode cX3_temperatureAfter 4 = .ok (.iload_n 1, 1) := by decide +kernel
theorem dX3_temperatureAfter_5 : decode cX3_temperatureAfter 5 = .ok (.iaload, 1) := by decide +kernel
theorem dX3_temperatureAfter_6 : decode cX3_temperatureAfter 6 = .ok (.i2l, 1) := by decide +kernel
theorem dX3_temperatureAfter_7 : decode cX3_temperatureAfter 7 = .ok (.lstore_n 3, 1) := by decide +kernel
theorem dX3_temperatureAfter_8 : decode cX3_temperatureAfter 8 = .ok (.aload_n 0, 1) := by decide +kernel
theorem dX3_temperatureAfter_9 : decode cX3_temperatureAfter 9 = .ok (.getfield 52, 3) := by decide +kernel
theorem dX3_temperatureAfter_12 : decode cX3_temperatureAfter 12 = .ok (.getfield 204, 3) := by decide +kernel
theorem dX3_temperatureAfter_15 : decode cX3_temperatureAfter 15 = .ok (.iload_n 1, 1) := by decide +kernel
theorem dX3_temperatureAfter_16 : decode cX3_temperatureAfter 16 = .ok (.iaload, 1) := by decide +kernel
theorem dX3_temperatureAfter_17 : decode cX3_temperatureAfter 17 = .ok (.i2l, 1) := by decide +kernel
theorem dX3_temperatureAfter_18 : decode cX3_temperatureAfter 18 = .ok (.iload_n 2, 1) := by decide +kernel
theorem dX3_temperatureAfter_19 : decode cX3_temperatureAfter 19 = .ok (.i2l, 1) := by decide +kernel
theorem dX3_temperatureAfter_20 : decode cX3_temperatureAfter 20 = .ok (.lmul, 1) := by decide +kernel
theorem dX3_temperatureAfter_21 : decode cX3_temperatureAfter 21 = .ok (.ldc2_w 207, 3) := by decide +kernel
theorem dX3_temperatureAfter_24 : decode cX3_temperatureAfter 24 = .ok (.ldiv, 1) := by decide +kernel
theorem dX3_temperatureAfter_25 : decode cX3_temperatureAfter 25 = .ok (.lstore 5, 2) := by decide +kernel
theorem dX3_temperatureAfter_27 : decode cX3_temperatureAfter 27 = .ok (.lload_n 3, 1) := by decide +kernel
theorem dX3_temperatureAfter_28 : decode cX3_temperatureAfter 28 = .ok (.aload_n 0, 1) := by decide +kernel
theorem dX3_temperatureAfter_29 : decode cX3_temperatureAfter 29 = .ok (.getfield 68, 3) := by decide +kernel
theorem dX3_temperatureAfter_32 : decode cX3_temperatureAfter 32 = .ok (.i2l, 1) := by decide +kernel
theorem dX3_temperatureAfter_33 : decode cX3_temperatureAfter 33 = .ok (.lsub, 1) := by decide +kernel
theorem dX3_temperatureAfter_34 : decode cX3_temperatureAfter 34 = .ok (.aload_n 0, 1) := by decide +kernel
theorem dX3_temperatureAfter_35 : decode cX3_temperatureAfter 35 = .ok (.getfield 52, 3) := by decide +kernel
theorem dX3_temperatureAfter_38 : decode cX3_temperatureAfter 38 = .ok (.getfield 209, 3) := by decide +kernel
theorem dX3_temperatureAfter_41 : decode cX3_temperatureAfter 41 = .ok (.iload_n 1, 1) := by decide +kernel
theorem dX3_temperatureAfter_42 : decode cX3_temperatureAfter 42 = .ok (.iaload, 1) := by decide +kernel
theorem dX3_temperatureAfter_43 : decode cX3_temperatureAfter 43 = .ok (.i2l, 1) := by decide +kernel
theorem dX3_temperatureAfter_44 : decode cX3_temperatureAfter 44 = .ok (.lmul, 1) := by decide +kernel
theorem dX3_temperatureAfter_45 : decode cX3_temperatureAfter 45 = .ok (.ldc2_w 212, 3) := by decide +kernel
theorem dX3_temperatureAfter_48 : decode cX3_temperatureAfter 48 = .ok (.ldiv, 1) := by decide +kernel
theorem dX3_temperatureAfter_49 : decode cX3_temperatureAfter 49 = .ok (.lstore 7, 2) := by decide +kernel
theorem dX3_temperatureAfter_51 : decode cX3_temperatureAfter 51 = .ok (.lload_n 3, 1) := by decide +kernel
theorem dX3_temperatureAfter_52 : decode cX3_temperatureAfter 52 = .ok (.lload 5, 2) := by decide +kernel
theorem dX3_temperatureAfter_54 : decode cX3_temperatureAfter 54 = .ok (.ladd, 1) := by decide +kernel
theorem dX3_temperatureAfter_55 : decode cX3_temperatureAfter 55 = .ok (.lload 7, 2) := by decide +kernel
theorem dX3_temperatureAfter_57 : decode cX3_temperatureAfter 57 = .ok (.lsub, 1) := by decide +kernel
theorem dX3_temperatureAfter_58 : decode cX3_temperatureAfter 58 = .ok (.l2i, 1) := by decide +kernel
theorem dX3_temperatureAfter_59 : decode cX3_temperatureAfter 59 = .ok (.ireturn, 1) := by decide +kernel
theorem dX3_countCredit_0 : decode cX3_countCredit 0 = .ok (.iload_n 2, 1) := by decide +kernel
theorem dX3_countCredit_1 : decode cX3_countCredit 1 = .ok (.ifCond .eq 16, 3) := by decide +kernel
theorem dX3_countCredit_4 : decode cX3_countCredit 4 = .ok (.aload_n 0, 1) := by decide +kernel
theorem dX3_countCredit_5 : decode cX3_countCredit 5 = .ok (.getfield 34, 3) := by decide +kernel
theorem dX3_countCredit_8 : decode cX3_countCredit 8 = .ok (.iload_n 1, 1) := by decide +kernel
theorem dX3_countCredit_9 : decode cX3_countCredit 9 = .ok (.dup2, 1) := by decide +kernel
theorem dX3_countCredit_10 : decode cX3_countCredit 10 = .ok (.iaload, 1) := by decide +kernel
theorem dX3_countCredit_11 : decode cX3_countCredit 11 = .ok (.iconst 1, 1) := by decide +kernel
theorem dX3_countCredit_12 : decode cX3_countCredit 12 = .ok (.isub, 1) := by decide +kernel
theorem dX3_countCredit_13 : decode cX3_countCredit 13 = .ok (.iastore, 1) := by decide +kernel
theorem dX3_countCredit_14 : decode cX3_countCredit 14 = .ok (.goto 31, 3) := by decide +kernel
theorem dX3_countCredit_17 : decode cX3_countCredit 17 = .ok (.aload_n 0, 1) := by decide +kernel
theorem dX3_countCredit_18 : decode cX3_countCredit 18 = .ok (.getfield 34, 3) := by decide +kernel
theorem dX3_countCredit_21 : decode cX3_countCredit 21 = .ok (.iload_n 1, 1) := by decide +kernel
theorem dX3_countCredit_22 : decode cX3_countCredit 22 = .ok (.iaload, 1) := by decide +kernel
theorem dX3_countCredit_23 : decode cX3_countCredit 23 = .ok (.aload_n 0, 1) := by decide +kernel
theorem dX3_countCredit_24 : decode cX3_countCredit 24 = .ok (.getfield 52, 3) := by decide +kernel
theorem dX3_countCredit_27 : decode cX3_countCredit 27 = .ok (.getfield 75, 3) := by decide +kernel
theorem dX3_countCredit_30 : decode cX3_countCredit 30 = .ok (.iload_n 1, 1) := by decide +kernel
theorem dX3_countCredit_31 : decode cX3_countCredit 31 = .ok (.iaload, 1) := by decide +kernel
theorem dX3_countCredit_32 : decode cX3_countCredit 32 = .ok (.if_icmp .ge 13, 3) := by decide +kernel
theorem dX3_countCredit_35 : decode cX3_countCredit 35 = .ok (.aload_n 0, 1) := by decide +kernel
theorem dX3_countCredit_36 : decode cX3_countCredit 36 = .ok (.getfield 34, 3) := by decide +kernel
theorem dX3_countCredit_39 : decode cX3_countCredit 39 = .ok (.iload_n 1, 1) := by decide +kernel
theorem dX3_countCredit_40 : decode cX3_countCredit 40 = .ok (.dup2, 1) := by decide +kernel
theorem dX3_countCredit_41 : decode cX3_countCredit 41 = .ok (.iaload, 1) := by decide +kernel
theorem dX3_countCredit_42 : decode cX3_countCredit 42 = .ok (.iconst 1, 1) := by decide +kernel
theorem dX3_countCredit_43 : decode cX3_countCredit 43 = .ok (.iadd, 1) := by decide +kernel
theorem dX3_countCredit_44 : decode cX3_countCredit 44 = .ok (.iastore, 1) := by decide +kernel
theorem dX3_countCredit_45 : decode cX3_countCredit 45 = .ok (.return_, 1) := by decide +kernel
theorem dX3_workOnJobs_0 : decode cX3_workOnJobs 0 = .ok (.iconst 0, 1) := by decide +kernel
theorem dX3_workOnJobs_1 : decode cX3_workOnJobs 1 = .ok (.istore_n 3, 1) := by decide +kernel
theorem dX3_workOnJobs_2 : decode cX3_workOnJobs 2 = .ok (.iconst 0, 1) := by decide +kernel
theorem dX3_workOnJobs_3 : decode cX3_workOnJobs 3 = .ok (.istore 4, 2) := by decide +kernel
theorem dX3_workOnJobs_5 : decode cX3_workOnJobs 5 = .ok (.iload 4, 2) := by decide +kernel
theorem dX3_workOnJobs_7 : decode cX3_workOnJobs 7 = .ok (.aload_n 0, 1) := by decide +kernel
theorem dX3_workOnJobs_8 : decode cX3_workOnJobs 8 = .ok (.getfield 52, 3) := by decide +kernel
theorem dX3_workOnJobs_11 : decode cX3_workOnJobs 11 = .ok (.getfield 114, 3) := by decide +kernel
theorem dX3_workOnJobs_14 : decode cX3_workOnJobs 14 = .ok (.iload_n 1, 1) := by decide +kernel
theorem dX3_workOnJobs_15 : decode cX3_workOnJobs 15 = .ok (.iaload, 1) := by decide +kernel
theorem dX3_workOnJobs_16 : decode cX3_workOnJobs 16 = .ok (.if_icmp .ge 92, 3) := by decide +kernel
theorem dX3_workOnJobs_19 : decode cX3_workOnJobs 19 = .ok (.iload_n 1, 1) := by decide +kernel
theorem dX3_workOnJobs_20 : decode cX3_workOnJobs 20 = .ok (.iconst 4, 1) := by decide +kernel
theorem dX3_workOnJobs_21 : decode cX3_workOnJobs 21 = .ok (.imul, 1) := by decide +kernel
theorem dX3_workOnJobs_22 : decode cX3_workOnJobs 22 = .ok (.iload 4, 2) := by decide +kernel
theorem dX3_workOnJobs_24 : decode cX3_workOnJobs 24 = .ok (.iadd, 1) := by decide +kernel
theorem dX3_workOnJobs_25 : decode cX3_workOnJobs 25 = .ok (.istore 5, 2) := by decide +kernel
theorem dX3_workOnJobs_27 : decode cX3_workOnJobs 27 = .ok (.aload_n 0, 1) := by decide +kernel
theorem dX3_workOnJobs_28 : decode cX3_workOnJobs 28 = .ok (.getfield 49, 3) := by decide +kernel
theorem dX3_workOnJobs_31 : decode cX3_workOnJobs 31 = .ok (.iload 5, 2) := by decide +kernel
theorem dX3_workOnJobs_33 : decode cX3_workOnJobs 33 = .ok (.iaload, 1) := by decide +kernel
theorem dX3_workOnJobs_34 : decode cX3_workOnJobs 34 = .ok (.istore 6, 2) := by decide +kernel
theorem dX3_workOnJobs_36 : decode cX3_workOnJobs 36 = .ok (.aload_n 0, 1) := by decide +kernel
theorem dX3_workOnJobs_37 : decode cX3_workOnJobs 37 = .ok (.getfield 12, 3) := by decide +kernel
theorem dX3_workOnJobs_40 : decode cX3_workOnJobs 40 = .ok (.iload 6, 2) := by decide +kernel
theorem dX3_workOnJobs_42 : decode cX3_workOnJobs 42 = .ok (.invokevirtual 177, 3) := by decide +kernel
theorem dX3_workOnJobs_45 : decode cX3_workOnJobs 45 = .ok (.ifCond .eq 57, 3) := by decide +kernel
theorem dX3_workOnJobs_48 : decode cX3_workOnJobs 48 = .ok (.aload_n 0, 1) := by decide +kernel
theorem dX3_workOnJobs_49 : decode cX3_workOnJobs 49 = .ok (.getfield 12, 3) := by decide +kernel
theorem dX3_workOnJobs_52 : decode cX3_workOnJobs 52 = .ok (.getfield 181, 3) := by decide +kernel
theorem dX3_workOnJobs_55 : decode cX3_workOnJobs 55 = .ok (.iload 6, 2) := by decide +kernel
theorem dX3_workOnJobs_57 : decode cX3_workOnJobs 57 = .ok (.dup2, 1) := by decide +kernel
theorem dX3_workOnJobs_58 : decode cX3_workOnJobs 58 = .ok (.iaload, 1) := by decide +kernel
theorem dX3_workOnJobs_59 : decode cX3_workOnJobs 59 = .ok (.iload_n 2, 1) := by decide +kernel
theorem dX3_workOnJobs_60 : decode cX3_workOnJobs 60 = .ok (.isub, 1) := by decide +kernel
theorem dX3_workOnJobs_61 : decode cX3_workOnJobs 61 = .ok (.iastore, 1) := by decide +kernel
theorem dX3_workOnJobs_62 : decode cX3_workOnJobs 62 = .ok (.aload_n 0, 1) := by decide +kernel
theorem dX3_workOnJobs_63 : decode cX3_workOnJobs 63 = .ok (.getfield 12, 3) := by decide +kernel
theorem dX3_workOnJobs_66 : decode cX3_workOnJobs 66 = .ok (.getfield 181, 3) := by decide +kernel
theorem dX3_workOnJobs_69 : decode cX3_workOnJobs 69 = .ok (.iload 6, 2) := by decide +kernel
theorem dX3_workOnJobs_71 : decode cX3_workOnJobs 71 = .ok (.iaload, 1) := by decide +kernel
theorem dX3_workOnJobs_72 : decode cX3_workOnJobs 72 = .ok (.ifCond .gt 30, 3) := by decide +kernel
theorem dX3_workOnJobs_75 : decode cX3_workOnJobs 75 = .ok (.aload_n 0, 1) := by decide +kernel
theorem dX3_workOnJobs_76 : decode cX3_workOnJobs 76 = .ok (.getfield 12, 3) := by decide +kernel
theorem dX3_workOnJobs_79 : decode cX3_workOnJobs 79 = .ok (.iload 6, 2) := by decide +kernel
theorem dX3_workOnJobs_81 : decode cX3_workOnJobs 81 = .ok (.aload_n 0, 1) := by decide +kernel
theorem dX3_workOnJobs_82 : decode cX3_workOnJobs 82 = .ok (.getfield 59, 3) := by decide +kernel
theorem dX3_workOnJobs_85 : decode cX3_workOnJobs 85 = .ok (.iconst 1, 1) := by decide +kernel
theorem dX3_workOnJobs_86 : decode cX3_workOnJobs 86 = .ok (.iadd, 1) := by decide +kernel
theorem dX3_workOnJobs_87 : decode cX3_workOnJobs 87 = .ok (.invokevirtual 214, 3) := by decide +kernel
theorem dX3_workOnJobs_90 : decode cX3_workOnJobs 90 = .ok (.aload_n 0, 1) := by decide +kernel
theorem dX3_workOnJobs_91 : decode cX3_workOnJobs 91 = .ok (.getfield 49, 3) := by decide +kernel
theorem dX3_workOnJobs_94 : decode cX3_workOnJobs 94 = .ok (.iload 5, 2) := by decide +kernel
theorem dX3_workOnJobs_96 : decode cX3_workOnJobs 96 = .ok (.bipush (-2), 2) := by decide +kernel
theorem dX3_workOnJobs_98 : decode cX3_workOnJobs 98 = .ok (.iastore, 1) := by decide +kernel
theorem dX3_workOnJobs_99 : decode cX3_workOnJobs 99 = .ok (.iinc 3 1, 3) := by decide +kernel
theorem dX3_workOnJobs_102 : decode cX3_workOnJobs 102 = .ok (.iinc 4 1, 3) := by decide +kernel
theorem dX3_workOnJobs_105 : decode cX3_workOnJobs 105 = .ok (.goto (-100), 3) := by decide +kernel
theorem dX3_workOnJobs_108 : decode cX3_workOnJobs 108 = .ok (.iload_n 3, 1) := by decide +kernel
theorem dX3_workOnJobs_109 : decode cX3_workOnJobs 109 = .ok (.ireturn, 1) := by decide +kernel
theorem dX4_init_0 : decode cX4_init 0 = .ok (.aload_n 0, 1) := by decide +kernel
theorem dX4_init_1 : decode cX4_init 1 = .ok (.invokespecial 3, 3) := by decide +kernel
theorem dX4_init_4 : decode cX4_init 4 = .ok (.aload_n 0, 1) := by decide +kernel
theorem dX4_init_5 : decode cX4_init 5 = .ok (.sipush 500, 3) := by decide +kernel
theorem dX4_init_8 : decode cX4_init 8 = .ok (.newarray .byte, 2) := by decide +kernel
theorem dX4_init_10 : decode cX4_init 10 = .ok (.putfield 9, 3) := by decide +kernel
theorem dX4_init_13 : decode cX4_init 13 = .ok (.return_, 1) := by decide +kernel
theorem dX4_addBytesOf_0 : decode cX4_addBytesOf 0 = .ok (.bipush 24, 2) := by decide +kernel
theorem dX4_addBytesOf_2 : decode cX4_addBytesOf 2 = .ok (.istore_n 2, 1) := by decide +kernel
theorem dX4_addBytesOf_3 : decode cX4_addBytesOf 3 = .ok (.iload_n 2, 1) := by decide +kernel
theorem dX4_addBytesOf_4 : decode cX4_addBytesOf 4 = .ok (.ifCond .lt 44, 3) := by decide +kernel
theorem dX4_addBytesOf_7 : decode cX4_addBytesOf 7 = .ok (.aload_n 0, 1) := by decide +kernel
theorem dX4_addBytesOf_8 : decode cX4_addBytesOf 8 = .ok (.getfield 15, 3) := by decide +kernel
theorem dX4_addBytesOf_11 : decode cX4_addBytesOf 11 = .ok (.aload_n 0, 1) := by decide +kernel
theorem dX4_addBytesOf_12 : decode cX4_addBytesOf 12 = .ok (.getfield 9, 3) := by decide +kernel
theorem dX4_addBytesOf_15 : decode cX4_addBytesOf 15 = .ok (.arraylength, 1) := by decide +kernel
theorem dX4_addBytesOf_16 : decode cX4_addBytesOf 16 = .ok (.if_icmp .ge 32, 3) := by decide +kernel
theorem dX4_addBytesOf_19 : decode cX4_addBytesOf 19 = .ok (.aload_n 0, 1) := by decide +kernel
theorem dX4_addBytesOf_20 : decode cX4_addBytesOf 20 = .ok (.getfield 9, 3) := by decide +kernel
theorem dX4_addBytesOf_23 : decode cX4_addBytesOf 23 = .ok (.aload_n 0, 1) := by decide +kernel
theorem dX4_addBytesOf_24 : decode cX4_addBytesOf 24 = .ok (.getfield 15, 3) := by decide +kernel
theorem dX4_addBytesOf_27 : decode cX4_addBytesOf 27 = .ok (.iload_n 1, 1) := by decide +kernel
theorem dX4_addBytesOf_28 : decode cX4_addBytesOf 28 = .ok (.iload_n 2, 1) := by decide +kernel
theorem dX4_addBytesOf_29 : decode cX4_addBytesOf 29 = .ok (.iushr, 1) := by decide +kernel
theorem dX4_addBytesOf_30 : decode cX4_addBytesOf 30 = .ok (.i2b, 1) := by decide +kernel
theorem dX4_addBytesOf_31 : decode cX4_addBytesOf 31 = .ok (.bastore, 1) := by decide +kernel
theorem dX4_addBytesOf_32 : decode cX4_addBytesOf 32 = .ok (.aload_n 0, 1) := by decide +kernel
theorem dX4_addBytesOf_33 : decode cX4_addBytesOf 33 = .ok (.dup, 1) := by decide +kernel
theorem dX4_addBytesOf_34 : decode cX4_addBytesOf 34 = .ok (.getfield 15, 3) := by decide +kernel
theorem dX4_addBytesOf_37 : decode cX4_addBytesOf 37 = .ok (.iconst 1, 1) := by decide +kernel
theorem dX4_addBytesOf_38 : decode cX4_addBytesOf 38 = .ok (.iadd, 1) := by decide +kernel
theorem dX4_addBytesOf_39 : decode cX4_addBytesOf 39 = .ok (.putfield 15, 3) := by decide +kernel
theorem dX4_addBytesOf_42 : decode cX4_addBytesOf 42 = .ok (.iinc 2 (-8), 3) := by decide +kernel
theorem dX4_addBytesOf_45 : decode cX4_addBytesOf 45 = .ok (.goto (-42), 3) := by decide +kernel
theorem dX4_addBytesOf_48 : decode cX4_addBytesOf 48 = .ok (.return_, 1) := by decide +kernel
theorem dX4_byteAt_0 : decode cX4_byteAt 0 = .ok (.iload_n 1, 1) := by decide +kernel
theorem dX4_byteAt_1 : decode cX4_byteAt 1 = .ok (.ifCond .lt 21, 3) := by decide +kernel
theorem dX4_byteAt_4 : decode cX4_byteAt 4 = .ok (.iload_n 1, 1) := by decide +kernel
theorem dX4_byteAt_5 : decode cX4_byteAt 5 = .ok (.aload_n 0, 1) := by decide +kernel
theorem dX4_byteAt_6 : decode cX4_byteAt 6 = .ok (.getfield 9, 3) := by decide +kernel
theorem dX4_byteAt_9 : decode cX4_byteAt 9 = .ok (.arraylength, 1) := by decide +kernel
theorem dX4_byteAt_10 : decode cX4_byteAt 10 = .ok (.if_icmp .ge 12, 3) := by decide +kernel
theorem dX4_byteAt_13 : decode cX4_byteAt 13 = .ok (.aload_n 0, 1) := by decide +kernel
theorem dX4_byteAt_14 : decode cX4_byteAt 14 = .ok (.getfield 9, 3) := by decide +kernel
theorem dX4_byteAt_17 : decode cX4_byteAt 17 = .ok (.iload_n 1, 1) := by decide +kernel
theorem dX4_byteAt_18 : decode cX4_byteAt 18 = .ok (.baload, 1) := by decide +kernel
theorem dX4_byteAt_19 : decode cX4_byteAt 19 = .ok (.goto 4, 3) := by decide +kernel
theorem dX4_byteAt_22 : decode cX4_byteAt 22 = .ok (.iconst 0, 1) := by decide +kernel
theorem dX4_byteAt_23 : decode cX4_byteAt 23 = .ok (.ireturn, 1) := by decide +kernel
theorem dX5_init_0 : decode cX5_init 0 = .ok (.aload_n 0, 1) := by decide +kernel
theorem dX5_init_1 : decode cX5_init 1 = .ok (.invokespecial 3, 3) := by decide +kernel
theorem dX5_init_4 : decode cX5_init 4 = .ok (.aload_n 0, 1) := by decide +kernel
theorem dX5_init_5 : decode cX5_init 5 = .ok (.new 9, 3) := by decide +kernel
theorem dX5_init_8 : decode cX5_init 8 = .ok (.dup, 1) := by decide +kernel
theorem dX5_init_9 : decode cX5_init 9 = .ok (.invokespecial 11, 3) := by decide +kernel
theorem dX5_init_12 : decode cX5_init 12 = .ok (.putfield 12, 3) := by decide +kernel
theorem dX5_init_15 : decode cX5_init 15 = .ok (.aload_n 0, 1) := by decide +kernel
theorem dX5_init_16 : decode cX5_init 16 = .ok (.new 18, 3) := by decide +kernel
theorem dX5_init_19 : decode cX5_init 19 = .ok (.dup, 1) := by decide +kernel
theorem dX5_init_20 : decode cX5_init 20 = .ok (.aload_n 1, 1) := by decide +kernel
theorem dX5_init_21 : decode cX5_init 21 = .ok (.invokespecial 20, 3) := by decide +kernel
theorem dX5_init_24 : decode cX5_init 24 = .ok (.putfield 23, 3) := by decide +kernel
theorem dX5_init_27 : decode cX5_init 27 = .ok (.return_, 1) := by decide +kernel
theorem dX5_parseText_0 : decode cX5_parseText 0 = .ok (.aload_n 0, 1) := by decide +kernel
theorem dX5_parseText_1 : decode cX5_parseText 1 = .ok (.iconst 0, 1) := by decide +kernel
theorem dX5_parseText_2 : decode cX5_parseText 2 = .ok (.putfield 27, 3) := by decide +kernel
theorem dX5_parseText_5 : decode cX5_parseText 5 = .ok (.aload_n 0, 1) := by decide +kernel
theorem dX5_parseText_6 : decode cX5_parseText 6 = .ok (.iconst (-1), 1) := by decide +kernel
theorem dX5_parseText_7 : decode cX5_parseText 7 = .ok (.putfield 31, 3) := by decide +kernel
theorem dX5_parseText_10 : decode cX5_parseText 10 = .ok (.aload_n 0, 1) := by decide +kernel
theorem dX5_parseText_11 : decode cX5_parseText 11 = .ok (.getfield 23, 3) := by decide +kernel
theorem dX5_parseText_14 : decode cX5_parseText 14 = .ok (.invokevirtual 34, 3) := by decide +kernel
theorem dX5_parseText_17 : decode cX5_parseText 17 = .ok (.aload_n 0, 1) := by decide +kernel
theorem dX5_parseText_18 : decode cX5_parseText 18 = .ok (.invokevirtual 37, 3) := by decide +kernel
theorem dX5_parseText_21 : decode cX5_parseText 21 = .ok (.ifCond .ne 5, 3) := by decide +kernel
theorem dX5_parseText_24 : decode cX5_parseText 24 = .ok (.iconst 0, 1) := by decide +kernel
theorem dX5_parseText_25 : decode cX5_parseText 25 = .ok (.ireturn, 1) := by decide +kernel
theorem dX5_parseText_26 : decode cX5_parseText 26 = .ok (.iconst 0, 1) := by decide +kernel
theorem dX5_parseText_27 : decode cX5_parseText 27 = .ok (.istore_n 1, 1) := by decide +kernel
theorem dX5_parseText_28 : decode cX5_parseText 28 = .ok (.iload_n 1, 1) := by decide +kernel
theorem dX5_parseText_29 : decode cX5_parseText 29 = .ok (.iconst 4, 1) := by decide +kernel
theorem dX5_parseText_30 : decode cX5_parseText 30 = .ok (.if_icmp .ge 49, 3) := by decide +kernel
theorem dX5_parseText_33 : decode cX5_parseText 33 = .ok (.aload_n 0, 1) := by decide +kernel
theorem dX5_parseText_34 : decode cX5_parseText 34 = .ok (.iload_n 1, 1) := by decide +kernel
theorem dX5_parseText_35 : decode cX5_parseText 35 = .ok (.invokevirtual 41, 3) := by decide +kernel
theorem dX5_parseText_38 : decode cX5_parseText 38 = .ok (.ifCond .eq 11, 3) := by decide +kernel
theorem dX5_parseText_41 : decode cX5_parseText 41 = .ok (.aload_n 0, 1) := by decide +kernel
theorem dX5_parseText_42 : decode cX5_parseText 42 = .ok (.iload_n 1, 1) := by decide +kernel
theorem dX5_parseText_43 : decode cX5_parseText 43 = .ok (.invokevirtual 45, 3) := by decide +kernel
theorem dX5_parseText_46 : decode cX5_parseText 46 = .ok (.ifCond .ne 5, 3) := by decide +kernel
theorem dX5_parseText_49 : decode cX5_parseText 49 = .ok (.iconst 0, 1) := by decide +kernel
theorem dX5_parseText_50 : decode cX5_parseText 50 = .ok (.ireturn, 1) := by decide +kernel
theorem dX5_parseText_51 : decode cX5_parseText 51 = .ok (.aload_n 0, 1) := by decide +kernel
theorem dX5_parseText_52 : decode cX5_parseText 52 = .ok (.getfield 12, 3) := by decide +kernel
theorem dX5_parseText_55 : decode cX5_parseText 55 = .ok (.iload_n 1, 1) := by decide +kernel
theorem dX5_parseText_56 : decode cX5_parseText 56 = .ok (.iconst 1, 1) := by decide +kernel
theorem dX5_parseText_57 : decode cX5_parseText 57 = .ok (.iadd, 1) := by decide +kernel
theorem dX5_parseText_58 : decode cX5_parseText 58 = .ok (.putfield 48, 3) := by decide +kernel
theorem dX5_parseText_61 : decode cX5_parseText 61 = .ok (.aload_n 0, 1) := by decide +kernel
theorem dX5_parseText_62 : decode cX5_parseText 62 = .ok (.getfield 23, 3) := by decide +kernel
theorem dX5_parseText_65 : decode cX5_parseText 65 = .ok (.getfield 51, 3) := by decide +kernel
theorem dX5_parseText_68 : decode cX5_parseText 68 = .ok (.ifCond .ne 5, 3) := by decide +kernel
theorem dX5_parseText_71 : decode cX5_parseText 71 = .ok (.iconst 1, 1) := by decide +kernel
theorem dX5_parseText_72 : decode cX5_parseText 72 = .ok (.ireturn, 1) := by decide +kernel
theorem dX5_parseText_73 : decode cX5_parseText 73 = .ok (.iinc 1 1, 3) := by decide +kernel
theorem dX5_parseText_76 : decode cX5_parseText 76 = .ok (.goto (-48), 3) := by decide +kernel
theorem dX5_parseText_79 : decode cX5_parseText 79 = .ok (.aload_n 0, 1) := by decide +kernel
theorem dX5_parseText_80 : decode cX5_parseText 80 = .ok (.aload_n 0, 1) := by decide +kernel
theorem dX5_parseText_81 : decode cX5_parseText 81 = .ok (.getfield 23, 3) := by decide +kernel
theorem dX5_parseText_84 : decode cX5_parseText 84 = .ok (.ldc 54, 2) := by decide +kernel
theorem dX5_parseText_86 : decode cX5_parseText 86 = .ok (.invokevirtual 56, 3) := by decide +kernel
theorem dX5_parseText_89 : decode cX5_parseText 89 = .ok (.ifCond .eq 7, 3) := by decide +kernel
theorem dX5_parseText_92 : decode cX5_parseText 92 = .ok (.iconst 3, 1) := by decide +kernel
theorem dX5_parseText_93 : decode cX5_parseText 93 = .ok (.goto 4, 3) := by decide +kernel
theorem dX5_parseText_96 : decode cX5_parseText 96 = .ok (.iconst 1, 1) := by decide +kernel
theorem dX5_parseText_97 : decode cX5_parseText 97 = .ok (.invokevirtual 60, 3) := by decide +kernel
theorem dX5_parseText_100 : decode cX5_parseText 100 = .ok (.ireturn, 1) := by decide +kernel
theorem dX5_readSystem_0 : decode cX5_readSystem 0 = .ok (.aload_n 0, 1) := by decide +kernel
theorem dX5_readSystem_1 : decode cX5_readSystem 1 = .ok (.ldc 63, 2) := by decide +kernel
theorem dX5_readSystem_3 : decode cX5_readSystem 3 = .ok (.invokevirtual 65, 3) := by decide +kernel
theorem dX5_readSystem_6 : decode cX5_readSystem 6 = .ok (.ifCond .eq 14, 3) := by decide +kernel
theorem dX5_readSystem_9 : decode cX5_readSystem 9 = .ok (.aload_n 0, 1) := by decide +kernel
theorem dX5_readSystem_10 : decode cX5_readSystem 10 = .ok (.iconst 0, 1) := by decide +kernel
theorem dX5_readSystem_11 : decode cX5_readSystem 11 = .ok (.sipush 9999, 3) := by decide +kernel
theorem dX5_readSystem_14 : decode cX5_readSystem 14 = .ok (.invokevirtual 68, 3) := by decide +kernel
theorem dX5_readSystem_17 : decode cX5_readSystem 17 = .ok (.ifCond .ne 5, 3) := by decide +kernel
theorem dX5_readSystem_20 : decode cX5_readSystem 20 = .ok (.iconst 0, 1) := by decide +kernel
theorem dX5_readSystem_21 : decode cX5_readSystem 21 = .ok (.ireturn, 1) := by decide +kernel
theorem dX5_readSystem_22 : decode cX5_readSystem 22 = .ok (.aload_n 0, 1) := by decide +kernel
theorem dX5_readSystem_23 : decode cX5_readSystem 23 = .ok (.getfield 12, 3) := by decide +kernel
theorem dX5_readSystem_26 : decode cX5_readSystem 26 = .ok (.aload_n 0, 1) := by decide +kernel
theorem dX5_readSystem_27 : decode cX5_readSystem 27 = .ok (.getfield 72, 3) := by decide +kernel
theorem dX5_readSystem_30 : decode cX5_readSystem 30 = .ok (.putfield 75, 3) := by decide +kernel
theorem dX5_readSystem_33 : decode cX5_readSystem 33 = .ok (.aload_n 0, 1) := by decide +kernel
theorem dX5_readSystem_34 : decode cX5_readSystem 34 = .ok (.invokevirtual 78, 3) := by decide +kernel
theorem dX5_readSystem_37 : decode cX5_readSystem 37 = .ok (.ireturn, 1) := by decide +kernel
theorem dX5_readDomain_0 : decode cX5_readDomain 0 = .ok (.aload_n 0, 1) := by decide +kernel
theorem dX5_readDomain_1 : decode cX5_readDomain 1 = .ok (.ldc 54, 2) := by decide +kernel
theorem dX5_readDomain_3 : decode cX5_readDomain 3 = .ok (.invokevirtual 65, 3) := by decide +kernel
theorem dX5_readDomain_6 : decode cX5_readDomain 6 = .ok (.ifCond .eq 38, 3) := by decide +kernel
theorem dX5_readDomain_9 : decode cX5_readDomain 9 = .ok (.aload_n 0, 1) := by decide +kernel
theorem dX5_readDomain_10 : decode cX5_readDomain 10 = .ok (.iload_n 1, 1) := by decide +kernel
theorem dX5_readDomain_11 : decode cX5_readDomain 11 = .ok (.invokevirtual 81, 3) := by decide +kernel
theorem dX5_readDomain_14 : decode cX5_readDomain 14 = .ok (.ifCond .eq 30, 3) := by decide +kernel
theorem dX5_readDomain_17 : decode cX5_readDomain 17 = .ok (.aload_n 0, 1) := by decide +kernel
theorem dX5_readDomain_18 : decode cX5_readDomain 18 = .ok (.iload_n 1, 1) := by decide +kernel
theorem dX5_readDomain_19 : decode cX5_readDomain 19 = .ok (.invokevirtual 84, 3) := by decide +kernel
theorem dX5_readDomain_22 : decode cX5_readDomain 22 = .ok (.ifCond .eq 22, 3) := by decide +kernel
theorem dX5_readDomain_25 : decode cX5_readDomain 25 = .ok (.aload_n 0, 1) := by decide +kernel
theorem dX5_readDomain_26 : decode cX5_readDomain 26 = .ok (.iload_n 1, 1) := by decide +kernel
theorem dX5_readDomain_27 : decode cX5_readDomain 27 = .ok (.invokevirtual 87, 3) := by decide +kernel
theorem dX5_readDomain_30 : decode cX5_readDomain 30 = .ok (.ifCond .eq 14, 3) := by decide +kernel
theorem dX5_readDomain_33 : decode cX5_readDomain 33 = .ok (.aload_n 0, 1) := by decide +kernel
theorem dX5_readDomain_34 : decode cX5_readDomain 34 = .ok (.invokevirtual 78, 3) := by decide +kernel
theorem dX5_readDomain_37 : decode cX5_readDomain 37 = .ok (.ifCond .eq 7, 3) := by decide +kernel
theorem dX5_readDomain_40 : decode cX5_readDomain 40 = .ok (.iconst 1, 1) := by decide +kernel
theorem dX5_readDomain_41 : decode cX5_readDomain 41 = .ok (.goto 4, 3) := by decide +kernel
theorem dX5_readDomain_44 : decode cX5_readDomain 44 = .ok (.iconst 0, 1) := by decide +kernel
theorem dX5_readDomain_45 : decode cX5_readDomain 45 = .ok (.ireturn, 1) := by decide +kernel
theorem dX5_readHeat_0 : decode cX5_readHeat 0 = .ok (.aload_n 0, 1) := by decide +kernel
theorem dX5_readHeat_1 : decode cX5_readHeat 1 = .ok (.iconst 1, 1) := by decide +kernel
theorem dX5_readHeat_2 : decode cX5_readHeat 2 = .ok (.iconst 4, 1) := by decide +kernel
theorem dX5_readHeat_3 : decode cX5_readHeat 3 = .ok (.invokevirtual 68, 3) := by decide +kernel
theorem dX5_readHeat_6 : decode cX5_readHeat 6 = .ok (.ifCond .ne 5, 3) := by decide +kernel
theorem dX5_readHeat_9 : decode cX5_readHeat 9 = .ok (.iconst 0, 1) := by decide +kernel
theorem dX5_readHeat_10 : decode cX5_readHeat 10 = .ok (.ireturn, 1) := by decide +kernel
theorem dX5_readHeat_11 : decode cX5_readHeat 11 = .ok (.aload_n 0, 1) := by decide +kernel
theorem dX5_readHeat_12 : decode cX5_readHeat 12 = .ok (.getfield 12, 3) := by decide +kernel
theorem dX5_readHeat_15 : decode cX5_readHeat 15 = .ok (.getfield 90, 3) := by decide +kernel
theorem dX5_readHeat_18 : decode cX5_readHeat 18 = .ok (.iload_n 1, 1) := by decide +kernel
theorem dX5_readHeat_19 : decode cX5_readHeat 19 = .ok (.aload_n 0, 1) := by decide +kernel
theorem dX5_readHeat_20 : decode cX5_readHeat 20 = .ok (.getfield 72, 3) := by decide +kernel
theorem dX5_readHeat_23 : decode cX5_readHeat 23 = .ok (.iastore, 1) := by decide +kernel
theorem dX5_readHeat_24 : decode cX5_readHeat 24 = .ok (.aload_n 0, 1) := by decide +kernel
theorem dX5_readHeat_25 : decode cX5_readHeat 25 = .ok (.iconst 0, 1) := by decide +kernel
theorem dX5_readHeat_26 : decode cX5_readHeat 26 = .ok (.ldc 94, 2) := by decide +kernel
theorem dX5_readHeat_28 : decode cX5_readHeat 28 = .ok (.invokevirtual 68, 3) := by decide +kernel
theorem dX5_readHeat_31 : decode cX5_readHeat 31 = .ok (.ifCond .ne 5, 3) := by decide +kernel
theorem dX5_readHeat_34 : decode cX5_readHeat 34 = .ok (.iconst 0, 1) := by decide +kernel
theorem dX5_readHeat_35 : decode cX5_readHeat 35 = .ok (.ireturn, 1) := by decide +kernel
theorem dX5_readHeat_36 : decode cX5_readHeat 36 = .ok (.aload_n 0, 1) := by decide +kernel
theorem dX5_readHeat_37 : decode cX5_readHeat 37 = .ok (.getfield 12, 3) := by decide +kernel
theorem dX5_readHeat_40 : decode cX5_readHeat 40 = .ok (.getfield 95, 3) := by decide +kernel
theorem dX5_readHeat_43 : decode cX5_readHeat 43 = .ok (.iload_n 1, 1) := by decide +kernel
theorem dX5_readHeat_44 : decode cX5_readHeat 44 = .ok (.aload_n 0, 1) := by decide +kernel
theorem dX5_readHeat_45 : decode cX5_readHeat 45 = .ok (.getfield 72, 3) := by decide +kernel
theorem dX5_readHeat_48 : decode cX5_readHeat 48 = .ok (.iastore, 1) := by decide +kernel
theorem dX5_readHeat_49 : decode cX5_readHeat 49 = .ok (.aload_n 0, 1) := by decide +kernel
theorem dX5_readHeat_50 : decode cX5_readHeat 50 = .ok (.iconst 0, 1) := by decide +kernel
theorem dX5_readHeat_51 : decode cX5_readHeat 51 = .ok (.sipush 999, 3) := by decide +kernel
theorem dX5_readHeat_54 : decode cX5_readHeat 54 = .ok (.invokevirtual 68, 3) := by decide +kernel
theorem dX5_readHeat_57 : decode cX5_readHeat 57 = .ok (.ifCond .ne 5, 3) := by decide +kernel
theorem dX5_readHeat_60 : decode cX5_readHeat 60 = .ok (.iconst 0, 1) := by decide +kernel
theorem dX5_readHeat_61 : decode cX5_readHeat 61 = .ok (.ireturn, 1) := by decide +kernel
theorem dX5_readHeat_62 : decode cX5_readHeat 62 = .ok (.aload_n 0, 1) := by decide +kernel
theorem dX5_readHeat_63 : decode cX5_readHeat 63 = .ok (.getfield 12, 3) := by decide +kernel
theorem dX5_readHeat_66 : decode cX5_readHeat 66 = .ok (.getfield 98, 3) := by decide +kernel
theorem dX5_readHeat_69 : decode cX5_readHeat 69 = .ok (.iload_n 1, 1) := by decide +kernel
theorem dX5_readHeat_70 : decode cX5_readHeat 70 = .ok (.aload_n 0, 1) := by decide +kernel
theorem dX5_readHeat_71 : decode cX5_readHeat 71 = .ok (.getfield 72, 3) := by decide +kernel
theorem dX5_readHeat_74 : decode cX5_readHeat 74 = .ok (.iastore, 1) := by decide +kernel
theorem dX5_readHeat_75 : decode cX5_readHeat 75 = .ok (.aload_n 0, 1) := by decide +kernel
theorem dX5_readHeat_76 : decode cX5_readHeat 76 = .ok (.iconst 1, 1) := by decide +kernel
theorem dX5_readHeat_77 : decode cX5_readHeat 77 = .ok (.sipush 999, 3) := by decide +kernel
theorem dX5_readHeat_80 : decode cX5_readHeat 80 = .ok (.invokevirtual 68, 3) := by decide +kernel
theorem dX5_readHeat_83 : decode cX5_readHeat 83 = .ok (.ifCond .ne 5, 3) := by decide +kernel
theorem dX5_readHeat_86 : decode cX5_readHeat 86 = .ok (.iconst 0, 1) := by decide +kernel
theorem dX5_readHeat_87 : decode cX5_readHeat 87 = .ok (.ireturn, 1) := by decide +kernel
theorem dX5_readHeat_88 : decode cX5_readHeat 88 = .ok (.aload_n 0, 1) := by decide +kernel
theorem dX5_readHeat_89 : decode cX5_readHeat 89 = .ok (.getfield 12, 3) := by decide +kernel
theorem dX5_readHeat_92 : decode cX5_readHeat 92 = .ok (.getfield 101, 3) := by decide +kernel
theorem dX5_readHeat_95 : decode cX5_readHeat 95 = .ok (.iload_n 1, 1) := by decide +kernel
theorem dX5_readHeat_96 : decode cX5_readHeat 96 = .ok (.aload_n 0, 1) := by decide +kernel
theorem dX5_readHeat_97 : decode cX5_readHeat 97 = .ok (.getfield 72, 3) := by decide +kernel
theorem dX5_readHeat_100 : decode cX5_readHeat 100 = .ok (.iastore, 1) := by decide +kernel
theorem dX5_readHeat_101 : decode cX5_readHeat 101 = .ok (.iconst 1, 1) := by decide +kernel
theorem dX5_readHeat_102 : decode cX5_readHeat 102 = .ok (.ireturn, 1) := by decide +kernel
theorem dX5_readPower_0 : decode cX5_readPower 0 = .ok (.aload_n 0, 1) := by decide +kernel
theorem dX5_readPower_1 : decode cX5_readPower 1 = .ok (.iconst 0, 1) := by decide +kernel
theorem dX5_readPower_2 : decode cX5_readPower 2 = .ok (.bipush 99, 2) := by decide +kernel
theorem dX5_readPower_4 : decode cX5_readPower 4 = .ok (.invokevirtual 68, 3) := by decide +kernel
theorem dX5_readPower_7 : decode cX5_readPower 7 = .ok (.ifCond .ne 5, 3) := by decide +kernel
theorem dX5_readPower_10 : decode cX5_readPower 10 = .ok (.iconst 0, 1) := by decide +kernel
theorem dX5_readPower_11 : decode cX5_readPower 11 = .ok (.ireturn, 1) := by decide +kernel
theorem dX5_readPower_12 : decode cX5_readPower 12 = .ok (.aload_n 0, 1) := by decide +kernel
theorem dX5_readPower_13 : decode cX5_readPower 13 = .ok (.getfield 12, 3) := by decide +kernel
theorem dX5_readPower_16 : decode cX5_readPower 16 = .ok (.getfield 104, 3) := by decide +kernel
theorem dX5_readPower_19 : decode cX5_readPower 19 = .ok (.iload_n 1, 1) := by decide +kernel
theorem dX5_readPower_20 : decode cX5_readPower 20 = .ok (.aload_n 0, 1) := by decide +kernel
theorem dX5_readPower_21 : decode cX5_readPower 21 = .ok (.getfield 72, 3) := by decide +kernel
theorem dX5_readPower_24 : decode cX5_readPower 24 = .ok (.iastore, 1) := by decide +kernel
theorem dX5_readPower_25 : decode cX5_readPower 25 = .ok (.aload_n 0, 1) := by decide +kernel
theorem dX5_readPower_26 : decode cX5_readPower 26 = .ok (.iconst 0, 1) := by decide +kernel
theorem dX5_readPower_27 : decode cX5_readPower 27 = .ok (.iconst 4, 1) := by decide +kernel
theorem dX5_readPower_28 : decode cX5_readPower 28 = .ok (.invokevirtual 68, 3) := by decide +kernel
theorem dX5_readPower_31 : decode cX5_readPower 31 = .ok (.ifCond .ne 5, 3) := by decide +kernel
theorem dX5_readPower_34 : decode cX5_readPower 34 = .ok (.iconst 0, 1) := by decide +kernel
theorem dX5_readPower_35 : decode cX5_readPower 35 = .ok (.ireturn, 1) := by decide +kernel
theorem dX5_readPower_36 : decode cX5_readPower 36 = .ok (.aload_n 0, 1) := by decide +kernel
theorem dX5_readPower_37 : decode cX5_readPower 37 = .ok (.getfield 12, 3) := by decide +kernel
theorem dX5_readPower_40 : decode cX5_readPower 40 = .ok (.getfield 107, 3) := by decide +kernel
theorem dX5_readPower_43 : decode cX5_readPower 43 = .ok (.iload_n 1, 1) := by decide +kernel
theorem dX5_readPower_44 : decode cX5_readPower 44 = .ok (.aload_n 0, 1) := by decide +kernel
theorem dX5_readPower_45 : decode cX5_readPower 45 = .ok (.getfield 72, 3) := by decide +kernel
theorem dX5_readPower_48 : decode cX5_readPower 48 = .ok (.iastore, 1) := by decide +kernel
theorem dX5_readPower_49 : decode cX5_readPower 49 = .ok (.aload_n 0, 1) := by decide +kernel
theorem dX5_readPower_50 : decode cX5_readPower 50 = .ok (.iconst 0, 1) := by decide +kernel
theorem dX5_readPower_51 : decode cX5_readPower 51 = .ok (.bipush 99, 2) := by decide +kernel
theorem dX5_readPower_53 : decode cX5_readPower 53 = .ok (.invokevirtual 68, 3) := by decide +kernel
theorem dX5_readPower_56 : decode cX5_readPower 56 = .ok (.ifCond .ne 5, 3) := by decide +kernel
theorem dX5_readPower_59 : decode cX5_readPower 59 = .ok (.iconst 0, 1) := by decide +kernel
theorem dX5_readPower_60 : decode cX5_readPower 60 = .ok (.ireturn, 1) := by decide +kernel
theorem dX5_readPower_61 : decode cX5_readPower 61 = .ok (.aload_n 0, 1) := by decide +kernel
theorem dX5_readPower_62 : decode cX5_readPower 62 = .ok (.getfield 12, 3) := by decide +kernel
theorem dX5_readPower_65 : decode cX5_readPower 65 = .ok (.getfield 110, 3) := by decide +kernel
theorem dX5_readPower_68 : decode cX5_readPower 68 = .ok (.iload_n 1, 1) := by decide +kernel
theorem dX5_readPower_69 : decode cX5_readPower 69 = .ok (.aload_n 0, 1) := by decide +kernel
theorem dX5_readPower_70 : decode cX5_readPower 70 = .ok (.getfield 72, 3) := by decide +kernel
theorem dX5_readPower_73 : decode cX5_readPower 73 = .ok (.iastore, 1) := by decide +kernel
theorem dX5_readPower_74 : decode cX5_readPower 74 = .ok (.iconst 1, 1) := by decide +kernel
theorem dX5_readPower_75 : decode cX5_readPower 75 = .ok (.ireturn, 1) := by decide +kernel
theorem dX5_readPolicy_0 : decode cX5_readPolicy 0 = .ok (.aload_n 0, 1) := by decide +kernel
theorem dX5_readPolicy_1 : decode cX5_readPolicy 1 = .ok (.getfield 23, 3) := by decide +kernel
theorem dX5_readPolicy_4 : decode cX5_readPolicy 4 = .ok (.ldc 113, 2) := by decide +kernel
theorem dX5_readPolicy_6 : decode cX5_readPolicy 6 = .ok (.invokevirtual 56, 3) := by decide +kernel
theorem dX5_readPolicy_9 : decode cX5_readPolicy 9 = .ok (.ifCond .eq 16, 3) := by decide +kernel
theorem dX5_readPolicy_12 : decode cX5_readPolicy 12 = .ok (.aload_n 0, 1) := by decide +kernel
theorem dX5_readPolicy_13 : decode cX5_readPolicy 13 = .ok (.getfield 12, 3) := by decide +kernel
theorem dX5_readPolicy_16 : decode cX5_readPolicy 16 = .ok (.getfield 115, 3) := by decide +kernel
theorem dX5_readPolicy_19 : decode cX5_readPolicy 19 = .ok (.iload_n 1, 1) := by decide +kernel
theorem dX5_readPolicy_20 : decode cX5_readPolicy 20 = .ok (.iconst 0, 1) := by decide +kernel
theorem dX5_readPolicy_21 : decode cX5_readPolicy 21 = .ok (.iastore, 1) := by decide +kernel
theorem dX5_readPolicy_22 : decode cX5_readPolicy 22 = .ok (.goto 84, 3) := by decide +kernel
theorem dX5_readPolicy_25 : decode cX5_readPolicy 25 = .ok (.aload_n 0, 1) := by decide +kernel
theorem dX5_readPolicy_26 : decode cX5_readPolicy 26 = .ok (.getfield 23, 3) := by decide +kernel
theorem dX5_readPolicy_29 : decode cX5_readPolicy 29 = .ok (.ldc 118, 2) := by decide +kernel
theorem dX5_readPolicy_31 : decode cX5_readPolicy 31 = .ok (.invokevirtual 56, 3) := by decide +kernel
theorem dX5_readPolicy_34 : decode cX5_readPolicy 34 = .ok (.ifCond .eq 16, 3) := by decide +kernel
theorem dX5_readPolicy_37 : decode cX5_readPolicy 37 = .ok (.aload_n 0, 1) := by decide +kernel
theorem dX5_readPolicy_38 : decode cX5_readPolicy 38 = .ok (.getfield 12, 3) := by decide +kernel
theorem dX5_readPolicy_41 : decode cX5_readPolicy 41 = .ok (.getfield 115, 3) := by decide +kernel
theorem dX5_readPolicy_44 : decode cX5_readPolicy 44 = .ok (.iload_n 1, 1) := by decide +kernel
theorem dX5_readPolicy_45 : decode cX5_readPolicy 45 = .ok (.iconst 1, 1) := by decide +kernel
theorem dX5_readPolicy_46 : decode cX5_readPolicy 46 = .ok (.iastore, 1) := by decide +kernel
theorem dX5_readPolicy_47 : decode cX5_readPolicy 47 = .ok (.goto 59, 3) := by decide +kernel
theorem dX5_readPolicy_50 : decode cX5_readPolicy 50 = .ok (.aload_n 0, 1) := by decide +kernel
theorem dX5_readPolicy_51 : decode cX5_readPolicy 51 = .ok (.getfield 23, 3) := by decide +kernel
theorem dX5_readPolicy_54 : decode cX5_readPolicy 54 = .ok (.ldc 120, 2) := by decide +kernel
theorem dX5_readPolicy_56 : decode cX5_readPolicy 56 = .ok (.invokevirtual 56, 3) := by decide +kernel
theorem dX5_readPolicy_59 : decode cX5_readPolicy 59 = .ok (.ifCond .eq 16, 3) := by decide +kernel
theorem dX5_readPolicy_62 : decode cX5_readPolicy 62 = .ok (.aload_n 0, 1) := by decide +kernel
theorem dX5_readPolicy_63 : decode cX5_readPolicy 63 = .ok (.getfield 12, 3) := by decide +kernel
theorem dX5_readPolicy_66 : decode cX5_readPolicy 66 = .ok (.getfield 115, 3) := by decide +kernel
theorem dX5_readPolicy_69 : decode cX5_readPolicy 69 = .ok (.iload_n 1, 1) := by decide +kernel
theorem dX5_readPolicy_70 : decode cX5_readPolicy 70 = .ok (.iconst 2, 1) := by decide +kernel
theorem dX5_readPolicy_71 : decode cX5_readPolicy 71 = .ok (.iastore, 1) := by decide +kernel
theorem dX5_readPolicy_72 : decode cX5_readPolicy 72 = .ok (.goto 34, 3) := by decide +kernel
theorem dX5_readPolicy_75 : decode cX5_readPolicy 75 = .ok (.aload_n 0, 1) := by decide +kernel
theorem dX5_readPolicy_76 : decode cX5_readPolicy 76 = .ok (.getfield 23, 3) := by decide +kernel
theorem dX5_readPolicy_79 : decode cX5_readPolicy 79 = .ok (.ldc 122, 2) := by decide +kernel
theorem dX5_readPolicy_81 : decode cX5_readPolicy 81 = .ok (.invokevirtual 56, 3) := by decide +kernel
theorem dX5_readPolicy_84 : decode cX5_readPolicy 84 = .ok (.ifCond .eq 16, 3) := by decide +kernel
theorem dX5_readPolicy_87 : decode cX5_readPolicy 87 = .ok (.aload_n 0, 1) := by decide +kernel
theorem dX5_readPolicy_88 : decode cX5_readPolicy 88 = .ok (.getfield 12, 3) := by decide +kernel
theorem dX5_readPolicy_91 : decode cX5_readPolicy 91 = .ok (.getfield 115, 3) := by decide +kernel
theorem dX5_readPolicy_94 : decode cX5_readPolicy 94 = .ok (.iload_n 1, 1) := by decide +kernel
theorem dX5_readPolicy_95 : decode cX5_readPolicy 95 = .ok (.iconst 3, 1) := by decide +kernel
theorem dX5_readPolicy_96 : decode cX5_readPolicy 96 = .ok (.iastore, 1) := by decide +kernel
theorem dX5_readPolicy_97 : decode cX5_readPolicy 97 = .ok (.goto 9, 3) := by decide +kernel
theorem dX5_readPolicy_100 : decode cX5_readPolicy 100 = .ok (.aload_n 0, 1) := by decide +kernel
theorem dX5_readPolicy_101 : decode cX5_readPolicy 101 = .ok (.iconst 1, 1) := by decide +kernel
theorem dX5_readPolicy_102 : decode cX5_readPolicy 102 = .ok (.invokevirtual 60, 3) := by decide +kernel
theorem dX5_readPolicy_105 : decode cX5_readPolicy 105 = .ok (.ireturn, 1) := by decide +kernel
theorem dX5_readPolicy_106 : decode cX5_readPolicy 106 = .ok (.aload_n 0, 1) := by decide +kernel
theorem dX5_readPolicy_107 : decode cX5_readPolicy 107 = .ok (.getfield 23, 3) := by decide +kernel
theorem dX5_readPolicy_110 : decode cX5_readPolicy 110 = .ok (.invokevirtual 124, 3) := by decide +kernel
theorem dX5_readPolicy_113 : decode cX5_readPolicy 113 = .ok (.iconst 1, 1) := by decide +kernel
theorem dX5_readPolicy_114 : decode cX5_readPolicy 114 = .ok (.ireturn, 1) := by decide +kernel
theorem dX5_readLevels_0 : decode cX5_readLevels 0 = .ok (.iconst 0, 1) := by decide +kernel
theorem dX5_readLevels_1 : decode cX5_readLevels 1 = .ok (.istore_n 2, 1) := by decide +kernel
theorem dX5_readLevels_2 : decode cX5_readLevels 2 = .ok (.iload_n 2, 1) := by decide +kernel
theorem dX5_readLevels_3 : decode cX5_readLevels 3 = .ok (.iconst 5, 1) := by decide +kernel
theorem dX5_readLevels_4 : decode cX5_readLevels 4 = .ok (.if_icmp .ge 36, 3) := by decide +kernel
theorem dX5_readLevels_7 : decode cX5_readLevels 7 = .ok (.iload_n 2, 1) := by decide +kernel
theorem dX5_readLevels_8 : decode cX5_readLevels 8 = .ok (.ifCond .eq 15, 3) := by decide +kernel
theorem dX5_readLevels_11 : decode cX5_readLevels 11 = .ok (.aload_n 0, 1) := by decide +kernel
theorem dX5_readLevels_12 : decode cX5_readLevels 12 = .ok (.getfield 23, 3) := by decide +kernel
theorem dX5_readLevels_15 : decode cX5_readLevels 15 = .ok (.ldc 127, 2) := by decide +kernel
theorem dX5_readLevels_17 : decode cX5_readLevels 17 = .ok (.invokevirtual 56, 3) := by decide +kernel
theorem dX5_readLevels_20 : decode cX5_readLevels 20 = .ok (.ifCond .eq 20, 3) := by decide +kernel
theorem dX5_readLevels_23 : decode cX5_readLevels 23 = .ok (.aload_n 0, 1) := by decide +kernel
theorem dX5_readLevels_24 : decode cX5_readLevels 24 = .ok (.iload_n 1, 1) := by decide +kernel
theorem dX5_readLevels_25 : decode cX5_readLevels 25 = .ok (.iload_n 2, 1) := by decide +kernel
theorem dX5_readLevels_26 : decode cX5_readLevels 26 = .ok (.invokevirtual 129, 3) := by decide +kernel
theorem dX5_readLevels_29 : decode cX5_readLevels 29 = .ok (.ifCond .ne 5, 3) := by decide +kernel
theorem dX5_readLevels_32 : decode cX5_readLevels 32 = .ok (.iconst 0, 1) := by decide +kernel
theorem dX5_readLevels_33 : decode cX5_readLevels 33 = .ok (.ireturn, 1) := by decide +kernel
theorem dX5_readLevels_34 : decode cX5_readLevels 34 = .ok (.iinc 2 1, 3) := by decide +kernel
theorem dX5_readLevels_37 : decode cX5_readLevels 37 = .ok (.goto (-35), 3) := by decide +kernel
theorem dX5_readLevels_40 : decode cX5_readLevels 40 = .ok (.aload_n 0, 1) := by decide +kernel
theorem dX5_readLevels_41 : decode cX5_readLevels 41 = .ok (.getfield 23, 3) := by decide +kernel
theorem dX5_readLevels_44 : decode cX5_readLevels 44 = .ok (.ldc 127, 2) := by decide +kernel
theorem dX5_readLevels_46 : decode cX5_readLevels 46 = .ok (.invokevirtual 56, 3) := by decide +kernel
theorem dX5_readLevels_49 : decode cX5_readLevels 49 = .ok (.ifCond .eq 9, 3) := by decide +kernel
theorem dX5_readLevels_52 : decode cX5_readLevels 52 = .ok (.aload_n 0, 1) := by decide +kernel
theorem dX5_readLevels_53 : decode cX5_readLevels 53 = .ok (.iconst 3, 1) := by decide +kernel
theorem dX5_readLevels_54 : decode cX5_readLevels 54 = .ok (.invokevirtual 60, 3) := by decide +kernel
theorem dX5_readLevels_57 : decode cX5_readLevels 57 = .ok (.ireturn, 1) := by decide +kernel
theorem dX5_readLevels_58 : decode cX5_readLevels 58 = .ok (.aload_n 0, 1) := by decide +kernel
theorem dX5_readLevels_59 : decode cX5_readLevels 59 = .ok (.getfield 12, 3) := by decide +kernel
theorem dX5_readLevels_62 : decode cX5_readLevels 62 = .ok (.getfield 132, 3) := by decide +kernel
theorem dX5_readLevels_65 : decode cX5_readLevels 65 = .ok (.iload_n 1, 1) := by decide +kernel
theorem dX5_readLevels_66 : decode cX5_readLevels 66 = .ok (.iload_n 2, 1) := by decide +kernel
theorem dX5_readLevels_67 : decode cX5_readLevels 67 = .ok (.iastore, 1) := by decide +kernel
theorem dX5_readLevels_68 : decode cX5_readLevels 68 = .ok (.aload_n 0, 1) := by decide +kernel
theorem dX5_readLevels_69 : decode cX5_readLevels 69 = .ok (.getfield 12, 3) := by decide +kernel
theorem dX5_readLevels_72 : decode cX5_readLevels 72 = .ok (.getfield 107, 3) := by decide +kernel
theorem dX5_readLevels_75 : decode cX5_readLevels 75 = .ok (.iload_n 1, 1) := by decide +kernel
theorem dX5_readLevels_76 : decode cX5_readLevels 76 = .ok (.aload_n 0, 1) := by decide +kernel
theorem dX5_readLevels_77 : decode cX5_readLevels 77 = .ok (.getfield 12, 3) := by decide +kernel
theorem dX5_readLevels_80 : decode cX5_readLevels 80 = .ok (.getfield 107, 3) := by decide +kernel
theorem dX5_readLevels_83 : decode cX5_readLevels 83 = .ok (.iload_n 1, 1) := by decide +kernel
theorem dX5_readLevels_84 : decode cX5_readLevels 84 = .ok (.iaload, 1) := by decide +kernel
theorem dX5_readLevels_85 : decode cX5_readLevels 85 = .ok (.iload_n 2, 1) := by decide +kernel
theorem dX5_readLevels_86 : decode cX5_readLevels 86 = .ok (.iconst 1, 1) := by decide +kernel
theorem dX5_readLevels_87 : decode cX5_readLevels 87 = .ok (.isub, 1) := by decide +kernel
theorem dX5_readLevels_88 : decode cX5_readLevels 88 = .ok (.invokestatic 135, 3) := by decide +kernel
theorem dX5_readLevels_91 : decode cX5_readLevels 91 = .ok (.iastore, 1) := by decide +kernel
theorem dX5_readLevels_92 : decode cX5_readLevels 92 = .ok (.iconst 1, 1) := by decide +kernel
theorem dX5_readLevels_93 : decode cX5_readLevels 93 = .ok (.ireturn, 1) := by decide +kernel
theorem dX5_readLevel_0 : decode cX5_readLevel 0 = .ok (.iload_n 1, 1) := by decide +kernel
theorem dX5_readLevel_1 : decode cX5_readLevel 1 = .ok (.iconst 5, 1) := by decide +kernel
theorem dX5_readLevel_2 : decode cX5_readLevel 2 = .ok (.imul, 1) := by decide +kernel
theorem dX5_readLevel_3 : decode cX5_readLevel 3 = .ok (.iload_n 2, 1) := by decide +kernel
theorem dX5_readLevel_4 : decode cX5_readLevel 4 = .ok (.iadd, 1) := by decide +kernel
theorem dX5_readLevel_5 : decode cX5_readLevel 5 = .ok (.istore_n 3, 1) := by decide +kernel
theorem dX5_readLevel_6 : decode cX5_readLevel 6 = .ok (.iload_n 2, 1) := by decide +kernel
theorem dX5_readLevel_7 : decode cX5_readLevel 7 = .ok (.ifCond .ne 7, 3) := by decide +kernel
theorem dX5_readLevel_10 : decode cX5_readLevel 10 = .ok (.iconst 1, 1) := by decide +kernel
theorem dX5_readLevel_11 : decode cX5_readLevel 11 = .ok (.goto 16, 3) := by decide +kernel
theorem dX5_readLevel_14 : decode cX5_readLevel 14 = .ok (.aload_n 0, 1) := by decide +kernel
theorem dX5_readLevel_15 : decode cX5_readLevel 15 = .ok (.getfield 12, 3) := by decide +kernel
theorem dX5_readLevel_18 : decode cX5_readLevel 18 = .ok (.getfield 140, 3) := by decide +kernel
theorem dX5_readLevel_21 : decode cX5_readLevel 21 = .ok (.iload_n 3, 1) := by decide +kernel
theorem dX5_readLevel_22 : decode cX5_readLevel 22 = .ok (.iconst 1, 1) := by decide +kernel
theorem dX5_readLevel_23 : decode cX5_readLevel 23 = .ok (.isub, 1) := by decide +kernel
theorem dX5_readLevel_24 : decode cX5_readLevel 24 = .ok (.iaload, 1) := by decide +kernel
theorem dX5_readLevel_25 : decode cX5_readLevel 25 = .ok (.iconst 1, 1) := by decide +kernel
theorem dX5_readLevel_26 : decode cX5_readLevel 26 = .ok (.iadd, 1) := by decide +kernel
theorem dX5_readLevel_27 : decode cX5_readLevel 27 = .ok (.istore 4, 2) := by decide +kernel
theorem dX5_readLevel_29 : decode cX5_readLevel 29 = .ok (.aload_n 0, 1) := by decide +kernel
theorem dX5_readLevel_30 : decode cX5_readLevel 30 = .ok (.ldc 127, 2) := by decide +kernel
theorem dX5_readLevel_32 : decode cX5_readLevel 32 = .ok (.invokevirtual 65, 3) := by decide +kernel
theorem dX5_readLevel_35 : decode cX5_readLevel 35 = .ok (.ifCond .eq 15, 3) := by decide +kernel
theorem dX5_readLevel_38 : decode cX5_readLevel 38 = .ok (.aload_n 0, 1) := by decide +kernel
theorem dX5_readLevel_39 : decode cX5_readLevel 39 = .ok (.iload 4, 2) := by decide +kernel
theorem dX5_readLevel_41 : decode cX5_readLevel 41 = .ok (.sipush 999, 3) := by decide +kernel
theorem dX5_readLevel_44 : decode cX5_readLevel 44 = .ok (.invokevirtual 68, 3) := by decide +kernel
theorem dX5_readLevel_47 : decode cX5_readLevel 47 = .ok (.ifCond .ne 5, 3) := by decide +kernel
theorem dX5_readLevel_50 : decode cX5_readLevel 50 = .ok (.iconst 0, 1) := by decide +kernel
theorem dX5_readLevel_51 : decode cX5_readLevel 51 = .ok (.ireturn, 1) := by decide +kernel
theorem dX5_readLevel_52 : decode cX5_readLevel 52 = .ok (.aload_n 0, 1) := by decide +kernel
theorem dX5_readLevel_53 : decode cX5_readLevel 53 = .ok (.getfield 12, 3) := by decide +kernel
theorem dX5_readLevel_56 : decode cX5_readLevel 56 = .ok (.getfield 140, 3) := by decide +kernel
theorem dX5_readLevel_59 : decode cX5_readLevel 59 = .ok (.iload_n 3, 1) := by decide +kernel
theorem dX5_readLevel_60 : decode cX5_readLevel 60 = .ok (.aload_n 0, 1) := by decide +kernel
theorem dX5_readLevel_61 : decode cX5_readLevel 61 = .ok (.getfield 72, 3) := by decide +kernel
theorem dX5_readLevel_64 : decode cX5_readLevel 64 = .ok (.iastore, 1) := by decide +kernel
theorem dX5_readLevel_65 : decode cX5_readLevel 65 = .ok (.aload_n 0, 1) := by decide +kernel
theorem dX5_readLevel_66 : decode cX5_readLevel 66 = .ok (.iconst 0, 1) := by decide +kernel
theorem dX5_readLevel_67 : decode cX5_readLevel 67 = .ok (.sipush 999, 3) := by decide +kernel
theorem dX5_readLevel_70 : decode cX5_readLevel 70 = .ok (.invokevirtual 68, 3) := by decide +kernel
theorem dX5_readLevel_73 : decode cX5_readLevel 73 = .ok (.ifCond .ne 5, 3) := by decide +kernel
theorem dX5_readLevel_76 : decode cX5_readLevel 76 = .ok (.iconst 0, 1) := by decide +kernel
theorem dX5_readLevel_77 : decode cX5_readLevel 77 = .ok (.ireturn, 1) := by decide +kernel
theorem dX5_readLevel_78 : decode cX5_readLevel 78 = .ok (.aload_n 0, 1) := by decide +kernel
theorem dX5_readLevel_79 : decode cX5_readLevel 79 = .ok (.getfield 12, 3) := by decide +kernel
theorem dX5_readLevel_82 : decode cX5_readLevel 82 = .ok (.getfield 143, 3) := by decide +kernel
theorem dX5_readLevel_85 : decode cX5_readLevel 85 = .ok (.iload_n 3, 1) := by decide +kernel
theorem dX5_readLevel_86 : decode cX5_readLevel 86 = .ok (.aload_n 0, 1) := by decide +kernel
theorem dX5_readLevel_87 : decode cX5_readLevel 87 = .ok (.getfield 72, 3) := by decide +kernel
theorem dX5_readLevel_90 : decode cX5_readLevel 90 = .ok (.iastore, 1) := by decide +kernel
theorem dX5_readLevel_91 : decode cX5_readLevel 91 = .ok (.aload_n 0, 1) := by decide +kernel
theorem dX5_readLevel_92 : decode cX5_readLevel 92 = .ok (.invokevirtual 78, 3) := by decide +kernel
theorem dX5_readLevel_95 : decode cX5_readLevel 95 = .ok (.ireturn, 1) := by decide +kernel
theorem dX5_acceptWord_0 : decode cX5_acceptWord 0 = .ok (.aload_n 0, 1) := by decide +kernel
theorem dX5_acceptWord_1 : decode cX5_acceptWord 1 = .ok (.getfield 23, 3) := by decide +kernel
theorem dX5_acceptWord_4 : decode cX5_acceptWord 4 = .ok (.aload_n 1, 1) := by decide +kernel
theorem dX5_acceptWord_5 : decode cX5_acceptWord 5 = .ok (.invokevirtual 56, 3) := by decide +kernel
theorem dX5_acceptWord_8 : decode cX5_acceptWord 8 = .ok (.ifCond .ne 9, 3) := by decide +kernel
theorem dX5_acceptWord_11 : decode cX5_acceptWord 11 = .ok (.aload_n 0, 1) := by decide +kernel
theorem dX5_acceptWord_12 : decode cX5_acceptWord 12 = .ok (.iconst 1, 1) := by decide +kernel
theorem dX5_acceptWord_13 : decode cX5_acceptWord 13 = .ok (.invokevirtual 60, 3) := by decide +kernel
theorem dX5_acceptWord_16 : decode cX5_acceptWord 16 = .ok (.ireturn, 1) := by decide +kernel
theorem dX5_acceptWord_17 : decode cX5_acceptWord 17 = .ok (.aload_n 0, 1) := by decide +kernel
theorem dX5_acceptWord_18 : decode cX5_acceptWord 18 = .ok (.getfield 23, 3) := by decide +kernel
theorem dX5_acceptWord_21 : decode cX5_acceptWord 21 = .ok (.invokevirtual 124, 3) := by decide +kernel
theorem dX5_acceptWord_24 : decode cX5_acceptWord 24 = .ok (.iconst 1, 1) := by decide +kernel
theorem dX5_acceptWord_25 : decode cX5_acceptWord 25 = .ok (.ireturn, 1) := by decide +kernel
theorem dX5_acceptNumber_0 : decode cX5_acceptNumber 0 = .ok (.aload_n 0, 1) := by decide +kernel
theorem dX5_acceptNumber_1 : decode cX5_acceptNumber 1 = .ok (.getfield 23, 3) := by decide +kernel
theorem dX5_acceptNumber_4 : decode cX5_acceptNumber 4 = .ok (.getfield 51, 3) := by decide +kernel
theorem dX5_acceptNumber_7 : decode cX5_acceptNumber 7 = .ok (.iconst 3, 1) := by decide +kernel
theorem dX5_acceptNumber_8 : decode cX5_acceptNumber 8 = .ok (.if_icmp .eq 9, 3) := by decide +kernel
theorem dX5_acceptNumber_11 : decode cX5_acceptNumber 11 = .ok (.aload_n 0, 1) := by decide +kernel
theorem dX5_acceptNumber_12 : decode cX5_acceptNumber 12 = .ok (.iconst 1, 1) := by decide +kernel
theorem dX5_acceptNumber_13 : decode cX5_acceptNumber 13 = .ok (.invokevirtual 60, 3) := by decide +kernel
theorem dX5_acceptNumber_16 : decode cX5_acceptNumber 16 = .ok (.ireturn, 1) := by decide +kernel
theorem dX5_acceptNumber_17 : decode cX5_acceptNumber 17 = .ok (.aload_n 0, 1) := by decide +kernel
theorem dX5_acceptNumber_18 : decode cX5_acceptNumber 18 = .ok (.aload_n 0, 1) := by decide +kernel
theorem dX5_acceptNumber_19 : decode cX5_acceptNumber 19 = .ok (.getfield 23, 3) := by decide +kernel
theorem dX5_acceptNumber_22 : decode cX5_acceptNumber 22 = .ok (.invokevirtual 146, 3) := by decide +kernel
theorem dX5_acceptNumber_25 : decode cX5_acceptNumber 25 = .ok (.putfield 72, 3) := by decide +kernel
theorem dX5_acceptNumber_28 : decode cX5_acceptNumber 28 = .ok (.aload_n 0, 1) := by decide +kernel
theorem dX5_acceptNumber_29 : decode cX5_acceptNumber 29 = .ok (.getfield 72, 3) := by decide +kernel
theorem dX5_acceptNumber_32 : decode cX5_acceptNumber 32 = .ok (.iload_n 1, 1) := by decide +kernel
theorem dX5_acceptNumber_33 : decode cX5_acceptNumber 33 = .ok (.if_icmp .lt 11, 3) := by decide +kernel
theorem dX5_acceptNumber_36 : decode cX5_acceptNumber 36 = .ok (.aload_n 0, 1) := by decide +kernel
theorem dX5_acceptNumber_37 : decode cX5_acceptNumber 37 = .ok (.getfield 72, 3) := by decide +kernel
theorem dX5_acceptNumber_40 : decode cX5_acceptNumber 40 = .ok (.iload_n 2, 1) := by decide +kernel
theorem dX5_acceptNumber_41 : decode cX5_acceptNumber 41 = .ok (.if_icmp .le 9, 3) := by decide +kernel
theorem dX5_acceptNumber_44 : decode cX5_acceptNumber 44 = .ok (.aload_n 0, 1) := by decide +kernel
theorem dX5_acceptNumber_45 : decode cX5_acceptNumber 45 = .ok (.iconst 2, 1) := by decide +kernel
theorem dX5_acceptNumber_46 : decode cX5_acceptNumber 46 = .ok (.invokevirtual 60, 3) := by decide +kernel
theorem dX5_acceptNumber_49 : decode cX5_acceptNumber 49 = .ok (.ireturn, 1) := by decide +kernel
theorem dX5_acceptNumber_50 : decode cX5_acceptNumber 50 = .ok (.aload_n 0, 1) := by decide +kernel
theorem dX5_acceptNumber_51 : decode cX5_acceptNumber 51 = .ok (.getfield 23, 3) := by decide +kernel
theorem dX5_acceptNumber_54 : decode cX5_acceptNumber 54 = .ok (.invokevirtual 124, 3) := by decide +kernel
theorem dX5_acceptNumber_57 : decode cX5_acceptNumber 57 = .ok (.iconst 1, 1) := by decide +kernel
theorem dX5_acceptNumber_58 : decode cX5_acceptNumber 58 = .ok (.ireturn, 1) := by decide +kernel
theorem dX5_acceptSemicolon_0 : decode cX5_acceptSemicolon 0 = .ok (.aload_n 0, 1) := by decide +kernel
theorem dX5_acceptSemicolon_1 : decode cX5_acceptSemicolon 1 = .ok (.getfield 23, 3) := by decide +kernel
theorem dX5_acceptSemicolon_4 : decode cX5_acceptSemicolon 4 = .ok (.getfield 51, 3) := by decide +kernel
theorem dX5_acceptSemicolon_7 : decode cX5_acceptSemicolon 7 = .ok (.iconst 4, 1) := by decide +kernel
theorem dX5_acceptSemicolon_8 : decode cX5_acceptSemicolon 8 = .ok (.if_icmp .eq 9, 3) := by decide +kernel
theorem dX5_acceptSemicolon_11 : decode cX5_acceptSemicolon 11 = .ok (.aload_n 0, 1) := by decide +kernel
theorem dX5_acceptSemicolon_12 : decode cX5_acceptSemicolon 12 = .ok (.iconst 1, 1) := by decide +kernel
theorem dX5_acceptSemicolon_13 : decode cX5_acceptSemicolon 13 = .ok (.invokevirtual 60, 3) := by decide +kernel
theorem dX5_acceptSemicolon_16 : decode cX5_acceptSemicolon 16 = .ok (.ireturn, 1) := by decide +kernel
theorem dX5_acceptSemicolon_17 : decode cX5_acceptSemicolon 17 = .ok (.aload_n 0, 1) := by decide +kernel
theorem dX5_acceptSemicolon_18 : decode cX5_acceptSemicolon 18 = .ok (.getfield 23, 3) := by decide +kernel
theorem dX5_acceptSemicolon_21 : decode cX5_acceptSemicolon 21 = .ok (.invokevirtual 124, 3) := by decide +kernel
theorem dX5_acceptSemicolon_24 : decode cX5_acceptSemicolon 24 = .ok (.iconst 1, 1) := by decide +kernel
theorem dX5_acceptSemicolon_25 : decode cX5_acceptSemicolon 25 = .ok (.ireturn, 1) := by decide +kernel
theorem dX5_fail_0 : decode cX5_fail 0 = .ok (.aload_n 0, 1) := by decide +kernel
theorem dX5_fail_1 : decode cX5_fail 1 = .ok (.iload_n 1, 1) := by decide +kernel
theorem dX5_fail_2 : decode cX5_fail 2 = .ok (.putfield 27, 3) := by decide +kernel
theorem dX5_fail_5 : decode cX5_fail 5 = .ok (.aload_n 0, 1) := by decide +kernel
theorem dX5_fail_6 : decode cX5_fail 6 = .ok (.aload_n 0, 1) := by decide +kernel
theorem dX5_fail_7 : decode cX5_fail 7 = .ok (.getfield 23, 3) := by decide +kernel
theorem dX5_fail_10 : decode cX5_fail 10 = .ok (.getfield 150, 3) := by decide +kernel
theorem dX5_fail_13 : decode cX5_fail 13 = .ok (.putfield 31, 3) := by decide +kernel
theorem dX5_fail_16 : decode cX5_fail 16 = .ok (.iconst 0, 1) := by decide +kernel
theorem dX5_fail_17 : decode cX5_fail 17 = .ok (.ireturn, 1) := by decide +kernel
theorem dX6_init_0 : decode cX6_init 0 = .ok (.aload_n 0, 1) := by decide +kernel
theorem dX6_init_1 : decode cX6_init 1 = .ok (.invokespecial 3, 3) := by decide +kernel
theorem dX6_init_4 : decode cX6_init 4 = .ok (.aload_n 0, 1) := by decide +kernel
theorem dX6_init_5 : decode cX6_init 5 = .ok (.sipush 501, 3) := by decide +kernel
theorem dX6_init_8 : decode cX6_init 8 = .ok (.newarray .int, 2) := by decide +kernel
theorem dX6_init_10 : decode cX6_init 10 = .ok (.putfield 9, 3) := by decide +kernel
theorem dX6_init_13 : decode cX6_init 13 = .ok (.return_, 1) := by decide +kernel
theorem dX6_leastEnergy_0 : decode cX6_leastEnergy 0 = .ok (.iload_n 3, 1) := by decide +kernel
theorem dX6_leastEnergy_1 : decode cX6_leastEnergy 1 = .ok (.aload_n 0, 1) := by decide +kernel
theorem dX6_leastEnergy_2 : decode cX6_leastEnergy 2 = .ok (.getfield 9, 3) := by decide +kernel
theorem dX6_leastEnergy_5 : decode cX6_leastEnergy 5 = .ok (.arraylength, 1) := by decide +kernel
theorem dX6_leastEnergy_6 : decode cX6_leastEnergy 6 = .ok (.if_icmp .lt 6, 3) := by decide +kernel
theorem dX6_leastEnergy_9 : decode cX6_leastEnergy 9 = .ok (.bipush (-2), 2) := by decide +kernel
theorem dX6_leastEnergy_11 : decode cX6_leastEnergy 11 = .ok (.ireturn, 1) := by decide +kernel
theorem dX6_leastEnergy_12 : decode cX6_leastEnergy 12 = .ok (.aload_n 0, 1) := by decide +kernel
theorem dX6_leastEnergy_13 : decode cX6_leastEnergy 13 = .ok (.getfield 9, 3) := by decide +kernel
theorem dX6_leastEnergy_16 : decode cX6_leastEnergy 16 = .ok (.iconst 0, 1) := by decide +kernel
theorem dX6_leastEnergy_17 : decode cX6_leastEnergy 17 = .ok (.iconst 0, 1) := by decide +kernel
theorem dX6_leastEnergy_18 : decode cX6_leastEnergy 18 = .ok (.iastore, 1) := by decide +kernel
theorem dX6_leastEnergy_19 : decode cX6_leastEnergy 19 = .ok (.iconst 1, 1) := by decide +kernel
theorem dX6_leastEnergy_20 : decode cX6_leastEnergy 20 = .ok (.istore 5, 2) := by decide +kernel
theorem dX6_leastEnergy_22 : decode cX6_leastEnergy 22 = .ok (.iload 5, 2) := by decide +kernel
theorem dX6_leastEnergy_24 : decode cX6_leastEnergy 24 = .ok (.iload_n 3, 1) := by decide +kernel
theorem dX6_leastEnergy_25 : decode cX6_leastEnergy 25 = .ok (.if_icmp .gt 18, 3) := by decide +kernel
theorem dX6_leastEnergy_28 : decode cX6_leastEnergy 28 = .ok (.aload_n 0, 1) := by decide +kernel
theorem dX6_leastEnergy_29 : decode cX6_leastEnergy 29 = .ok (.getfield 9, 3) := by decide +kernel
theorem dX6_leastEnergy_32 : decode cX6_leastEnergy 32 = .ok (.iload 5, 2) := by decide +kernel
theorem dX6_leastEnergy_34 : decode cX6_leastEnergy 34 = .ok (.ldc 15, 2) := by decide +kernel
theorem dX6_leastEnergy_36 : decode cX6_leastEnergy 36 = .ok (.iastore, 1) := by decide +kernel
theorem dX6_leastEnergy_37 : decode cX6_leastEnergy 37 = .ok (.iinc 5 1, 3) := by decide +kernel
theorem dX6_leastEnergy_40 : decode cX6_leastEnergy 40 = .ok (.goto (-18), 3) := by decide +kernel
theorem dX6_leastEnergy_43 : decode cX6_leastEnergy 43 = .ok (.iconst 0, 1) := by decide +kernel
theorem dX6_leastEnergy_44 : decode cX6_leastEnergy 44 = .ok (.istore 5, 2) := by decide +kernel
theorem dX6_leastEnergy_46 : decode cX6_leastEnergy 46 = .ok (.iload 5, 2) := by decide +kernel
theorem dX6_leastEnergy_48 : decode cX6_leastEnergy 48 = .ok (.iload 4, 2) := by decide +kernel
theorem dX6_leastEnergy_50 : decode cX6_leastEnergy 50 = .ok (.if_icmp .ge 16, 3) := by decide +kernel
theorem dX6_leastEnergy_53 : decode cX6_leastEnergy 53 = .ok (.aload_n 0, 1) := by decide +kernel
theorem dX6_leastEnergy_54 : decode cX6_leastEnergy 54 = .ok (.aload_n 1, 1) := by decide +kernel
theorem dX6_leastEnergy_55 : decode cX6_leastEnergy 55 = .ok (.iload_n 2, 1) := by decide +kernel
theorem dX6_leastEnergy_56 : decode cX6_leastEnergy 56 = .ok (.iload_n 3, 1) := by decide +kernel
theorem dX6_leastEnergy_57 : decode cX6_leastEnergy 57 = .ok (.invokevirtual 16, 3) := by decide +kernel
theorem dX6_leastEnergy_60 : decode cX6_leastEnergy 60 = .ok (.iinc 5 1, 3) := by decide +kernel
theorem dX6_leastEnergy_63 : decode cX6_leastEnergy 63 = .ok (.goto (-17), 3) := by decide +kernel
theorem dX6_leastEnergy_66 : decode cX6_leastEnergy 66 = .ok (.aload_n 0, 1) := by decide +kernel
theorem dX6_leastEnergy_67 : decode cX6_leastEnergy 67 = .ok (.getfield 9, 3) := by decide +kernel
theorem dX6_leastEnergy_70 : decode cX6_leastEnergy 70 = .ok (.iload_n 3, 1) := by decide +kernel
theorem dX6_leastEnergy_71 : decode cX6_leastEnergy 71 = .ok (.iaload, 1) := by decide +kernel
theorem dX6_leastEnergy_72 : decode cX6_leastEnergy 72 = .ok (.ldc 15, 2) := by decide +kernel
theorem dX6_leastEnergy_74 : decode cX6_leastEnergy 74 = .ok (.if_icmp .ge 12, 3) := by decide +kernel
theorem dX6_leastEnergy_77 : decode cX6_leastEnergy 77 = .ok (.aload_n 0, 1) := by decide +kernel
theorem dX6_leastEnergy_78 : decode cX6_leastEnergy 78 = .ok (.getfield 9, 3) := by decide +kernel
theorem dX6_leastEnergy_81 : decode cX6_leastEnergy 81 = .ok (.iload_n 3, 1) := by decide +kernel
theorem dX6_leastEnergy_82 : decode cX6_leastEnergy 82 = .ok (.iaload, 1) := by decide +kernel
theorem dX6_leastEnergy_83 : decode cX6_leastEnergy 83 = .ok (.goto 5, 3) := by decide +kernel
theorem dX6_leastEnergy_86 : decode cX6_leastEnergy 86 = .ok (.bipush (-2), 2) := by decide +kernel
theorem dX6_leastEnergy_88 : decode cX6_leastEnergy 88 = .ok (.ireturn, 1) := by decide +kernel
theorem dX6_addTick_0 : decode cX6_addTick 0 = .ok (.aload_n 1, 1) := by decide +kernel
theorem dX6_addTick_1 : decode cX6_addTick 1 = .ok (.getfield 20, 3) := by decide +kernel
theorem dX6_addTick_4 : decode cX6_addTick 4 = .ok (.iload_n 2, 1) := by decide +kernel
theorem dX6_addTick_5 : decode cX6_addTick 5 = .ok (.iaload, 1) := by decide +kernel
theorem dX6_addTick_6 : decode cX6_addTick 6 = .ok (.istore 4, 2) := by decide +kernel
theorem dX6_addTick_8 : decode cX6_addTick 8 = .ok (.iload_n 2, 1) := by decide +kernel
theorem dX6_addTick_9 : decode cX6_addTick 9 = .ok (.iconst 5, 1) := by decide +kernel
theorem dX6_addTick_10 : decode cX6_addTick 10 = .ok (.imul, 1) := by decide +kernel
theorem dX6_addTick_11 : decode cX6_addTick 11 = .ok (.istore 5, 2) := by decide +kernel
theorem dX6_addTick_13 : decode cX6_addTick 13 = .ok (.iload 5, 2) := by decide +kernel
theorem dX6_addTick_15 : decode cX6_addTick 15 = .ok (.aload_n 1, 1) := by decide +kernel
theorem dX6_addTick_16 : decode cX6_addTick 16 = .ok (.getfield 25, 3) := by decide +kernel
theorem dX6_addTick_19 : decode cX6_addTick 19 = .ok (.iload_n 2, 1) := by decide +kernel
theorem dX6_addTick_20 : decode cX6_addTick 20 = .ok (.iaload, 1) := by decide +kernel
theorem dX6_addTick_21 : decode cX6_addTick 21 = .ok (.iadd, 1) := by decide +kernel
theorem dX6_addTick_22 : decode cX6_addTick 22 = .ok (.istore 6, 2) := by decide +kernel
theorem dX6_addTick_24 : decode cX6_addTick 24 = .ok (.iload_n 3, 1) := by decide +kernel
theorem dX6_addTick_25 : decode cX6_addTick 25 = .ok (.istore 7, 2) := by decide +kernel
theorem dX6_addTick_27 : decode cX6_addTick 27 = .ok (.iload 7, 2) := by decide +kernel
theorem dX6_addTick_29 : decode cX6_addTick 29 = .ok (.ifCond .lt 90, 3) := by decide +kernel
theorem dX6_addTick_32 : decode cX6_addTick 32 = .ok (.aload_n 0, 1) := by decide +kernel
theorem dX6_addTick_33 : decode cX6_addTick 33 = .ok (.getfield 9, 3) := by decide +kernel
theorem dX6_addTick_36 : decode cX6_addTick 36 = .ok (.iload 7, 2) := by decide +kernel
theorem dX6_addTick_38 : decode cX6_addTick 38 = .ok (.iaload, 1) := by decide +kernel
theorem dX6_addTick_39 : decode cX6_addTick 39 = .ok (.iload 4, 2) := by decide +kernel
theorem dX6_addTick_41 : decode cX6_addTick 41 = .ok (.iadd, 1) := by decide +kernel
theorem dX6_addTick_42 : decode cX6_addTick 42 = .ok (.istore 8, 2) := by decide +kernel
theorem dX6_addTick_44 : decode cX6_addTick 44 = .ok (.iload 5, 2) := by decide +kernel
theorem dX6_addTick_46 : decode cX6_addTick 46 = .ok (.istore 9, 2) := by decide +kernel
theorem dX6_addTick_48 : decode cX6_addTick 48 = .ok (.iload 9, 2) := by decide +kernel
theorem dX6_addTick_50 : decode cX6_addTick 50 = .ok (.iload 6, 2) := by decide +kernel
theorem dX6_addTick_52 : decode cX6_addTick 52 = .ok (.if_icmp .ge 47, 3) := by decide +kernel
theorem dX6_addTick_55 : decode cX6_addTick 55 = .ok (.iconst 0, 1) := by decide +kernel
theorem dX6_addTick_56 : decode cX6_addTick 56 = .ok (.iload 7, 2) := by decide +kernel
theorem dX6_addTick_58 : decode cX6_addTick 58 = .ok (.aload_n 1, 1) := by decide +kernel
theorem dX6_addTick_59 : decode cX6_addTick 59 = .ok (.getfield 28, 3) := by decide +kernel
theorem dX6_addTick_62 : decode cX6_addTick 62 = .ok (.iload 9, 2) := by decide +kernel
theorem dX6_addTick_64 : decode cX6_addTick 64 = .ok (.iaload, 1) := by decide +kernel
theorem dX6_addTick_65 : decode cX6_addTick 65 = .ok (.isub, 1) := by decide +kernel
theorem dX6_addTick_66 : decode cX6_addTick 66 = .ok (.invokestatic 31, 3) := by decide +kernel
theorem dX6_addTick_69 : decode cX6_addTick 69 = .ok (.istore 10, 2) := by decide +kernel
theorem dX6_addTick_71 : decode cX6_addTick 71 = .ok (.iload 8, 2) := by decide +kernel
theorem dX6_addTick_73 : decode cX6_addTick 73 = .ok (.aload_n 0, 1) := by decide +kernel
theorem dX6_addTick_74 : decode cX6_addTick 74 = .ok (.getfield 9, 3) := by decide +kernel
theorem dX6_addTick_77 : decode cX6_addTick 77 = .ok (.iload 10, 2) := by decide +kernel
theorem dX6_addTick_79 : decode cX6_addTick 79 = .ok (.iaload, 1) := by decide +kernel
theorem dX6_addTick_80 : decode cX6_addTick 80 = .ok (.aload_n 1, 1) := by decide +kernel
theorem dX6_addTick_81 : decode cX6_addTick 81 = .ok (.getfield 37, 3) := by decide +kernel
theorem dX6_addTick_84 : decode cX6_addTick 84 = .ok (.iload 9, 2) := by decide +kernel
theorem dX6_addTick_86 : decode cX6_addTick 86 = .ok (.iaload, 1) := by decide +kernel
theorem dX6_addTick_87 : decode cX6_addTick 87 = .ok (.iadd, 1) := by decide +kernel
theorem dX6_addTick_88 : decode cX6_addTick 88 = .ok (.invokestatic 40, 3) := by decide +kernel
theorem dX6_addTick_91 : decode cX6_addTick 91 = .ok (.istore 8, 2) := by decide +kernel
theorem dX6_addTick_93 : decode cX6_addTick 93 = .ok (.iinc 9 1, 3) := by decide +kernel
theorem dX6_addTick_96 : decode cX6_addTick 96 = .ok (.goto (-48), 3) := by decide +kernel
theorem dX6_addTick_99 : decode cX6_addTick 99 = .ok (.aload_n 0, 1) := by decide +kernel
theorem dX6_addTick_100 : decode cX6_addTick 100 = .ok (.getfield 9, 3) := by decide +kernel
theorem dX6_addTick_103 : decode cX6_addTick 103 = .ok (.iload 7, 2) := by decide +kernel
theorem dX6_addTick_105 : decode cX6_addTick 105 = .ok (.iload 8, 2) := by decide +kernel
theorem dX6_addTick_107 : decode cX6_addTick 107 = .ok (.ldc 15, 2) := by decide +kernel
theorem dX6_addTick_109 : decode cX6_addTick 109 = .ok (.invokestatic 40, 3) := by decide +kernel
theorem dX6_addTick_112 : decode cX6_addTick 112 = .ok (.iastore, 1) := by decide +kernel
theorem dX6_addTick_113 : decode cX6_addTick 113 = .ok (.iinc 7 (-1), 3) := by decide +kernel
theorem dX6_addTick_116 : decode cX6_addTick 116 = .ok (.goto (-89), 3) := by decide +kernel
theorem dX6_addTick_119 : decode cX6_addTick 119 = .ok (.return_, 1) := by decide +kernel
theorem dX7_init_0 : decode cX7_init 0 = .ok (.aload_n 0, 1) := by decide +kernel
theorem dX7_init_1 : decode cX7_init 1 = .ok (.invokespecial 1, 3) := by decide +kernel
theorem dX7_init_4 : decode cX7_init 4 = .ok (.aload_n 0, 1) := by decide +kernel
theorem dX7_init_5 : decode cX7_init 5 = .ok (.aload_n 1, 1) := by decide +kernel
theorem dX7_init_6 : decode cX7_init 6 = .ok (.putfield 7, 3) := by decide +kernel
theorem dX7_init_9 : decode cX7_init 9 = .ok (.return_, 1) := by decide +kernel
theorem dX7_readFirst_0 : decode cX7_readFirst 0 = .ok (.aload_n 0, 1) := by decide +kernel
theorem dX7_readFirst_1 : decode cX7_readFirst 1 = .ok (.iconst 0, 1) := by decide +kernel
theorem dX7_readFirst_2 : decode cX7_readFirst 2 = .ok (.putfield 13, 3) := by decide +kernel
theorem dX7_readFirst_5 : decode cX7_readFirst 5 = .ok (.aload_n 0, 1) := by decide +kernel
theorem dX7_readFirst_6 : decode cX7_readFirst 6 = .ok (.invokevirtual 17, 3) := by decide +kernel
theorem dX7_readFirst_9 : decode cX7_readFirst 9 = .ok (.return_, 1) := by decide +kernel
theorem dX7_readNext_0 : decode cX7_readNext 0 = .ok (.aload_n 0, 1) := by decide +kernel
theorem dX7_readNext_1 : decode cX7_readNext 1 = .ok (.aload_n 0, 1) := by decide +kernel
theorem dX7_readNext_2 : decode cX7_readNext 2 = .ok (.getfield 13, 3) := by decide +kernel
theorem dX7_readNext_5 : decode cX7_readNext 5 = .ok (.putfield 20, 3) := by decide +kernel
theorem dX7_readNext_8 : decode cX7_readNext 8 = .ok (.aload_n 0, 1) := by decide +kernel
theorem dX7_readNext_9 : decode cX7_readNext 9 = .ok (.getfield 20, 3) := by decide +kernel
theorem dX7_readNext_12 : decode cX7_readNext 12 = .ok (.aload_n 0, 1) := by decide +kernel
theorem dX7_readNext_13 : decode cX7_readNext 13 = .ok (.getfield 7, 3) := by decide +kernel
theorem dX7_readNext_16 : decode cX7_readNext 16 = .ok (.getfield 23, 3) := by decide +kernel
theorem dX7_readNext_19 : decode cX7_readNext 19 = .ok (.if_icmp .ge 28, 3) := by decide +kernel
theorem dX7_readNext_22 : decode cX7_readNext 22 = .ok (.aload_n 0, 1) := by decide +kernel
theorem dX7_readNext_23 : decode cX7_readNext 23 = .ok (.aload_n 0, 1) := by decide +kernel
theorem dX7_readNext_24 : decode cX7_readNext 24 = .ok (.getfield 20, 3) := by decide +kernel
theorem dX7_readNext_27 : decode cX7_readNext 27 = .ok (.invokevirtual 28, 3) := by decide +kernel
theorem dX7_readNext_30 : decode cX7_readNext 30 = .ok (.iconst 1, 1) := by decide +kernel
theorem dX7_readNext_31 : decode cX7_readNext 31 = .ok (.if_icmp .ne 16, 3) := by decide +kernel
theorem dX7_readNext_34 : decode cX7_readNext 34 = .ok (.aload_n 0, 1) := by decide +kernel
theorem dX7_readNext_35 : decode cX7_readNext 35 = .ok (.dup, 1) := by decide +kernel
theorem dX7_readNext_36 : decode cX7_readNext 36 = .ok (.getfield 20, 3) := by decide +kernel
theorem dX7_readNext_39 : decode cX7_readNext 39 = .ok (.iconst 1, 1) := by decide +kernel
theorem dX7_readNext_40 : decode cX7_readNext 40 = .ok (.iadd, 1) := by decide +kernel
theorem dX7_readNext_41 : decode cX7_readNext 41 = .ok (.putfield 20, 3) := by decide +kernel
theorem dX7_readNext_44 : decode cX7_readNext 44 = .ok (.goto (-36), 3) := by decide +kernel
theorem dX7_readNext_47 : decode cX7_readNext 47 = .ok (.aload_n 0, 1) := by decide +kernel
theorem dX7_readNext_48 : decode cX7_readNext 48 = .ok (.aload_n 0, 1) := by decide +kernel
theorem dX7_readNext_49 : decode cX7_readNext 49 = .ok (.aload_n 0, 1) := by decide +kernel
theorem dX7_readNext_50 : decode cX7_readNext 50 = .ok (.getfield 20, 3) := by decide +kernel
theorem dX7_readNext_53 : decode cX7_readNext 53 = .ok (.invokevirtual 28, 3) := by decide +kernel
theorem dX7_readNext_56 : decode cX7_readNext 56 = .ok (.putfield 32, 3) := by decide +kernel
theorem dX7_readNext_59 : decode cX7_readNext 59 = .ok (.aload_n 0, 1) := by decide +kernel
theorem dX7_readNext_60 : decode cX7_readNext 60 = .ok (.aload_n 0, 1) := by decide +kernel
theorem dX7_readNext_61 : decode cX7_readNext 61 = .ok (.getfield 20, 3) := by decide +kernel
theorem dX7_readNext_64 : decode cX7_readNext 64 = .ok (.iconst 1, 1) := by decide +kernel
theorem dX7_readNext_65 : decode cX7_readNext 65 = .ok (.iadd, 1) := by decide +kernel
theorem dX7_readNext_66 : decode cX7_readNext 66 = .ok (.aload_n 0, 1) := by decide +kernel
theorem dX7_readNext_67 : decode cX7_readNext 67 = .ok (.getfield 7, 3) := by decide +kernel
theorem dX7_readNext_70 : decode cX7_readNext 70 = .ok (.getfield 23, 3) := by decide +kernel
theorem dX7_readNext_73 : decode cX7_readNext 73 = .ok (.invokestatic 35, 3) := by decide +kernel
theorem dX7_readNext_76 : decode cX7_readNext 76 = .ok (.putfield 13, 3) := by decide +kernel
theorem dX7_readNext_79 : decode cX7_readNext 79 = .ok (.aload_n 0, 1) := by decide +kernel
theorem dX7_readNext_80 : decode cX7_readNext 80 = .ok (.getfield 13, 3) := by decide +kernel
theorem dX7_readNext_83 : decode cX7_readNext 83 = .ok (.aload_n 0, 1) := by decide +kernel
theorem dX7_readNext_84 : decode cX7_readNext 84 = .ok (.getfield 7, 3) := by decide +kernel
theorem dX7_readNext_87 : decode cX7_readNext 87 = .ok (.getfield 23, 3) := by decide +kernel
theorem dX7_readNext_90 : decode cX7_readNext 90 = .ok (.if_icmp .ge 47, 3) := by decide +kernel
theorem dX7_readNext_93 : decode cX7_readNext 93 = .ok (.aload_n 0, 1) := by decide +kernel
theorem dX7_readNext_94 : decode cX7_readNext 94 = .ok (.getfield 32, 3) := by decide +kernel
theorem dX7_readNext_97 : decode cX7_readNext 97 = .ok (.iconst 2, 1) := by decide +kernel
theorem dX7_readNext_98 : decode cX7_readNext 98 = .ok (.if_icmp .eq 11, 3) := by decide +kernel
theorem dX7_readNext_101 : decode cX7_readNext 101 = .ok (.aload_n 0, 1) := by decide +kernel
theorem dX7_readNext_102 : decode cX7_readNext 102 = .ok (.getfield 32, 3) := by decide +kernel
theorem dX7_readNext_105 : decode cX7_readNext 105 = .ok (.iconst 3, 1) := by decide +kernel
theorem dX7_readNext_106 : decode cX7_readNext 106 = .ok (.if_icmp .ne 31, 3) := by decide +kernel
theorem dX7_readNext_109 : decode cX7_readNext 109 = .ok (.aload_n 0, 1) := by decide +kernel
theorem dX7_readNext_110 : decode cX7_readNext 110 = .ok (.aload_n 0, 1) := by decide +kernel
theorem dX7_readNext_111 : decode cX7_readNext 111 = .ok (.getfield 13, 3) := by decide +kernel
theorem dX7_readNext_114 : decode cX7_readNext 114 = .ok (.invokevirtual 28, 3) := by decide +kernel
theorem dX7_readNext_117 : decode cX7_readNext 117 = .ok (.aload_n 0, 1) := by decide +kernel
theorem dX7_readNext_118 : decode cX7_readNext 118 = .ok (.getfield 32, 3) := by decide +kernel
theorem dX7_readNext_121 : decode cX7_readNext 121 = .ok (.if_icmp .ne 16, 3) := by decide +kernel
theorem dX7_readNext_124 : decode cX7_readNext 124 = .ok (.aload_n 0, 1) := by decide +kernel
theorem dX7_readNext_125 : decode cX7_readNext 125 = .ok (.dup, 1) := by decide +kernel
theorem dX7_readNext_126 : decode cX7_readNext 126 = .ok (.getfield 13, 3) := by decide +kernel
theorem dX7_readNext_129 : decode cX7_readNext 129 = .ok (.iconst 1, 1) := by decide +kernel
theorem dX7_readNext_130 : decode cX7_readNext 130 = .ok (.iadd, 1) := by decide +kernel
theorem dX7_readNext_131 : decode cX7_readNext 131 = .ok (.putfield 13, 3) := by decide +kernel
theorem dX7_readNext_134 : decode cX7_readNext 134 = .ok (.goto (-55), 3) := by decide +kernel
theorem dX7_readNext_137 : decode cX7_readNext 137 = .ok (.aload_n 0, 1) := by decide +kernel
theorem dX7_readNext_138 : decode cX7_readNext 138 = .ok (.getfield 32, 3) := by decide +kernel
theorem dX7_readNext_141 : decode cX7_readNext 141 = .ok (.iconst 3, 1) := by decide +kernel
theorem dX7_readNext_142 : decode cX7_readNext 142 = .ok (.if_icmp .ne 21, 3) := by decide +kernel
theorem dX7_readNext_145 : decode cX7_readNext 145 = .ok (.aload_n 0, 1) := by decide +kernel
theorem dX7_readNext_146 : decode cX7_readNext 146 = .ok (.getfield 13, 3) := by decide +kernel
theorem dX7_readNext_149 : decode cX7_readNext 149 = .ok (.aload_n 0, 1) := by decide +kernel
theorem dX7_readNext_150 : decode cX7_readNext 150 = .ok (.getfield 20, 3) := by decide +kernel
theorem dX7_readNext_153 : decode cX7_readNext 153 = .ok (.isub, 1) := by decide +kernel
theorem dX7_readNext_154 : decode cX7_readNext 154 = .ok (.iconst 5, 1) := by decide +kernel
theorem dX7_readNext_155 : decode cX7_readNext 155 = .ok (.if_icmp .le 8, 3) := by decide +kernel
theorem dX7_readNext_158 : decode cX7_readNext 158 = .ok (.aload_n 0, 1) := by decide +kernel
theorem dX7_readNext_159 : decode cX7_readNext 159 = .ok (.iconst 5, 1) := by decide +kernel
theorem dX7_readNext_160 : decode cX7_readNext 160 = .ok (.putfield 32, 3) := by decide +kernel
theorem dX7_readNext_163 : decode cX7_readNext 163 = .ok (.return_, 1) := by decide +kernel
theorem dX7_kindAt_0 : decode cX7_kindAt 0 = .ok (.iload_n 1, 1) := by decide +kernel
theorem dX7_kindAt_1 : decode cX7_kindAt 1 = .ok (.aload_n 0, 1) := by decide +kernel
theorem dX7_kindAt_2 : decode cX7_kindAt 2 = .ok (.getfield 7, 3) := by decide +kernel
theorem dX7_kindAt_5 : decode cX7_kindAt 5 = .ok (.getfield 23, 3) := by decide +kernel
theorem dX7_kindAt_8 : decode cX7_kindAt 8 = .ok (.if_icmp .lt 5, 3) := by decide +kernel
theorem dX7_kindAt_11 : decode cX7_kindAt 11 = .ok (.iconst 0, 1) := by decide +kernel
theorem dX7_kindAt_12 : decode cX7_kindAt 12 = .ok (.ireturn, 1) := by decide +kernel
theorem dX7_kindAt_13 : decode cX7_kindAt 13 = .ok (.aload_n 0, 1) := by decide +kernel
theorem dX7_kindAt_14 : decode cX7_kindAt 14 = .ok (.getfield 7, 3) := by decide +kernel
theorem dX7_kindAt_17 : decode cX7_kindAt 17 = .ok (.iload_n 1, 1) := by decide +kernel
theorem dX7_kindAt_18 : decode cX7_kindAt 18 = .ok (.invokevirtual 41, 3) := by decide +kernel
theorem dX7_kindAt_21 : decode cX7_kindAt 21 = .ok (.istore_n 2, 1) := by decide +kernel
theorem dX7_kindAt_22 : decode cX7_kindAt 22 = .ok (.iload_n 2, 1) := by decide +kernel
theorem dX7_kindAt_23 : decode cX7_kindAt 23 = .ok (.bipush 32, 2) := by decide +kernel
theorem dX7_kindAt_25 : decode cX7_kindAt 25 = .ok (.if_icmp .eq 9, 3) := by decide +kernel
theorem dX7_kindAt_28 : decode cX7_kindAt 28 = .ok (.iload_n 2, 1) := by decide +kernel
theorem dX7_kindAt_29 : decode cX7_kindAt 29 = .ok (.bipush 10, 2) := by decide +kernel
theorem dX7_kindAt_31 : decode cX7_kindAt 31 = .ok (.if_icmp .ne 5, 3) := by decide +kernel
theorem dX7_kindAt_34 : decode cX7_kindAt 34 = .ok (.iconst 1, 1) := by decide +kernel
theorem dX7_kindAt_35 : decode cX7_kindAt 35 = .ok (.ireturn, 1) := by decide +kernel
theorem dX7_kindAt_36 : decode cX7_kindAt 36 = .ok (.iload_n 2, 1) := by decide +kernel
theorem dX7_kindAt_37 : decode cX7_kindAt 37 = .ok (.bipush 97, 2) := by decide +kernel
theorem dX7_kindAt_39 : decode cX7_kindAt 39 = .ok (.if_icmp .lt 11, 3) := by decide +kernel
theorem dX7_kindAt_42 : decode cX7_kindAt 42 = .ok (.iload_n 2, 1) := by decide +kernel
theorem dX7_kindAt_43 : decode cX7_kindAt 43 = .ok (.bipush 122, 2) := by decide +kernel
theorem dX7_kindAt_45 : decode cX7_kindAt 45 = .ok (.if_icmp .gt 5, 3) := by decide +kernel
theorem dX7_kindAt_48 : decode cX7_kindAt 48 = .ok (.iconst 2, 1) := by decide +kernel
theorem dX7_kindAt_49 : decode cX7_kindAt 49 = .ok (.ireturn, 1) := by decide +kernel
theorem dX7_kindAt_50 : decode cX7_kindAt 50 = .ok (.iload_n 2, 1) := by decide +kernel
theorem dX7_kindAt_51 : decode cX7_kindAt 51 = .ok (.bipush 48, 2) := by decide +kernel
theorem dX7_kindAt_53 : decode cX7_kindAt 53 = .ok (.if_icmp .lt 11, 3) := by decide +kernel
theorem dX7_kindAt_56 : decode cX7_kindAt 56 = .ok (.iload_n 2, 1) := by decide +kernel
theorem dX7_kindAt_57 : decode cX7_kindAt 57 = .ok (.bipush 57, 2) := by decide +kernel
theorem dX7_kindAt_59 : decode cX7_kindAt 59 = .ok (.if_icmp .gt 5, 3) := by decide +kernel
theorem dX7_kindAt_62 : decode cX7_kindAt 62 = .ok (.iconst 3, 1) := by decide +kernel
theorem dX7_kindAt_63 : decode cX7_kindAt 63 = .ok (.ireturn, 1) := by decide +kernel
theorem dX7_kindAt_64 : decode cX7_kindAt 64 = .ok (.iload_n 2, 1) := by decide +kernel
theorem dX7_kindAt_65 : decode cX7_kindAt 65 = .ok (.bipush 59, 2) := by decide +kernel
theorem dX7_kindAt_67 : decode cX7_kindAt 67 = .ok (.if_icmp .ne 7, 3) := by decide +kernel
theorem dX7_kindAt_70 : decode cX7_kindAt 70 = .ok (.iconst 4, 1) := by decide +kernel
theorem dX7_kindAt_71 : decode cX7_kindAt 71 = .ok (.goto 4, 3) := by decide +kernel
theorem dX7_kindAt_74 : decode cX7_kindAt 74 = .ok (.iconst 5, 1) := by decide +kernel
theorem dX7_kindAt_75 : decode cX7_kindAt 75 = .ok (.ireturn, 1) := by decide +kernel
theorem dX7_isAtWord_0 : decode cX7_isAtWord 0 = .ok (.aload_n 0, 1) := by decide +kernel
theorem dX7_isAtWord_1 : decode cX7_isAtWord 1 = .ok (.getfield 32, 3) := by decide +kernel
theorem dX7_isAtWord_4 : decode cX7_isAtWord 4 = .ok (.iconst 2, 1) := by decide +kernel
theorem dX7_isAtWord_5 : decode cX7_isAtWord 5 = .ok (.if_icmp .ne 19, 3) := by decide +kernel
theorem dX7_isAtWord_8 : decode cX7_isAtWord 8 = .ok (.aload_n 0, 1) := by decide +kernel
theorem dX7_isAtWord_9 : decode cX7_isAtWord 9 = .ok (.getfield 13, 3) := by decide +kernel
theorem dX7_isAtWord_12 : decode cX7_isAtWord 12 = .ok (.aload_n 0, 1) := by decide +kernel
theorem dX7_isAtWord_13 : decode cX7_isAtWord 13 = .ok (.getfield 20, 3) := by decide +kernel
theorem dX7_isAtWord_16 : decode cX7_isAtWord 16 = .ok (.isub, 1) := by decide +kernel
theorem dX7_isAtWord_17 : decode cX7_isAtWord 17 = .ok (.aload_n 1, 1) := by decide +kernel
theorem dX7_isAtWord_18 : decode cX7_isAtWord 18 = .ok (.invokevirtual 44, 3) := by decide +kernel
theorem dX7_isAtWord_21 : decode cX7_isAtWord 21 = .ok (.if_icmp .eq 5, 3) := by decide +kernel
theorem dX7_isAtWord_24 : decode cX7_isAtWord 24 = .ok (.iconst 0, 1) := by decide +kernel
theorem dX7_isAtWord_25 : decode cX7_isAtWord 25 = .ok (.ireturn, 1) := by decide +kernel
theorem dX7_isAtWord_26 : decode cX7_isAtWord 26 = .ok (.iconst 0, 1) := by decide +kernel
theorem dX7_isAtWord_27 : decode cX7_isAtWord 27 = .ok (.istore_n 2, 1) := by decide +kernel
theorem dX7_isAtWord_28 : decode cX7_isAtWord 28 = .ok (.iload_n 2, 1) := by decide +kernel
theorem dX7_isAtWord_29 : decode cX7_isAtWord 29 = .ok (.aload_n 1, 1) := by decide +kernel
theorem dX7_isAtWord_30 : decode cX7_isAtWord 30 = .ok (.invokevirtual 44, 3) := by decide +kernel
theorem dX7_isAtWord_33 : decode cX7_isAtWord 33 = .ok (.if_icmp .ge 32, 3) := by decide +kernel
theorem dX7_isAtWord_36 : decode cX7_isAtWord 36 = .ok (.aload_n 0, 1) := by decide +kernel
theorem dX7_isAtWord_37 : decode cX7_isAtWord 37 = .ok (.getfield 7, 3) := by decide +kernel
theorem dX7_isAtWord_40 : decode cX7_isAtWord 40 = .ok (.aload_n 0, 1) := by decide +kernel
theorem dX7_isAtWord_41 : decode cX7_isAtWord 41 = .ok (.getfield 20, 3) := by decide +kernel
theorem dX7_isAtWord_44 : decode cX7_isAtWord 44 = .ok (.iload_n 2, 1) := by decide +kernel
theorem dX7_isAtWord_45 : decode cX7_isAtWord 45 = .ok (.iadd, 1) := by decide +kernel
theorem dX7_isAtWord_46 : decode cX7_isAtWord 46 = .ok (.invokevirtual 41, 3) := by decide +kernel
theorem dX7_isAtWord_49 : decode cX7_isAtWord 49 = .ok (.aload_n 1, 1) := by decide +kernel
theorem dX7_isAtWord_50 : decode cX7_isAtWord 50 = .ok (.iload_n 2, 1) := by decide +kernel
theorem dX7_isAtWord_51 : decode cX7_isAtWord 51 = .ok (.invokevirtual 49, 3) := by decide +kernel
theorem dX7_isAtWord_54 : decode cX7_isAtWord 54 = .ok (.if_icmp .eq 5, 3) := by decide +kernel
theorem dX7_isAtWord_57 : decode cX7_isAtWord 57 = .ok (.iconst 0, 1) := by decide +kernel
theorem dX7_isAtWord_58 : decode cX7_isAtWord 58 = .ok (.ireturn, 1) := by decide +kernel
theorem dX7_isAtWord_59 : decode cX7_isAtWord 59 = .ok (.iinc 2 1, 3) := by decide +kernel
theorem dX7_isAtWord_62 : decode cX7_isAtWord 62 = .ok (.goto (-34), 3) := by decide +kernel
theorem dX7_isAtWord_65 : decode cX7_isAtWord 65 = .ok (.iconst 1, 1) := by decide +kernel
theorem dX7_isAtWord_66 : decode cX7_isAtWord 66 = .ok (.ireturn, 1) := by decide +kernel
theorem dX7_numberHere_0 : decode cX7_numberHere 0 = .ok (.iconst 0, 1) := by decide +kernel
theorem dX7_numberHere_1 : decode cX7_numberHere 1 = .ok (.istore_n 1, 1) := by decide +kernel
theorem dX7_numberHere_2 : decode cX7_numberHere 2 = .ok (.aload_n 0, 1) := by decide +kernel
theorem dX7_numberHere_3 : decode cX7_numberHere 3 = .ok (.getfield 20, 3) := by decide +kernel
theorem dX7_numberHere_6 : decode cX7_numberHere 6 = .ok (.istore_n 2, 1) := by decide +kernel
theorem dX7_numberHere_7 : decode cX7_numberHere 7 = .ok (.iload_n 2, 1) := by decide +kernel
