theorem dX0_init_0 : decode cX0_init 0 = .ok (.aload_n 0, 1) := by decide +kernel
theorem dX0_init_1 : decode cX0_init 1 = .ok (.invokespecial 3, 3) := by decide +kernel
theorem dX0_init_4 : decode cX0_init 4 = .ok (.aload_n 0, 1) := by decide +kernel
theorem dX0_init_5 : decode cX0_init 5 = .ok (.bipush 12, 2) := by decide +kernel
theorem dX0_init_7 : decode cX0_init 7 = .ok (.anewarray 9, 3) := by decide +kernel
theorem dX0_init_10 : decode cX0_init 10 = .ok (.putfield 11, 3) := by decide +kernel
theorem dX0_init_13 : decode cX0_init 13 = .ok (.aload_n 0, 1) := by decide +kernel
theorem dX0_init_14 : decode cX0_init 14 = .ok (.iconst 0, 1) := by decide +kernel
theorem dX0_init_15 : decode cX0_init 15 = .ok (.putfield 17, 3) := by decide +kernel
theorem dX0_init_18 : decode cX0_init 18 = .ok (.aload_n 0, 1) := by decide +kernel
theorem dX0_init_19 : decode cX0_init 19 = .ok (.iconst 0, 1) := by decide +kernel
theorem dX0_init_20 : decode cX0_init 20 = .ok (.putfield 21, 3) := by decide +kernel
theorem dX0_init_23 : decode cX0_init 23 = .ok (.iconst 0, 1) := by decide +kernel
theorem dX0_init_24 : decode cX0_init 24 = .ok (.istore_n 1, 1) := by decide +kernel
theorem dX0_init_25 : decode cX0_init 25 = .ok (.iload_n 1, 1) := by decide +kernel
theorem dX0_init_26 : decode cX0_init 26 = .ok (.bipush 12, 2) := by decide +kernel
theorem dX0_init_28 : decode cX0_init 28 = .ok (.if_icmp .ge 22, 3) := by decide +kernel
theorem dX0_init_31 : decode cX0_init 31 = .ok (.aload_n 0, 1) := by decide +kernel
theorem dX0_init_32 : decode cX0_init 32 = .ok (.getfield 11, 3) := by decide +kernel
theorem dX0_init_35 : decode cX0_init 35 = .ok (.iload_n 1, 1) := by decide +kernel
theorem dX0_init_36 : decode cX0_init 36 = .ok (.new 9, 3) := by decide +kernel
theorem dX0_init_39 : decode cX0_init 39 = .ok (.dup, 1) := by decide +kernel
theorem dX0_init_40 : decode cX0_init 40 = .ok (.invokespecial 24, 3) := by decide +kernel
theorem dX0_init_43 : decode cX0_init 43 = .ok (.aastore, 1) := by decide +kernel
theorem dX0_init_44 : decode cX0_init 44 = .ok (.iinc 1 1, 3) := by decide +kernel
theorem dX0_init_47 : decode cX0_init 47 = .ok (.goto (-22), 3) := by decide +kernel
theorem dX0_init_50 : decode cX0_init 50 = .ok (.return_, 1) := by decide +kernel
theorem dX0_remember_0 : decode cX0_remember 0 = .ok (.aload_n 0, 1) := by decide +kernel
theorem dX0_remember_1 : decode cX0_remember 1 = .ok (.getfield 11, 3) := by decide +kernel
theorem dX0_remember_4 : decode cX0_remember 4 = .ok (.aload_n 0, 1) := by decide +kernel
theorem dX0_remember_5 : decode cX0_remember 5 = .ok (.getfield 17, 3) := by decide +kernel
theorem dX0_remember_8 : decode cX0_remember 8 = .ok (.aaload, 1) := by decide +kernel
theorem dX0_remember_9 : decode cX0_remember 9 = .ok (.aload_n 1, 1) := by decide +kernel
theorem dX0_remember_10 : decode cX0_remember 10 = .ok (.invokevirtual 25, 3) := by decide +kernel
theorem dX0_remember_13 : decode cX0_remember 13 = .ok (.aload_n 0, 1) := by decide +kernel
theorem dX0_remember_14 : decode cX0_remember 14 = .ok (.aload_n 0, 1) := by decide +kernel
theorem dX0_remember_15 : decode cX0_remember 15 = .ok (.getfield 17, 3) := by decide +kernel
theorem dX0_remember_18 : decode cX0_remember 18 = .ok (.iconst 1, 1) := by decide +kernel
theorem dX0_remember_19 : decode cX0_remember 19 = .ok (.iadd, 1) := by decide +kernel
theorem dX0_remember_20 : decode cX0_remember 20 = .ok (.bipush 12, 2) := by decide +kernel
theorem dX0_remember_22 : decode cX0_remember 22 = .ok (.if_icmp .ge 12, 3) := by decide +kernel
theorem dX0_remember_25 : decode cX0_remember 25 = .ok (.aload_n 0, 1) := by decide +kernel
theorem dX0_remember_26 : decode cX0_remember 26 = .ok (.getfield 17, 3) := by decide +kernel
theorem dX0_remember_29 : decode cX0_remember 29 = .ok (.iconst 1, 1) := by decide +kernel
theorem dX0_remember_30 : decode cX0_remember 30 = .ok (.iadd, 1) := by decide +kernel
theorem dX0_remember_31 : decode cX0_remember 31 = .ok (.goto 4, 3) := by decide +kernel
theorem dX0_remember_34 : decode cX0_remember 34 = .ok (.iconst 0, 1) := by decide +kernel
theorem dX0_remember_35 : decode cX0_remember 35 = .ok (.putfield 17, 3) := by decide +kernel
theorem dX0_remember_38 : decode cX0_remember 38 = .ok (.aload_n 0, 1) := by decide +kernel
theorem dX0_remember_39 : decode cX0_remember 39 = .ok (.aload_n 0, 1) := by decide +kernel
theorem dX0_remember_40 : decode cX0_remember 40 = .ok (.getfield 21, 3) := by decide +kernel
theorem dX0_remember_43 : decode cX0_remember 43 = .ok (.iconst 1, 1) := by decide +kernel
theorem dX0_remember_44 : decode cX0_remember 44 = .ok (.iadd, 1) := by decide +kernel
theorem dX0_remember_45 : decode cX0_remember 45 = .ok (.bipush 12, 2) := by decide +kernel
theorem dX0_remember_47 : decode cX0_remember 47 = .ok (.invokestatic 29, 3) := by decide +kernel
theorem dX0_remember_50 : decode cX0_remember 50 = .ok (.putfield 21, 3) := by decide +kernel
theorem dX0_remember_53 : decode cX0_remember 53 = .ok (.return_, 1) := by decide +kernel
theorem dX0_giveBack_0 : decode cX0_giveBack 0 = .ok (.aload_n 0, 1) := by decide +kernel
theorem dX0_giveBack_1 : decode cX0_giveBack 1 = .ok (.aload_n 0, 1) := by decide +kernel
theorem dX0_giveBack_2 : decode cX0_giveBack 2 = .ok (.getfield 17, 3) := by decide +kernel
theorem dX0_giveBack_5 : decode cX0_giveBack 5 = .ok (.ifCond .le 12, 3) := by decide +kernel
theorem dX0_giveBack_8 : decode cX0_giveBack 8 = .ok (.aload_n 0, 1) := by decide +kernel
theorem dX0_giveBack_9 : decode cX0_giveBack 9 = .ok (.getfield 17, 3) := by decide +kernel
theorem dX0_giveBack_12 : decode cX0_giveBack 12 = .ok (.iconst 1, 1) := by decide +kernel
theorem dX0_giveBack_13 : decode cX0_giveBack 13 = .ok (.isub, 1) := by decide +kernel
theorem dX0_giveBack_14 : decode cX0_giveBack 14 = .ok (.goto 5, 3) := by decide +kernel
theorem dX0_giveBack_17 : decode cX0_giveBack 17 = .ok (.bipush 11, 2) := by decide +kernel
theorem dX0_giveBack_19 : decode cX0_giveBack 19 = .ok (.putfield 17, 3) := by decide +kernel
theorem dX0_giveBack_22 : decode cX0_giveBack 22 = .ok (.aload_n 0, 1) := by decide +kernel
theorem dX0_giveBack_23 : decode cX0_giveBack 23 = .ok (.dup, 1) := by decide +kernel
theorem dX0_giveBack_24 : decode cX0_giveBack 24 = .ok (.getfield 21, 3) := by decide +kernel
theorem dX0_giveBack_27 : decode cX0_giveBack 27 = .ok (.iconst 1, 1) := by decide +kernel
theorem dX0_giveBack_28 : decode cX0_giveBack 28 = .ok (.isub, 1) := by decide +kernel
theorem dX0_giveBack_29 : decode cX0_giveBack 29 = .ok (.putfield 21, 3) := by decide +kernel
theorem dX0_giveBack_32 : decode cX0_giveBack 32 = .ok (.aload_n 1, 1) := by decide +kernel
theorem dX0_giveBack_33 : decode cX0_giveBack 33 = .ok (.aload_n 0, 1) := by decide +kernel
theorem dX0_giveBack_34 : decode cX0_giveBack 34 = .ok (.getfield 11, 3) := by decide +kernel
theorem dX0_giveBack_37 : decode cX0_giveBack 37 = .ok (.aload_n 0, 1) := by decide +kernel
theorem dX0_giveBack_38 : decode cX0_giveBack 38 = .ok (.getfield 17, 3) := by decide +kernel
theorem dX0_giveBack_41 : decode cX0_giveBack 41 = .ok (.aaload, 1) := by decide +kernel
theorem dX0_giveBack_42 : decode cX0_giveBack 42 = .ok (.invokevirtual 25, 3) := by decide +kernel
theorem dX0_giveBack_45 : decode cX0_giveBack 45 = .ok (.return_, 1) := by decide +kernel
theorem dX0_forget_0 : decode cX0_forget 0 = .ok (.aload_n 0, 1) := by decide +kernel
theorem dX0_forget_1 : decode cX0_forget 1 = .ok (.iconst 0, 1) := by decide +kernel
theorem dX0_forget_2 : decode cX0_forget 2 = .ok (.putfield 21, 3) := by decide +kernel
theorem dX0_forget_5 : decode cX0_forget 5 = .ok (.return_, 1) := by decide +kernel
theorem dX1_init_0 : decode cX1_init 0 = .ok (.aload_n 0, 1) := by decide +kernel
theorem dX1_init_1 : decode cX1_init 1 = .ok (.invokespecial 3, 3) := by decide +kernel
theorem dX1_init_4 : decode cX1_init 4 = .ok (.aload_n 0, 1) := by decide +kernel
theorem dX1_init_5 : decode cX1_init 5 = .ok (.iconst 0, 1) := by decide +kernel
theorem dX1_init_6 : decode cX1_init 6 = .ok (.putfield 9, 3) := by decide +kernel
theorem dX1_init_9 : decode cX1_init 9 = .ok (.aload_n 0, 1) := by decide +kernel
theorem dX1_init_10 : decode cX1_init 10 = .ok (.iconst 0, 1) := by decide +kernel
theorem dX1_init_11 : decode cX1_init 11 = .ok (.putfield 15, 3) := by decide +kernel
theorem dX1_init_14 : decode cX1_init 14 = .ok (.aload_n 0, 1) := by decide +kernel
theorem dX1_init_15 : decode cX1_init 15 = .ok (.iconst 4, 1) := by decide +kernel
theorem dX1_init_16 : decode cX1_init 16 = .ok (.putfield 18, 3) := by decide +kernel
theorem dX1_init_19 : decode cX1_init 19 = .ok (.aload_n 0, 1) := by decide +kernel
theorem dX1_init_20 : decode cX1_init 20 = .ok (.iconst 0, 1) := by decide +kernel
theorem dX1_init_21 : decode cX1_init 21 = .ok (.putfield 21, 3) := by decide +kernel
theorem dX1_init_24 : decode cX1_init 24 = .ok (.aload_n 0, 1) := by decide +kernel
theorem dX1_init_25 : decode cX1_init 25 = .ok (.iconst 0, 1) := by decide +kernel
theorem dX1_init_26 : decode cX1_init 26 = .ok (.putfield 24, 3) := by decide +kernel
theorem dX1_init_29 : decode cX1_init 29 = .ok (.aload_n 0, 1) := by decide +kernel
theorem dX1_init_30 : decode cX1_init 30 = .ok (.bipush 8, 2) := by decide +kernel
theorem dX1_init_32 : decode cX1_init 32 = .ok (.newarray .int, 2) := by decide +kernel
theorem dX1_init_34 : decode cX1_init 34 = .ok (.putfield 27, 3) := by decide +kernel
theorem dX1_init_37 : decode cX1_init 37 = .ok (.aload_n 0, 1) := by decide +kernel
theorem dX1_init_38 : decode cX1_init 38 = .ok (.bipush 24, 2) := by decide +kernel
theorem dX1_init_40 : decode cX1_init 40 = .ok (.newarray .int, 2) := by decide +kernel
theorem dX1_init_42 : decode cX1_init 42 = .ok (.putfield 31, 3) := by decide +kernel
theorem dX1_init_45 : decode cX1_init 45 = .ok (.aload_n 0, 1) := by decide +kernel
theorem dX1_init_46 : decode cX1_init 46 = .ok (.bipush 24, 2) := by decide +kernel
theorem dX1_init_48 : decode cX1_init 48 = .ok (.newarray .int, 2) := by decide +kernel
theorem dX1_init_50 : decode cX1_init 50 = .ok (.putfield 34, 3) := by decide +kernel
theorem dX1_init_53 : decode cX1_init 53 = .ok (.aload_n 0, 1) := by decide +kernel
theorem dX1_init_54 : decode cX1_init 54 = .ok (.bipush 24, 2) := by decide +kernel
theorem dX1_init_56 : decode cX1_init 56 = .ok (.newarray .int, 2) := by decide +kernel
theorem dX1_init_58 : decode cX1_init 58 = .ok (.putfield 37, 3) := by decide +kernel
theorem dX1_init_61 : decode cX1_init 61 = .ok (.aload_n 0, 1) := by decide +kernel
theorem dX1_init_62 : decode cX1_init 62 = .ok (.bipush 24, 2) := by decide +kernel
theorem dX1_init_64 : decode cX1_init 64 = .ok (.newarray .int, 2) := by decide +kernel
theorem dX1_init_66 : decode cX1_init 66 = .ok (.putfield 40, 3) := by decide +kernel
theorem dX1_init_69 : decode cX1_init 69 = .ok (.aload_n 0, 1) := by decide +kernel
theorem dX1_init_70 : decode cX1_init 70 = .ok (.bipush 24, 2) := by decide +kernel
theorem dX1_init_72 : decode cX1_init 72 = .ok (.newarray .int, 2) := by decide +kernel
theorem dX1_init_74 : decode cX1_init 74 = .ok (.putfield 43, 3) := by decide +kernel
theorem dX1_init_77 : decode cX1_init 77 = .ok (.aload_n 0, 1) := by decide +kernel
theorem dX1_init_78 : decode cX1_init 78 = .ok (.bipush 24, 2) := by decide +kernel
theorem dX1_init_80 : decode cX1_init 80 = .ok (.newarray .int, 2) := by decide +kernel
theorem dX1_init_82 : decode cX1_init 82 = .ok (.putfield 46, 3) := by decide +kernel
theorem dX1_init_85 : decode cX1_init 85 = .ok (.aload_n 0, 1) := by decide +kernel
theorem dX1_init_86 : decode cX1_init 86 = .ok (.bipush 80, 2) := by decide +kernel
theorem dX1_init_88 : decode cX1_init 88 = .ok (.newarray .int, 2) := by decide +kernel
theorem dX1_init_90 : decode cX1_init 90 = .ok (.putfield 49, 3) := by decide +kernel
theorem dX1_init_93 : decode cX1_init 93 = .ok (.return_, 1) := by decide +kernel
theorem dX1_tellNothing_0 : decode cX1_tellNothing 0 = .ok (.aload_n 0, 1) := by decide +kernel
theorem dX1_tellNothing_1 : decode cX1_tellNothing 1 = .ok (.iconst 0, 1) := by decide +kernel
theorem dX1_tellNothing_2 : decode cX1_tellNothing 2 = .ok (.putfield 9, 3) := by decide +kernel
theorem dX1_tellNothing_5 : decode cX1_tellNothing 5 = .ok (.aload_n 0, 1) := by decide +kernel
theorem dX1_tellNothing_6 : decode cX1_tellNothing 6 = .ok (.iconst 0, 1) := by decide +kernel
theorem dX1_tellNothing_7 : decode cX1_tellNothing 7 = .ok (.putfield 15, 3) := by decide +kernel
theorem dX1_tellNothing_10 : decode cX1_tellNothing 10 = .ok (.aload_n 0, 1) := by decide +kernel
theorem dX1_tellNothing_11 : decode cX1_tellNothing 11 = .ok (.iconst 4, 1) := by decide +kernel
theorem dX1_tellNothing_12 : decode cX1_tellNothing 12 = .ok (.putfield 18, 3) := by decide +kernel
theorem dX1_tellNothing_15 : decode cX1_tellNothing 15 = .ok (.return_, 1) := by decide +kernel
theorem dX1_copyFrom_0 : decode cX1_copyFrom 0 = .ok (.aload_n 0, 1) := by decide +kernel
theorem dX1_copyFrom_1 : decode cX1_copyFrom 1 = .ok (.aload_n 1, 1) := by decide +kernel
theorem dX1_copyFrom_2 : decode cX1_copyFrom 2 = .ok (.getfield 9, 3) := by decide +kernel
theorem dX1_copyFrom_5 : decode cX1_copyFrom 5 = .ok (.putfield 9, 3) := by decide +kernel
theorem dX1_copyFrom_8 : decode cX1_copyFrom 8 = .ok (.aload_n 0, 1) := by decide +kernel
theorem dX1_copyFrom_9 : decode cX1_copyFrom 9 = .ok (.aload_n 1, 1) := by decide +kernel
theorem dX1_copyFrom_10 : decode cX1_copyFrom 10 = .ok (.getfield 15, 3) := by decide +kernel
theorem dX1_copyFrom_13 : decode cX1_copyFrom 13 = .ok (.putfield 15, 3) := by decide +kernel
theorem dX1_copyFrom_16 : decode cX1_copyFrom 16 = .ok (.aload_n 0, 1) := by decide +kernel
theorem dX1_copyFrom_17 : decode cX1_copyFrom 17 = .ok (.aload_n 1, 1) := by decide +kernel
theorem dX1_copyFrom_18 : decode cX1_copyFrom 18 = .ok (.getfield 18, 3) := by decide +kernel
theorem dX1_copyFrom_21 : decode cX1_copyFrom 21 = .ok (.putfield 18, 3) := by decide +kernel
theorem dX1_copyFrom_24 : decode cX1_copyFrom 24 = .ok (.aload_n 0, 1) := by decide +kernel
theorem dX1_copyFrom_25 : decode cX1_copyFrom 25 = .ok (.aload_n 1, 1) := by decide +kernel
theorem dX1_copyFrom_26 : decode cX1_copyFrom 26 = .ok (.getfield 21, 3) := by decide +kernel
theorem dX1_copyFrom_29 : decode cX1_copyFrom 29 = .ok (.putfield 21, 3) := by decide +kernel
theorem dX1_copyFrom_32 : decode cX1_copyFrom 32 = .ok (.aload_n 0, 1) := by decide +kernel
theorem dX1_copyFrom_33 : decode cX1_copyFrom 33 = .ok (.aload_n 1, 1) := by decide +kernel
theorem dX1_copyFrom_34 : decode cX1_copyFrom 34 = .ok (.getfield 24, 3) := by decide +kernel
theorem dX1_copyFrom_37 : decode cX1_copyFrom 37 = .ok (.putfield 24, 3) := by decide +kernel
theorem dX1_copyFrom_40 : decode cX1_copyFrom 40 = .ok (.aload_n 1, 1) := by decide +kernel
theorem dX1_copyFrom_41 : decode cX1_copyFrom 41 = .ok (.getfield 27, 3) := by decide +kernel
theorem dX1_copyFrom_44 : decode cX1_copyFrom 44 = .ok (.iconst 0, 1) := by decide +kernel
theorem dX1_copyFrom_45 : decode cX1_copyFrom 45 = .ok (.aload_n 0, 1) := by decide +kernel
theorem dX1_copyFrom_46 : decode cX1_copyFrom 46 = .ok (.getfield 27, 3) := by decide +kernel
theorem dX1_copyFrom_49 : decode cX1_copyFrom 49 = .ok (.iconst 0, 1) := by decide +kernel
theorem dX1_copyFrom_50 : decode cX1_copyFrom 50 = .ok (.bipush 8, 2) := by decide +kernel
theorem dX1_copyFrom_52 : decode cX1_copyFrom 52 = .ok (.invokestatic 52, 3) := by decide +kernel
theorem dX1_copyFrom_55 : decode cX1_copyFrom 55 = .ok (.aload_n 1, 1) := by decide +kernel
theorem dX1_copyFrom_56 : decode cX1_copyFrom 56 = .ok (.getfield 31, 3) := by decide +kernel
theorem dX1_copyFrom_59 : decode cX1_copyFrom 59 = .ok (.iconst 0, 1) := by decide +kernel
theorem dX1_copyFrom_60 : decode cX1_copyFrom 60 = .ok (.aload_n 0, 1) := by decide +kernel
theorem dX1_copyFrom_61 : decode cX1_copyFrom 61 = .ok (.getfield 31, 3) := by decide +kernel
theorem dX1_copyFrom_64 : decode cX1_copyFrom 64 = .ok (.iconst 0, 1) := by decide +kernel
theorem dX1_copyFrom_65 : decode cX1_copyFrom 65 = .ok (.bipush 24, 2) := by decide +kernel
theorem dX1_copyFrom_67 : decode cX1_copyFrom 67 = .ok (.invokestatic 52, 3) := by decide +kernel
theorem dX1_copyFrom_70 : decode cX1_copyFrom 70 = .ok (.aload_n 1, 1) := by decide +kernel
theorem dX1_copyFrom_71 : decode cX1_copyFrom 71 = .ok (.getfield 34, 3) := by decide +kernel
theorem dX1_copyFrom_74 : decode cX1_copyFrom 74 = .ok (.iconst 0, 1) := by decide +kernel
theorem dX1_copyFrom_75 : decode cX1_copyFrom 75 = .ok (.aload_n 0, 1) := by decide +kernel
theorem dX1_copyFrom_76 : decode cX1_copyFrom 76 = .ok (.getfield 34, 3) := by decide +kernel
theorem dX1_copyFrom_79 : decode cX1_copyFrom 79 = .ok (.iconst 0, 1) := by decide +kernel
theorem dX1_copyFrom_80 : decode cX1_copyFrom 80 = .ok (.bipush 24, 2) := by decide +kernel
theorem dX1_copyFrom_82 : decode cX1_copyFrom 82 = .ok (.invokestatic 52, 3) := by decide +kernel
theorem dX1_copyFrom_85 : decode cX1_copyFrom 85 = .ok (.aload_n 1, 1) := by decide +kernel
theorem dX1_copyFrom_86 : decode cX1_copyFrom 86 = .ok (.getfield 37, 3) := by decide +kernel
theorem dX1_copyFrom_89 : decode cX1_copyFrom 89 = .ok (.iconst 0, 1) := by decide +kernel
theorem dX1_copyFrom_90 : decode cX1_copyFrom 90 = .ok (.aload_n 0, 1) := by decide +kernel
theorem dX1_copyFrom_91 : decode cX1_copyFrom 91 = .ok (.getfield 37, 3) := by decide +kernel
theorem dX1_copyFrom_94 : decode cX1_copyFrom 94 = .ok (.iconst 0, 1) := by decide +kernel
theorem dX1_copyFrom_95 : decode cX1_copyFrom 95 = .ok (.bipush 24, 2) := by decide +kernel
theorem dX1_copyFrom_97 : decode cX1_copyFrom 97 = .ok (.invokestatic 52, 3) := by decide +kernel
theorem dX1_copyFrom_100 : decode cX1_copyFrom 100 = .ok (.aload_n 1, 1) := by decide +kernel
theorem dX1_copyFrom_101 : decode cX1_copyFrom 101 = .ok (.getfield 40, 3) := by decide +kernel
theorem dX1_copyFrom_104 : decode cX1_copyFrom 104 = .ok (.iconst 0, 1) := by decide +kernel
theorem dX1_copyFrom_105 : decode cX1_copyFrom 105 = .ok (.aload_n 0, 1) := by decide +kernel
theorem dX1_copyFrom_106 : decode cX1_copyFrom 106 = .ok (.getfield 40, 3) := by decide +kernel
theorem dX1_copyFrom_109 : decode cX1_copyFrom 109 = .ok (.iconst 0, 1) := by decide +kernel
theorem dX1_copyFrom_110 : decode cX1_copyFrom 110 = .ok (.bipush 24, 2) := by decide +kernel
theorem dX1_copyFrom_112 : decode cX1_copyFrom 112 = .ok (.invokestatic 52, 3) := by decide +kernel
theorem dX1_copyFrom_115 : decode cX1_copyFrom 115 = .ok (.aload_n 1, 1) := by decide +kernel
theorem dX1_copyFrom_116 : decode cX1_copyFrom 116 = .ok (.getfield 43, 3) := by decide +kernel
theorem dX1_copyFrom_119 : decode cX1_copyFrom 119 = .ok (.iconst 0, 1) := by decide +kernel
theorem dX1_copyFrom_120 : decode cX1_copyFrom 120 = .ok (.aload_n 0, 1) := by decide +kernel
theorem dX1_copyFrom_121 : decode cX1_copyFrom 121 = .ok (.getfield 43, 3) := by decide +kernel
theorem dX1_copyFrom_124 : decode cX1_copyFrom 124 = .ok (.iconst 0, 1) := by decide +kernel
theorem dX1_copyFrom_125 : decode cX1_copyFrom 125 = .ok (.bipush 24, 2) := by decide +kernel
theorem dX1_copyFrom_127 : decode cX1_copyFrom 127 = .ok (.invokestatic 52, 3) := by decide +kernel
theorem dX1_copyFrom_130 : decode cX1_copyFrom 130 = .ok (.aload_n 1, 1) := by decide +kernel
theorem dX1_copyFrom_131 : decode cX1_copyFrom 131 = .ok (.getfield 46, 3) := by decide +kernel
theorem dX1_copyFrom_134 : decode cX1_copyFrom 134 = .ok (.iconst 0, 1) := by decide +kernel
theorem dX1_copyFrom_135 : decode cX1_copyFrom 135 = .ok (.aload_n 0, 1) := by decide +kernel
theorem dX1_copyFrom_136 : decode cX1_copyFrom 136 = .ok (.getfield 46, 3) := by decide +kernel
theorem dX1_copyFrom_139 : decode cX1_copyFrom 139 = .ok (.iconst 0, 1) := by decide +kernel
theorem dX1_copyFrom_140 : decode cX1_copyFrom 140 = .ok (.bipush 24, 2) := by decide +kernel
theorem dX1_copyFrom_142 : decode cX1_copyFrom 142 = .ok (.invokestatic 52, 3) := by decide +kernel
theorem dX1_copyFrom_145 : decode cX1_copyFrom 145 = .ok (.aload_n 1, 1) := by decide +kernel
theorem dX1_copyFrom_146 : decode cX1_copyFrom 146 = .ok (.getfield 49, 3) := by decide +kernel
theorem dX1_copyFrom_149 : decode cX1_copyFrom 149 = .ok (.iconst 0, 1) := by decide +kernel
theorem dX1_copyFrom_150 : decode cX1_copyFrom 150 = .ok (.aload_n 0, 1) := by decide +kernel
theorem dX1_copyFrom_151 : decode cX1_copyFrom 151 = .ok (.getfield 49, 3) := by decide +kernel
theorem dX1_copyFrom_154 : decode cX1_copyFrom 154 = .ok (.iconst 0, 1) := by decide +kernel
theorem dX1_copyFrom_155 : decode cX1_copyFrom 155 = .ok (.bipush 80, 2) := by decide +kernel
theorem dX1_copyFrom_157 : decode cX1_copyFrom 157 = .ok (.invokestatic 52, 3) := by decide +kernel
theorem dX1_copyFrom_160 : decode cX1_copyFrom 160 = .ok (.return_, 1) := by decide +kernel
theorem dX1_hasDock_0 : decode cX1_hasDock 0 = .ok (.iload_n 1, 1) := by decide +kernel
theorem dX1_hasDock_1 : decode cX1_hasDock 1 = .ok (.ifCond .lt 15, 3) := by decide +kernel
theorem dX1_hasDock_4 : decode cX1_hasDock 4 = .ok (.iload_n 1, 1) := by decide +kernel
theorem dX1_hasDock_5 : decode cX1_hasDock 5 = .ok (.aload_n 0, 1) := by decide +kernel
theorem dX1_hasDock_6 : decode cX1_hasDock 6 = .ok (.getfield 9, 3) := by decide +kernel
theorem dX1_hasDock_9 : decode cX1_hasDock 9 = .ok (.if_icmp .ge 7, 3) := by decide +kernel
theorem dX1_hasDock_12 : decode cX1_hasDock 12 = .ok (.iconst 1, 1) := by decide +kernel
theorem dX1_hasDock_13 : decode cX1_hasDock 13 = .ok (.goto 4, 3) := by decide +kernel
theorem dX1_hasDock_16 : decode cX1_hasDock 16 = .ok (.iconst 0, 1) := by decide +kernel
theorem dX1_hasDock_17 : decode cX1_hasDock 17 = .ok (.ireturn, 1) := by decide +kernel
theorem dX1_hasRoute_0 : decode cX1_hasRoute 0 = .ok (.iload_n 1, 1) := by decide +kernel
theorem dX1_hasRoute_1 : decode cX1_hasRoute 1 = .ok (.ifCond .lt 15, 3) := by decide +kernel
theorem dX1_hasRoute_4 : decode cX1_hasRoute 4 = .ok (.iload_n 1, 1) := by decide +kernel
theorem dX1_hasRoute_5 : decode cX1_hasRoute 5 = .ok (.aload_n 0, 1) := by decide +kernel
theorem dX1_hasRoute_6 : decode cX1_hasRoute 6 = .ok (.getfield 15, 3) := by decide +kernel
theorem dX1_hasRoute_9 : decode cX1_hasRoute 9 = .ok (.if_icmp .ge 7, 3) := by decide +kernel
theorem dX1_hasRoute_12 : decode cX1_hasRoute 12 = .ok (.iconst 1, 1) := by decide +kernel
theorem dX1_hasRoute_13 : decode cX1_hasRoute 13 = .ok (.goto 4, 3) := by decide +kernel
theorem dX1_hasRoute_16 : decode cX1_hasRoute 16 = .ok (.iconst 0, 1) := by decide +kernel
theorem dX1_hasRoute_17 : decode cX1_hasRoute 17 = .ok (.ireturn, 1) := by decide +kernel
theorem dX1_hasWay_0 : decode cX1_hasWay 0 = .ok (.iload_n 1, 1) := by decide +kernel
theorem dX1_hasWay_1 : decode cX1_hasWay 1 = .ok (.ifCond .lt 15, 3) := by decide +kernel
theorem dX1_hasWay_4 : decode cX1_hasWay 4 = .ok (.iload_n 1, 1) := by decide +kernel
theorem dX1_hasWay_5 : decode cX1_hasWay 5 = .ok (.aload_n 0, 1) := by decide +kernel
theorem dX1_hasWay_6 : decode cX1_hasWay 6 = .ok (.invokevirtual 58, 3) := by decide +kernel
theorem dX1_hasWay_9 : decode cX1_hasWay 9 = .ok (.if_icmp .ge 7, 3) := by decide +kernel
theorem dX1_hasWay_12 : decode cX1_hasWay 12 = .ok (.iconst 1, 1) := by decide +kernel
theorem dX1_hasWay_13 : decode cX1_hasWay 13 = .ok (.goto 4, 3) := by decide +kernel
theorem dX1_hasWay_16 : decode cX1_hasWay 16 = .ok (.iconst 0, 1) := by decide +kernel
theorem dX1_hasWay_17 : decode cX1_hasWay 17 = .ok (.ireturn, 1) := by decide +kernel
theorem dX1_countWays_0 : decode cX1_countWays 0 = .ok (.aload_n 0, 1) := by decide +kernel
theorem dX1_countWays_1 : decode cX1_countWays 1 = .ok (.getfield 15, 3) := by decide +kernel
theorem dX1_countWays_4 : decode cX1_countWays 4 = .ok (.aload_n 0, 1) := by decide +kernel
theorem dX1_countWays_5 : decode cX1_countWays 5 = .ok (.getfield 9, 3) := by decide +kernel
theorem dX1_countWays_8 : decode cX1_countWays 8 = .ok (.iadd, 1) := by decide +kernel
theorem dX1_countWays_9 : decode cX1_countWays 9 = .ok (.ireturn, 1) := by decide +kernel
theorem dX1_begin_0 : decode cX1_begin 0 = .ok (.iconst 0, 1) := by decide +kernel
theorem dX1_begin_1 : decode cX1_begin 1 = .ok (.istore_n 1, 1) := by decide +kernel
theorem dX1_begin_2 : decode cX1_begin 2 = .ok (.iload_n 1, 1) := by decide +kernel
theorem dX1_begin_3 : decode cX1_begin 3 = .ok (.aload_n 0, 1) := by decide +kernel
theorem dX1_begin_4 : decode cX1_begin 4 = .ok (.getfield 15, 3) := by decide +kernel
theorem dX1_begin_7 : decode cX1_begin 7 = .ok (.if_icmp .ge 23, 3) := by decide +kernel
theorem dX1_begin_10 : decode cX1_begin 10 = .ok (.aload_n 0, 1) := by decide +kernel
theorem dX1_begin_11 : decode cX1_begin 11 = .ok (.getfield 43, 3) := by decide +kernel
theorem dX1_begin_14 : decode cX1_begin 14 = .ok (.iload_n 1, 1) := by decide +kernel
theorem dX1_begin_15 : decode cX1_begin 15 = .ok (.iconst 0, 1) := by decide +kernel
theorem dX1_begin_16 : decode cX1_begin 16 = .ok (.iastore, 1) := by decide +kernel
theorem dX1_begin_17 : decode cX1_begin 17 = .ok (.aload_n 0, 1) := by decide +kernel
theorem dX1_begin_18 : decode cX1_begin 18 = .ok (.getfield 46, 3) := by decide +kernel
theorem dX1_begin_21 : decode cX1_begin 21 = .ok (.iload_n 1, 1) := by decide +kernel
theorem dX1_begin_22 : decode cX1_begin 22 = .ok (.iconst 1, 1) := by decide +kernel
theorem dX1_begin_23 : decode cX1_begin 23 = .ok (.iastore, 1) := by decide +kernel
theorem dX1_begin_24 : decode cX1_begin 24 = .ok (.iinc 1 1, 3) := by decide +kernel
theorem dX1_begin_27 : decode cX1_begin 27 = .ok (.goto (-25), 3) := by decide +kernel
theorem dX1_begin_30 : decode cX1_begin 30 = .ok (.iconst 0, 1) := by decide +kernel
theorem dX1_begin_31 : decode cX1_begin 31 = .ok (.istore_n 1, 1) := by decide +kernel
theorem dX1_begin_32 : decode cX1_begin 32 = .ok (.iload_n 1, 1) := by decide +kernel
theorem dX1_begin_33 : decode cX1_begin 33 = .ok (.aload_n 0, 1) := by decide +kernel
theorem dX1_begin_34 : decode cX1_begin 34 = .ok (.getfield 9, 3) := by decide +kernel
theorem dX1_begin_37 : decode cX1_begin 37 = .ok (.if_icmp .ge 14, 3) := by decide +kernel
theorem dX1_begin_40 : decode cX1_begin 40 = .ok (.aload_n 0, 1) := by decide +kernel
theorem dX1_begin_41 : decode cX1_begin 41 = .ok (.iload_n 1, 1) := by decide +kernel
theorem dX1_begin_42 : decode cX1_begin 42 = .ok (.invokevirtual 62, 3) := by decide +kernel
theorem dX1_begin_45 : decode cX1_begin 45 = .ok (.iinc 1 1, 3) := by decide +kernel
theorem dX1_begin_48 : decode cX1_begin 48 = .ok (.goto (-16), 3) := by decide +kernel
theorem dX1_begin_51 : decode cX1_begin 51 = .ok (.aload_n 0, 1) := by decide +kernel
theorem dX1_begin_52 : decode cX1_begin 52 = .ok (.iconst 0, 1) := by decide +kernel
theorem dX1_begin_53 : decode cX1_begin 53 = .ok (.putfield 21, 3) := by decide +kernel
theorem dX1_begin_56 : decode cX1_begin 56 = .ok (.aload_n 0, 1) := by decide +kernel
theorem dX1_begin_57 : decode cX1_begin 57 = .ok (.iconst 0, 1) := by decide +kernel
theorem dX1_begin_58 : decode cX1_begin 58 = .ok (.putfield 24, 3) := by decide +kernel
theorem dX1_begin_61 : decode cX1_begin 61 = .ok (.return_, 1) := by decide +kernel
theorem dX1_beginTender_0 : decode cX1_beginTender 0 = .ok (.aload_n 0, 1) := by decide +kernel
theorem dX1_beginTender_1 : decode cX1_beginTender 1 = .ok (.getfield 15, 3) := by decide +kernel
theorem dX1_beginTender_4 : decode cX1_beginTender 4 = .ok (.iload_n 1, 1) := by decide +kernel
theorem dX1_beginTender_5 : decode cX1_beginTender 5 = .ok (.iadd, 1) := by decide +kernel
theorem dX1_beginTender_6 : decode cX1_beginTender 6 = .ok (.istore_n 2, 1) := by decide +kernel
theorem dX1_beginTender_7 : decode cX1_beginTender 7 = .ok (.aload_n 0, 1) := by decide +kernel
theorem dX1_beginTender_8 : decode cX1_beginTender 8 = .ok (.getfield 27, 3) := by decide +kernel
theorem dX1_beginTender_11 : decode cX1_beginTender 11 = .ok (.iload_n 1, 1) := by decide +kernel
theorem dX1_beginTender_12 : decode cX1_beginTender 12 = .ok (.iaload, 1) := by decide +kernel
theorem dX1_beginTender_13 : decode cX1_beginTender 13 = .ok (.ifCond .lt 7, 3) := by decide +kernel
theorem dX1_beginTender_16 : decode cX1_beginTender 16 = .ok (.iconst 1, 1) := by decide +kernel
theorem dX1_beginTender_17 : decode cX1_beginTender 17 = .ok (.goto 4, 3) := by decide +kernel
theorem dX1_beginTender_20 : decode cX1_beginTender 20 = .ok (.iconst 0, 1) := by decide +kernel
theorem dX1_beginTender_21 : decode cX1_beginTender 21 = .ok (.istore_n 3, 1) := by decide +kernel
theorem dX1_beginTender_22 : decode cX1_beginTender 22 = .ok (.aload_n 0, 1) := by decide +kernel
theorem dX1_beginTender_23 : decode cX1_beginTender 23 = .ok (.getfield 31, 3) := by decide +kernel
theorem dX1_beginTender_26 : decode cX1_beginTender 26 = .ok (.iload_n 2, 1) := by decide +kernel
theorem dX1_beginTender_27 : decode cX1_beginTender 27 = .ok (.iload_n 3, 1) := by decide +kernel
theorem dX1_beginTender_28 : decode cX1_beginTender 28 = .ok (.ifCond .eq 7, 3) := by decide +kernel
theorem dX1_beginTender_31 : decode cX1_beginTender 31 = .ok (.iload_n 1, 1) := by decide +kernel
theorem dX1_beginTender_32 : decode cX1_beginTender 32 = .ok (.goto 5, 3) := by decide +kernel
theorem dX1_beginTender_35 : decode cX1_beginTender 35 = .ok (.bipush 8, 2) := by decide +kernel
theorem dX1_beginTender_37 : decode cX1_beginTender 37 = .ok (.iastore, 1) := by decide +kernel
theorem dX1_beginTender_38 : decode cX1_beginTender 38 = .ok (.aload_n 0, 1) := by decide +kernel
theorem dX1_beginTender_39 : decode cX1_beginTender 39 = .ok (.getfield 34, 3) := by decide +kernel
theorem dX1_beginTender_42 : decode cX1_beginTender 42 = .ok (.iload_n 2, 1) := by decide +kernel
theorem dX1_beginTender_43 : decode cX1_beginTender 43 = .ok (.iload_n 3, 1) := by decide +kernel
theorem dX1_beginTender_44 : decode cX1_beginTender 44 = .ok (.ifCond .eq 8, 3) := by decide +kernel
theorem dX1_beginTender_47 : decode cX1_beginTender 47 = .ok (.bipush 8, 2) := by decide +kernel
theorem dX1_beginTender_49 : decode cX1_beginTender 49 = .ok (.goto 4, 3) := by decide +kernel
theorem dX1_beginTender_52 : decode cX1_beginTender 52 = .ok (.iload_n 1, 1) := by decide +kernel
theorem dX1_beginTender_53 : decode cX1_beginTender 53 = .ok (.iastore, 1) := by decide +kernel
theorem dX1_beginTender_54 : decode cX1_beginTender 54 = .ok (.aload_n 0, 1) := by decide +kernel
theorem dX1_beginTender_55 : decode cX1_beginTender 55 = .ok (.getfield 37, 3) := by decide +kernel
theorem dX1_beginTender_58 : decode cX1_beginTender 58 = .ok (.iload_n 2, 1) := by decide +kernel
theorem dX1_beginTender_59 : decode cX1_beginTender 59 = .ok (.sipush 10000, 3) := by decide +kernel
theorem dX1_beginTender_62 : decode cX1_beginTender 62 = .ok (.iastore, 1) := by decide +kernel
theorem dX1_beginTender_63 : decode cX1_beginTender 63 = .ok (.aload_n 0, 1) := by decide +kernel
theorem dX1_beginTender_64 : decode cX1_beginTender 64 = .ok (.getfield 40, 3) := by decide +kernel
theorem dX1_beginTender_67 : decode cX1_beginTender 67 = .ok (.iload_n 2, 1) := by decide +kernel
theorem dX1_beginTender_68 : decode cX1_beginTender 68 = .ok (.ldc 66, 2) := by decide +kernel
theorem dX1_beginTender_70 : decode cX1_beginTender 70 = .ok (.iastore, 1) := by decide +kernel
theorem dX1_beginTender_71 : decode cX1_beginTender 71 = .ok (.aload_n 0, 1) := by decide +kernel
theorem dX1_beginTender_72 : decode cX1_beginTender 72 = .ok (.getfield 43, 3) := by decide +kernel
theorem dX1_beginTender_75 : decode cX1_beginTender 75 = .ok (.iload_n 2, 1) := by decide +kernel
theorem dX1_beginTender_76 : decode cX1_beginTender 76 = .ok (.iload_n 3, 1) := by decide +kernel
theorem dX1_beginTender_77 : decode cX1_beginTender 77 = .ok (.ifCond .eq 12, 3) := by decide +kernel
theorem dX1_beginTender_80 : decode cX1_beginTender 80 = .ok (.aload_n 0, 1) := by decide +kernel
theorem dX1_beginTender_81 : decode cX1_beginTender 81 = .ok (.getfield 27, 3) := by decide +kernel
theorem dX1_beginTender_84 : decode cX1_beginTender 84 = .ok (.iload_n 1, 1) := by decide +kernel
theorem dX1_beginTender_85 : decode cX1_beginTender 85 = .ok (.iaload, 1) := by decide +kernel
theorem dX1_beginTender_86 : decode cX1_beginTender 86 = .ok (.goto 10, 3) := by decide +kernel
theorem dX1_beginTender_89 : decode cX1_beginTender 89 = .ok (.aload_n 0, 1) := by decide +kernel
theorem dX1_beginTender_90 : decode cX1_beginTender 90 = .ok (.getfield 27, 3) := by decide +kernel
theorem dX1_beginTender_93 : decode cX1_beginTender 93 = .ok (.iload_n 1, 1) := by decide +kernel
theorem dX1_beginTender_94 : decode cX1_beginTender 94 = .ok (.iaload, 1) := by decide +kernel
theorem dX1_beginTender_95 : decode cX1_beginTender 95 = .ok (.ineg, 1) := by decide +kernel
theorem dX1_beginTender_96 : decode cX1_beginTender 96 = .ok (.iastore, 1) := by decide +kernel
theorem dX1_beginTender_97 : decode cX1_beginTender 97 = .ok (.aload_n 0, 1) := by decide +kernel
theorem dX1_beginTender_98 : decode cX1_beginTender 98 = .ok (.getfield 46, 3) := by decide +kernel
theorem dX1_beginTender_101 : decode cX1_beginTender 101 = .ok (.iload_n 2, 1) := by decide +kernel
theorem dX1_beginTender_102 : decode cX1_beginTender 102 = .ok (.iconst 0, 1) := by decide +kernel
theorem dX1_beginTender_103 : decode cX1_beginTender 103 = .ok (.iastore, 1) := by decide +kernel
theorem dX1_beginTender_104 : decode cX1_beginTender 104 = .ok (.return_, 1) := by decide +kernel
theorem dX1_roomOf_0 : decode cX1_roomOf 0 = .ok (.iload_n 2, 1) := by decide +kernel
theorem dX1_roomOf_1 : decode cX1_roomOf 1 = .ok (.ifCond .ne 10, 3) := by decide +kernel
theorem dX1_roomOf_4 : decode cX1_roomOf 4 = .ok (.aload_n 0, 1) := by decide +kernel
theorem dX1_roomOf_5 : decode cX1_roomOf 5 = .ok (.getfield 43, 3) := by decide +kernel
theorem dX1_roomOf_8 : decode cX1_roomOf 8 = .ok (.iload_n 1, 1) := by decide +kernel
theorem dX1_roomOf_9 : decode cX1_roomOf 9 = .ok (.iaload, 1) := by decide +kernel
theorem dX1_roomOf_10 : decode cX1_roomOf 10 = .ok (.ireturn, 1) := by decide +kernel
theorem dX1_roomOf_11 : decode cX1_roomOf 11 = .ok (.aload_n 0, 1) := by decide +kernel
theorem dX1_roomOf_12 : decode cX1_roomOf 12 = .ok (.getfield 40, 3) := by decide +kernel
theorem dX1_roomOf_15 : decode cX1_roomOf 15 = .ok (.iload_n 1, 1) := by decide +kernel
theorem dX1_roomOf_16 : decode cX1_roomOf 16 = .ok (.iaload, 1) := by decide +kernel
theorem dX1_roomOf_17 : decode cX1_roomOf 17 = .ok (.ldc 66, 2) := by decide +kernel
theorem dX1_roomOf_19 : decode cX1_roomOf 19 = .ok (.if_icmp .ne 8, 3) := by decide +kernel
theorem dX1_roomOf_22 : decode cX1_roomOf 22 = .ok (.ldc 66, 2) := by decide +kernel
theorem dX1_roomOf_24 : decode cX1_roomOf 24 = .ok (.goto 16, 3) := by decide +kernel
theorem dX1_roomOf_27 : decode cX1_roomOf 27 = .ok (.aload_n 0, 1) := by decide +kernel
theorem dX1_roomOf_28 : decode cX1_roomOf 28 = .ok (.getfield 40, 3) := by decide +kernel
theorem dX1_roomOf_31 : decode cX1_roomOf 31 = .ok (.iload_n 1, 1) := by decide +kernel
theorem dX1_roomOf_32 : decode cX1_roomOf 32 = .ok (.iaload, 1) := by decide +kernel
theorem dX1_roomOf_33 : decode cX1_roomOf 33 = .ok (.aload_n 0, 1) := by decide +kernel
theorem dX1_roomOf_34 : decode cX1_roomOf 34 = .ok (.getfield 43, 3) := by decide +kernel
theorem dX1_roomOf_37 : decode cX1_roomOf 37 = .ok (.iload_n 1, 1) := by decide +kernel
theorem dX1_roomOf_38 : decode cX1_roomOf 38 = .ok (.iaload, 1) := by decide +kernel
theorem dX1_roomOf_39 : decode cX1_roomOf 39 = .ok (.isub, 1) := by decide +kernel
theorem dX1_roomOf_40 : decode cX1_roomOf 40 = .ok (.ireturn, 1) := by decide +kernel
theorem dX1_lackOf_0 : decode cX1_lackOf 0 = .ok (.aload_n 0, 1) := by decide +kernel
theorem dX1_lackOf_1 : decode cX1_lackOf 1 = .ok (.getfield 15, 3) := by decide +kernel
theorem dX1_lackOf_4 : decode cX1_lackOf 4 = .ok (.iload_n 1, 1) := by decide +kernel
theorem dX1_lackOf_5 : decode cX1_lackOf 5 = .ok (.iadd, 1) := by decide +kernel
theorem dX1_lackOf_6 : decode cX1_lackOf 6 = .ok (.istore_n 2, 1) := by decide +kernel
theorem dX1_lackOf_7 : decode cX1_lackOf 7 = .ok (.aload_n 0, 1) := by decide +kernel
theorem dX1_lackOf_8 : decode cX1_lackOf 8 = .ok (.getfield 31, 3) := by decide +kernel
theorem dX1_lackOf_11 : decode cX1_lackOf 11 = .ok (.iload_n 2, 1) := by decide +kernel
theorem dX1_lackOf_12 : decode cX1_lackOf 12 = .ok (.iaload, 1) := by decide +kernel
theorem dX1_lackOf_13 : decode cX1_lackOf 13 = .ok (.bipush 8, 2) := by decide +kernel
theorem dX1_lackOf_15 : decode cX1_lackOf 15 = .ok (.if_icmp .ne 12, 3) := by decide +kernel
theorem dX1_lackOf_18 : decode cX1_lackOf 18 = .ok (.aload_n 0, 1) := by decide +kernel
theorem dX1_lackOf_19 : decode cX1_lackOf 19 = .ok (.getfield 43, 3) := by decide +kernel
theorem dX1_lackOf_22 : decode cX1_lackOf 22 = .ok (.iload_n 2, 1) := by decide +kernel
theorem dX1_lackOf_23 : decode cX1_lackOf 23 = .ok (.iaload, 1) := by decide +kernel
theorem dX1_lackOf_24 : decode cX1_lackOf 24 = .ok (.goto 4, 3) := by decide +kernel
theorem dX1_lackOf_27 : decode cX1_lackOf 27 = .ok (.iconst 0, 1) := by decide +kernel
theorem dX1_lackOf_28 : decode cX1_lackOf 28 = .ok (.ireturn, 1) := by decide +kernel
theorem dX1_stuckOf_0 : decode cX1_stuckOf 0 = .ok (.aload_n 0, 1) := by decide +kernel
theorem dX1_stuckOf_1 : decode cX1_stuckOf 1 = .ok (.getfield 15, 3) := by decide +kernel
theorem dX1_stuckOf_4 : decode cX1_stuckOf 4 = .ok (.iload_n 1, 1) := by decide +kernel
theorem dX1_stuckOf_5 : decode cX1_stuckOf 5 = .ok (.iadd, 1) := by decide +kernel
theorem dX1_stuckOf_6 : decode cX1_stuckOf 6 = .ok (.istore_n 2, 1) := by decide +kernel
theorem dX1_stuckOf_7 : decode cX1_stuckOf 7 = .ok (.aload_n 0, 1) := by decide +kernel
theorem dX1_stuckOf_8 : decode cX1_stuckOf 8 = .ok (.getfield 34, 3) := by decide +kernel
theorem dX1_stuckOf_11 : decode cX1_stuckOf 11 = .ok (.iload_n 2, 1) := by decide +kernel
theorem dX1_stuckOf_12 : decode cX1_stuckOf 12 = .ok (.iaload, 1) := by decide +kernel
theorem dX1_stuckOf_13 : decode cX1_stuckOf 13 = .ok (.bipush 8, 2) := by decide +kernel
theorem dX1_stuckOf_15 : decode cX1_stuckOf 15 = .ok (.if_icmp .ne 12, 3) := by decide +kernel
theorem dX1_stuckOf_18 : decode cX1_stuckOf 18 = .ok (.aload_n 0, 1) := by decide +kernel
theorem dX1_stuckOf_19 : decode cX1_stuckOf 19 = .ok (.getfield 43, 3) := by decide +kernel
theorem dX1_stuckOf_22 : decode cX1_stuckOf 22 = .ok (.iload_n 2, 1) := by decide +kernel
theorem dX1_stuckOf_23 : decode cX1_stuckOf 23 = .ok (.iaload, 1) := by decide +kernel
theorem dX1_stuckOf_24 : decode cX1_stuckOf 24 = .ok (.goto 4, 3) := by decide +kernel
theorem dX1_stuckOf_27 : decode cX1_stuckOf 27 = .ok (.iconst 0, 1) := by decide +kernel
theorem dX1_stuckOf_28 : decode cX1_stuckOf 28 = .ok (.ireturn, 1) := by decide +kernel
theorem dX1_sumLack_0 : decode cX1_sumLack 0 = .ok (.iconst 0, 1) := by decide +kernel
theorem dX1_sumLack_1 : decode cX1_sumLack 1 = .ok (.istore_n 1, 1) := by decide +kernel
theorem dX1_sumLack_2 : decode cX1_sumLack 2 = .ok (.iconst 0, 1) := by decide +kernel
theorem dX1_sumLack_3 : decode cX1_sumLack 3 = .ok (.istore_n 2, 1) := by decide +kernel
theorem dX1_sumLack_4 : decode cX1_sumLack 4 = .ok (.iload_n 2, 1) := by decide +kernel
theorem dX1_sumLack_5 : decode cX1_sumLack 5 = .ok (.aload_n 0, 1) := by decide +kernel
theorem dX1_sumLack_6 : decode cX1_sumLack 6 = .ok (.getfield 9, 3) := by decide +kernel
theorem dX1_sumLack_9 : decode cX1_sumLack 9 = .ok (.if_icmp .ge 17, 3) := by decide +kernel
theorem dX1_sumLack_12 : decode cX1_sumLack 12 = .ok (.iload_n 1, 1) := by decide +kernel
theorem dX1_sumLack_13 : decode cX1_sumLack 13 = .ok (.aload_n 0, 1) := by decide +kernel
theorem dX1_sumLack_14 : decode cX1_sumLack 14 = .ok (.iload_n 2, 1) := by decide +kernel
theorem dX1_sumLack_15 : decode cX1_sumLack 15 = .ok (.invokevirtual 67, 3) := by decide +kernel
theorem dX1_sumLack_18 : decode cX1_sumLack 18 = .ok (.iadd, 1) := by decide +kernel
theorem dX1_sumLack_19 : decode cX1_sumLack 19 = .ok (.istore_n 1, 1) := by decide +kernel
theorem dX1_sumLack_20 : decode cX1_sumLack 20 = .ok (.iinc 2 1, 3) := by decide +kernel
theorem dX1_sumLack_23 : decode cX1_sumLack 23 = .ok (.goto (-19), 3) := by decide +kernel
theorem dX1_sumLack_26 : decode cX1_sumLack 26 = .ok (.iload_n 1, 1) := by decide +kernel
theorem dX1_sumLack_27 : decode cX1_sumLack 27 = .ok (.ireturn, 1) := by decide +kernel
theorem dX1_sumStuck_0 : decode cX1_sumStuck 0 = .ok (.iconst 0, 1) := by decide +kernel
theorem dX1_sumStuck_1 : decode cX1_sumStuck 1 = .ok (.istore_n 1, 1) := by decide +kernel
theorem dX1_sumStuck_2 : decode cX1_sumStuck 2 = .ok (.iconst 0, 1) := by decide +kernel
theorem dX1_sumStuck_3 : decode cX1_sumStuck 3 = .ok (.istore_n 2, 1) := by decide +kernel
theorem dX1_sumStuck_4 : decode cX1_sumStuck 4 = .ok (.iload_n 2, 1) := by decide +kernel
theorem dX1_sumStuck_5 : decode cX1_sumStuck 5 = .ok (.aload_n 0, 1) := by decide +kernel
theorem dX1_sumStuck_6 : decode cX1_sumStuck 6 = .ok (.getfield 9, 3) := by decide +kernel
theorem dX1_sumStuck_9 : decode cX1_sumStuck 9 = .ok (.if_icmp .ge 17, 3) := by decide +kernel
theorem dX1_sumStuck_12 : decode cX1_sumStuck 12 = .ok (.iload_n 1, 1) := by decide +kernel
theorem dX1_sumStuck_13 : decode cX1_sumStuck 13 = .ok (.aload_n 0, 1) := by decide +kernel
theorem dX1_sumStuck_14 : decode cX1_sumStuck 14 = .ok (.iload_n 2, 1) := by decide +kernel
theorem dX1_sumStuck_15 : decode cX1_sumStuck 15 = .ok (.invokevirtual 71, 3) := by decide +kernel
theorem dX1_sumStuck_18 : decode cX1_sumStuck 18 = .ok (.iadd, 1) := by decide +kernel
theorem dX1_sumStuck_19 : decode cX1_sumStuck 19 = .ok (.istore_n 1, 1) := by decide +kernel
theorem dX1_sumStuck_20 : decode cX1_sumStuck 20 = .ok (.iinc 2 1, 3) := by decide +kernel
theorem dX1_sumStuck_23 : decode cX1_sumStuck 23 = .ok (.goto (-19), 3) := by decide +kernel
theorem dX1_sumStuck_26 : decode cX1_sumStuck 26 = .ok (.iload_n 1, 1) := by decide +kernel
theorem dX1_sumStuck_27 : decode cX1_sumStuck 27 = .ok (.ireturn, 1) := by decide +kernel
theorem dX1_firstLacking_0 : decode cX1_firstLacking 0 = .ok (.iconst 0, 1) := by decide +kernel
theorem dX1_firstLacking_1 : decode cX1_firstLacking 1 = .ok (.istore_n 1, 1) := by decide +kernel
theorem dX1_firstLacking_2 : decode cX1_firstLacking 2 = .ok (.iload_n 1, 1) := by decide +kernel
theorem dX1_firstLacking_3 : decode cX1_firstLacking 3 = .ok (.aload_n 0, 1) := by decide +kernel
theorem dX1_firstLacking_4 : decode cX1_firstLacking 4 = .ok (.getfield 9, 3) := by decide +kernel
theorem dX1_firstLacking_7 : decode cX1_firstLacking 7 = .ok (.if_icmp .ge 19, 3) := by decide +kernel
theorem dX1_firstLacking_10 : decode cX1_firstLacking 10 = .ok (.aload_n 0, 1) := by decide +kernel
theorem dX1_firstLacking_11 : decode cX1_firstLacking 11 = .ok (.iload_n 1, 1) := by decide +kernel
theorem dX1_firstLacking_12 : decode cX1_firstLacking 12 = .ok (.invokevirtual 67, 3) := by decide +kernel
theorem dX1_firstLacking_15 : decode cX1_firstLacking 15 = .ok (.ifCond .le 5, 3) := by decide +kernel
theorem dX1_firstLacking_18 : decode cX1_firstLacking 18 = .ok (.iload_n 1, 1) := by decide +kernel
theorem dX1_firstLacking_19 : decode cX1_firstLacking 19 = .ok (.ireturn, 1) := by decide +kernel
theorem dX1_firstLacking_20 : decode cX1_firstLacking 20 = .ok (.iinc 1 1, 3) := by decide +kernel
theorem dX1_firstLacking_23 : decode cX1_firstLacking 23 = .ok (.goto (-21), 3) := by decide +kernel
theorem dX1_firstLacking_26 : decode cX1_firstLacking 26 = .ok (.bipush (-2), 2) := by decide +kernel
theorem dX1_firstLacking_28 : decode cX1_firstLacking 28 = .ok (.ireturn, 1) := by decide +kernel
theorem dX1_firstStuck_0 : decode cX1_firstStuck 0 = .ok (.iconst 0, 1) := by decide +kernel
theorem dX1_firstStuck_1 : decode cX1_firstStuck 1 = .ok (.istore_n 1, 1) := by decide +kernel
theorem dX1_firstStuck_2 : decode cX1_firstStuck 2 = .ok (.iload_n 1, 1) := by decide +kernel
theorem dX1_firstStuck_3 : decode cX1_firstStuck 3 = .ok (.aload_n 0, 1) := by decide +kernel
theorem dX1_firstStuck_4 : decode cX1_firstStuck 4 = .ok (.getfield 9, 3) := by decide +kernel
theorem dX1_firstStuck_7 : decode cX1_firstStuck 7 = .ok (.if_icmp .ge 19, 3) := by decide +kernel
theorem dX1_firstStuck_10 : decode cX1_firstStuck 10 = .ok (.aload_n 0, 1) := by decide +kernel
theorem dX1_firstStuck_11 : decode cX1_firstStuck 11 = .ok (.iload_n 1, 1) := by decide +kernel
theorem dX1_firstStuck_12 : decode cX1_firstStuck 12 = .ok (.invokevirtual 71, 3) := by decide +kernel
theorem dX1_firstStuck_15 : decode cX1_firstStuck 15 = .ok (.ifCond .le 5, 3) := by decide +kernel
theorem dX1_firstStuck_18 : decode cX1_firstStuck 18 = .ok (.iload_n 1, 1) := by decide +kernel
theorem dX1_firstStuck_19 : decode cX1_firstStuck 19 = .ok (.ireturn, 1) := by decide +kernel
theorem dX1_firstStuck_20 : decode cX1_firstStuck 20 = .ok (.iinc 1 1, 3) := by decide +kernel
theorem dX1_firstStuck_23 : decode cX1_firstStuck 23 = .ok (.goto (-21), 3) := by decide +kernel
theorem dX1_firstStuck_26 : decode cX1_firstStuck 26 = .ok (.bipush (-2), 2) := by decide +kernel
theorem dX1_firstStuck_28 : decode cX1_firstStuck 28 = .ok (.ireturn, 1) := by decide +kernel
theorem dX1_sumCost_0 : decode cX1_sumCost 0 = .ok (.iconst 0, 1) := by decide +kernel
theorem dX1_sumCost_1 : decode cX1_sumCost 1 = .ok (.istore_n 1, 1) := by decide +kernel
theorem dX1_sumCost_2 : decode cX1_sumCost 2 = .ok (.iconst 0, 1) := by decide +kernel
theorem dX1_sumCost_3 : decode cX1_sumCost 3 = .ok (.istore_n 2, 1) := by decide +kernel
theorem dX1_sumCost_4 : decode cX1_sumCost 4 = .ok (.iload_n 2, 1) := by decide +kernel
theorem dX1_sumCost_5 : decode cX1_sumCost 5 = .ok (.aload_n 0, 1) := by decide +kernel
theorem dX1_sumCost_6 : decode cX1_sumCost 6 = .ok (.getfield 15, 3) := by decide +kernel
theorem dX1_sumCost_9 : decode cX1_sumCost 9 = .ok (.if_icmp .ge 25, 3) := by decide +kernel
theorem dX1_sumCost_12 : decode cX1_sumCost 12 = .ok (.iload_n 1, 1) := by decide +kernel
theorem dX1_sumCost_13 : decode cX1_sumCost 13 = .ok (.aload_n 0, 1) := by decide +kernel
theorem dX1_sumCost_14 : decode cX1_sumCost 14 = .ok (.getfield 43, 3) := by decide +kernel
theorem dX1_sumCost_17 : decode cX1_sumCost 17 = .ok (.iload_n 2, 1) := by decide +kernel
theorem dX1_sumCost_18 : decode cX1_sumCost 18 = .ok (.iaload, 1) := by decide +kernel
theorem dX1_sumCost_19 : decode cX1_sumCost 19 = .ok (.aload_n 0, 1) := by decide +kernel
theorem dX1_sumCost_20 : decode cX1_sumCost 20 = .ok (.getfield 37, 3) := by decide +kernel
theorem dX1_sumCost_23 : decode cX1_sumCost 23 = .ok (.iload_n 2, 1) := by decide +kernel
theorem dX1_sumCost_24 : decode cX1_sumCost 24 = .ok (.iaload, 1) := by decide +kernel
theorem dX1_sumCost_25 : decode cX1_sumCost 25 = .ok (.imul, 1) := by decide +kernel
theorem dX1_sumCost_26 : decode cX1_sumCost 26 = .ok (.iadd, 1) := by decide +kernel
theorem dX1_sumCost_27 : decode cX1_sumCost 27 = .ok (.istore_n 1, 1) := by decide +kernel
theorem dX1_sumCost_28 : decode cX1_sumCost 28 = .ok (.iinc 2 1, 3) := by decide +kernel
theorem dX1_sumCost_31 : decode cX1_sumCost 31 = .ok (.goto (-27), 3) := by decide +kernel
theorem dX1_sumCost_34 : decode cX1_sumCost 34 = .ok (.iload_n 1, 1) := by decide +kernel
theorem dX1_sumCost_35 : decode cX1_sumCost 35 = .ok (.ireturn, 1) := by decide +kernel
theorem dX1_countFull_0 : decode cX1_countFull 0 = .ok (.iconst 0, 1) := by decide +kernel
theorem dX1_countFull_1 : decode cX1_countFull 1 = .ok (.istore_n 1, 1) := by decide +kernel
theorem dX1_countFull_2 : decode cX1_countFull 2 = .ok (.iconst 0, 1) := by decide +kernel
theorem dX1_countFull_3 : decode cX1_countFull 3 = .ok (.istore_n 2, 1) := by decide +kernel
theorem dX1_countFull_4 : decode cX1_countFull 4 = .ok (.iload_n 2, 1) := by decide +kernel
theorem dX1_countFull_5 : decode cX1_countFull 5 = .ok (.aload_n 0, 1) := by decide +kernel
theorem dX1_countFull_6 : decode cX1_countFull 6 = .ok (.invokevirtual 58, 3) := by decide +kernel
theorem dX1_countFull_9 : decode cX1_countFull 9 = .ok (.if_icmp .ge 27, 3) := by decide +kernel
theorem dX1_countFull_12 : decode cX1_countFull 12 = .ok (.iload_n 1, 1) := by decide +kernel
theorem dX1_countFull_13 : decode cX1_countFull 13 = .ok (.aload_n 0, 1) := by decide +kernel
theorem dX1_countFull_14 : decode cX1_countFull 14 = .ok (.getfield 46, 3) := by decide +kernel
theorem dX1_countFull_17 : decode cX1_countFull 17 = .ok (.iload_n 2, 1) := by decide +kernel
theorem dX1_countFull_18 : decode cX1_countFull 18 = .ok (.iaload, 1) := by decide +kernel
theorem dX1_countFull_19 : decode cX1_countFull 19 = .ok (.iconst 2, 1) := by decide +kernel
theorem dX1_countFull_20 : decode cX1_countFull 20 = .ok (.if_icmp .ne 7, 3) := by decide +kernel
theorem dX1_countFull_23 : decode cX1_countFull 23 = .ok (.iconst 1, 1) := by decide +kernel
theorem dX1_countFull_24 : decode cX1_countFull 24 = .ok (.goto 4, 3) := by decide +kernel
theorem dX1_countFull_27 : decode cX1_countFull 27 = .ok (.iconst 0, 1) := by decide +kernel
theorem dX1_countFull_28 : decode cX1_countFull 28 = .ok (.iadd, 1) := by decide +kernel
theorem dX1_countFull_29 : decode cX1_countFull 29 = .ok (.istore_n 1, 1) := by decide +kernel
theorem dX1_countFull_30 : decode cX1_countFull 30 = .ok (.iinc 2 1, 3) := by decide +kernel
theorem dX1_countFull_33 : decode cX1_countFull 33 = .ok (.goto (-29), 3) := by decide +kernel
theorem dX1_countFull_36 : decode cX1_countFull 36 = .ok (.iload_n 1, 1) := by decide +kernel
theorem dX1_countFull_37 : decode cX1_countFull 37 = .ok (.ireturn, 1) := by decide +kernel
theorem dX1_countRoutesInTree_0 : decode cX1_countRoutesInTree 0 = .ok (.iconst 0, 1) := by decide +kernel
theorem dX1_countRoutesInTree_1 : decode cX1_countRoutesInTree 1 = .ok (.istore_n 1, 1) := by decide +kernel
theorem dX1_countRoutesInTree_2 : decode cX1_countRoutesInTree 2 = .ok (.iconst 0, 1) := by decide +kernel
theorem dX1_countRoutesInTree_3 : decode cX1_countRoutesInTree 3 = .ok (.istore_n 2, 1) := by decide +kernel
theorem dX1_countRoutesInTree_4 : decode cX1_countRoutesInTree 4 = .ok (.iload_n 2, 1) := by decide +kernel
theorem dX1_countRoutesInTree_5 : decode cX1_countRoutesInTree 5 = .ok (.aload_n 0, 1) := by decide +kernel
theorem dX1_countRoutesInTree_6 : decode cX1_countRoutesInTree 6 = .ok (.getfield 15, 3) := by decide +kernel
theorem dX1_countRoutesInTree_9 : decode cX1_countRoutesInTree 9 = .ok (.if_icmp .ge 26, 3) := by decide +kernel
theorem dX1_countRoutesInTree_12 : decode cX1_countRoutesInTree 12 = .ok (.iload_n 1, 1) := by decide +kernel
theorem dX1_countRoutesInTree_13 : decode cX1_countRoutesInTree 13 = .ok (.aload_n 0, 1) := by decide +kernel
theorem dX1_countRoutesInTree_14 : decode cX1_countRoutesInTree 14 = .ok (.getfield 46, 3) := by decide +kernel
theorem dX1_countRoutesInTree_17 : decode cX1_countRoutesInTree 17 = .ok (.iload_n 2, 1) := by decide +kernel
theorem dX1_countRoutesInTree_18 : decode cX1_countRoutesInTree 18 = .ok (.iaload, 1) := by decide +kernel
theorem dX1_countRoutesInTree_19 : decode cX1_countRoutesInTree 19 = .ok (.ifCond .ne 7, 3) := by decide +kernel
theorem dX1_countRoutesInTree_22 : decode cX1_countRoutesInTree 22 = .ok (.iconst 1, 1) := by decide +kernel
theorem dX1_countRoutesInTree_23 : decode cX1_countRoutesInTree 23 = .ok (.goto 4, 3) := by decide +kernel
theorem dX1_countRoutesInTree_26 : decode cX1_countRoutesInTree 26 = .ok (.iconst 0, 1) := by decide +kernel
theorem dX1_countRoutesInTree_27 : decode cX1_countRoutesInTree 27 = .ok (.iadd, 1) := by decide +kernel
theorem dX1_countRoutesInTree_28 : decode cX1_countRoutesInTree 28 = .ok (.istore_n 1, 1) := by decide +kernel
theorem dX1_countRoutesInTree_29 : decode cX1_countRoutesInTree 29 = .ok (.iinc 2 1, 3) := by decide +kernel
theorem dX1_countRoutesInTree_32 : decode cX1_countRoutesInTree 32 = .ok (.goto (-28), 3) := by decide +kernel
theorem dX1_countRoutesInTree_35 : decode cX1_countRoutesInTree 35 = .ok (.iload_n 1, 1) := by decide +kernel
theorem dX1_countRoutesInTree_36 : decode cX1_countRoutesInTree 36 = .ok (.ireturn, 1) := by decide +kernel
theorem dX1_countLogged_0 : decode cX1_countLogged 0 = .ok (.aload_n 0, 1) := by decide +kernel
theorem dX1_countLogged_1 : decode cX1_countLogged 1 = .ok (.getfield 24, 3) := by decide +kernel
theorem dX1_countLogged_4 : decode cX1_countLogged 4 = .ok (.bipush 16, 2) := by decide +kernel
theorem dX1_countLogged_6 : decode cX1_countLogged 6 = .ok (.invokestatic 74, 3) := by decide +kernel
theorem dX1_countLogged_9 : decode cX1_countLogged 9 = .ok (.ireturn, 1) := by decide +kernel
theorem dX1_readLog_0 : decode cX1_readLog 0 = .ok (.aload_n 0, 1) := by decide +kernel
theorem dX1_readLog_1 : decode cX1_readLog 1 = .ok (.getfield 49, 3) := by decide +kernel
theorem dX1_readLog_4 : decode cX1_readLog 4 = .ok (.aload_n 0, 1) := by decide +kernel
theorem dX1_readLog_5 : decode cX1_readLog 5 = .ok (.getfield 24, 3) := by decide +kernel
theorem dX1_readLog_8 : decode cX1_readLog 8 = .ok (.iconst 1, 1) := by decide +kernel
theorem dX1_readLog_9 : decode cX1_readLog 9 = .ok (.isub, 1) := by decide +kernel
theorem dX1_readLog_10 : decode cX1_readLog 10 = .ok (.iload_n 1, 1) := by decide +kernel
theorem dX1_readLog_11 : decode cX1_readLog 11 = .ok (.isub, 1) := by decide +kernel
theorem dX1_readLog_12 : decode cX1_readLog 12 = .ok (.bipush 16, 2) := by decide +kernel
theorem dX1_readLog_14 : decode cX1_readLog 14 = .ok (.invokestatic 80, 3) := by decide +kernel
theorem dX1_readLog_17 : decode cX1_readLog 17 = .ok (.iconst 5, 1) := by decide +kernel
theorem dX1_readLog_18 : decode cX1_readLog 18 = .ok (.imul, 1) := by decide +kernel
theorem dX1_readLog_19 : decode cX1_readLog 19 = .ok (.iload_n 2, 1) := by decide +kernel
theorem dX1_readLog_20 : decode cX1_readLog 20 = .ok (.iadd, 1) := by decide +kernel
theorem dX1_readLog_21 : decode cX1_readLog 21 = .ok (.iaload, 1) := by decide +kernel
theorem dX1_readLog_22 : decode cX1_readLog 22 = .ok (.ireturn, 1) := by decide +kernel
theorem dX1_writeLog_0 : decode cX1_writeLog 0 = .ok (.aload_n 0, 1) := by decide +kernel
theorem dX1_writeLog_1 : decode cX1_writeLog 1 = .ok (.getfield 24, 3) := by decide +kernel
theorem dX1_writeLog_4 : decode cX1_writeLog 4 = .ok (.bipush 16, 2) := by decide +kernel
theorem dX1_writeLog_6 : decode cX1_writeLog 6 = .ok (.invokestatic 80, 3) := by decide +kernel
theorem dX1_writeLog_9 : decode cX1_writeLog 9 = .ok (.iconst 5, 1) := by decide +kernel
theorem dX1_writeLog_10 : decode cX1_writeLog 10 = .ok (.imul, 1) := by decide +kernel
theorem dX1_writeLog_11 : decode cX1_writeLog 11 = .ok (.istore 4, 2) := by decide +kernel
theorem dX1_writeLog_13 : decode cX1_writeLog 13 = .ok (.aload_n 0, 1) := by decide +kernel
theorem dX1_writeLog_14 : decode cX1_writeLog 14 = .ok (.getfield 49, 3) := by decide +kernel
theorem dX1_writeLog_17 : decode cX1_writeLog 17 = .ok (.iload 4, 2) := by decide +kernel
theorem dX1_writeLog_19 : decode cX1_writeLog 19 = .ok (.iload_n 1, 1) := by decide +kernel
theorem dX1_writeLog_20 : decode cX1_writeLog 20 = .ok (.iastore, 1) := by decide +kernel
theorem dX1_writeLog_21 : decode cX1_writeLog 21 = .ok (.aload_n 0, 1) := by decide +kernel
theorem dX1_writeLog_22 : decode cX1_writeLog 22 = .ok (.getfield 49, 3) := by decide +kernel
theorem dX1_writeLog_25 : decode cX1_writeLog 25 = .ok (.iload 4, 2) := by decide +kernel
theorem dX1_writeLog_27 : decode cX1_writeLog 27 = .ok (.iconst 1, 1) := by decide +kernel
theorem dX1_writeLog_28 : decode cX1_writeLog 28 = .ok (.iadd, 1) := by decide +kernel
theorem dX1_writeLog_29 : decode cX1_writeLog 29 = .ok (.aload_n 2, 1) := by decide +kernel
theorem dX1_writeLog_30 : decode cX1_writeLog 30 = .ok (.invokevirtual 83, 3) := by decide +kernel
theorem dX1_writeLog_33 : decode cX1_writeLog 33 = .ok (.iastore, 1) := by decide +kernel
theorem dX1_writeLog_34 : decode cX1_writeLog 34 = .ok (.aload_n 0, 1) := by decide +kernel
theorem dX1_writeLog_35 : decode cX1_writeLog 35 = .ok (.getfield 49, 3) := by decide +kernel
theorem dX1_writeLog_38 : decode cX1_writeLog 38 = .ok (.iload 4, 2) := by decide +kernel
theorem dX1_writeLog_40 : decode cX1_writeLog 40 = .ok (.iconst 2, 1) := by decide +kernel
theorem dX1_writeLog_41 : decode cX1_writeLog 41 = .ok (.iadd, 1) := by decide +kernel
theorem dX1_writeLog_42 : decode cX1_writeLog 42 = .ok (.aload_n 2, 1) := by decide +kernel
theorem dX1_writeLog_43 : decode cX1_writeLog 43 = .ok (.getfield 88, 3) := by decide +kernel
theorem dX1_writeLog_46 : decode cX1_writeLog 46 = .ok (.iastore, 1) := by decide +kernel
theorem dX1_writeLog_47 : decode cX1_writeLog 47 = .ok (.aload_n 0, 1) := by decide +kernel
theorem dX1_writeLog_48 : decode cX1_writeLog 48 = .ok (.getfield 49, 3) := by decide +kernel
theorem dX1_writeLog_51 : decode cX1_writeLog 51 = .ok (.iload 4, 2) := by decide +kernel
theorem dX1_writeLog_53 : decode cX1_writeLog 53 = .ok (.iconst 3, 1) := by decide +kernel
theorem dX1_writeLog_54 : decode cX1_writeLog 54 = .ok (.iadd, 1) := by decide +kernel
theorem dX1_writeLog_55 : decode cX1_writeLog 55 = .ok (.aload_n 2, 1) := by decide +kernel
theorem dX1_writeLog_56 : decode cX1_writeLog 56 = .ok (.getfield 91, 3) := by decide +kernel
theorem dX1_writeLog_59 : decode cX1_writeLog 59 = .ok (.iastore, 1) := by decide +kernel
theorem dX1_writeLog_60 : decode cX1_writeLog 60 = .ok (.aload_n 0, 1) := by decide +kernel
theorem dX1_writeLog_61 : decode cX1_writeLog 61 = .ok (.getfield 49, 3) := by decide +kernel
theorem dX1_writeLog_64 : decode cX1_writeLog 64 = .ok (.iload 4, 2) := by decide +kernel
theorem dX1_writeLog_66 : decode cX1_writeLog 66 = .ok (.iconst 4, 1) := by decide +kernel
theorem dX1_writeLog_67 : decode cX1_writeLog 67 = .ok (.iadd, 1) := by decide +kernel
theorem dX1_writeLog_68 : decode cX1_writeLog 68 = .ok (.iload_n 3, 1) := by decide +kernel
theorem dX1_writeLog_69 : decode cX1_writeLog 69 = .ok (.iastore, 1) := by decide +kernel
theorem dX1_writeLog_70 : decode cX1_writeLog 70 = .ok (.aload_n 0, 1) := by decide +kernel
theorem dX1_writeLog_71 : decode cX1_writeLog 71 = .ok (.dup, 1) := by decide +kernel
theorem dX1_writeLog_72 : decode cX1_writeLog 72 = .ok (.getfield 24, 3) := by decide +kernel
theorem dX1_writeLog_75 : decode cX1_writeLog 75 = .ok (.iconst 1, 1) := by decide +kernel
theorem dX1_writeLog_76 : decode cX1_writeLog 76 = .ok (.iadd, 1) := by decide +kernel
theorem dX1_writeLog_77 : decode cX1_writeLog 77 = .ok (.putfield 24, 3) := by decide +kernel
theorem dX1_writeLog_80 : decode cX1_writeLog 80 = .ok (.return_, 1) := by decide +kernel
theorem dX2_init_0 : decode cX2_init 0 = .ok (.aload_n 0, 1) := by decide +kernel
theorem dX2_init_1 : decode cX2_init 1 = .ok (.invokespecial 3, 3) := by decide +kernel
theorem dX2_init_4 : decode cX2_init 4 = .ok (.aload_n 0, 1) := by decide +kernel
theorem dX2_init_5 : decode cX2_init 5 = .ok (.new 9, 3) := by decide +kernel
theorem dX2_init_8 : decode cX2_init 8 = .ok (.dup, 1) := by decide +kernel
theorem dX2_init_9 : decode cX2_init 9 = .ok (.invokespecial 11, 3) := by decide +kernel
theorem dX2_init_12 : decode cX2_init 12 = .ok (.putfield 12, 3) := by decide +kernel
theorem dX2_init_15 : decode cX2_init 15 = .ok (.aload_n 0, 1) := by decide +kernel
theorem dX2_init_16 : decode cX2_init 16 = .ok (.bipush 16, 2) := by decide +kernel
theorem dX2_init_18 : decode cX2_init 18 = .ok (.newarray .long, 2) := by decide +kernel
theorem dX2_init_20 : decode cX2_init 20 = .ok (.putfield 18, 3) := by decide +kernel
theorem dX2_init_23 : decode cX2_init 23 = .ok (.aload_n 0, 1) := by decide +kernel
theorem dX2_init_24 : decode cX2_init 24 = .ok (.bipush 8, 2) := by decide +kernel
theorem dX2_init_26 : decode cX2_init 26 = .ok (.newarray .long, 2) := by decide +kernel
theorem dX2_init_28 : decode cX2_init 28 = .ok (.putfield 22, 3) := by decide +kernel
theorem dX2_init_31 : decode cX2_init 31 = .ok (.aload_n 0, 1) := by decide +kernel
theorem dX2_init_32 : decode cX2_init 32 = .ok (.iconst 0, 1) := by decide +kernel
theorem dX2_init_33 : decode cX2_init 33 = .ok (.putfield 25, 3) := by decide +kernel
theorem dX2_init_36 : decode cX2_init 36 = .ok (.aload_n 0, 1) := by decide +kernel
theorem dX2_init_37 : decode cX2_init 37 = .ok (.iconst (-1), 1) := by decide +kernel
theorem dX2_init_38 : decode cX2_init 38 = .ok (.putfield 29, 3) := by decide +kernel
theorem dX2_init_41 : decode cX2_init 41 = .ok (.aload_n 0, 1) := by decide +kernel
theorem dX2_init_42 : decode cX2_init 42 = .ok (.iconst 0, 1) := by decide +kernel
theorem dX2_init_43 : decode cX2_init 43 = .ok (.putfield 33, 3) := by decide +kernel
theorem dX2_init_46 : decode cX2_init 46 = .ok (.aload_n 0, 1) := by decide +kernel
theorem dX2_init_47 : decode cX2_init 47 = .ok (.iconst 0, 1) := by decide +kernel
theorem dX2_init_48 : decode cX2_init 48 = .ok (.putfield 36, 3) := by decide +kernel
theorem dX2_init_51 : decode cX2_init 51 = .ok (.aload_n 0, 1) := by decide +kernel
theorem dX2_init_52 : decode cX2_init 52 = .ok (.iconst 3, 1) := by decide +kernel
theorem dX2_init_53 : decode cX2_init 53 = .ok (.putfield 39, 3) := by decide +kernel
theorem dX2_init_56 : decode cX2_init 56 = .ok (.aload_n 0, 1) := by decide +kernel
theorem dX2_init_57 : decode cX2_init 57 = .ok (.iconst 0, 1) := by decide +kernel
theorem dX2_init_58 : decode cX2_init 58 = .ok (.putfield 42, 3) := by decide +kernel
theorem dX2_init_61 : decode cX2_init 61 = .ok (.aload_n 0, 1) := by decide +kernel
theorem dX2_init_62 : decode cX2_init 62 = .ok (.lconst 0, 1) := by decide +kernel
theorem dX2_init_63 : decode cX2_init 63 = .ok (.putfield 45, 3) := by decide +kernel
theorem dX2_init_66 : decode cX2_init 66 = .ok (.aload_n 0, 1) := by decide +kernel
theorem dX2_init_67 : decode cX2_init 67 = .ok (.iconst 0, 1) := by decide +kernel
theorem dX2_init_68 : decode cX2_init 68 = .ok (.newarray .byte, 2) := by decide +kernel
theorem dX2_init_70 : decode cX2_init 70 = .ok (.putfield 49, 3) := by decide +kernel
theorem dX2_init_73 : decode cX2_init 73 = .ok (.return_, 1) := by decide +kernel
theorem dX2_readText_0 : decode cX2_readText 0 = .ok (.aload_n 0, 1) := by decide +kernel
theorem dX2_readText_1 : decode cX2_readText 1 = .ok (.aload_n 1, 1) := by decide +kernel
theorem dX2_readText_2 : decode cX2_readText 2 = .ok (.putfield 49, 3) := by decide +kernel
theorem dX2_readText_5 : decode cX2_readText 5 = .ok (.aload_n 0, 1) := by decide +kernel
theorem dX2_readText_6 : decode cX2_readText 6 = .ok (.iload_n 2, 1) := by decide +kernel
theorem dX2_readText_7 : decode cX2_readText 7 = .ok (.aload_n 1, 1) := by decide +kernel
theorem dX2_readText_8 : decode cX2_readText 8 = .ok (.arraylength, 1) := by decide +kernel
theorem dX2_readText_9 : decode cX2_readText 9 = .ok (.invokestatic 53, 3) := by decide +kernel
theorem dX2_readText_12 : decode cX2_readText 12 = .ok (.putfield 36, 3) := by decide +kernel
theorem dX2_readText_15 : decode cX2_readText 15 = .ok (.aload_n 0, 1) := by decide +kernel
theorem dX2_readText_16 : decode cX2_readText 16 = .ok (.iconst 0, 1) := by decide +kernel
theorem dX2_readText_17 : decode cX2_readText 17 = .ok (.putfield 33, 3) := by decide +kernel
theorem dX2_readText_20 : decode cX2_readText 20 = .ok (.aload_n 0, 1) := by decide +kernel
theorem dX2_readText_21 : decode cX2_readText 21 = .ok (.iconst (-1), 1) := by decide +kernel
theorem dX2_readText_22 : decode cX2_readText 22 = .ok (.putfield 29, 3) := by decide +kernel
theorem dX2_readText_25 : decode cX2_readText 25 = .ok (.aload_n 0, 1) := by decide +kernel
theorem dX2_readText_26 : decode cX2_readText 26 = .ok (.iconst 0, 1) := by decide +kernel
theorem dX2_readText_27 : decode cX2_readText 27 = .ok (.putfield 25, 3) := by decide +kernel
theorem dX2_readText_30 : decode cX2_readText 30 = .ok (.aload_n 0, 1) := by decide +kernel
theorem dX2_readText_31 : decode cX2_readText 31 = .ok (.getfield 12, 3) := by decide +kernel
theorem dX2_readText_34 : decode cX2_readText 34 = .ok (.invokevirtual 59, 3) := by decide +kernel
theorem dX2_readText_37 : decode cX2_readText 37 = .ok (.aload_n 0, 1) := by decide +kernel
theorem dX2_readText_38 : decode cX2_readText 38 = .ok (.invokevirtual 62, 3) := by decide +kernel
theorem dX2_readText_41 : decode cX2_readText 41 = .ok (.iconst 0, 1) := by decide +kernel
theorem dX2_readText_42 : decode cX2_readText 42 = .ok (.istore_n 3, 1) := by decide +kernel
theorem dX2_readText_43 : decode cX2_readText 43 = .ok (.iload_n 3, 1) := by decide +kernel
theorem dX2_readText_44 : decode cX2_readText 44 = .ok (.aload_n 0, 1) := by decide +kernel
theorem dX2_readText_45 : decode cX2_readText 45 = .ok (.getfield 36, 3) := by decide +kernel
theorem dX2_readText_48 : decode cX2_readText 48 = .ok (.if_icmp .gt 29, 3) := by decide +kernel
theorem dX2_readText_51 : decode cX2_readText 51 = .ok (.aload_n 0, 1) := by decide +kernel
theorem dX2_readText_52 : decode cX2_readText 52 = .ok (.getfield 39, 3) := by decide +kernel
theorem dX2_readText_55 : decode cX2_readText 55 = .ok (.iconst 3, 1) := by decide +kernel
theorem dX2_readText_56 : decode cX2_readText 56 = .ok (.if_icmp .eq 21, 3) := by decide +kernel
theorem dX2_readText_59 : decode cX2_readText 59 = .ok (.aload_n 0, 1) := by decide +kernel
theorem dX2_readText_60 : decode cX2_readText 60 = .ok (.invokevirtual 65, 3) := by decide +kernel
theorem dX2_readText_63 : decode cX2_readText 63 = .ok (.ifCond .ne 8, 3) := by decide +kernel
theorem dX2_readText_66 : decode cX2_readText 66 = .ok (.aload_n 0, 1) := by decide +kernel
theorem dX2_readText_67 : decode cX2_readText 67 = .ok (.getfield 29, 3) := by decide +kernel
theorem dX2_readText_70 : decode cX2_readText 70 = .ok (.ireturn, 1) := by decide +kernel
theorem dX2_readText_71 : decode cX2_readText 71 = .ok (.iinc 3 1, 3) := by decide +kernel
theorem dX2_readText_74 : decode cX2_readText 74 = .ok (.goto (-31), 3) := by decide +kernel
theorem dX2_readText_77 : decode cX2_readText 77 = .ok (.iconst (-1), 1) := by decide +kernel
theorem dX2_readText_78 : decode cX2_readText 78 = .ok (.ireturn, 1) := by decide +kernel
theorem dX2_readLine_0 : decode cX2_readLine 0 = .ok (.aload_n 0, 1) := by decide +kernel
theorem dX2_readLine_1 : decode cX2_readLine 1 = .ok (.getfield 12, 3) := by decide +kernel
theorem dX2_readLine_4 : decode cX2_readLine 4 = .ok (.getfield 69, 3) := by decide +kernel
theorem dX2_readLine_7 : decode cX2_readLine 7 = .ok (.istore_n 1, 1) := by decide +kernel
theorem dX2_readLine_8 : decode cX2_readLine 8 = .ok (.aload_n 0, 1) := by decide +kernel
theorem dX2_readLine_9 : decode cX2_readLine 9 = .ok (.ldc2_w 72, 3) := by decide +kernel
theorem dX2_readLine_12 : decode cX2_readLine 12 = .ok (.invokevirtual 74, 3) := by decide +kernel
theorem dX2_readLine_15 : decode cX2_readLine 15 = .ok (.ifCond .eq 11, 3) := by decide +kernel
theorem dX2_readLine_18 : decode cX2_readLine 18 = .ok (.aload_n 0, 1) := by decide +kernel
theorem dX2_readLine_19 : decode cX2_readLine 19 = .ok (.invokevirtual 78, 3) := by decide +kernel
theorem dX2_readLine_22 : decode cX2_readLine 22 = .ok (.istore_n 2, 1) := by decide +kernel
theorem dX2_readLine_23 : decode cX2_readLine 23 = .ok (.goto 70, 3) := by decide +kernel
theorem dX2_readLine_26 : decode cX2_readLine 26 = .ok (.aload_n 0, 1) := by decide +kernel
theorem dX2_readLine_27 : decode cX2_readLine 27 = .ok (.ldc2_w 81, 3) := by decide +kernel
theorem dX2_readLine_30 : decode cX2_readLine 30 = .ok (.invokevirtual 74, 3) := by decide +kernel
theorem dX2_readLine_33 : decode cX2_readLine 33 = .ok (.ifCond .eq 36, 3) := by decide +kernel
theorem dX2_readLine_36 : decode cX2_readLine 36 = .ok (.aload_n 0, 1) := by decide +kernel
theorem dX2_readLine_37 : decode cX2_readLine 37 = .ok (.iload_n 1, 1) := by decide +kernel
theorem dX2_readLine_38 : decode cX2_readLine 38 = .ok (.invokevirtual 83, 3) := by decide +kernel
theorem dX2_readLine_41 : decode cX2_readLine 41 = .ok (.ifCond .eq 23, 3) := by decide +kernel
theorem dX2_readLine_44 : decode cX2_readLine 44 = .ok (.aload_n 0, 1) := by decide +kernel
theorem dX2_readLine_45 : decode cX2_readLine 45 = .ok (.iload_n 1, 1) := by decide +kernel
theorem dX2_readLine_46 : decode cX2_readLine 46 = .ok (.invokevirtual 87, 3) := by decide +kernel
theorem dX2_readLine_49 : decode cX2_readLine 49 = .ok (.ifCond .eq 15, 3) := by decide +kernel
theorem dX2_readLine_52 : decode cX2_readLine 52 = .ok (.aload_n 0, 1) := by decide +kernel
theorem dX2_readLine_53 : decode cX2_readLine 53 = .ok (.iload_n 1, 1) := by decide +kernel
theorem dX2_readLine_54 : decode cX2_readLine 54 = .ok (.invokevirtual 90, 3) := by decide +kernel
theorem dX2_readLine_57 : decode cX2_readLine 57 = .ok (.ifCond .eq 7, 3) := by decide +kernel
theorem dX2_readLine_60 : decode cX2_readLine 60 = .ok (.iconst 1, 1) := by decide +kernel
theorem dX2_readLine_61 : decode cX2_readLine 61 = .ok (.goto 4, 3) := by decide +kernel
theorem dX2_readLine_64 : decode cX2_readLine 64 = .ok (.iconst 0, 1) := by decide +kernel
theorem dX2_readLine_65 : decode cX2_readLine 65 = .ok (.istore_n 2, 1) := by decide +kernel
theorem dX2_readLine_66 : decode cX2_readLine 66 = .ok (.goto 27, 3) := by decide +kernel
theorem dX2_readLine_69 : decode cX2_readLine 69 = .ok (.aload_n 0, 1) := by decide +kernel
theorem dX2_readLine_70 : decode cX2_readLine 70 = .ok (.ldc2_w 93, 3) := by decide +kernel
theorem dX2_readLine_73 : decode cX2_readLine 73 = .ok (.invokevirtual 74, 3) := by decide +kernel
theorem dX2_readLine_76 : decode cX2_readLine 76 = .ok (.ifCond .eq 11, 3) := by decide +kernel
theorem dX2_readLine_79 : decode cX2_readLine 79 = .ok (.aload_n 0, 1) := by decide +kernel
theorem dX2_readLine_80 : decode cX2_readLine 80 = .ok (.invokevirtual 95, 3) := by decide +kernel
theorem dX2_readLine_83 : decode cX2_readLine 83 = .ok (.istore_n 2, 1) := by decide +kernel
theorem dX2_readLine_84 : decode cX2_readLine 84 = .ok (.goto 9, 3) := by decide +kernel
theorem dX2_readLine_87 : decode cX2_readLine 87 = .ok (.aload_n 0, 1) := by decide +kernel
theorem dX2_readLine_88 : decode cX2_readLine 88 = .ok (.iconst 1, 1) := by decide +kernel
theorem dX2_readLine_89 : decode cX2_readLine 89 = .ok (.invokevirtual 98, 3) := by decide +kernel
theorem dX2_readLine_92 : decode cX2_readLine 92 = .ok (.istore_n 2, 1) := by decide +kernel
theorem dX2_readLine_93 : decode cX2_readLine 93 = .ok (.iload_n 2, 1) := by decide +kernel
theorem dX2_readLine_94 : decode cX2_readLine 94 = .ok (.ifCond .eq 14, 3) := by decide +kernel
theorem dX2_readLine_97 : decode cX2_readLine 97 = .ok (.aload_n 0, 1) := by decide +kernel
theorem dX2_readLine_98 : decode cX2_readLine 98 = .ok (.invokevirtual 101, 3) := by decide +kernel
theorem dX2_readLine_101 : decode cX2_readLine 101 = .ok (.ifCond .eq 7, 3) := by decide +kernel
theorem dX2_readLine_104 : decode cX2_readLine 104 = .ok (.iconst 1, 1) := by decide +kernel
theorem dX2_readLine_105 : decode cX2_readLine 105 = .ok (.goto 4, 3) := by decide +kernel
theorem dX2_readLine_108 : decode cX2_readLine 108 = .ok (.iconst 0, 1) := by decide +kernel
theorem dX2_readLine_109 : decode cX2_readLine 109 = .ok (.ireturn, 1) := by decide +kernel
theorem dX2_readDock_0 : decode cX2_readDock 0 = .ok (.aload_n 0, 1) := by decide +kernel
theorem dX2_readDock_1 : decode cX2_readDock 1 = .ok (.getfield 12, 3) := by decide +kernel
theorem dX2_readDock_4 : decode cX2_readDock 4 = .ok (.getfield 104, 3) := by decide +kernel
theorem dX2_readDock_7 : decode cX2_readDock 7 = .ok (.bipush 8, 2) := by decide +kernel
theorem dX2_readDock_9 : decode cX2_readDock 9 = .ok (.if_icmp .lt 9, 3) := by decide +kernel
theorem dX2_readDock_12 : decode cX2_readDock 12 = .ok (.aload_n 0, 1) := by decide +kernel
theorem dX2_readDock_13 : decode cX2_readDock 13 = .ok (.iconst 5, 1) := by decide +kernel
theorem dX2_readDock_14 : decode cX2_readDock 14 = .ok (.invokevirtual 98, 3) := by decide +kernel
theorem dX2_readDock_17 : decode cX2_readDock 17 = .ok (.ireturn, 1) := by decide +kernel
theorem dX2_readDock_18 : decode cX2_readDock 18 = .ok (.aload_n 0, 1) := by decide +kernel
theorem dX2_readDock_19 : decode cX2_readDock 19 = .ok (.invokevirtual 62, 3) := by decide +kernel
theorem dX2_readDock_22 : decode cX2_readDock 22 = .ok (.aload_n 0, 1) := by decide +kernel
theorem dX2_readDock_23 : decode cX2_readDock 23 = .ok (.invokevirtual 107, 3) := by decide +kernel
theorem dX2_readDock_26 : decode cX2_readDock 26 = .ok (.ifCond .ne 5, 3) := by decide +kernel
theorem dX2_readDock_29 : decode cX2_readDock 29 = .ok (.iconst 0, 1) := by decide +kernel
theorem dX2_readDock_30 : decode cX2_readDock 30 = .ok (.ireturn, 1) := by decide +kernel
theorem dX2_readDock_31 : decode cX2_readDock 31 = .ok (.aload_n 0, 1) := by decide +kernel
theorem dX2_readDock_32 : decode cX2_readDock 32 = .ok (.getfield 12, 3) := by decide +kernel
theorem dX2_readDock_35 : decode cX2_readDock 35 = .ok (.getfield 104, 3) := by decide +kernel
theorem dX2_readDock_38 : decode cX2_readDock 38 = .ok (.istore_n 1, 1) := by decide +kernel
theorem dX2_readDock_39 : decode cX2_readDock 39 = .ok (.aload_n 0, 1) := by decide +kernel
theorem dX2_readDock_40 : decode cX2_readDock 40 = .ok (.getfield 22, 3) := by decide +kernel
theorem dX2_readDock_43 : decode cX2_readDock 43 = .ok (.iload_n 1, 1) := by decide +kernel
theorem dX2_readDock_44 : decode cX2_readDock 44 = .ok (.aload_n 0, 1) := by decide +kernel
theorem dX2_readDock_45 : decode cX2_readDock 45 = .ok (.getfield 45, 3) := by decide +kernel
theorem dX2_readDock_48 : decode cX2_readDock 48 = .ok (.lastore, 1) := by decide +kernel
theorem dX2_readDock_49 : decode cX2_readDock 49 = .ok (.aload_n 0, 1) := by decide +kernel
theorem dX2_readDock_50 : decode cX2_readDock 50 = .ok (.getfield 12, 3) := by decide +kernel
theorem dX2_readDock_53 : decode cX2_readDock 53 = .ok (.getfield 110, 3) := by decide +kernel
theorem dX2_readDock_56 : decode cX2_readDock 56 = .ok (.iload_n 1, 1) := by decide +kernel
theorem dX2_readDock_57 : decode cX2_readDock 57 = .ok (.iconst 0, 1) := by decide +kernel
theorem dX2_readDock_58 : decode cX2_readDock 58 = .ok (.iastore, 1) := by decide +kernel
theorem dX2_readDock_59 : decode cX2_readDock 59 = .ok (.aload_n 0, 1) := by decide +kernel
theorem dX2_readDock_60 : decode cX2_readDock 60 = .ok (.getfield 12, 3) := by decide +kernel
theorem dX2_readDock_63 : decode cX2_readDock 63 = .ok (.dup, 1) := by decide +kernel
theorem dX2_readDock_64 : decode cX2_readDock 64 = .ok (.getfield 104, 3) := by decide +kernel
theorem dX2_readDock_67 : decode cX2_readDock 67 = .ok (.iconst 1, 1) := by decide +kernel
theorem dX2_readDock_68 : decode cX2_readDock 68 = .ok (.iadd, 1) := by decide +kernel
theorem dX2_readDock_69 : decode cX2_readDock 69 = .ok (.putfield 104, 3) := by decide +kernel
theorem dX2_readDock_72 : decode cX2_readDock 72 = .ok (.aload_n 0, 1) := by decide +kernel
theorem dX2_readDock_73 : decode cX2_readDock 73 = .ok (.invokevirtual 62, 3) := by decide +kernel
theorem dX2_readDock_76 : decode cX2_readDock 76 = .ok (.aload_n 0, 1) := by decide +kernel
theorem dX2_readDock_77 : decode cX2_readDock 77 = .ok (.ldc2_w 114, 3) := by decide +kernel
theorem dX2_readDock_80 : decode cX2_readDock 80 = .ok (.invokevirtual 74, 3) := by decide +kernel
theorem dX2_readDock_83 : decode cX2_readDock 83 = .ok (.ifCond .ne 15, 3) := by decide +kernel
theorem dX2_readDock_86 : decode cX2_readDock 86 = .ok (.aload_n 0, 1) := by decide +kernel
theorem dX2_readDock_87 : decode cX2_readDock 87 = .ok (.ldc2_w 116, 3) := by decide +kernel
theorem dX2_readDock_90 : decode cX2_readDock 90 = .ok (.invokevirtual 74, 3) := by decide +kernel
theorem dX2_readDock_93 : decode cX2_readDock 93 = .ok (.ifCond .ne 5, 3) := by decide +kernel
theorem dX2_readDock_96 : decode cX2_readDock 96 = .ok (.iconst 1, 1) := by decide +kernel
theorem dX2_readDock_97 : decode cX2_readDock 97 = .ok (.ireturn, 1) := by decide +kernel
theorem dX2_readDock_98 : decode cX2_readDock 98 = .ok (.aload_n 0, 1) := by decide +kernel
theorem dX2_readDock_99 : decode cX2_readDock 99 = .ok (.ldc2_w 114, 3) := by decide +kernel
theorem dX2_readDock_102 : decode cX2_readDock 102 = .ok (.invokevirtual 74, 3) := by decide +kernel
theorem dX2_readDock_105 : decode cX2_readDock 105 = .ok (.ifCond .eq 7, 3) := by decide +kernel
theorem dX2_readDock_108 : decode cX2_readDock 108 = .ok (.iconst 1, 1) := by decide +kernel
theorem dX2_readDock_109 : decode cX2_readDock 109 = .ok (.goto 4, 3) := by decide +kernel
theorem dX2_readDock_112 : decode cX2_readDock 112 = .ok (.iconst (-1), 1) := by decide +kernel
theorem dX2_readDock_113 : decode cX2_readDock 113 = .ok (.istore_n 2, 1) := by decide +kernel
theorem dX2_readDock_114 : decode cX2_readDock 114 = .ok (.aload_n 0, 1) := by decide +kernel
theorem dX2_readDock_115 : decode cX2_readDock 115 = .ok (.invokevirtual 62, 3) := by decide +kernel
theorem dX2_readDock_118 : decode cX2_readDock 118 = .ok (.aload_n 0, 1) := by decide +kernel
theorem dX2_readDock_119 : decode cX2_readDock 119 = .ok (.iconst 0, 1) := by decide +kernel
theorem dX2_readDock_120 : decode cX2_readDock 120 = .ok (.sipush 999, 3) := by decide +kernel
theorem dX2_readDock_123 : decode cX2_readDock 123 = .ok (.invokevirtual 118, 3) := by decide +kernel
theorem dX2_readDock_126 : decode cX2_readDock 126 = .ok (.ifCond .ne 5, 3) := by decide +kernel
theorem dX2_readDock_129 : decode cX2_readDock 129 = .ok (.iconst 0, 1) := by decide +kernel
theorem dX2_readDock_130 : decode cX2_readDock 130 = .ok (.ireturn, 1) := by decide +kernel
theorem dX2_readDock_131 : decode cX2_readDock 131 = .ok (.aload_n 0, 1) := by decide +kernel
theorem dX2_readDock_132 : decode cX2_readDock 132 = .ok (.getfield 12, 3) := by decide +kernel
theorem dX2_readDock_135 : decode cX2_readDock 135 = .ok (.getfield 110, 3) := by decide +kernel
theorem dX2_readDock_138 : decode cX2_readDock 138 = .ok (.iload_n 1, 1) := by decide +kernel
theorem dX2_readDock_139 : decode cX2_readDock 139 = .ok (.iload_n 2, 1) := by decide +kernel
theorem dX2_readDock_140 : decode cX2_readDock 140 = .ok (.aload_n 0, 1) := by decide +kernel
theorem dX2_readDock_141 : decode cX2_readDock 141 = .ok (.getfield 45, 3) := by decide +kernel
theorem dX2_readDock_144 : decode cX2_readDock 144 = .ok (.l2i, 1) := by decide +kernel
theorem dX2_readDock_145 : decode cX2_readDock 145 = .ok (.imul, 1) := by decide +kernel
theorem dX2_readDock_146 : decode cX2_readDock 146 = .ok (.iastore, 1) := by decide +kernel
theorem dX2_readDock_147 : decode cX2_readDock 147 = .ok (.aload_n 0, 1) := by decide +kernel
theorem dX2_readDock_148 : decode cX2_readDock 148 = .ok (.invokevirtual 62, 3) := by decide +kernel
theorem dX2_readDock_151 : decode cX2_readDock 151 = .ok (.iconst 1, 1) := by decide +kernel
theorem dX2_readDock_152 : decode cX2_readDock 152 = .ok (.ireturn, 1) := by decide +kernel
theorem dX2_readRouteName_0 : decode cX2_readRouteName 0 = .ok (.iload_n 1, 1) := by decide +kernel
theorem dX2_readRouteName_1 : decode cX2_readRouteName 1 = .ok (.bipush 16, 2) := by decide +kernel
theorem dX2_readRouteName_3 : decode cX2_readRouteName 3 = .ok (.if_icmp .lt 9, 3) := by decide +kernel
theorem dX2_readRouteName_6 : decode cX2_readRouteName 6 = .ok (.aload_n 0, 1) := by decide +kernel
theorem dX2_readRouteName_7 : decode cX2_readRouteName 7 = .ok (.iconst 5, 1) := by decide +kernel
theorem dX2_readRouteName_8 : decode cX2_readRouteName 8 = .ok (.invokevirtual 98, 3) := by decide +kernel
theorem dX2_readRouteName_11 : decode cX2_readRouteName 11 = .ok (.ireturn, 1) := by decide +kernel
theorem dX2_readRouteName_12 : decode cX2_readRouteName 12 = .ok (.aload_n 0, 1) := by decide +kernel
theorem dX2_readRouteName_13 : decode cX2_readRouteName 13 = .ok (.invokevirtual 62, 3) := by decide +kernel
theorem dX2_readRouteName_16 : decode cX2_readRouteName 16 = .ok (.aload_n 0, 1) := by decide +kernel
theorem dX2_readRouteName_17 : decode cX2_readRouteName 17 = .ok (.invokevirtual 107, 3) := by decide +kernel
theorem dX2_readRouteName_20 : decode cX2_readRouteName 20 = .ok (.ifCond .ne 5, 3) := by decide +kernel
theorem dX2_readRouteName_23 : decode cX2_readRouteName 23 = .ok (.iconst 0, 1) := by decide +kernel
theorem dX2_readRouteName_24 : decode cX2_readRouteName 24 = .ok (.ireturn, 1) := by decide +kernel
theorem dX2_readRouteName_25 : decode cX2_readRouteName 25 = .ok (.aload_n 0, 1) := by decide +kernel
theorem dX2_readRouteName_26 : decode cX2_readRouteName 26 = .ok (.getfield 18, 3) := by decide +kernel
theorem dX2_readRouteName_29 : decode cX2_readRouteName 29 = .ok (.iload_n 1, 1) := by decide +kernel
theorem dX2_readRouteName_30 : decode cX2_readRouteName 30 = .ok (.aload_n 0, 1) := by decide +kernel
theorem dX2_readRouteName_31 : decode cX2_readRouteName 31 = .ok (.getfield 45, 3) := by decide +kernel
theorem dX2_readRouteName_34 : decode cX2_readRouteName 34 = .ok (.lastore, 1) := by decide +kernel
theorem dX2_readRouteName_35 : decode cX2_readRouteName 35 = .ok (.aload_n 0, 1) := by decide +kernel
theorem dX2_readRouteName_36 : decode cX2_readRouteName 36 = .ok (.getfield 12, 3) := by decide +kernel
theorem dX2_readRouteName_39 : decode cX2_readRouteName 39 = .ok (.dup, 1) := by decide +kernel
theorem dX2_readRouteName_40 : decode cX2_readRouteName 40 = .ok (.getfield 69, 3) := by decide +kernel
theorem dX2_readRouteName_43 : decode cX2_readRouteName 43 = .ok (.iconst 1, 1) := by decide +kernel
theorem dX2_readRouteName_44 : decode cX2_readRouteName 44 = .ok (.iadd, 1) := by decide +kernel
theorem dX2_readRouteName_45 : decode cX2_readRouteName 45 = .ok (.putfield 69, 3) := by decide +kernel
theorem dX2_readRouteName_48 : decode cX2_readRouteName 48 = .ok (.iconst 1, 1) := by decide +kernel
theorem dX2_readRouteName_49 : decode cX2_readRouteName 49 = .ok (.ireturn, 1) := by decide +kernel
theorem dX2_readEnds_0 : decode cX2_readEnds 0 = .ok (.aload_n 0, 1) := by decide +kernel
theorem dX2_readEnds_1 : decode cX2_readEnds 1 = .ok (.invokevirtual 62, 3) := by decide +kernel
theorem dX2_readEnds_4 : decode cX2_readEnds 4 = .ok (.aload_n 0, 1) := by decide +kernel
theorem dX2_readEnds_5 : decode cX2_readEnds 5 = .ok (.iconst (-1), 1) := by decide +kernel
theorem dX2_readEnds_6 : decode cX2_readEnds 6 = .ok (.invokevirtual 122, 3) := by decide +kernel
theorem dX2_readEnds_9 : decode cX2_readEnds 9 = .ok (.istore_n 2, 1) := by decide +kernel
theorem dX2_readEnds_10 : decode cX2_readEnds 10 = .ok (.iload_n 2, 1) := by decide +kernel
theorem dX2_readEnds_11 : decode cX2_readEnds 11 = .ok (.iconst (-1), 1) := by decide +kernel
theorem dX2_readEnds_12 : decode cX2_readEnds 12 = .ok (.if_icmp .ne 5, 3) := by decide +kernel
theorem dX2_readEnds_15 : decode cX2_readEnds 15 = .ok (.iconst 0, 1) := by decide +kernel
theorem dX2_readEnds_16 : decode cX2_readEnds 16 = .ok (.ireturn, 1) := by decide +kernel
theorem dX2_readEnds_17 : decode cX2_readEnds 17 = .ok (.aload_n 0, 1) := by decide +kernel
theorem dX2_readEnds_18 : decode cX2_readEnds 18 = .ok (.invokevirtual 62, 3) := by decide +kernel
theorem dX2_readEnds_21 : decode cX2_readEnds 21 = .ok (.aload_n 0, 1) := by decide +kernel
theorem dX2_readEnds_22 : decode cX2_readEnds 22 = .ok (.iload_n 2, 1) := by decide +kernel
theorem dX2_readEnds_23 : decode cX2_readEnds 23 = .ok (.invokevirtual 122, 3) := by decide +kernel
theorem dX2_readEnds_26 : decode cX2_readEnds 26 = .ok (.istore_n 3, 1) := by decide +kernel
theorem dX2_readEnds_27 : decode cX2_readEnds 27 = .ok (.iload_n 3, 1) := by decide +kernel
theorem dX2_readEnds_28 : decode cX2_readEnds 28 = .ok (.iconst (-1), 1) := by decide +kernel
theorem dX2_readEnds_29 : decode cX2_readEnds 29 = .ok (.if_icmp .ne 5, 3) := by decide +kernel
theorem dX2_readEnds_32 : decode cX2_readEnds 32 = .ok (.iconst 0, 1) := by decide +kernel
theorem dX2_readEnds_33 : decode cX2_readEnds 33 = .ok (.ireturn, 1) := by decide +kernel
theorem dX2_readEnds_34 : decode cX2_readEnds 34 = .ok (.aload_n 0, 1) := by decide +kernel
theorem dX2_readEnds_35 : decode cX2_readEnds 35 = .ok (.getfield 12, 3) := by decide +kernel
theorem dX2_readEnds_38 : decode cX2_readEnds 38 = .ok (.getfield 126, 3) := by decide +kernel
theorem dX2_readEnds_41 : decode cX2_readEnds 41 = .ok (.iload_n 1, 1) := by decide +kernel
theorem dX2_readEnds_42 : decode cX2_readEnds 42 = .ok (.iload_n 2, 1) := by decide +kernel
theorem dX2_readEnds_43 : decode cX2_readEnds 43 = .ok (.iastore, 1) := by decide +kernel
theorem dX2_readEnds_44 : decode cX2_readEnds 44 = .ok (.aload_n 0, 1) := by decide +kernel
theorem dX2_readEnds_45 : decode cX2_readEnds 45 = .ok (.getfield 12, 3) := by decide +kernel
theorem dX2_readEnds_48 : decode cX2_readEnds 48 = .ok (.getfield 129, 3) := by decide +kernel
theorem dX2_readEnds_51 : decode cX2_readEnds 51 = .ok (.iload_n 1, 1) := by decide +kernel
theorem dX2_readEnds_52 : decode cX2_readEnds 52 = .ok (.iload_n 3, 1) := by decide +kernel
theorem dX2_readEnds_53 : decode cX2_readEnds 53 = .ok (.iastore, 1) := by decide +kernel
theorem dX2_readEnds_54 : decode cX2_readEnds 54 = .ok (.aload_n 0, 1) := by decide +kernel
theorem dX2_readEnds_55 : decode cX2_readEnds 55 = .ok (.invokevirtual 62, 3) := by decide +kernel
theorem dX2_readEnds_58 : decode cX2_readEnds 58 = .ok (.iconst 1, 1) := by decide +kernel
theorem dX2_readEnds_59 : decode cX2_readEnds 59 = .ok (.ireturn, 1) := by decide +kernel
theorem dX2_readNumbers_0 : decode cX2_readNumbers 0 = .ok (.aload_n 0, 1) := by decide +kernel
theorem dX2_readNumbers_1 : decode cX2_readNumbers 1 = .ok (.ldc2_w 132, 3) := by decide +kernel
theorem dX2_readNumbers_4 : decode cX2_readNumbers 4 = .ok (.invokevirtual 134, 3) := by decide +kernel
theorem dX2_readNumbers_7 : decode cX2_readNumbers 7 = .ok (.ifCond .eq 14, 3) := by decide +kernel
theorem dX2_readNumbers_10 : decode cX2_readNumbers 10 = .ok (.aload_n 0, 1) := by decide +kernel
theorem dX2_readNumbers_11 : decode cX2_readNumbers 11 = .ok (.iconst 0, 1) := by decide +kernel
theorem dX2_readNumbers_12 : decode cX2_readNumbers 12 = .ok (.sipush 999, 3) := by decide +kernel
theorem dX2_readNumbers_15 : decode cX2_readNumbers 15 = .ok (.invokevirtual 118, 3) := by decide +kernel
theorem dX2_readNumbers_18 : decode cX2_readNumbers 18 = .ok (.ifCond .ne 5, 3) := by decide +kernel
theorem dX2_readNumbers_21 : decode cX2_readNumbers 21 = .ok (.iconst 0, 1) := by decide +kernel
theorem dX2_readNumbers_22 : decode cX2_readNumbers 22 = .ok (.ireturn, 1) := by decide +kernel
theorem dX2_readNumbers_23 : decode cX2_readNumbers 23 = .ok (.aload_n 0, 1) := by decide +kernel
theorem dX2_readNumbers_24 : decode cX2_readNumbers 24 = .ok (.getfield 12, 3) := by decide +kernel
theorem dX2_readNumbers_27 : decode cX2_readNumbers 27 = .ok (.getfield 137, 3) := by decide +kernel
theorem dX2_readNumbers_30 : decode cX2_readNumbers 30 = .ok (.iload_n 1, 1) := by decide +kernel
theorem dX2_readNumbers_31 : decode cX2_readNumbers 31 = .ok (.aload_n 0, 1) := by decide +kernel
theorem dX2_readNumbers_32 : decode cX2_readNumbers 32 = .ok (.getfield 45, 3) := by decide +kernel
theorem dX2_readNumbers_35 : decode cX2_readNumbers 35 = .ok (.l2i, 1) := by decide +kernel
theorem dX2_readNumbers_36 : decode cX2_readNumbers 36 = .ok (.iastore, 1) := by decide +kernel
theorem dX2_readNumbers_37 : decode cX2_readNumbers 37 = .ok (.aload_n 0, 1) := by decide +kernel
theorem dX2_readNumbers_38 : decode cX2_readNumbers 38 = .ok (.invokevirtual 62, 3) := by decide +kernel
theorem dX2_readNumbers_41 : decode cX2_readNumbers 41 = .ok (.aload_n 0, 1) := by decide +kernel
theorem dX2_readNumbers_42 : decode cX2_readNumbers 42 = .ok (.ldc2_w 140, 3) := by decide +kernel
theorem dX2_readNumbers_45 : decode cX2_readNumbers 45 = .ok (.invokevirtual 134, 3) := by decide +kernel
theorem dX2_readNumbers_48 : decode cX2_readNumbers 48 = .ok (.ifCond .eq 14, 3) := by decide +kernel
theorem dX2_readNumbers_51 : decode cX2_readNumbers 51 = .ok (.aload_n 0, 1) := by decide +kernel
theorem dX2_readNumbers_52 : decode cX2_readNumbers 52 = .ok (.iconst 1, 1) := by decide +kernel
theorem dX2_readNumbers_53 : decode cX2_readNumbers 53 = .ok (.sipush 999, 3) := by decide +kernel
theorem dX2_readNumbers_56 : decode cX2_readNumbers 56 = .ok (.invokevirtual 118, 3) := by decide +kernel
theorem dX2_readNumbers_59 : decode cX2_readNumbers 59 = .ok (.ifCond .ne 5, 3) := by decide +kernel
theorem dX2_readNumbers_62 : decode cX2_readNumbers 62 = .ok (.iconst 0, 1) := by decide +kernel
theorem dX2_readNumbers_63 : decode cX2_readNumbers 63 = .ok (.ireturn, 1) := by decide +kernel
theorem dX2_readNumbers_64 : decode cX2_readNumbers 64 = .ok (.aload_n 0, 1) := by decide +kernel
theorem dX2_readNumbers_65 : decode cX2_readNumbers 65 = .ok (.getfield 12, 3) := by decide +kernel
theorem dX2_readNumbers_68 : decode cX2_readNumbers 68 = .ok (.getfield 142, 3) := by decide +kernel
theorem dX2_readNumbers_71 : decode cX2_readNumbers 71 = .ok (.iload_n 1, 1) := by decide +kernel
theorem dX2_readNumbers_72 : decode cX2_readNumbers 72 = .ok (.aload_n 0, 1) := by decide +kernel
theorem dX2_readNumbers_73 : decode cX2_readNumbers 73 = .ok (.getfield 45, 3) := by decide +kernel
theorem dX2_readNumbers_76 : decode cX2_readNumbers 76 = .ok (.l2i, 1) := by decide +kernel
theorem dX2_readNumbers_77 : decode cX2_readNumbers 77 = .ok (.iastore, 1) := by decide +kernel
theorem dX2_readNumbers_78 : decode cX2_readNumbers 78 = .ok (.aload_n 0, 1) := by decide +kernel
theorem dX2_readNumbers_79 : decode cX2_readNumbers 79 = .ok (.invokevirtual 62, 3) := by decide +kernel
theorem dX2_readNumbers_82 : decode cX2_readNumbers 82 = .ok (.iconst 1, 1) := by decide +kernel
theorem dX2_readNumbers_83 : decode cX2_readNumbers 83 = .ok (.ireturn, 1) := by decide +kernel
theorem dX2_readBlock_0 : decode cX2_readBlock 0 = .ok (.aload_n 0, 1) := by decide +kernel
theorem dX2_readBlock_1 : decode cX2_readBlock 1 = .ok (.getfield 25, 3) := by decide +kernel
theorem dX2_readBlock_4 : decode cX2_readBlock 4 = .ok (.ifCond .eq 9, 3) := by decide +kernel
theorem dX2_readBlock_7 : decode cX2_readBlock 7 = .ok (.aload_n 0, 1) := by decide +kernel
theorem dX2_readBlock_8 : decode cX2_readBlock 8 = .ok (.iconst 2, 1) := by decide +kernel
theorem dX2_readBlock_9 : decode cX2_readBlock 9 = .ok (.invokevirtual 98, 3) := by decide +kernel
theorem dX2_readBlock_12 : decode cX2_readBlock 12 = .ok (.ireturn, 1) := by decide +kernel
theorem dX2_readBlock_13 : decode cX2_readBlock 13 = .ok (.aload_n 0, 1) := by decide +kernel
theorem dX2_readBlock_14 : decode cX2_readBlock 14 = .ok (.iconst 1, 1) := by decide +kernel
theorem dX2_readBlock_15 : decode cX2_readBlock 15 = .ok (.putfield 25, 3) := by decide +kernel
theorem dX2_readBlock_18 : decode cX2_readBlock 18 = .ok (.aload_n 0, 1) := by decide +kernel
theorem dX2_readBlock_19 : decode cX2_readBlock 19 = .ok (.invokevirtual 62, 3) := by decide +kernel
theorem dX2_readBlock_22 : decode cX2_readBlock 22 = .ok (.aload_n 0, 1) := by decide +kernel
theorem dX2_readBlock_23 : decode cX2_readBlock 23 = .ok (.iconst 1, 1) := by decide +kernel
theorem dX2_readBlock_24 : decode cX2_readBlock 24 = .ok (.bipush 24, 2) := by decide +kernel
theorem dX2_readBlock_26 : decode cX2_readBlock 26 = .ok (.invokevirtual 118, 3) := by decide +kernel
theorem dX2_readBlock_29 : decode cX2_readBlock 29 = .ok (.ifCond .ne 5, 3) := by decide +kernel
theorem dX2_readBlock_32 : decode cX2_readBlock 32 = .ok (.iconst 0, 1) := by decide +kernel
theorem dX2_readBlock_33 : decode cX2_readBlock 33 = .ok (.ireturn, 1) := by decide +kernel
theorem dX2_readBlock_34 : decode cX2_readBlock 34 = .ok (.aload_n 0, 1) := by decide +kernel
theorem dX2_readBlock_35 : decode cX2_readBlock 35 = .ok (.getfield 12, 3) := by decide +kernel
theorem dX2_readBlock_38 : decode cX2_readBlock 38 = .ok (.aload_n 0, 1) := by decide +kernel
theorem dX2_readBlock_39 : decode cX2_readBlock 39 = .ok (.getfield 45, 3) := by decide +kernel
theorem dX2_readBlock_42 : decode cX2_readBlock 42 = .ok (.l2i, 1) := by decide +kernel
theorem dX2_readBlock_43 : decode cX2_readBlock 43 = .ok (.putfield 145, 3) := by decide +kernel
theorem dX2_readBlock_46 : decode cX2_readBlock 46 = .ok (.aload_n 0, 1) := by decide +kernel
theorem dX2_readBlock_47 : decode cX2_readBlock 47 = .ok (.invokevirtual 62, 3) := by decide +kernel
theorem dX2_readBlock_50 : decode cX2_readBlock 50 = .ok (.iconst 1, 1) := by decide +kernel
theorem dX2_readBlock_51 : decode cX2_readBlock 51 = .ok (.ireturn, 1) := by decide +kernel
theorem dX2_passStop_0 : decode cX2_passStop 0 = .ok (.aload_n 0, 1) := by decide +kernel
theorem dX2_passStop_1 : decode cX2_passStop 1 = .ok (.getfield 39, 3) := by decide +kernel
theorem dX2_passStop_4 : decode cX2_passStop 4 = .ok (.iconst 2, 1) := by decide +kernel
theorem dX2_passStop_5 : decode cX2_passStop 5 = .ok (.if_icmp .eq 9, 3) := by decide +kernel
theorem dX2_passStop_8 : decode cX2_passStop 8 = .ok (.aload_n 0, 1) := by decide +kernel
theorem dX2_passStop_9 : decode cX2_passStop 9 = .ok (.iconst 1, 1) := by decide +kernel
theorem dX2_passStop_10 : decode cX2_passStop 10 = .ok (.invokevirtual 98, 3) := by decide +kernel
theorem dX2_passStop_13 : decode cX2_passStop 13 = .ok (.ireturn, 1) := by decide +kernel
theorem dX2_passStop_14 : decode cX2_passStop 14 = .ok (.aload_n 0, 1) := by decide +kernel
theorem dX2_passStop_15 : decode cX2_passStop 15 = .ok (.invokevirtual 62, 3) := by decide +kernel
theorem dX2_passStop_18 : decode cX2_passStop 18 = .ok (.iconst 1, 1) := by decide +kernel
theorem dX2_passStop_19 : decode cX2_passStop 19 = .ok (.ireturn, 1) := by decide +kernel
theorem dX2_passWord_0 : decode cX2_passWord 0 = .ok (.aload_n 0, 1) := by decide +kernel
theorem dX2_passWord_1 : decode cX2_passWord 1 = .ok (.lload_n 1, 1) := by decide +kernel
theorem dX2_passWord_2 : decode cX2_passWord 2 = .ok (.invokevirtual 74, 3) := by decide +kernel
theorem dX2_passWord_5 : decode cX2_passWord 5 = .ok (.ifCond .ne 9, 3) := by decide +kernel
theorem dX2_passWord_8 : decode cX2_passWord 8 = .ok (.aload_n 0, 1) := by decide +kernel
theorem dX2_passWord_9 : decode cX2_passWord 9 = .ok (.iconst 1, 1) := by decide +kernel
theorem dX2_passWord_10 : decode cX2_passWord 10 = .ok (.invokevirtual 98, 3) := by decide +kernel
theorem dX2_passWord_13 : decode cX2_passWord 13 = .ok (.ireturn, 1) := by decide +kernel
theorem dX2_passWord_14 : decode cX2_passWord 14 = .ok (.aload_n 0, 1) := by decide +kernel
theorem dX2_passWord_15 : decode cX2_passWord 15 = .ok (.invokevirtual 62, 3) := by decide +kernel
theorem dX2_passWord_18 : decode cX2_passWord 18 = .ok (.iconst 1, 1) := by decide +kernel
theorem dX2_passWord_19 : decode cX2_passWord 19 = .ok (.ireturn, 1) := by decide +kernel
theorem dX2_isWord_0 : decode cX2_isWord 0 = .ok (.aload_n 0, 1) := by decide +kernel
theorem dX2_isWord_1 : decode cX2_isWord 1 = .ok (.getfield 39, 3) := by decide +kernel
theorem dX2_isWord_4 : decode cX2_isWord 4 = .ok (.ifCond .ne 16, 3) := by decide +kernel
theorem dX2_isWord_7 : decode cX2_isWord 7 = .ok (.aload_n 0, 1) := by decide +kernel
theorem dX2_isWord_8 : decode cX2_isWord 8 = .ok (.getfield 45, 3) := by decide +kernel
theorem dX2_isWord_11 : decode cX2_isWord 11 = .ok (.lload_n 1, 1) := by decide +kernel
theorem dX2_isWord_12 : decode cX2_isWord 12 = .ok (.lcmp, 1) := by decide +kernel
theorem dX2_isWord_13 : decode cX2_isWord 13 = .ok (.ifCond .ne 7, 3) := by decide +kernel
theorem dX2_isWord_16 : decode cX2_isWord 16 = .ok (.iconst 1, 1) := by decide +kernel
theorem dX2_isWord_17 : decode cX2_isWord 17 = .ok (.goto 4, 3) := by decide +kernel
theorem dX2_isWord_20 : decode cX2_isWord 20 = .ok (.iconst 0, 1) := by decide +kernel
theorem dX2_isWord_21 : decode cX2_isWord 21 = .ok (.ireturn, 1) := by decide +kernel
theorem dX2_isName_0 : decode cX2_isName 0 = .ok (.aload_n 0, 1) := by decide +kernel
theorem dX2_isName_1 : decode cX2_isName 1 = .ok (.getfield 39, 3) := by decide +kernel
theorem dX2_isName_4 : decode cX2_isName 4 = .ok (.ifCond .ne 84, 3) := by decide +kernel
theorem dX2_isName_7 : decode cX2_isName 7 = .ok (.aload_n 0, 1) := by decide +kernel
theorem dX2_isName_8 : decode cX2_isName 8 = .ok (.getfield 45, 3) := by decide +kernel
theorem dX2_isName_11 : decode cX2_isName 11 = .ok (.ldc2_w 72, 3) := by decide +kernel
theorem dX2_isName_14 : decode cX2_isName 14 = .ok (.lcmp, 1) := by decide +kernel
theorem dX2_isName_15 : decode cX2_isName 15 = .ok (.ifCond .eq 73, 3) := by decide +kernel
theorem dX2_isName_18 : decode cX2_isName 18 = .ok (.aload_n 0, 1) := by decide +kernel
theorem dX2_isName_19 : decode cX2_isName 19 = .ok (.getfield 45, 3) := by decide +kernel
theorem dX2_isName_22 : decode cX2_isName 22 = .ok (.ldc2_w 114, 3) := by decide +kernel
theorem dX2_isName_25 : decode cX2_isName 25 = .ok (.lcmp, 1) := by decide +kernel
theorem dX2_isName_26 : decode cX2_isName 26 = .ok (.ifCond .eq 62, 3) := by decide +kernel
theorem dX2_isName_29 : decode cX2_isName 29 = .ok (.aload_n 0, 1) := by decide +kernel
theorem dX2_isName_30 : decode cX2_isName 30 = .ok (.getfield 45, 3) := by decide +kernel
theorem dX2_isName_33 : decode cX2_isName 33 = .ok (.ldc2_w 116, 3) := by decide +kernel
theorem dX2_isName_36 : decode cX2_isName 36 = .ok (.lcmp, 1) := by decide +kernel
theorem dX2_isName_37 : decode cX2_isName 37 = .ok (.ifCond .eq 51, 3) := by decide +kernel
theorem dX2_isName_40 : decode cX2_isName 40 = .ok (.aload_n 0, 1) := by decide +kernel
theorem dX2_isName_41 : decode cX2_isName 41 = .ok (.getfield 45, 3) := by decide +kernel
theorem dX2_isName_44 : decode cX2_isName 44 = .ok (.ldc2_w 81, 3) := by decide +kernel
theorem dX2_isName_47 : decode cX2_isName 47 = .ok (.lcmp, 1) := by decide +kernel
theorem dX2_isName_48 : decode cX2_isName 48 = .ok (.ifCond .eq 40, 3) := by decide +kernel
theorem dX2_isName_51 : decode cX2_isName 51 = .ok (.aload_n 0, 1) := by decide +kernel
theorem dX2_isName_52 : decode cX2_isName 52 = .ok (.getfield 45, 3) := by decide +kernel
theorem dX2_isName_55 : decode cX2_isName 55 = .ok (.ldc2_w 132, 3) := by decide +kernel
theorem dX2_isName_58 : decode cX2_isName 58 = .ok (.lcmp, 1) := by decide +kernel
theorem dX2_isName_59 : decode cX2_isName 59 = .ok (.ifCond .eq 29, 3) := by decide +kernel
theorem dX2_isName_62 : decode cX2_isName 62 = .ok (.aload_n 0, 1) := by decide +kernel
theorem dX2_isName_63 : decode cX2_isName 63 = .ok (.getfield 45, 3) := by decide +kernel
theorem dX2_isName_66 : decode cX2_isName 66 = .ok (.ldc2_w 140, 3) := by decide +kernel
theorem dX2_isName_69 : decode cX2_isName 69 = .ok (.lcmp, 1) := by decide +kernel
theorem dX2_isName_70 : decode cX2_isName 70 = .ok (.ifCond .eq 18, 3) := by decide +kernel
theorem dX2_isName_73 : decode cX2_isName 73 = .ok (.aload_n 0, 1) := by decide +kernel
theorem dX2_isName_74 : decode cX2_isName 74 = .ok (.getfield 45, 3) := by decide +kernel
theorem dX2_isName_77 : decode cX2_isName 77 = .ok (.ldc2_w 93, 3) := by decide +kernel
theorem dX2_isName_80 : decode cX2_isName 80 = .ok (.lcmp, 1) := by decide +kernel
theorem dX2_isName_81 : decode cX2_isName 81 = .ok (.ifCond .eq 7, 3) := by decide +kernel
theorem dX2_isName_84 : decode cX2_isName 84 = .ok (.iconst 1, 1) := by decide +kernel
theorem dX2_isName_85 : decode cX2_isName 85 = .ok (.goto 4, 3) := by decide +kernel
theorem dX2_isName_88 : decode cX2_isName 88 = .ok (.iconst 0, 1) := by decide +kernel
theorem dX2_isName_89 : decode cX2_isName 89 = .ok (.ireturn, 1) := by decide +kernel
theorem dX2_isNewName_0 : decode cX2_isNewName 0 = .ok (.aload_n 0, 1) := by decide +kernel
theorem dX2_isNewName_1 : decode cX2_isNewName 1 = .ok (.invokevirtual 148, 3) := by decide +kernel
theorem dX2_isNewName_4 : decode cX2_isNewName 4 = .ok (.ifCond .ne 9, 3) := by decide +kernel
theorem dX2_isNewName_7 : decode cX2_isNewName 7 = .ok (.aload_n 0, 1) := by decide +kernel
theorem dX2_isNewName_8 : decode cX2_isNewName 8 = .ok (.iconst 1, 1) := by decide +kernel
theorem dX2_isNewName_9 : decode cX2_isNewName 9 = .ok (.invokevirtual 98, 3) := by decide +kernel
theorem dX2_isNewName_12 : decode cX2_isNewName 12 = .ok (.ireturn, 1) := by decide +kernel
theorem dX2_isNewName_13 : decode cX2_isNewName 13 = .ok (.aload_n 0, 1) := by decide +kernel
theorem dX2_isNewName_14 : decode cX2_isNewName 14 = .ok (.invokevirtual 151, 3) := by decide +kernel
theorem dX2_isNewName_17 : decode cX2_isNewName 17 = .ok (.iconst (-1), 1) := by decide +kernel
theorem dX2_isNewName_18 : decode cX2_isNewName 18 = .ok (.if_icmp .eq 9, 3) := by decide +kernel
theorem dX2_isNewName_21 : decode cX2_isNewName 21 = .ok (.aload_n 0, 1) := by decide +kernel
theorem dX2_isNewName_22 : decode cX2_isNewName 22 = .ok (.iconst 2, 1) := by decide +kernel
theorem dX2_isNewName_23 : decode cX2_isNewName 23 = .ok (.invokevirtual 98, 3) := by decide +kernel
theorem dX2_isNewName_26 : decode cX2_isNewName 26 = .ok (.ireturn, 1) := by decide +kernel
theorem dX2_isNewName_27 : decode cX2_isNewName 27 = .ok (.iconst 0, 1) := by decide +kernel
theorem dX2_isNewName_28 : decode cX2_isNewName 28 = .ok (.istore_n 1, 1) := by decide +kernel
theorem dX2_isNewName_29 : decode cX2_isNewName 29 = .ok (.iload_n 1, 1) := by decide +kernel
theorem dX2_isNewName_30 : decode cX2_isNewName 30 = .ok (.aload_n 0, 1) := by decide +kernel
theorem dX2_isNewName_31 : decode cX2_isNewName 31 = .ok (.getfield 12, 3) := by decide +kernel
theorem dX2_isNewName_34 : decode cX2_isNewName 34 = .ok (.getfield 69, 3) := by decide +kernel
theorem dX2_isNewName_37 : decode cX2_isNewName 37 = .ok (.if_icmp .ge 29, 3) := by decide +kernel
theorem dX2_isNewName_40 : decode cX2_isNewName 40 = .ok (.aload_n 0, 1) := by decide +kernel
theorem dX2_isNewName_41 : decode cX2_isNewName 41 = .ok (.getfield 18, 3) := by decide +kernel
theorem dX2_isNewName_44 : decode cX2_isNewName 44 = .ok (.iload_n 1, 1) := by decide +kernel
theorem dX2_isNewName_45 : decode cX2_isNewName 45 = .ok (.laload, 1) := by decide +kernel
theorem dX2_isNewName_46 : decode cX2_isNewName 46 = .ok (.aload_n 0, 1) := by decide +kernel
theorem dX2_isNewName_47 : decode cX2_isNewName 47 = .ok (.getfield 45, 3) := by decide +kernel
theorem dX2_isNewName_50 : decode cX2_isNewName 50 = .ok (.lcmp, 1) := by decide +kernel
theorem dX2_isNewName_51 : decode cX2_isNewName 51 = .ok (.ifCond .ne 9, 3) := by decide +kernel
theorem dX2_isNewName_54 : decode cX2_isNewName 54 = .ok (.aload_n 0, 1) := by decide +kernel
theorem dX2_isNewName_55 : decode cX2_isNewName 55 = .ok (.iconst 2, 1) := by decide +kernel
theorem dX2_isNewName_56 : decode cX2_isNewName 56 = .ok (.invokevirtual 98, 3) := by decide +kernel
theorem dX2_isNewName_59 : decode cX2_isNewName 59 = .ok (.ireturn, 1) := by decide +kernel
theorem dX2_isNewName_60 : decode cX2_isNewName 60 = .ok (.iinc 1 1, 3) := by decide +kernel
theorem dX2_isNewName_63 : decode cX2_isNewName 63 = .ok (.goto (-34), 3) := by decide +kernel
theorem dX2_isNewName_66 : decode cX2_isNewName 66 = .ok (.iconst 1, 1) := by decide +kernel
theorem dX2_isNewName_67 : decode cX2_isNewName 67 = .ok (.ireturn, 1) := by decide +kernel
theorem dX2_isNumber_0 : decode cX2_isNumber 0 = .ok (.aload_n 0, 1) := by decide +kernel
theorem dX2_isNumber_1 : decode cX2_isNumber 1 = .ok (.getfield 39, 3) := by decide +kernel
theorem dX2_isNumber_4 : decode cX2_isNumber 4 = .ok (.iconst 1, 1) := by decide +kernel
theorem dX2_isNumber_5 : decode cX2_isNumber 5 = .ok (.if_icmp .eq 9, 3) := by decide +kernel
theorem dX2_isNumber_8 : decode cX2_isNumber 8 = .ok (.aload_n 0, 1) := by decide +kernel
theorem dX2_isNumber_9 : decode cX2_isNumber 9 = .ok (.iconst 1, 1) := by decide +kernel
theorem dX2_isNumber_10 : decode cX2_isNumber 10 = .ok (.invokevirtual 98, 3) := by decide +kernel
theorem dX2_isNumber_13 : decode cX2_isNumber 13 = .ok (.ireturn, 1) := by decide +kernel
theorem dX2_isNumber_14 : decode cX2_isNumber 14 = .ok (.aload_n 0, 1) := by decide +kernel
theorem dX2_isNumber_15 : decode cX2_isNumber 15 = .ok (.getfield 45, 3) := by decide +kernel
theorem dX2_isNumber_18 : decode cX2_isNumber 18 = .ok (.iload_n 1, 1) := by decide +kernel
theorem dX2_isNumber_19 : decode cX2_isNumber 19 = .ok (.i2l, 1) := by decide +kernel
theorem dX2_isNumber_20 : decode cX2_isNumber 20 = .ok (.lcmp, 1) := by decide +kernel
theorem dX2_isNumber_21 : decode cX2_isNumber 21 = .ok (.ifCond .lt 13, 3) := by decide +kernel
theorem dX2_isNumber_24 : decode cX2_isNumber 24 = .ok (.aload_n 0, 1) := by decide +kernel
theorem dX2_isNumber_25 : decode cX2_isNumber 25 = .ok (.getfield 45, 3) := by decide +kernel
theorem dX2_isNumber_28 : decode cX2_isNumber 28 = .ok (.iload_n 2, 1) := by decide +kernel
theorem dX2_isNumber_29 : decode cX2_isNumber 29 = .ok (.i2l, 1) := by decide +kernel
theorem dX2_isNumber_30 : decode cX2_isNumber 30 = .ok (.lcmp, 1) := by decide +kernel
theorem dX2_isNumber_31 : decode cX2_isNumber 31 = .ok (.ifCond .le 11, 3) := by decide +kernel
theorem dX2_isNumber_34 : decode cX2_isNumber 34 = .ok (.aload_n 0, 1) := by decide +kernel
theorem dX2_isNumber_35 : decode cX2_isNumber 35 = .ok (.iconst 3, 1) := by decide +kernel
theorem dX2_isNumber_36 : decode cX2_isNumber 36 = .ok (.invokevirtual 98, 3) := by decide +kernel
theorem dX2_isNumber_39 : decode cX2_isNumber 39 = .ok (.ifCond .eq 7, 3) := by decide +kernel
theorem dX2_isNumber_42 : decode cX2_isNumber 42 = .ok (.iconst 1, 1) := by decide +kernel
theorem dX2_isNumber_43 : decode cX2_isNumber 43 = .ok (.goto 4, 3) := by decide +kernel
theorem dX2_isNumber_46 : decode cX2_isNumber 46 = .ok (.iconst 0, 1) := by decide +kernel
theorem dX2_isNumber_47 : decode cX2_isNumber 47 = .ok (.ireturn, 1) := by decide +kernel
theorem dX2_numberOfDock_0 : decode cX2_numberOfDock 0 = .ok (.iconst 0, 1) := by decide +kernel
theorem dX2_numberOfDock_1 : decode cX2_numberOfDock 1 = .ok (.istore_n 1, 1) := by decide +kernel
theorem dX2_numberOfDock_2 : decode cX2_numberOfDock 2 = .ok (.iload_n 1, 1) := by decide +kernel
theorem dX2_numberOfDock_3 : decode cX2_numberOfDock 3 = .ok (.aload_n 0, 1) := by decide +kernel
theorem dX2_numberOfDock_4 : decode cX2_numberOfDock 4 = .ok (.getfield 12, 3) := by decide +kernel
theorem dX2_numberOfDock_7 : decode cX2_numberOfDock 7 = .ok (.getfield 104, 3) := by decide +kernel
theorem dX2_numberOfDock_10 : decode cX2_numberOfDock 10 = .ok (.if_icmp .ge 25, 3) := by decide +kernel
theorem dX2_numberOfDock_13 : decode cX2_numberOfDock 13 = .ok (.aload_n 0, 1) := by decide +kernel
theorem dX2_numberOfDock_14 : decode cX2_numberOfDock 14 = .ok (.getfield 22, 3) := by decide +kernel
theorem dX2_numberOfDock_17 : decode cX2_numberOfDock 17 = .ok (.iload_n 1, 1) := by decide +kernel
theorem dX2_numberOfDock_18 : decode cX2_numberOfDock 18 = .ok (.laload, 1) := by decide +kernel
theorem dX2_numberOfDock_19 : decode cX2_numberOfDock 19 = .ok (.aload_n 0, 1) := by decide +kernel
theorem dX2_numberOfDock_20 : decode cX2_numberOfDock 20 = .ok (.getfield 45, 3) := by decide +kernel
theorem dX2_numberOfDock_23 : decode cX2_numberOfDock 23 = .ok (.lcmp, 1) := by decide +kernel
theorem dX2_numberOfDock_24 : decode cX2_numberOfDock 24 = .ok (.ifCond .ne 5, 3) := by decide +kernel
theorem dX2_numberOfDock_27 : decode cX2_numberOfDock 27 = .ok (.iload_n 1, 1) := by decide +kernel
theorem dX2_numberOfDock_28 : decode cX2_numberOfDock 28 = .ok (.ireturn, 1) := by decide +kernel
theorem dX2_numberOfDock_29 : decode cX2_numberOfDock 29 = .ok (.iinc 1 1, 3) := by decide +kernel
theorem dX2_numberOfDock_32 : decode cX2_numberOfDock 32 = .ok (.goto (-30), 3) := by decide +kernel
theorem dX2_numberOfDock_35 : decode cX2_numberOfDock 35 = .ok (.iconst (-1), 1) := by decide +kernel
theorem dX2_numberOfDock_36 : decode cX2_numberOfDock 36 = .ok (.ireturn, 1) := by decide +kernel
theorem dX2_findDock_0 : decode cX2_findDock 0 = .ok (.aload_n 0, 1) := by decide +kernel
theorem dX2_findDock_1 : decode cX2_findDock 1 = .ok (.invokevirtual 148, 3) := by decide +kernel
theorem dX2_findDock_4 : decode cX2_findDock 4 = .ok (.ifCond .eq 10, 3) := by decide +kernel
theorem dX2_findDock_7 : decode cX2_findDock 7 = .ok (.aload_n 0, 1) := by decide +kernel
theorem dX2_findDock_8 : decode cX2_findDock 8 = .ok (.invokevirtual 151, 3) := by decide +kernel
theorem dX2_findDock_11 : decode cX2_findDock 11 = .ok (.goto 4, 3) := by decide +kernel
theorem dX2_findDock_14 : decode cX2_findDock 14 = .ok (.iconst (-1), 1) := by decide +kernel
theorem dX2_findDock_15 : decode cX2_findDock 15 = .ok (.istore_n 2, 1) := by decide +kernel
theorem dX2_findDock_16 : decode cX2_findDock 16 = .ok (.iload_n 2, 1) := by decide +kernel
theorem dX2_findDock_17 : decode cX2_findDock 17 = .ok (.iconst (-1), 1) := by decide +kernel
theorem dX2_findDock_18 : decode cX2_findDock 18 = .ok (.if_icmp .eq 8, 3) := by decide +kernel
theorem dX2_findDock_21 : decode cX2_findDock 21 = .ok (.iload_n 2, 1) := by decide +kernel
theorem dX2_findDock_22 : decode cX2_findDock 22 = .ok (.iload_n 1, 1) := by decide +kernel
theorem dX2_findDock_23 : decode cX2_findDock 23 = .ok (.if_icmp .ne 22, 3) := by decide +kernel
theorem dX2_findDock_26 : decode cX2_findDock 26 = .ok (.aload_n 0, 1) := by decide +kernel
theorem dX2_findDock_27 : decode cX2_findDock 27 = .ok (.aload_n 0, 1) := by decide +kernel
theorem dX2_findDock_28 : decode cX2_findDock 28 = .ok (.invokevirtual 148, 3) := by decide +kernel
theorem dX2_findDock_31 : decode cX2_findDock 31 = .ok (.ifCond .eq 7, 3) := by decide +kernel
theorem dX2_findDock_34 : decode cX2_findDock 34 = .ok (.iconst 4, 1) := by decide +kernel
theorem dX2_findDock_35 : decode cX2_findDock 35 = .ok (.goto 4, 3) := by decide +kernel
theorem dX2_findDock_38 : decode cX2_findDock 38 = .ok (.iconst 1, 1) := by decide +kernel
theorem dX2_findDock_39 : decode cX2_findDock 39 = .ok (.invokevirtual 98, 3) := by decide +kernel
theorem dX2_findDock_42 : decode cX2_findDock 42 = .ok (.pop, 1) := by decide +kernel
theorem dX2_findDock_43 : decode cX2_findDock 43 = .ok (.iconst (-1), 1) := by decide +kernel
theorem dX2_findDock_44 : decode cX2_findDock 44 = .ok (.ireturn, 1) := by decide +kernel
theorem dX2_findDock_45 : decode cX2_findDock 45 = .ok (.iload_n 2, 1) := by decide +kernel
theorem dX2_findDock_46 : decode cX2_findDock 46 = .ok (.ireturn, 1) := by decide +kernel
theorem dX2_fails_0 : decode cX2_fails 0 = .ok (.aload_n 0, 1) := by decide +kernel
theorem dX2_fails_1 : decode cX2_fails 1 = .ok (.bipush 8, 2) := by decide +kernel
theorem dX2_fails_3 : decode cX2_fails 3 = .ok (.aload_n 0, 1) := by decide +kernel
theorem dX2_fails_4 : decode cX2_fails 4 = .ok (.getfield 42, 3) := by decide +kernel
theorem dX2_fails_7 : decode cX2_fails 7 = .ok (.imul, 1) := by decide +kernel
theorem dX2_fails_8 : decode cX2_fails 8 = .ok (.iload_n 1, 1) := by decide +kernel
theorem dX2_fails_9 : decode cX2_fails 9 = .ok (.iadd, 1) := by decide +kernel
theorem dX2_fails_10 : decode cX2_fails 10 = .ok (.putfield 29, 3) := by decide +kernel
theorem dX2_fails_13 : decode cX2_fails 13 = .ok (.iconst 0, 1) := by decide +kernel
theorem dX2_fails_14 : decode cX2_fails 14 = .ok (.ireturn, 1) := by decide +kernel
theorem dX2_readToken_0 : decode cX2_readToken 0 = .ok (.aload_n 0, 1) := by decide +kernel
theorem dX2_readToken_1 : decode cX2_readToken 1 = .ok (.getfield 33, 3) := by decide +kernel
theorem dX2_readToken_4 : decode cX2_readToken 4 = .ok (.aload_n 0, 1) := by decide +kernel
theorem dX2_readToken_5 : decode cX2_readToken 5 = .ok (.getfield 36, 3) := by decide +kernel
theorem dX2_readToken_8 : decode cX2_readToken 8 = .ok (.if_icmp .ge 44, 3) := by decide +kernel
theorem dX2_readToken_11 : decode cX2_readToken 11 = .ok (.aload_n 0, 1) := by decide +kernel
theorem dX2_readToken_12 : decode cX2_readToken 12 = .ok (.getfield 49, 3) := by decide +kernel
theorem dX2_readToken_15 : decode cX2_readToken 15 = .ok (.aload_n 0, 1) := by decide +kernel
theorem dX2_readToken_16 : decode cX2_readToken 16 = .ok (.getfield 33, 3) := by decide +kernel
theorem dX2_readToken_19 : decode cX2_readToken 19 = .ok (.baload, 1) := by decide +kernel
theorem dX2_readToken_20 : decode cX2_readToken 20 = .ok (.bipush 32, 2) := by decide +kernel
theorem dX2_readToken_22 : decode cX2_readToken 22 = .ok (.if_icmp .eq 17, 3) := by decide +kernel
theorem dX2_readToken_25 : decode cX2_readToken 25 = .ok (.aload_n 0, 1) := by decide +kernel
theorem dX2_readToken_26 : decode cX2_readToken 26 = .ok (.getfield 49, 3) := by decide +kernel
theorem dX2_readToken_29 : decode cX2_readToken 29 = .ok (.aload_n 0, 1) := by decide +kernel
theorem dX2_readToken_30 : decode cX2_readToken 30 = .ok (.getfield 33, 3) := by decide +kernel
theorem dX2_readToken_33 : decode cX2_readToken 33 = .ok (.baload, 1) := by decide +kernel
theorem dX2_readToken_34 : decode cX2_readToken 34 = .ok (.bipush 10, 2) := by decide +kernel
theorem dX2_readToken_36 : decode cX2_readToken 36 = .ok (.if_icmp .ne 16, 3) := by decide +kernel
theorem dX2_readToken_39 : decode cX2_readToken 39 = .ok (.aload_n 0, 1) := by decide +kernel
theorem dX2_readToken_40 : decode cX2_readToken 40 = .ok (.dup, 1) := by decide +kernel
theorem dX2_readToken_41 : decode cX2_readToken 41 = .ok (.getfield 33, 3) := by decide +kernel
theorem dX2_readToken_44 : decode cX2_readToken 44 = .ok (.iconst 1, 1) := by decide +kernel
theorem dX2_readToken_45 : decode cX2_readToken 45 = .ok (.iadd, 1) := by decide +kernel
theorem dX2_readToken_46 : decode cX2_readToken 46 = .ok (.putfield 33, 3) := by decide +kernel
theorem dX2_readToken_49 : decode cX2_readToken 49 = .ok (.goto (-49), 3) := by decide +kernel
theorem dX2_readToken_52 : decode cX2_readToken 52 = .ok (.aload_n 0, 1) := by decide +kernel
theorem dX2_readToken_53 : decode cX2_readToken 53 = .ok (.aload_n 0, 1) := by decide +kernel
theorem dX2_readToken_54 : decode cX2_readToken 54 = .ok (.getfield 33, 3) := by decide +kernel
theorem dX2_readToken_57 : decode cX2_readToken 57 = .ok (.putfield 42, 3) := by decide +kernel
theorem dX2_readToken_60 : decode cX2_readToken 60 = .ok (.aload_n 0, 1) := by decide +kernel
theorem dX2_readToken_61 : decode cX2_readToken 61 = .ok (.lconst 0, 1) := by decide +kernel
theorem dX2_readToken_62 : decode cX2_readToken 62 = .ok (.putfield 45, 3) := by decide +kernel
theorem dX2_readToken_65 : decode cX2_readToken 65 = .ok (.aload_n 0, 1) := by decide +kernel
theorem dX2_readToken_66 : decode cX2_readToken 66 = .ok (.aload_n 0, 1) := by decide +kernel
theorem dX2_readToken_67 : decode cX2_readToken 67 = .ok (.getfield 33, 3) := by decide +kernel
theorem dX2_readToken_70 : decode cX2_readToken 70 = .ok (.aload_n 0, 1) := by decide +kernel
theorem dX2_readToken_71 : decode cX2_readToken 71 = .ok (.getfield 36, 3) := by decide +kernel
theorem dX2_readToken_74 : decode cX2_readToken 74 = .ok (.if_icmp .ge 18, 3) := by decide +kernel
theorem dX2_readToken_77 : decode cX2_readToken 77 = .ok (.aload_n 0, 1) := by decide +kernel
theorem dX2_readToken_78 : decode cX2_readToken 78 = .ok (.getfield 49, 3) := by decide +kernel
theorem dX2_readToken_81 : decode cX2_readToken 81 = .ok (.aload_n 0, 1) := by decide +kernel
theorem dX2_readToken_82 : decode cX2_readToken 82 = .ok (.getfield 33, 3) := by decide +kernel
theorem dX2_readToken_85 : decode cX2_readToken 85 = .ok (.baload, 1) := by decide +kernel
theorem dX2_readToken_86 : decode cX2_readToken 86 = .ok (.invokestatic 155, 3) := by decide +kernel
theorem dX2_readToken_89 : decode cX2_readToken 89 = .ok (.goto 4, 3) := by decide +kernel
theorem dX2_readToken_92 : decode cX2_readToken 92 = .ok (.iconst 3, 1) := by decide +kernel
theorem dX2_readToken_93 : decode cX2_readToken 93 = .ok (.putfield 39, 3) := by decide +kernel
theorem dX2_readToken_96 : decode cX2_readToken 96 = .ok (.aload_n 0, 1) := by decide +kernel
theorem dX2_readToken_97 : decode cX2_readToken 97 = .ok (.getfield 39, 3) := by decide +kernel
theorem dX2_readToken_100 : decode cX2_readToken 100 = .ok (.iconst 2, 1) := by decide +kernel
theorem dX2_readToken_101 : decode cX2_readToken 101 = .ok (.if_icmp .eq 11, 3) := by decide +kernel
theorem dX2_readToken_104 : decode cX2_readToken 104 = .ok (.aload_n 0, 1) := by decide +kernel
theorem dX2_readToken_105 : decode cX2_readToken 105 = .ok (.getfield 39, 3) := by decide +kernel
theorem dX2_readToken_108 : decode cX2_readToken 108 = .ok (.iconst 4, 1) := by decide +kernel
theorem dX2_readToken_109 : decode cX2_readToken 109 = .ok (.if_icmp .ne 13, 3) := by decide +kernel
theorem dX2_readToken_112 : decode cX2_readToken 112 = .ok (.aload_n 0, 1) := by decide +kernel
theorem dX2_readToken_113 : decode cX2_readToken 113 = .ok (.dup, 1) := by decide +kernel
theorem dX2_readToken_114 : decode cX2_readToken 114 = .ok (.getfield 33, 3) := by decide +kernel
theorem dX2_readToken_117 : decode cX2_readToken 117 = .ok (.iconst 1, 1) := by decide +kernel
theorem dX2_readToken_118 : decode cX2_readToken 118 = .ok (.iadd, 1) := by decide +kernel
theorem dX2_readToken_119 : decode cX2_readToken 119 = .ok (.putfield 33, 3) := by decide +kernel
theorem dX2_readToken_122 : decode cX2_readToken 122 = .ok (.aload_n 0, 1) := by decide +kernel
theorem dX2_readToken_123 : decode cX2_readToken 123 = .ok (.getfield 33, 3) := by decide +kernel
theorem dX2_readToken_126 : decode cX2_readToken 126 = .ok (.aload_n 0, 1) := by decide +kernel
theorem dX2_readToken_127 : decode cX2_readToken 127 = .ok (.getfield 36, 3) := by decide +kernel
theorem dX2_readToken_130 : decode cX2_readToken 130 = .ok (.if_icmp .ge 105, 3) := by decide +kernel
theorem dX2_readToken_133 : decode cX2_readToken 133 = .ok (.aload_n 0, 1) := by decide +kernel
theorem dX2_readToken_134 : decode cX2_readToken 134 = .ok (.getfield 39, 3) := by decide +kernel
theorem dX2_readToken_137 : decode cX2_readToken 137 = .ok (.ifCond .eq 11, 3) := by decide +kernel
theorem dX2_readToken_140 : decode cX2_readToken 140 = .ok (.aload_n 0, 1) := by decide +kernel
theorem dX2_readToken_141 : decode cX2_readToken 141 = .ok (.getfield 39, 3) := by decide +kernel
theorem dX2_readToken_144 : decode cX2_readToken 144 = .ok (.iconst 1, 1) := by decide +kernel
theorem dX2_readToken_145 : decode cX2_readToken 145 = .ok (.if_icmp .ne 90, 3) := by decide +kernel
theorem dX2_readToken_148 : decode cX2_readToken 148 = .ok (.aload_n 0, 1) := by decide +kernel
theorem dX2_readToken_149 : decode cX2_readToken 149 = .ok (.getfield 49, 3) := by decide +kernel
theorem dX2_readToken_152 : decode cX2_readToken 152 = .ok (.aload_n 0, 1) := by decide +kernel
theorem dX2_readToken_153 : decode cX2_readToken 153 = .ok (.getfield 33, 3) := by decide +kernel
theorem dX2_readToken_156 : decode cX2_readToken 156 = .ok (.baload, 1) := by decide +kernel
theorem dX2_readToken_157 : decode cX2_readToken 157 = .ok (.invokestatic 155, 3) := by decide +kernel
theorem dX2_readToken_160 : decode cX2_readToken 160 = .ok (.aload_n 0, 1) := by decide +kernel
theorem dX2_readToken_161 : decode cX2_readToken 161 = .ok (.getfield 39, 3) := by decide +kernel
theorem dX2_readToken_164 : decode cX2_readToken 164 = .ok (.if_icmp .ne 71, 3) := by decide +kernel
theorem dX2_readToken_167 : decode cX2_readToken 167 = .ok (.aload_n 0, 1) := by decide +kernel
theorem dX2_readToken_168 : decode cX2_readToken 168 = .ok (.aload_n 0, 1) := by decide +kernel
theorem dX2_readToken_169 : decode cX2_readToken 169 = .ok (.getfield 39, 3) := by decide +kernel
theorem dX2_readToken_172 : decode cX2_readToken 172 = .ok (.ifCond .ne 24, 3) := by decide +kernel
theorem dX2_readToken_175 : decode cX2_readToken 175 = .ok (.aload_n 0, 1) := by decide +kernel
theorem dX2_readToken_176 : decode cX2_readToken 176 = .ok (.getfield 45, 3) := by decide +kernel
theorem dX2_readToken_179 : decode cX2_readToken 179 = .ok (.bipush 8, 2) := by decide +kernel
theorem dX2_readToken_181 : decode cX2_readToken 181 = .ok (.lshl, 1) := by decide +kernel
theorem dX2_readToken_182 : decode cX2_readToken 182 = .ok (.aload_n 0, 1) := by decide +kernel
theorem dX2_readToken_183 : decode cX2_readToken 183 = .ok (.getfield 49, 3) := by decide +kernel
theorem dX2_readToken_186 : decode cX2_readToken 186 = .ok (.aload_n 0, 1) := by decide +kernel
theorem dX2_readToken_187 : decode cX2_readToken 187 = .ok (.getfield 33, 3) := by decide +kernel
theorem dX2_readToken_190 : decode cX2_readToken 190 = .ok (.baload, 1) := by decide +kernel
theorem dX2_readToken_191 : decode cX2_readToken 191 = .ok (.i2l, 1) := by decide +kernel
theorem dX2_readToken_192 : decode cX2_readToken 192 = .ok (.lor, 1) := by decide +kernel
theorem dX2_readToken_193 : decode cX2_readToken 193 = .ok (.goto 26, 3) := by decide +kernel
theorem dX2_readToken_196 : decode cX2_readToken 196 = .ok (.aload_n 0, 1) := by decide +kernel
theorem dX2_readToken_197 : decode cX2_readToken 197 = .ok (.getfield 45, 3) := by decide +kernel
theorem dX2_readToken_200 : decode cX2_readToken 200 = .ok (.ldc2_w 159, 3) := by decide +kernel
theorem dX2_readToken_203 : decode cX2_readToken 203 = .ok (.lmul, 1) := by decide +kernel
theorem dX2_readToken_204 : decode cX2_readToken 204 = .ok (.aload_n 0, 1) := by decide +kernel
theorem dX2_readToken_205 : decode cX2_readToken 205 = .ok (.getfield 49, 3) := by decide +kernel
theorem dX2_readToken_208 : decode cX2_readToken 208 = .ok (.aload_n 0, 1) := by decide +kernel
theorem dX2_readToken_209 : decode cX2_readToken 209 = .ok (.getfield 33, 3) := by decide +kernel
theorem dX2_readToken_212 : decode cX2_readToken 212 = .ok (.baload, 1) := by decide +kernel
theorem dX2_readToken_213 : decode cX2_readToken 213 = .ok (.i2l, 1) := by decide +kernel
theorem dX2_readToken_214 : decode cX2_readToken 214 = .ok (.ladd, 1) := by decide +kernel
theorem dX2_readToken_215 : decode cX2_readToken 215 = .ok (.ldc2_w 161, 3) := by decide +kernel
theorem dX2_readToken_218 : decode cX2_readToken 218 = .ok (.lsub, 1) := by decide +kernel
theorem dX2_readToken_219 : decode cX2_readToken 219 = .ok (.putfield 45, 3) := by decide +kernel
theorem dX2_readToken_222 : decode cX2_readToken 222 = .ok (.aload_n 0, 1) := by decide +kernel
theorem dX2_readToken_223 : decode cX2_readToken 223 = .ok (.dup, 1) := by decide +kernel
theorem dX2_readToken_224 : decode cX2_readToken 224 = .ok (.getfield 33, 3) := by decide +kernel
theorem dX2_readToken_227 : decode cX2_readToken 227 = .ok (.iconst 1, 1) := by decide +kernel
theorem dX2_readToken_228 : decode cX2_readToken 228 = .ok (.iadd, 1) := by decide +kernel
theorem dX2_readToken_229 : decode cX2_readToken 229 = .ok (.putfield 33, 3) := by decide +kernel
theorem dX2_readToken_232 : decode cX2_readToken 232 = .ok (.goto (-110), 3) := by decide +kernel
theorem dX2_readToken_235 : decode cX2_readToken 235 = .ok (.aload_n 0, 1) := by decide +kernel
theorem dX2_readToken_236 : decode cX2_readToken 236 = .ok (.getfield 39, 3) := by decide +kernel
theorem dX2_readToken_239 : decode cX2_readToken 239 = .ok (.iconst 1, 1) := by decide +kernel
theorem dX2_readToken_240 : decode cX2_readToken 240 = .ok (.if_icmp .ne 7, 3) := by decide +kernel
theorem dX2_readToken_243 : decode cX2_readToken 243 = .ok (.iconst 4, 1) := by decide +kernel
theorem dX2_readToken_244 : decode cX2_readToken 244 = .ok (.goto 5, 3) := by decide +kernel
theorem dX2_readToken_247 : decode cX2_readToken 247 = .ok (.bipush 6, 2) := by decide +kernel
theorem dX2_readToken_249 : decode cX2_readToken 249 = .ok (.istore_n 1, 1) := by decide +kernel
theorem dX2_readToken_250 : decode cX2_readToken 250 = .ok (.aload_n 0, 1) := by decide +kernel
theorem dX2_readToken_251 : decode cX2_readToken 251 = .ok (.getfield 33, 3) := by decide +kernel
theorem dX2_readToken_254 : decode cX2_readToken 254 = .ok (.aload_n 0, 1) := by decide +kernel
theorem dX2_readToken_255 : decode cX2_readToken 255 = .ok (.getfield 42, 3) := by decide +kernel
theorem dX2_readToken_258 : decode cX2_readToken 258 = .ok (.isub, 1) := by decide +kernel
theorem dX2_readToken_259 : decode cX2_readToken 259 = .ok (.iload_n 1, 1) := by decide +kernel
theorem dX2_readToken_260 : decode cX2_readToken 260 = .ok (.if_icmp .le 8, 3) := by decide +kernel
theorem dX2_readToken_263 : decode cX2_readToken 263 = .ok (.aload_n 0, 1) := by decide +kernel
theorem dX2_readToken_264 : decode cX2_readToken 264 = .ok (.iconst 4, 1) := by decide +kernel
theorem dX2_readToken_265 : decode cX2_readToken 265 = .ok (.putfield 39, 3) := by decide +kernel
theorem dX2_readToken_268 : decode cX2_readToken 268 = .ok (.return_, 1) := by decide +kernel
theorem dX2_kindOf_0 : decode cX2_kindOf 0 = .ok (.iload_n 0, 1) := by decide +kernel
theorem dX2_kindOf_1 : decode cX2_kindOf 1 = .ok (.bipush 97, 2) := by decide +kernel
theorem dX2_kindOf_3 : decode cX2_kindOf 3 = .ok (.if_icmp .lt 11, 3) := by decide +kernel
theorem dX2_kindOf_6 : decode cX2_kindOf 6 = .ok (.iload_n 0, 1) := by decide +kernel
theorem dX2_kindOf_7 : decode cX2_kindOf 7 = .ok (.bipush 122, 2) := by decide +kernel
theorem dX2_kindOf_9 : decode cX2_kindOf 9 = .ok (.if_icmp .gt 5, 3) := by decide +kernel
theorem dX2_kindOf_12 : decode cX2_kindOf 12 = .ok (.iconst 0, 1) := by decide +kernel
theorem dX2_kindOf_13 : decode cX2_kindOf 13 = .ok (.ireturn, 1) := by decide +kernel
theorem dX2_kindOf_14 : decode cX2_kindOf 14 = .ok (.iload_n 0, 1) := by decide +kernel
theorem dX2_kindOf_15 : decode cX2_kindOf 15 = .ok (.bipush 48, 2) := by decide +kernel
theorem dX2_kindOf_17 : decode cX2_kindOf 17 = .ok (.if_icmp .lt 11, 3) := by decide +kernel
theorem dX2_kindOf_20 : decode cX2_kindOf 20 = .ok (.iload_n 0, 1) := by decide +kernel
theorem dX2_kindOf_21 : decode cX2_kindOf 21 = .ok (.bipush 57, 2) := by decide +kernel
theorem dX2_kindOf_23 : decode cX2_kindOf 23 = .ok (.if_icmp .gt 5, 3) := by decide +kernel
theorem dX2_kindOf_26 : decode cX2_kindOf 26 = .ok (.iconst 1, 1) := by decide +kernel
theorem dX2_kindOf_27 : decode cX2_kindOf 27 = .ok (.ireturn, 1) := by decide +kernel
theorem dX2_kindOf_28 : decode cX2_kindOf 28 = .ok (.iload_n 0, 1) := by decide +kernel
theorem dX2_kindOf_29 : decode cX2_kindOf 29 = .ok (.bipush 59, 2) := by decide +kernel
theorem dX2_kindOf_31 : decode cX2_kindOf 31 = .ok (.if_icmp .ne 7, 3) := by decide +kernel
theorem dX2_kindOf_34 : decode cX2_kindOf 34 = .ok (.iconst 2, 1) := by decide +kernel
theorem dX2_kindOf_35 : decode cX2_kindOf 35 = .ok (.goto 4, 3) := by decide +kernel
theorem dX2_kindOf_38 : decode cX2_kindOf 38 = .ok (.iconst 4, 1) := by decide +kernel
theorem dX2_kindOf_39 : decode cX2_kindOf 39 = .ok (.ireturn, 1) := by decide +kernel
theorem dX3_init_0 : decode cX3_init 0 = .ok (.aload_n 0, 1) := by decide +kernel
theorem dX3_init_1 : decode cX3_init 1 = .ok (.invokespecial 3, 3) := by decide +kernel
theorem dX3_init_4 : decode cX3_init 4 = .ok (.aload_n 0, 1) := by decide +kernel
theorem dX3_init_5 : decode cX3_init 5 = .ok (.iconst 0, 1) := by decide +kernel
theorem dX3_init_6 : decode cX3_init 6 = .ok (.putfield 9, 3) := by decide +kernel
theorem dX3_init_9 : decode cX3_init 9 = .ok (.aload_n 0, 1) := by decide +kernel
theorem dX3_init_10 : decode cX3_init 10 = .ok (.bipush 8, 2) := by decide +kernel
theorem dX3_init_12 : decode cX3_init 12 = .ok (.putfield 15, 3) := by decide +kernel
theorem dX3_init_15 : decode cX3_init 15 = .ok (.aload_n 0, 1) := by decide +kernel
theorem dX3_init_16 : decode cX3_init 16 = .ok (.iconst 0, 1) := by decide +kernel
theorem dX3_init_17 : decode cX3_init 17 = .ok (.putfield 18, 3) := by decide +kernel
theorem dX3_init_20 : decode cX3_init 20 = .ok (.aload_n 0, 1) := by decide +kernel
theorem dX3_init_21 : decode cX3_init 21 = .ok (.bipush 17, 2) := by decide +kernel
theorem dX3_init_23 : decode cX3_init 23 = .ok (.newarray .int, 2) := by decide +kernel
theorem dX3_init_25 : decode cX3_init 25 = .ok (.putfield 21, 3) := by decide +kernel
theorem dX3_init_28 : decode cX3_init 28 = .ok (.aload_n 0, 1) := by decide +kernel
theorem dX3_init_29 : decode cX3_init 29 = .ok (.bipush 17, 2) := by decide +kernel
theorem dX3_init_31 : decode cX3_init 31 = .ok (.newarray .boolean, 2) := by decide +kernel
theorem dX3_init_33 : decode cX3_init 33 = .ok (.putfield 25, 3) := by decide +kernel
theorem dX3_init_36 : decode cX3_init 36 = .ok (.aload_n 0, 1) := by decide +kernel
theorem dX3_init_37 : decode cX3_init 37 = .ok (.iconst 0, 1) := by decide +kernel
theorem dX3_init_38 : decode cX3_init 38 = .ok (.putfield 29, 3) := by decide +kernel
theorem dX3_init_41 : decode cX3_init 41 = .ok (.return_, 1) := by decide +kernel
theorem dX3_trace_0 : decode cX3_trace 0 = .ok (.aload_n 1, 1) := by decide +kernel
theorem dX3_trace_1 : decode cX3_trace 1 = .ok (.getfield 32, 3) := by decide +kernel
theorem dX3_trace_4 : decode cX3_trace 4 = .ok (.iload_n 3, 1) := by decide +kernel
theorem dX3_trace_5 : decode cX3_trace 5 = .ok (.iaload, 1) := by decide +kernel
theorem dX3_trace_6 : decode cX3_trace 6 = .ok (.iconst 2, 1) := by decide +kernel
theorem dX3_trace_7 : decode cX3_trace 7 = .ok (.if_icmp .eq 7, 3) := by decide +kernel
theorem dX3_trace_10 : decode cX3_trace 10 = .ok (.iconst 1, 1) := by decide +kernel
theorem dX3_trace_11 : decode cX3_trace 11 = .ok (.goto 4, 3) := by decide +kernel
theorem dX3_trace_14 : decode cX3_trace 14 = .ok (.iconst 0, 1) := by decide +kernel
theorem dX3_trace_15 : decode cX3_trace 15 = .ok (.istore 4, 2) := by decide +kernel
theorem dX3_trace_17 : decode cX3_trace 17 = .ok (.iload 4, 2) := by decide +kernel
theorem dX3_trace_19 : decode cX3_trace 19 = .ok (.ifCond .eq 12, 3) := by decide +kernel
theorem dX3_trace_22 : decode cX3_trace 22 = .ok (.aload_n 1, 1) := by decide +kernel
theorem dX3_trace_23 : decode cX3_trace 23 = .ok (.getfield 37, 3) := by decide +kernel
theorem dX3_trace_26 : decode cX3_trace 26 = .ok (.iload_n 3, 1) := by decide +kernel
theorem dX3_trace_27 : decode cX3_trace 27 = .ok (.iaload, 1) := by decide +kernel
theorem dX3_trace_28 : decode cX3_trace 28 = .ok (.goto 9, 3) := by decide +kernel
theorem dX3_trace_31 : decode cX3_trace 31 = .ok (.aload_n 1, 1) := by decide +kernel
theorem dX3_trace_32 : decode cX3_trace 32 = .ok (.getfield 40, 3) := by decide +kernel
theorem dX3_trace_35 : decode cX3_trace 35 = .ok (.iload_n 3, 1) := by decide +kernel
theorem dX3_trace_36 : decode cX3_trace 36 = .ok (.iaload, 1) := by decide +kernel
theorem dX3_trace_37 : decode cX3_trace 37 = .ok (.istore 5, 2) := by decide +kernel
theorem dX3_trace_39 : decode cX3_trace 39 = .ok (.iload 4, 2) := by decide +kernel
theorem dX3_trace_41 : decode cX3_trace 41 = .ok (.ifCond .eq 12, 3) := by decide +kernel
theorem dX3_trace_44 : decode cX3_trace 44 = .ok (.aload_n 1, 1) := by decide +kernel
theorem dX3_trace_45 : decode cX3_trace 45 = .ok (.getfield 40, 3) := by decide +kernel
theorem dX3_trace_48 : decode cX3_trace 48 = .ok (.iload_n 3, 1) := by decide +kernel
theorem dX3_trace_49 : decode cX3_trace 49 = .ok (.iaload, 1) := by decide +kernel
theorem dX3_trace_50 : decode cX3_trace 50 = .ok (.goto 9, 3) := by decide +kernel
theorem dX3_trace_53 : decode cX3_trace 53 = .ok (.aload_n 1, 1) := by decide +kernel
theorem dX3_trace_54 : decode cX3_trace 54 = .ok (.getfield 37, 3) := by decide +kernel
theorem dX3_trace_57 : decode cX3_trace 57 = .ok (.iload_n 3, 1) := by decide +kernel
theorem dX3_trace_58 : decode cX3_trace 58 = .ok (.iaload, 1) := by decide +kernel
theorem dX3_trace_59 : decode cX3_trace 59 = .ok (.istore 6, 2) := by decide +kernel
theorem dX3_trace_61 : decode cX3_trace 61 = .ok (.aload_n 0, 1) := by decide +kernel
theorem dX3_trace_62 : decode cX3_trace 62 = .ok (.aload_n 2, 1) := by decide +kernel
theorem dX3_trace_63 : decode cX3_trace 63 = .ok (.iload 5, 2) := by decide +kernel
theorem dX3_trace_65 : decode cX3_trace 65 = .ok (.iload 6, 2) := by decide +kernel
theorem dX3_trace_67 : decode cX3_trace 67 = .ok (.invokevirtual 43, 3) := by decide +kernel
theorem dX3_trace_70 : decode cX3_trace 70 = .ok (.putfield 15, 3) := by decide +kernel
theorem dX3_trace_73 : decode cX3_trace 73 = .ok (.iconst 0, 1) := by decide +kernel
theorem dX3_trace_74 : decode cX3_trace 74 = .ok (.aload_n 2, 1) := by decide +kernel
theorem dX3_trace_75 : decode cX3_trace 75 = .ok (.getfield 49, 3) := by decide +kernel
theorem dX3_trace_78 : decode cX3_trace 78 = .ok (.iload 5, 2) := by decide +kernel
theorem dX3_trace_80 : decode cX3_trace 80 = .ok (.iaload, 1) := by decide +kernel
theorem dX3_trace_81 : decode cX3_trace 81 = .ok (.aload_n 2, 1) := by decide +kernel
theorem dX3_trace_82 : decode cX3_trace 82 = .ok (.getfield 49, 3) := by decide +kernel
theorem dX3_trace_85 : decode cX3_trace 85 = .ok (.aload_n 0, 1) := by decide +kernel
theorem dX3_trace_86 : decode cX3_trace 86 = .ok (.getfield 15, 3) := by decide +kernel
theorem dX3_trace_89 : decode cX3_trace 89 = .ok (.iaload, 1) := by decide +kernel
theorem dX3_trace_90 : decode cX3_trace 90 = .ok (.isub, 1) := by decide +kernel
theorem dX3_trace_91 : decode cX3_trace 91 = .ok (.invokestatic 52, 3) := by decide +kernel
theorem dX3_trace_94 : decode cX3_trace 94 = .ok (.istore 7, 2) := by decide +kernel
theorem dX3_trace_96 : decode cX3_trace 96 = .ok (.aload_n 0, 1) := by decide +kernel
theorem dX3_trace_97 : decode cX3_trace 97 = .ok (.iconst 0, 1) := by decide +kernel
theorem dX3_trace_98 : decode cX3_trace 98 = .ok (.putfield 9, 3) := by decide +kernel
theorem dX3_trace_101 : decode cX3_trace 101 = .ok (.iload 5, 2) := by decide +kernel
theorem dX3_trace_103 : decode cX3_trace 103 = .ok (.istore 8, 2) := by decide +kernel
theorem dX3_trace_105 : decode cX3_trace 105 = .ok (.iload 7, 2) := by decide +kernel
theorem dX3_trace_107 : decode cX3_trace 107 = .ok (.iconst 1, 1) := by decide +kernel
theorem dX3_trace_108 : decode cX3_trace 108 = .ok (.isub, 1) := by decide +kernel
theorem dX3_trace_109 : decode cX3_trace 109 = .ok (.istore 9, 2) := by decide +kernel
theorem dX3_trace_111 : decode cX3_trace 111 = .ok (.iload 9, 2) := by decide +kernel
theorem dX3_trace_113 : decode cX3_trace 113 = .ok (.ifCond .lt 59, 3) := by decide +kernel
theorem dX3_trace_116 : decode cX3_trace 116 = .ok (.iload 8, 2) := by decide +kernel
theorem dX3_trace_118 : decode cX3_trace 118 = .ok (.bipush 8, 2) := by decide +kernel
theorem dX3_trace_120 : decode cX3_trace 120 = .ok (.if_icmp .eq 52, 3) := by decide +kernel
theorem dX3_trace_123 : decode cX3_trace 123 = .ok (.aload_n 2, 1) := by decide +kernel
theorem dX3_trace_124 : decode cX3_trace 124 = .ok (.getfield 57, 3) := by decide +kernel
theorem dX3_trace_127 : decode cX3_trace 127 = .ok (.iload 8, 2) := by decide +kernel
theorem dX3_trace_129 : decode cX3_trace 129 = .ok (.iaload, 1) := by decide +kernel
theorem dX3_trace_130 : decode cX3_trace 130 = .ok (.istore 10, 2) := by decide +kernel
theorem dX3_trace_132 : decode cX3_trace 132 = .ok (.aload_n 0, 1) := by decide +kernel
theorem dX3_trace_133 : decode cX3_trace 133 = .ok (.iload 9, 2) := by decide +kernel
theorem dX3_trace_135 : decode cX3_trace 135 = .ok (.iload 10, 2) := by decide +kernel
theorem dX3_trace_137 : decode cX3_trace 137 = .ok (.aload_n 1, 1) := by decide +kernel
theorem dX3_trace_138 : decode cX3_trace 138 = .ok (.getfield 40, 3) := by decide +kernel
theorem dX3_trace_141 : decode cX3_trace 141 = .ok (.iload 10, 2) := by decide +kernel
theorem dX3_trace_143 : decode cX3_trace 143 = .ok (.iaload, 1) := by decide +kernel
theorem dX3_trace_144 : decode cX3_trace 144 = .ok (.iload 8, 2) := by decide +kernel
theorem dX3_trace_146 : decode cX3_trace 146 = .ok (.if_icmp .ne 7, 3) := by decide +kernel
theorem dX3_trace_149 : decode cX3_trace 149 = .ok (.iconst 1, 1) := by decide +kernel
theorem dX3_trace_150 : decode cX3_trace 150 = .ok (.goto 4, 3) := by decide +kernel
theorem dX3_trace_153 : decode cX3_trace 153 = .ok (.iconst 0, 1) := by decide +kernel
theorem dX3_trace_154 : decode cX3_trace 154 = .ok (.invokevirtual 60, 3) := by decide +kernel
theorem dX3_trace_157 : decode cX3_trace 157 = .ok (.aload_n 2, 1) := by decide +kernel
theorem dX3_trace_158 : decode cX3_trace 158 = .ok (.getfield 64, 3) := by decide +kernel
theorem dX3_trace_161 : decode cX3_trace 161 = .ok (.iload 8, 2) := by decide +kernel
theorem dX3_trace_163 : decode cX3_trace 163 = .ok (.iaload, 1) := by decide +kernel
theorem dX3_trace_164 : decode cX3_trace 164 = .ok (.istore 8, 2) := by decide +kernel
theorem dX3_trace_166 : decode cX3_trace 166 = .ok (.iinc 9 (-1), 3) := by decide +kernel
theorem dX3_trace_169 : decode cX3_trace 169 = .ok (.goto (-58), 3) := by decide +kernel
theorem dX3_trace_172 : decode cX3_trace 172 = .ok (.aload_n 0, 1) := by decide +kernel
theorem dX3_trace_173 : decode cX3_trace 173 = .ok (.iload 7, 2) := by decide +kernel
theorem dX3_trace_175 : decode cX3_trace 175 = .ok (.iload_n 3, 1) := by decide +kernel
theorem dX3_trace_176 : decode cX3_trace 176 = .ok (.iload 4, 2) := by decide +kernel
theorem dX3_trace_178 : decode cX3_trace 178 = .ok (.invokevirtual 60, 3) := by decide +kernel
theorem dX3_trace_181 : decode cX3_trace 181 = .ok (.iload 6, 2) := by decide +kernel
theorem dX3_trace_183 : decode cX3_trace 183 = .ok (.istore 8, 2) := by decide +kernel
theorem dX3_trace_185 : decode cX3_trace 185 = .ok (.iload 7, 2) := by decide +kernel
theorem dX3_trace_187 : decode cX3_trace 187 = .ok (.iconst 1, 1) := by decide +kernel
theorem dX3_trace_188 : decode cX3_trace 188 = .ok (.iadd, 1) := by decide +kernel
theorem dX3_trace_189 : decode cX3_trace 189 = .ok (.istore 9, 2) := by decide +kernel
theorem dX3_trace_191 : decode cX3_trace 191 = .ok (.iload 9, 2) := by decide +kernel
theorem dX3_trace_193 : decode cX3_trace 193 = .ok (.bipush 17, 2) := by decide +kernel
theorem dX3_trace_195 : decode cX3_trace 195 = .ok (.if_icmp .ge 68, 3) := by decide +kernel
theorem dX3_trace_198 : decode cX3_trace 198 = .ok (.iload 8, 2) := by decide +kernel
theorem dX3_trace_200 : decode cX3_trace 200 = .ok (.aload_n 0, 1) := by decide +kernel
theorem dX3_trace_201 : decode cX3_trace 201 = .ok (.getfield 15, 3) := by decide +kernel
theorem dX3_trace_204 : decode cX3_trace 204 = .ok (.if_icmp .eq 59, 3) := by decide +kernel
theorem dX3_trace_207 : decode cX3_trace 207 = .ok (.iload 8, 2) := by decide +kernel
theorem dX3_trace_209 : decode cX3_trace 209 = .ok (.bipush 8, 2) := by decide +kernel
theorem dX3_trace_211 : decode cX3_trace 211 = .ok (.if_icmp .eq 52, 3) := by decide +kernel
theorem dX3_trace_214 : decode cX3_trace 214 = .ok (.aload_n 2, 1) := by decide +kernel
theorem dX3_trace_215 : decode cX3_trace 215 = .ok (.getfield 57, 3) := by decide +kernel
