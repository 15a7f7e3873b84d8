theorem dX9_number_15 : decode cX9_number 15 = .ok (.invokevirtual 169, 3) := by decide +kernel
theorem dX9_number_18 : decode cX9_number 18 = .ok (.ifCond .eq 23, 3) := by decide +kernel
theorem dX9_number_21 : decode cX9_number 21 = .ok (.aload_n 0, 1) := by decide +kernel
theorem dX9_number_22 : decode cX9_number 22 = .ok (.aload_n 0, 1) := by decide +kernel
theorem dX9_number_23 : decode cX9_number 23 = .ok (.getfield 109, 3) := by decide +kernel
theorem dX9_number_26 : decode cX9_number 26 = .ok (.i2l, 1) := by decide +kernel
theorem dX9_number_27 : decode cX9_number 27 = .ok (.iload_n 1, 1) := by decide +kernel
theorem dX9_number_28 : decode cX9_number 28 = .ok (.i2l, 1) := by decide +kernel
theorem dX9_number_29 : decode cX9_number 29 = .ok (.iload_n 2, 1) := by decide +kernel
theorem dX9_number_30 : decode cX9_number 30 = .ok (.i2l, 1) := by decide +kernel
theorem dX9_number_31 : decode cX9_number 31 = .ok (.invokestatic 120, 3) := by decide +kernel
theorem dX9_number_34 : decode cX9_number 34 = .ok (.iconst 3, 1) := by decide +kernel
theorem dX9_number_35 : decode cX9_number 35 = .ok (.invokevirtual 169, 3) := by decide +kernel
theorem dX9_number_38 : decode cX9_number 38 = .ok (.ifCond .ne 5, 3) := by decide +kernel
theorem dX9_number_41 : decode cX9_number 41 = .ok (.iload_n 1, 1) := by decide +kernel
theorem dX9_number_42 : decode cX9_number 42 = .ok (.ireturn, 1) := by decide +kernel
theorem dX9_number_43 : decode cX9_number 43 = .ok (.aload_n 0, 1) := by decide +kernel
theorem dX9_number_44 : decode cX9_number 44 = .ok (.getfield 109, 3) := by decide +kernel
theorem dX9_number_47 : decode cX9_number 47 = .ok (.istore_n 3, 1) := by decide +kernel
theorem dX9_number_48 : decode cX9_number 48 = .ok (.aload_n 0, 1) := by decide +kernel
theorem dX9_number_49 : decode cX9_number 49 = .ok (.invokevirtual 173, 3) := by decide +kernel
theorem dX9_number_52 : decode cX9_number 52 = .ok (.iload_n 3, 1) := by decide +kernel
theorem dX9_number_53 : decode cX9_number 53 = .ok (.ireturn, 1) := by decide +kernel
theorem dX9_behind_0 : decode cX9_behind 0 = .ok (.aload_n 0, 1) := by decide +kernel
theorem dX9_behind_1 : decode cX9_behind 1 = .ok (.aload_n 0, 1) := by decide +kernel
theorem dX9_behind_2 : decode cX9_behind 2 = .ok (.aload_n 1, 1) := by decide +kernel
theorem dX9_behind_3 : decode cX9_behind 3 = .ok (.invokevirtual 152, 3) := by decide +kernel
theorem dX9_behind_6 : decode cX9_behind 6 = .ok (.iconst 1, 1) := by decide +kernel
theorem dX9_behind_7 : decode cX9_behind 7 = .ok (.invokevirtual 169, 3) := by decide +kernel
theorem dX9_behind_10 : decode cX9_behind 10 = .ok (.ifCond .eq 7, 3) := by decide +kernel
theorem dX9_behind_13 : decode cX9_behind 13 = .ok (.aload_n 0, 1) := by decide +kernel
theorem dX9_behind_14 : decode cX9_behind 14 = .ok (.invokevirtual 173, 3) := by decide +kernel
theorem dX9_behind_17 : decode cX9_behind 17 = .ok (.aload_n 0, 1) := by decide +kernel
theorem dX9_behind_18 : decode cX9_behind 18 = .ok (.iload_n 2, 1) := by decide +kernel
theorem dX9_behind_19 : decode cX9_behind 19 = .ok (.iload_n 3, 1) := by decide +kernel
theorem dX9_behind_20 : decode cX9_behind 20 = .ok (.invokevirtual 176, 3) := by decide +kernel
theorem dX9_behind_23 : decode cX9_behind 23 = .ok (.ireturn, 1) := by decide +kernel
theorem dX9_findRead_0 : decode cX9_findRead 0 = .ok (.iconst 0, 1) := by decide +kernel
theorem dX9_findRead_1 : decode cX9_findRead 1 = .ok (.istore_n 3, 1) := by decide +kernel
theorem dX9_findRead_2 : decode cX9_findRead 2 = .ok (.iload_n 3, 1) := by decide +kernel
theorem dX9_findRead_3 : decode cX9_findRead 3 = .ok (.iload_n 2, 1) := by decide +kernel
theorem dX9_findRead_4 : decode cX9_findRead 4 = .ok (.if_icmp .ge 30, 3) := by decide +kernel
theorem dX9_findRead_7 : decode cX9_findRead 7 = .ok (.aload_n 0, 1) := by decide +kernel
theorem dX9_findRead_8 : decode cX9_findRead 8 = .ok (.getfield 20, 3) := by decide +kernel
theorem dX9_findRead_11 : decode cX9_findRead 11 = .ok (.bipush 24, 2) := by decide +kernel
theorem dX9_findRead_13 : decode cX9_findRead 13 = .ok (.iload_n 1, 1) := by decide +kernel
theorem dX9_findRead_14 : decode cX9_findRead 14 = .ok (.iadd, 1) := by decide +kernel
theorem dX9_findRead_15 : decode cX9_findRead 15 = .ok (.iload_n 3, 1) := by decide +kernel
theorem dX9_findRead_16 : decode cX9_findRead 16 = .ok (.iadd, 1) := by decide +kernel
theorem dX9_findRead_17 : decode cX9_findRead 17 = .ok (.laload, 1) := by decide +kernel
theorem dX9_findRead_18 : decode cX9_findRead 18 = .ok (.aload_n 0, 1) := by decide +kernel
theorem dX9_findRead_19 : decode cX9_findRead 19 = .ok (.getfield 112, 3) := by decide +kernel
theorem dX9_findRead_22 : decode cX9_findRead 22 = .ok (.lcmp, 1) := by decide +kernel
theorem dX9_findRead_23 : decode cX9_findRead 23 = .ok (.ifCond .ne 5, 3) := by decide +kernel
theorem dX9_findRead_26 : decode cX9_findRead 26 = .ok (.iload_n 3, 1) := by decide +kernel
theorem dX9_findRead_27 : decode cX9_findRead 27 = .ok (.ireturn, 1) := by decide +kernel
theorem dX9_findRead_28 : decode cX9_findRead 28 = .ok (.iinc 3 1, 3) := by decide +kernel
theorem dX9_findRead_31 : decode cX9_findRead 31 = .ok (.goto (-29), 3) := by decide +kernel
theorem dX9_findRead_34 : decode cX9_findRead 34 = .ok (.iconst (-1), 1) := by decide +kernel
theorem dX9_findRead_35 : decode cX9_findRead 35 = .ok (.ireturn, 1) := by decide +kernel
theorem dX9_newName_0 : decode cX9_newName 0 = .ok (.aload_n 0, 1) := by decide +kernel
theorem dX9_newName_1 : decode cX9_newName 1 = .ok (.aload_n 0, 1) := by decide +kernel
theorem dX9_newName_2 : decode cX9_newName 2 = .ok (.invokevirtual 180, 3) := by decide +kernel
theorem dX9_newName_5 : decode cX9_newName 5 = .ok (.iconst 1, 1) := by decide +kernel
theorem dX9_newName_6 : decode cX9_newName 6 = .ok (.invokevirtual 169, 3) := by decide +kernel
theorem dX9_newName_9 : decode cX9_newName 9 = .ok (.ifCond .eq 45, 3) := by decide +kernel
theorem dX9_newName_12 : decode cX9_newName 12 = .ok (.aload_n 0, 1) := by decide +kernel
theorem dX9_newName_13 : decode cX9_newName 13 = .ok (.aload_n 0, 1) := by decide +kernel
theorem dX9_newName_14 : decode cX9_newName 14 = .ok (.iconst 0, 1) := by decide +kernel
theorem dX9_newName_15 : decode cX9_newName 15 = .ok (.aload_n 0, 1) := by decide +kernel
theorem dX9_newName_16 : decode cX9_newName 16 = .ok (.getfield 13, 3) := by decide +kernel
theorem dX9_newName_19 : decode cX9_newName 19 = .ok (.iconst 1, 1) := by decide +kernel
theorem dX9_newName_20 : decode cX9_newName 20 = .ok (.iaload, 1) := by decide +kernel
theorem dX9_newName_21 : decode cX9_newName 21 = .ok (.invokevirtual 183, 3) := by decide +kernel
theorem dX9_newName_24 : decode cX9_newName 24 = .ok (.ifCond .ge 22, 3) := by decide +kernel
theorem dX9_newName_27 : decode cX9_newName 27 = .ok (.aload_n 0, 1) := by decide +kernel
theorem dX9_newName_28 : decode cX9_newName 28 = .ok (.bipush 8, 2) := by decide +kernel
theorem dX9_newName_30 : decode cX9_newName 30 = .ok (.aload_n 0, 1) := by decide +kernel
theorem dX9_newName_31 : decode cX9_newName 31 = .ok (.getfield 17, 3) := by decide +kernel
theorem dX9_newName_34 : decode cX9_newName 34 = .ok (.iconst 1, 1) := by decide +kernel
theorem dX9_newName_35 : decode cX9_newName 35 = .ok (.iaload, 1) := by decide +kernel
theorem dX9_newName_36 : decode cX9_newName 36 = .ok (.invokevirtual 183, 3) := by decide +kernel
theorem dX9_newName_39 : decode cX9_newName 39 = .ok (.ifCond .ge 7, 3) := by decide +kernel
theorem dX9_newName_42 : decode cX9_newName 42 = .ok (.iconst 1, 1) := by decide +kernel
theorem dX9_newName_43 : decode cX9_newName 43 = .ok (.goto 4, 3) := by decide +kernel
theorem dX9_newName_46 : decode cX9_newName 46 = .ok (.iconst 0, 1) := by decide +kernel
theorem dX9_newName_47 : decode cX9_newName 47 = .ok (.iconst 2, 1) := by decide +kernel
theorem dX9_newName_48 : decode cX9_newName 48 = .ok (.invokevirtual 169, 3) := by decide +kernel
theorem dX9_newName_51 : decode cX9_newName 51 = .ok (.ifCond .ne 4, 3) := by decide +kernel
theorem dX9_newName_54 : decode cX9_newName 54 = .ok (.return_, 1) := by decide +kernel
theorem dX9_newName_55 : decode cX9_newName 55 = .ok (.aload_n 0, 1) := by decide +kernel
theorem dX9_newName_56 : decode cX9_newName 56 = .ok (.getfield 20, 3) := by decide +kernel
theorem dX9_newName_59 : decode cX9_newName 59 = .ok (.bipush 24, 2) := by decide +kernel
theorem dX9_newName_61 : decode cX9_newName 61 = .ok (.iload_n 1, 1) := by decide +kernel
theorem dX9_newName_62 : decode cX9_newName 62 = .ok (.iadd, 1) := by decide +kernel
theorem dX9_newName_63 : decode cX9_newName 63 = .ok (.aload_n 0, 1) := by decide +kernel
theorem dX9_newName_64 : decode cX9_newName 64 = .ok (.getfield 112, 3) := by decide +kernel
theorem dX9_newName_67 : decode cX9_newName 67 = .ok (.lastore, 1) := by decide +kernel
theorem dX9_newName_68 : decode cX9_newName 68 = .ok (.aload_n 0, 1) := by decide +kernel
theorem dX9_newName_69 : decode cX9_newName 69 = .ok (.invokevirtual 173, 3) := by decide +kernel
theorem dX9_newName_72 : decode cX9_newName 72 = .ok (.return_, 1) := by decide +kernel
theorem dX9_readDock_0 : decode cX9_readDock 0 = .ok (.aload_n 0, 1) := by decide +kernel
theorem dX9_readDock_1 : decode cX9_readDock 1 = .ok (.aload_n 0, 1) := by decide +kernel
theorem dX9_readDock_2 : decode cX9_readDock 2 = .ok (.invokevirtual 180, 3) := by decide +kernel
theorem dX9_readDock_5 : decode cX9_readDock 5 = .ok (.iconst 1, 1) := by decide +kernel
theorem dX9_readDock_6 : decode cX9_readDock 6 = .ok (.invokevirtual 169, 3) := by decide +kernel
theorem dX9_readDock_9 : decode cX9_readDock 9 = .ok (.ifCond .ne 5, 3) := by decide +kernel
theorem dX9_readDock_12 : decode cX9_readDock 12 = .ok (.iconst 0, 1) := by decide +kernel
theorem dX9_readDock_13 : decode cX9_readDock 13 = .ok (.ireturn, 1) := by decide +kernel
theorem dX9_readDock_14 : decode cX9_readDock 14 = .ok (.aload_n 0, 1) := by decide +kernel
theorem dX9_readDock_15 : decode cX9_readDock 15 = .ok (.iconst 0, 1) := by decide +kernel
theorem dX9_readDock_16 : decode cX9_readDock 16 = .ok (.aload_n 0, 1) := by decide +kernel
theorem dX9_readDock_17 : decode cX9_readDock 17 = .ok (.getfield 13, 3) := by decide +kernel
theorem dX9_readDock_20 : decode cX9_readDock 20 = .ok (.iconst 1, 1) := by decide +kernel
theorem dX9_readDock_21 : decode cX9_readDock 21 = .ok (.iaload, 1) := by decide +kernel
theorem dX9_readDock_22 : decode cX9_readDock 22 = .ok (.invokevirtual 183, 3) := by decide +kernel
theorem dX9_readDock_25 : decode cX9_readDock 25 = .ok (.istore_n 2, 1) := by decide +kernel
theorem dX9_readDock_26 : decode cX9_readDock 26 = .ok (.aload_n 0, 1) := by decide +kernel
theorem dX9_readDock_27 : decode cX9_readDock 27 = .ok (.iload_n 2, 1) := by decide +kernel
theorem dX9_readDock_28 : decode cX9_readDock 28 = .ok (.ifCond .lt 12, 3) := by decide +kernel
theorem dX9_readDock_31 : decode cX9_readDock 31 = .ok (.iload_n 2, 1) := by decide +kernel
theorem dX9_readDock_32 : decode cX9_readDock 32 = .ok (.iload_n 1, 1) := by decide +kernel
theorem dX9_readDock_33 : decode cX9_readDock 33 = .ok (.if_icmp .eq 7, 3) := by decide +kernel
theorem dX9_readDock_36 : decode cX9_readDock 36 = .ok (.iconst 1, 1) := by decide +kernel
theorem dX9_readDock_37 : decode cX9_readDock 37 = .ok (.goto 4, 3) := by decide +kernel
theorem dX9_readDock_40 : decode cX9_readDock 40 = .ok (.iconst 0, 1) := by decide +kernel
theorem dX9_readDock_41 : decode cX9_readDock 41 = .ok (.iconst 4, 1) := by decide +kernel
theorem dX9_readDock_42 : decode cX9_readDock 42 = .ok (.invokevirtual 169, 3) := by decide +kernel
theorem dX9_readDock_45 : decode cX9_readDock 45 = .ok (.ifCond .ne 5, 3) := by decide +kernel
theorem dX9_readDock_48 : decode cX9_readDock 48 = .ok (.iconst 0, 1) := by decide +kernel
theorem dX9_readDock_49 : decode cX9_readDock 49 = .ok (.ireturn, 1) := by decide +kernel
theorem dX9_readDock_50 : decode cX9_readDock 50 = .ok (.aload_n 0, 1) := by decide +kernel
theorem dX9_readDock_51 : decode cX9_readDock 51 = .ok (.invokevirtual 173, 3) := by decide +kernel
theorem dX9_readDock_54 : decode cX9_readDock 54 = .ok (.iload_n 2, 1) := by decide +kernel
theorem dX9_readDock_55 : decode cX9_readDock 55 = .ok (.ireturn, 1) := by decide +kernel
theorem dX9_dockLine_0 : decode cX9_dockLine 0 = .ok (.aload_n 0, 1) := by decide +kernel
theorem dX9_dockLine_1 : decode cX9_dockLine 1 = .ok (.aload_n 0, 1) := by decide +kernel
theorem dX9_dockLine_2 : decode cX9_dockLine 2 = .ok (.getfield 13, 3) := by decide +kernel
theorem dX9_dockLine_5 : decode cX9_dockLine 5 = .ok (.iconst 1, 1) := by decide +kernel
theorem dX9_dockLine_6 : decode cX9_dockLine 6 = .ok (.iaload, 1) := by decide +kernel
theorem dX9_dockLine_7 : decode cX9_dockLine 7 = .ok (.bipush 8, 2) := by decide +kernel
theorem dX9_dockLine_9 : decode cX9_dockLine 9 = .ok (.if_icmp .ge 7, 3) := by decide +kernel
theorem dX9_dockLine_12 : decode cX9_dockLine 12 = .ok (.iconst 1, 1) := by decide +kernel
theorem dX9_dockLine_13 : decode cX9_dockLine 13 = .ok (.goto 4, 3) := by decide +kernel
theorem dX9_dockLine_16 : decode cX9_dockLine 16 = .ok (.iconst 0, 1) := by decide +kernel
theorem dX9_dockLine_17 : decode cX9_dockLine 17 = .ok (.iconst 5, 1) := by decide +kernel
theorem dX9_dockLine_18 : decode cX9_dockLine 18 = .ok (.invokevirtual 169, 3) := by decide +kernel
theorem dX9_dockLine_21 : decode cX9_dockLine 21 = .ok (.ifCond .ne 4, 3) := by decide +kernel
theorem dX9_dockLine_24 : decode cX9_dockLine 24 = .ok (.return_, 1) := by decide +kernel
theorem dX9_dockLine_25 : decode cX9_dockLine 25 = .ok (.aload_n 0, 1) := by decide +kernel
theorem dX9_dockLine_26 : decode cX9_dockLine 26 = .ok (.invokevirtual 173, 3) := by decide +kernel
theorem dX9_dockLine_29 : decode cX9_dockLine 29 = .ok (.aload_n 0, 1) := by decide +kernel
theorem dX9_dockLine_30 : decode cX9_dockLine 30 = .ok (.aload_n 0, 1) := by decide +kernel
theorem dX9_dockLine_31 : decode cX9_dockLine 31 = .ok (.getfield 13, 3) := by decide +kernel
theorem dX9_dockLine_34 : decode cX9_dockLine 34 = .ok (.iconst 1, 1) := by decide +kernel
theorem dX9_dockLine_35 : decode cX9_dockLine 35 = .ok (.iaload, 1) := by decide +kernel
theorem dX9_dockLine_36 : decode cX9_dockLine 36 = .ok (.invokevirtual 186, 3) := by decide +kernel
theorem dX9_dockLine_39 : decode cX9_dockLine 39 = .ok (.iconst 0, 1) := by decide +kernel
theorem dX9_dockLine_40 : decode cX9_dockLine 40 = .ok (.istore_n 1, 1) := by decide +kernel
theorem dX9_dockLine_41 : decode cX9_dockLine 41 = .ok (.aload_n 0, 1) := by decide +kernel
theorem dX9_dockLine_42 : decode cX9_dockLine 42 = .ok (.ldc 156, 2) := by decide +kernel
theorem dX9_dockLine_44 : decode cX9_dockLine 44 = .ok (.invokevirtual 152, 3) := by decide +kernel
theorem dX9_dockLine_47 : decode cX9_dockLine 47 = .ok (.ifCond .eq 17, 3) := by decide +kernel
theorem dX9_dockLine_50 : decode cX9_dockLine 50 = .ok (.aload_n 0, 1) := by decide +kernel
theorem dX9_dockLine_51 : decode cX9_dockLine 51 = .ok (.ldc 156, 2) := by decide +kernel
theorem dX9_dockLine_53 : decode cX9_dockLine 53 = .ok (.iconst 0, 1) := by decide +kernel
theorem dX9_dockLine_54 : decode cX9_dockLine 54 = .ok (.sipush 999, 3) := by decide +kernel
theorem dX9_dockLine_57 : decode cX9_dockLine 57 = .ok (.invokevirtual 189, 3) := by decide +kernel
theorem dX9_dockLine_60 : decode cX9_dockLine 60 = .ok (.istore_n 1, 1) := by decide +kernel
theorem dX9_dockLine_61 : decode cX9_dockLine 61 = .ok (.goto 24, 3) := by decide +kernel
theorem dX9_dockLine_64 : decode cX9_dockLine 64 = .ok (.aload_n 0, 1) := by decide +kernel
theorem dX9_dockLine_65 : decode cX9_dockLine 65 = .ok (.ldc 157, 2) := by decide +kernel
theorem dX9_dockLine_67 : decode cX9_dockLine 67 = .ok (.invokevirtual 152, 3) := by decide +kernel
theorem dX9_dockLine_70 : decode cX9_dockLine 70 = .ok (.ifCond .eq 15, 3) := by decide +kernel
theorem dX9_dockLine_73 : decode cX9_dockLine 73 = .ok (.aload_n 0, 1) := by decide +kernel
theorem dX9_dockLine_74 : decode cX9_dockLine 74 = .ok (.ldc 157, 2) := by decide +kernel
theorem dX9_dockLine_76 : decode cX9_dockLine 76 = .ok (.iconst 0, 1) := by decide +kernel
theorem dX9_dockLine_77 : decode cX9_dockLine 77 = .ok (.sipush 999, 3) := by decide +kernel
theorem dX9_dockLine_80 : decode cX9_dockLine 80 = .ok (.invokevirtual 189, 3) := by decide +kernel
theorem dX9_dockLine_83 : decode cX9_dockLine 83 = .ok (.ineg, 1) := by decide +kernel
theorem dX9_dockLine_84 : decode cX9_dockLine 84 = .ok (.istore_n 1, 1) := by decide +kernel
theorem dX9_dockLine_85 : decode cX9_dockLine 85 = .ok (.aload_n 0, 1) := by decide +kernel
theorem dX9_dockLine_86 : decode cX9_dockLine 86 = .ok (.getfield 130, 3) := by decide +kernel
theorem dX9_dockLine_89 : decode cX9_dockLine 89 = .ok (.ifCond .eq 4, 3) := by decide +kernel
theorem dX9_dockLine_92 : decode cX9_dockLine 92 = .ok (.return_, 1) := by decide +kernel
theorem dX9_dockLine_93 : decode cX9_dockLine 93 = .ok (.aload_n 0, 1) := by decide +kernel
theorem dX9_dockLine_94 : decode cX9_dockLine 94 = .ok (.getfield 24, 3) := by decide +kernel
theorem dX9_dockLine_97 : decode cX9_dockLine 97 = .ok (.bipush 8, 2) := by decide +kernel
theorem dX9_dockLine_99 : decode cX9_dockLine 99 = .ok (.aload_n 0, 1) := by decide +kernel
theorem dX9_dockLine_100 : decode cX9_dockLine 100 = .ok (.getfield 13, 3) := by decide +kernel
theorem dX9_dockLine_103 : decode cX9_dockLine 103 = .ok (.iconst 1, 1) := by decide +kernel
theorem dX9_dockLine_104 : decode cX9_dockLine 104 = .ok (.iaload, 1) := by decide +kernel
theorem dX9_dockLine_105 : decode cX9_dockLine 105 = .ok (.iadd, 1) := by decide +kernel
theorem dX9_dockLine_106 : decode cX9_dockLine 106 = .ok (.iload_n 1, 1) := by decide +kernel
theorem dX9_dockLine_107 : decode cX9_dockLine 107 = .ok (.iastore, 1) := by decide +kernel
theorem dX9_dockLine_108 : decode cX9_dockLine 108 = .ok (.aload_n 0, 1) := by decide +kernel
theorem dX9_dockLine_109 : decode cX9_dockLine 109 = .ok (.getfield 13, 3) := by decide +kernel
theorem dX9_dockLine_112 : decode cX9_dockLine 112 = .ok (.iconst 1, 1) := by decide +kernel
theorem dX9_dockLine_113 : decode cX9_dockLine 113 = .ok (.dup2, 1) := by decide +kernel
theorem dX9_dockLine_114 : decode cX9_dockLine 114 = .ok (.iaload, 1) := by decide +kernel
theorem dX9_dockLine_115 : decode cX9_dockLine 115 = .ok (.iconst 1, 1) := by decide +kernel
theorem dX9_dockLine_116 : decode cX9_dockLine 116 = .ok (.iadd, 1) := by decide +kernel
theorem dX9_dockLine_117 : decode cX9_dockLine 117 = .ok (.iastore, 1) := by decide +kernel
theorem dX9_dockLine_118 : decode cX9_dockLine 118 = .ok (.return_, 1) := by decide +kernel
theorem dX9_routeLine_0 : decode cX9_routeLine 0 = .ok (.aload_n 0, 1) := by decide +kernel
theorem dX9_routeLine_1 : decode cX9_routeLine 1 = .ok (.aload_n 0, 1) := by decide +kernel
theorem dX9_routeLine_2 : decode cX9_routeLine 2 = .ok (.getfield 17, 3) := by decide +kernel
theorem dX9_routeLine_5 : decode cX9_routeLine 5 = .ok (.iconst 1, 1) := by decide +kernel
theorem dX9_routeLine_6 : decode cX9_routeLine 6 = .ok (.iaload, 1) := by decide +kernel
theorem dX9_routeLine_7 : decode cX9_routeLine 7 = .ok (.bipush 16, 2) := by decide +kernel
theorem dX9_routeLine_9 : decode cX9_routeLine 9 = .ok (.if_icmp .ge 7, 3) := by decide +kernel
theorem dX9_routeLine_12 : decode cX9_routeLine 12 = .ok (.iconst 1, 1) := by decide +kernel
theorem dX9_routeLine_13 : decode cX9_routeLine 13 = .ok (.goto 4, 3) := by decide +kernel
theorem dX9_routeLine_16 : decode cX9_routeLine 16 = .ok (.iconst 0, 1) := by decide +kernel
theorem dX9_routeLine_17 : decode cX9_routeLine 17 = .ok (.iconst 5, 1) := by decide +kernel
theorem dX9_routeLine_18 : decode cX9_routeLine 18 = .ok (.invokevirtual 169, 3) := by decide +kernel
theorem dX9_routeLine_21 : decode cX9_routeLine 21 = .ok (.ifCond .ne 4, 3) := by decide +kernel
theorem dX9_routeLine_24 : decode cX9_routeLine 24 = .ok (.return_, 1) := by decide +kernel
theorem dX9_routeLine_25 : decode cX9_routeLine 25 = .ok (.aload_n 0, 1) := by decide +kernel
theorem dX9_routeLine_26 : decode cX9_routeLine 26 = .ok (.invokevirtual 173, 3) := by decide +kernel
theorem dX9_routeLine_29 : decode cX9_routeLine 29 = .ok (.aload_n 0, 1) := by decide +kernel
theorem dX9_routeLine_30 : decode cX9_routeLine 30 = .ok (.bipush 8, 2) := by decide +kernel
theorem dX9_routeLine_32 : decode cX9_routeLine 32 = .ok (.aload_n 0, 1) := by decide +kernel
theorem dX9_routeLine_33 : decode cX9_routeLine 33 = .ok (.getfield 17, 3) := by decide +kernel
theorem dX9_routeLine_36 : decode cX9_routeLine 36 = .ok (.iconst 1, 1) := by decide +kernel
theorem dX9_routeLine_37 : decode cX9_routeLine 37 = .ok (.iaload, 1) := by decide +kernel
theorem dX9_routeLine_38 : decode cX9_routeLine 38 = .ok (.iadd, 1) := by decide +kernel
theorem dX9_routeLine_39 : decode cX9_routeLine 39 = .ok (.invokevirtual 186, 3) := by decide +kernel
theorem dX9_routeLine_42 : decode cX9_routeLine 42 = .ok (.bipush 16, 2) := by decide +kernel
theorem dX9_routeLine_44 : decode cX9_routeLine 44 = .ok (.aload_n 0, 1) := by decide +kernel
theorem dX9_routeLine_45 : decode cX9_routeLine 45 = .ok (.getfield 17, 3) := by decide +kernel
theorem dX9_routeLine_48 : decode cX9_routeLine 48 = .ok (.iconst 1, 1) := by decide +kernel
theorem dX9_routeLine_49 : decode cX9_routeLine 49 = .ok (.iaload, 1) := by decide +kernel
theorem dX9_routeLine_50 : decode cX9_routeLine 50 = .ok (.iadd, 1) := by decide +kernel
theorem dX9_routeLine_51 : decode cX9_routeLine 51 = .ok (.istore_n 1, 1) := by decide +kernel
theorem dX9_routeLine_52 : decode cX9_routeLine 52 = .ok (.aload_n 0, 1) := by decide +kernel
theorem dX9_routeLine_53 : decode cX9_routeLine 53 = .ok (.getfield 27, 3) := by decide +kernel
theorem dX9_routeLine_56 : decode cX9_routeLine 56 = .ok (.iload_n 1, 1) := by decide +kernel
theorem dX9_routeLine_57 : decode cX9_routeLine 57 = .ok (.aload_n 0, 1) := by decide +kernel
theorem dX9_routeLine_58 : decode cX9_routeLine 58 = .ok (.iconst (-1), 1) := by decide +kernel
theorem dX9_routeLine_59 : decode cX9_routeLine 59 = .ok (.invokevirtual 193, 3) := by decide +kernel
theorem dX9_routeLine_62 : decode cX9_routeLine 62 = .ok (.iastore, 1) := by decide +kernel
theorem dX9_routeLine_63 : decode cX9_routeLine 63 = .ok (.aload_n 0, 1) := by decide +kernel
theorem dX9_routeLine_64 : decode cX9_routeLine 64 = .ok (.getfield 30, 3) := by decide +kernel
theorem dX9_routeLine_67 : decode cX9_routeLine 67 = .ok (.iload_n 1, 1) := by decide +kernel
theorem dX9_routeLine_68 : decode cX9_routeLine 68 = .ok (.aload_n 0, 1) := by decide +kernel
theorem dX9_routeLine_69 : decode cX9_routeLine 69 = .ok (.aload_n 0, 1) := by decide +kernel
theorem dX9_routeLine_70 : decode cX9_routeLine 70 = .ok (.getfield 27, 3) := by decide +kernel
theorem dX9_routeLine_73 : decode cX9_routeLine 73 = .ok (.iload_n 1, 1) := by decide +kernel
theorem dX9_routeLine_74 : decode cX9_routeLine 74 = .ok (.iaload, 1) := by decide +kernel
theorem dX9_routeLine_75 : decode cX9_routeLine 75 = .ok (.invokevirtual 193, 3) := by decide +kernel
theorem dX9_routeLine_78 : decode cX9_routeLine 78 = .ok (.iastore, 1) := by decide +kernel
theorem dX9_routeLine_79 : decode cX9_routeLine 79 = .ok (.aload_n 0, 1) := by decide +kernel
theorem dX9_routeLine_80 : decode cX9_routeLine 80 = .ok (.getfield 33, 3) := by decide +kernel
theorem dX9_routeLine_83 : decode cX9_routeLine 83 = .ok (.iload_n 1, 1) := by decide +kernel
theorem dX9_routeLine_84 : decode cX9_routeLine 84 = .ok (.aload_n 0, 1) := by decide +kernel
theorem dX9_routeLine_85 : decode cX9_routeLine 85 = .ok (.ldc 161, 2) := by decide +kernel
theorem dX9_routeLine_87 : decode cX9_routeLine 87 = .ok (.iconst 0, 1) := by decide +kernel
theorem dX9_routeLine_88 : decode cX9_routeLine 88 = .ok (.sipush 999, 3) := by decide +kernel
theorem dX9_routeLine_91 : decode cX9_routeLine 91 = .ok (.invokevirtual 189, 3) := by decide +kernel
theorem dX9_routeLine_94 : decode cX9_routeLine 94 = .ok (.iastore, 1) := by decide +kernel
theorem dX9_routeLine_95 : decode cX9_routeLine 95 = .ok (.aload_n 0, 1) := by decide +kernel
theorem dX9_routeLine_96 : decode cX9_routeLine 96 = .ok (.getfield 36, 3) := by decide +kernel
theorem dX9_routeLine_99 : decode cX9_routeLine 99 = .ok (.iload_n 1, 1) := by decide +kernel
theorem dX9_routeLine_100 : decode cX9_routeLine 100 = .ok (.aload_n 0, 1) := by decide +kernel
theorem dX9_routeLine_101 : decode cX9_routeLine 101 = .ok (.ldc 162, 2) := by decide +kernel
theorem dX9_routeLine_103 : decode cX9_routeLine 103 = .ok (.iconst 1, 1) := by decide +kernel
theorem dX9_routeLine_104 : decode cX9_routeLine 104 = .ok (.sipush 999, 3) := by decide +kernel
theorem dX9_routeLine_107 : decode cX9_routeLine 107 = .ok (.invokevirtual 189, 3) := by decide +kernel
theorem dX9_routeLine_110 : decode cX9_routeLine 110 = .ok (.iastore, 1) := by decide +kernel
theorem dX9_routeLine_111 : decode cX9_routeLine 111 = .ok (.aload_n 0, 1) := by decide +kernel
theorem dX9_routeLine_112 : decode cX9_routeLine 112 = .ok (.getfield 130, 3) := by decide +kernel
theorem dX9_routeLine_115 : decode cX9_routeLine 115 = .ok (.ifCond .ne 13, 3) := by decide +kernel
theorem dX9_routeLine_118 : decode cX9_routeLine 118 = .ok (.aload_n 0, 1) := by decide +kernel
theorem dX9_routeLine_119 : decode cX9_routeLine 119 = .ok (.getfield 17, 3) := by decide +kernel
theorem dX9_routeLine_122 : decode cX9_routeLine 122 = .ok (.iconst 1, 1) := by decide +kernel
theorem dX9_routeLine_123 : decode cX9_routeLine 123 = .ok (.dup2, 1) := by decide +kernel
theorem dX9_routeLine_124 : decode cX9_routeLine 124 = .ok (.iaload, 1) := by decide +kernel
theorem dX9_routeLine_125 : decode cX9_routeLine 125 = .ok (.iconst 1, 1) := by decide +kernel
theorem dX9_routeLine_126 : decode cX9_routeLine 126 = .ok (.iadd, 1) := by decide +kernel
theorem dX9_routeLine_127 : decode cX9_routeLine 127 = .ok (.iastore, 1) := by decide +kernel
theorem dX9_routeLine_128 : decode cX9_routeLine 128 = .ok (.return_, 1) := by decide +kernel
theorem dX9_blockLine_0 : decode cX9_blockLine 0 = .ok (.aload_n 0, 1) := by decide +kernel
theorem dX9_blockLine_1 : decode cX9_blockLine 1 = .ok (.aload_n 0, 1) := by decide +kernel
theorem dX9_blockLine_2 : decode cX9_blockLine 2 = .ok (.getfield 196, 3) := by decide +kernel
theorem dX9_blockLine_5 : decode cX9_blockLine 5 = .ok (.ifCond .ne 7, 3) := by decide +kernel
theorem dX9_blockLine_8 : decode cX9_blockLine 8 = .ok (.iconst 1, 1) := by decide +kernel
theorem dX9_blockLine_9 : decode cX9_blockLine 9 = .ok (.goto 4, 3) := by decide +kernel
theorem dX9_blockLine_12 : decode cX9_blockLine 12 = .ok (.iconst 0, 1) := by decide +kernel
theorem dX9_blockLine_13 : decode cX9_blockLine 13 = .ok (.iconst 2, 1) := by decide +kernel
theorem dX9_blockLine_14 : decode cX9_blockLine 14 = .ok (.invokevirtual 169, 3) := by decide +kernel
theorem dX9_blockLine_17 : decode cX9_blockLine 17 = .ok (.ifCond .ne 4, 3) := by decide +kernel
theorem dX9_blockLine_20 : decode cX9_blockLine 20 = .ok (.return_, 1) := by decide +kernel
theorem dX9_blockLine_21 : decode cX9_blockLine 21 = .ok (.aload_n 0, 1) := by decide +kernel
theorem dX9_blockLine_22 : decode cX9_blockLine 22 = .ok (.iconst 1, 1) := by decide +kernel
theorem dX9_blockLine_23 : decode cX9_blockLine 23 = .ok (.putfield 196, 3) := by decide +kernel
theorem dX9_blockLine_26 : decode cX9_blockLine 26 = .ok (.aload_n 0, 1) := by decide +kernel
theorem dX9_blockLine_27 : decode cX9_blockLine 27 = .ok (.invokevirtual 173, 3) := by decide +kernel
theorem dX9_blockLine_30 : decode cX9_blockLine 30 = .ok (.aload_n 0, 1) := by decide +kernel
theorem dX9_blockLine_31 : decode cX9_blockLine 31 = .ok (.aload_n 0, 1) := by decide +kernel
theorem dX9_blockLine_32 : decode cX9_blockLine 32 = .ok (.iconst 1, 1) := by decide +kernel
theorem dX9_blockLine_33 : decode cX9_blockLine 33 = .ok (.bipush 24, 2) := by decide +kernel
theorem dX9_blockLine_35 : decode cX9_blockLine 35 = .ok (.invokevirtual 176, 3) := by decide +kernel
theorem dX9_blockLine_38 : decode cX9_blockLine 38 = .ok (.putfield 200, 3) := by decide +kernel
theorem dX9_blockLine_41 : decode cX9_blockLine 41 = .ok (.return_, 1) := by decide +kernel
theorem dX9_lineHere_0 : decode cX9_lineHere 0 = .ok (.aload_n 0, 1) := by decide +kernel
theorem dX9_lineHere_1 : decode cX9_lineHere 1 = .ok (.ldc 150, 2) := by decide +kernel
theorem dX9_lineHere_3 : decode cX9_lineHere 3 = .ok (.invokevirtual 152, 3) := by decide +kernel
theorem dX9_lineHere_6 : decode cX9_lineHere 6 = .ok (.ifCond .eq 10, 3) := by decide +kernel
theorem dX9_lineHere_9 : decode cX9_lineHere 9 = .ok (.aload_n 0, 1) := by decide +kernel
theorem dX9_lineHere_10 : decode cX9_lineHere 10 = .ok (.invokevirtual 203, 3) := by decide +kernel
theorem dX9_lineHere_13 : decode cX9_lineHere 13 = .ok (.goto 42, 3) := by decide +kernel
theorem dX9_lineHere_16 : decode cX9_lineHere 16 = .ok (.aload_n 0, 1) := by decide +kernel
theorem dX9_lineHere_17 : decode cX9_lineHere 17 = .ok (.ldc 159, 2) := by decide +kernel
theorem dX9_lineHere_19 : decode cX9_lineHere 19 = .ok (.invokevirtual 152, 3) := by decide +kernel
theorem dX9_lineHere_22 : decode cX9_lineHere 22 = .ok (.ifCond .eq 10, 3) := by decide +kernel
theorem dX9_lineHere_25 : decode cX9_lineHere 25 = .ok (.aload_n 0, 1) := by decide +kernel
theorem dX9_lineHere_26 : decode cX9_lineHere 26 = .ok (.invokevirtual 206, 3) := by decide +kernel
theorem dX9_lineHere_29 : decode cX9_lineHere 29 = .ok (.goto 26, 3) := by decide +kernel
theorem dX9_lineHere_32 : decode cX9_lineHere 32 = .ok (.aload_n 0, 1) := by decide +kernel
theorem dX9_lineHere_33 : decode cX9_lineHere 33 = .ok (.ldc 163, 2) := by decide +kernel
theorem dX9_lineHere_35 : decode cX9_lineHere 35 = .ok (.invokevirtual 152, 3) := by decide +kernel
theorem dX9_lineHere_38 : decode cX9_lineHere 38 = .ok (.ifCond .eq 10, 3) := by decide +kernel
theorem dX9_lineHere_41 : decode cX9_lineHere 41 = .ok (.aload_n 0, 1) := by decide +kernel
theorem dX9_lineHere_42 : decode cX9_lineHere 42 = .ok (.invokevirtual 209, 3) := by decide +kernel
theorem dX9_lineHere_45 : decode cX9_lineHere 45 = .ok (.goto 10, 3) := by decide +kernel
theorem dX9_lineHere_48 : decode cX9_lineHere 48 = .ok (.aload_n 0, 1) := by decide +kernel
theorem dX9_lineHere_49 : decode cX9_lineHere 49 = .ok (.iconst 0, 1) := by decide +kernel
theorem dX9_lineHere_50 : decode cX9_lineHere 50 = .ok (.iconst 1, 1) := by decide +kernel
theorem dX9_lineHere_51 : decode cX9_lineHere 51 = .ok (.invokevirtual 169, 3) := by decide +kernel
theorem dX9_lineHere_54 : decode cX9_lineHere 54 = .ok (.pop, 1) := by decide +kernel
theorem dX9_lineHere_55 : decode cX9_lineHere 55 = .ok (.aload_n 0, 1) := by decide +kernel
theorem dX9_lineHere_56 : decode cX9_lineHere 56 = .ok (.aload_n 0, 1) := by decide +kernel
theorem dX9_lineHere_57 : decode cX9_lineHere 57 = .ok (.getfield 106, 3) := by decide +kernel
theorem dX9_lineHere_60 : decode cX9_lineHere 60 = .ok (.bipush 59, 2) := by decide +kernel
theorem dX9_lineHere_62 : decode cX9_lineHere 62 = .ok (.if_icmp .ne 7, 3) := by decide +kernel
theorem dX9_lineHere_65 : decode cX9_lineHere 65 = .ok (.iconst 1, 1) := by decide +kernel
theorem dX9_lineHere_66 : decode cX9_lineHere 66 = .ok (.goto 4, 3) := by decide +kernel
theorem dX9_lineHere_69 : decode cX9_lineHere 69 = .ok (.iconst 0, 1) := by decide +kernel
theorem dX9_lineHere_70 : decode cX9_lineHere 70 = .ok (.iconst 1, 1) := by decide +kernel
theorem dX9_lineHere_71 : decode cX9_lineHere 71 = .ok (.invokevirtual 169, 3) := by decide +kernel
theorem dX9_lineHere_74 : decode cX9_lineHere 74 = .ok (.ifCond .eq 7, 3) := by decide +kernel
theorem dX9_lineHere_77 : decode cX9_lineHere 77 = .ok (.aload_n 0, 1) := by decide +kernel
theorem dX9_lineHere_78 : decode cX9_lineHere 78 = .ok (.invokevirtual 173, 3) := by decide +kernel
theorem dX9_lineHere_81 : decode cX9_lineHere 81 = .ok (.return_, 1) := by decide +kernel
theorem dX9_text_0 : decode cX9_text 0 = .ok (.aload_n 0, 1) := by decide +kernel
theorem dX9_text_1 : decode cX9_text 1 = .ok (.iconst 0, 1) := by decide +kernel
theorem dX9_text_2 : decode cX9_text 2 = .ok (.putfield 82, 3) := by decide +kernel
theorem dX9_text_5 : decode cX9_text 5 = .ok (.iload_n 1, 1) := by decide +kernel
theorem dX9_text_6 : decode cX9_text 6 = .ok (.i2l, 1) := by decide +kernel
theorem dX9_text_7 : decode cX9_text 7 = .ok (.lconst 0, 1) := by decide +kernel
theorem dX9_text_8 : decode cX9_text 8 = .ok (.aload_n 0, 1) := by decide +kernel
theorem dX9_text_9 : decode cX9_text 9 = .ok (.getfield 86, 3) := by decide +kernel
theorem dX9_text_12 : decode cX9_text 12 = .ok (.i2l, 1) := by decide +kernel
theorem dX9_text_13 : decode cX9_text 13 = .ok (.invokestatic 120, 3) := by decide +kernel
theorem dX9_text_16 : decode cX9_text 16 = .ok (.ifCond .ne 5, 3) := by decide +kernel
theorem dX9_text_19 : decode cX9_text 19 = .ok (.iconst (-1), 1) := by decide +kernel
theorem dX9_text_20 : decode cX9_text 20 = .ok (.ireturn, 1) := by decide +kernel
theorem dX9_text_21 : decode cX9_text 21 = .ok (.aload_n 0, 1) := by decide +kernel
theorem dX9_text_22 : decode cX9_text 22 = .ok (.iconst 0, 1) := by decide +kernel
theorem dX9_text_23 : decode cX9_text 23 = .ok (.putfield 86, 3) := by decide +kernel
theorem dX9_text_26 : decode cX9_text 26 = .ok (.aload_n 0, 1) := by decide +kernel
theorem dX9_text_27 : decode cX9_text 27 = .ok (.iload_n 1, 1) := by decide +kernel
theorem dX9_text_28 : decode cX9_text 28 = .ok (.putfield 93, 3) := by decide +kernel
theorem dX9_text_31 : decode cX9_text 31 = .ok (.aload_n 0, 1) := by decide +kernel
theorem dX9_text_32 : decode cX9_text 32 = .ok (.iconst 0, 1) := by decide +kernel
theorem dX9_text_33 : decode cX9_text 33 = .ok (.putfield 96, 3) := by decide +kernel
theorem dX9_text_36 : decode cX9_text 36 = .ok (.aload_n 0, 1) := by decide +kernel
theorem dX9_text_37 : decode cX9_text 37 = .ok (.iconst 0, 1) := by decide +kernel
theorem dX9_text_38 : decode cX9_text 38 = .ok (.putfield 130, 3) := by decide +kernel
theorem dX9_text_41 : decode cX9_text 41 = .ok (.aload_n 0, 1) := by decide +kernel
theorem dX9_text_42 : decode cX9_text 42 = .ok (.getfield 13, 3) := by decide +kernel
theorem dX9_text_45 : decode cX9_text 45 = .ok (.iconst 1, 1) := by decide +kernel
theorem dX9_text_46 : decode cX9_text 46 = .ok (.iconst 0, 1) := by decide +kernel
theorem dX9_text_47 : decode cX9_text 47 = .ok (.iastore, 1) := by decide +kernel
theorem dX9_text_48 : decode cX9_text 48 = .ok (.aload_n 0, 1) := by decide +kernel
theorem dX9_text_49 : decode cX9_text 49 = .ok (.getfield 17, 3) := by decide +kernel
theorem dX9_text_52 : decode cX9_text 52 = .ok (.iconst 1, 1) := by decide +kernel
theorem dX9_text_53 : decode cX9_text 53 = .ok (.iconst 0, 1) := by decide +kernel
theorem dX9_text_54 : decode cX9_text 54 = .ok (.iastore, 1) := by decide +kernel
theorem dX9_text_55 : decode cX9_text 55 = .ok (.aload_n 0, 1) := by decide +kernel
theorem dX9_text_56 : decode cX9_text 56 = .ok (.iconst 0, 1) := by decide +kernel
theorem dX9_text_57 : decode cX9_text 57 = .ok (.putfield 196, 3) := by decide +kernel
theorem dX9_text_60 : decode cX9_text 60 = .ok (.aload_n 0, 1) := by decide +kernel
theorem dX9_text_61 : decode cX9_text 61 = .ok (.iconst 4, 1) := by decide +kernel
theorem dX9_text_62 : decode cX9_text 62 = .ok (.putfield 200, 3) := by decide +kernel
theorem dX9_text_65 : decode cX9_text 65 = .ok (.aload_n 0, 1) := by decide +kernel
theorem dX9_text_66 : decode cX9_text 66 = .ok (.invokevirtual 173, 3) := by decide +kernel
theorem dX9_text_69 : decode cX9_text 69 = .ok (.aload_n 0, 1) := by decide +kernel
theorem dX9_text_70 : decode cX9_text 70 = .ok (.getfield 130, 3) := by decide +kernel
theorem dX9_text_73 : decode cX9_text 73 = .ok (.ifCond .ne 17, 3) := by decide +kernel
theorem dX9_text_76 : decode cX9_text 76 = .ok (.aload_n 0, 1) := by decide +kernel
theorem dX9_text_77 : decode cX9_text 77 = .ok (.getfield 106, 3) := by decide +kernel
theorem dX9_text_80 : decode cX9_text 80 = .ok (.ifCond .eq 10, 3) := by decide +kernel
theorem dX9_text_83 : decode cX9_text 83 = .ok (.aload_n 0, 1) := by decide +kernel
theorem dX9_text_84 : decode cX9_text 84 = .ok (.invokevirtual 212, 3) := by decide +kernel
theorem dX9_text_87 : decode cX9_text 87 = .ok (.goto (-18), 3) := by decide +kernel
theorem dX9_text_90 : decode cX9_text 90 = .ok (.aload_n 0, 1) := by decide +kernel
theorem dX9_text_91 : decode cX9_text 91 = .ok (.getfield 130, 3) := by decide +kernel
theorem dX9_text_94 : decode cX9_text 94 = .ok (.ifCond .eq 19, 3) := by decide +kernel
theorem dX9_text_97 : decode cX9_text 97 = .ok (.bipush (-2), 2) := by decide +kernel
theorem dX9_text_99 : decode cX9_text 99 = .ok (.bipush 8, 2) := by decide +kernel
theorem dX9_text_101 : decode cX9_text 101 = .ok (.aload_n 0, 1) := by decide +kernel
theorem dX9_text_102 : decode cX9_text 102 = .ok (.getfield 133, 3) := by decide +kernel
theorem dX9_text_105 : decode cX9_text 105 = .ok (.imul, 1) := by decide +kernel
theorem dX9_text_106 : decode cX9_text 106 = .ok (.aload_n 0, 1) := by decide +kernel
theorem dX9_text_107 : decode cX9_text 107 = .ok (.getfield 130, 3) := by decide +kernel
theorem dX9_text_110 : decode cX9_text 110 = .ok (.iadd, 1) := by decide +kernel
theorem dX9_text_111 : decode cX9_text 111 = .ok (.isub, 1) := by decide +kernel
theorem dX9_text_112 : decode cX9_text 112 = .ok (.ireturn, 1) := by decide +kernel
theorem dX9_text_113 : decode cX9_text 113 = .ok (.aload_n 0, 1) := by decide +kernel
theorem dX9_text_114 : decode cX9_text 114 = .ok (.getfield 13, 3) := by decide +kernel
theorem dX9_text_117 : decode cX9_text 117 = .ok (.iconst 0, 1) := by decide +kernel
theorem dX9_text_118 : decode cX9_text 118 = .ok (.aload_n 0, 1) := by decide +kernel
theorem dX9_text_119 : decode cX9_text 119 = .ok (.getfield 13, 3) := by decide +kernel
theorem dX9_text_122 : decode cX9_text 122 = .ok (.iconst 1, 1) := by decide +kernel
theorem dX9_text_123 : decode cX9_text 123 = .ok (.iaload, 1) := by decide +kernel
theorem dX9_text_124 : decode cX9_text 124 = .ok (.iastore, 1) := by decide +kernel
theorem dX9_text_125 : decode cX9_text 125 = .ok (.aload_n 0, 1) := by decide +kernel
theorem dX9_text_126 : decode cX9_text 126 = .ok (.getfield 17, 3) := by decide +kernel
theorem dX9_text_129 : decode cX9_text 129 = .ok (.iconst 0, 1) := by decide +kernel
theorem dX9_text_130 : decode cX9_text 130 = .ok (.aload_n 0, 1) := by decide +kernel
theorem dX9_text_131 : decode cX9_text 131 = .ok (.getfield 17, 3) := by decide +kernel
theorem dX9_text_134 : decode cX9_text 134 = .ok (.iconst 1, 1) := by decide +kernel
theorem dX9_text_135 : decode cX9_text 135 = .ok (.iaload, 1) := by decide +kernel
theorem dX9_text_136 : decode cX9_text 136 = .ok (.iastore, 1) := by decide +kernel
theorem dX9_text_137 : decode cX9_text 137 = .ok (.iconst 0, 1) := by decide +kernel
theorem dX9_text_138 : decode cX9_text 138 = .ok (.istore_n 2, 1) := by decide +kernel
theorem dX9_text_139 : decode cX9_text 139 = .ok (.iload_n 2, 1) := by decide +kernel
theorem dX9_text_140 : decode cX9_text 140 = .ok (.bipush 24, 2) := by decide +kernel
theorem dX9_text_142 : decode cX9_text 142 = .ok (.if_icmp .ge 24, 3) := by decide +kernel
theorem dX9_text_145 : decode cX9_text 145 = .ok (.aload_n 0, 1) := by decide +kernel
theorem dX9_text_146 : decode cX9_text 146 = .ok (.getfield 20, 3) := by decide +kernel
theorem dX9_text_149 : decode cX9_text 149 = .ok (.iload_n 2, 1) := by decide +kernel
theorem dX9_text_150 : decode cX9_text 150 = .ok (.aload_n 0, 1) := by decide +kernel
theorem dX9_text_151 : decode cX9_text 151 = .ok (.getfield 20, 3) := by decide +kernel
theorem dX9_text_154 : decode cX9_text 154 = .ok (.bipush 24, 2) := by decide +kernel
theorem dX9_text_156 : decode cX9_text 156 = .ok (.iload_n 2, 1) := by decide +kernel
theorem dX9_text_157 : decode cX9_text 157 = .ok (.iadd, 1) := by decide +kernel
theorem dX9_text_158 : decode cX9_text 158 = .ok (.laload, 1) := by decide +kernel
theorem dX9_text_159 : decode cX9_text 159 = .ok (.lastore, 1) := by decide +kernel
theorem dX9_text_160 : decode cX9_text 160 = .ok (.iinc 2 1, 3) := by decide +kernel
theorem dX9_text_163 : decode cX9_text 163 = .ok (.goto (-24), 3) := by decide +kernel
theorem dX9_text_166 : decode cX9_text 166 = .ok (.iconst 0, 1) := by decide +kernel
theorem dX9_text_167 : decode cX9_text 167 = .ok (.istore_n 2, 1) := by decide +kernel
theorem dX9_text_168 : decode cX9_text 168 = .ok (.iload_n 2, 1) := by decide +kernel
theorem dX9_text_169 : decode cX9_text 169 = .ok (.bipush 8, 2) := by decide +kernel
theorem dX9_text_171 : decode cX9_text 171 = .ok (.if_icmp .ge 40, 3) := by decide +kernel
theorem dX9_text_174 : decode cX9_text 174 = .ok (.aload_n 0, 1) := by decide +kernel
theorem dX9_text_175 : decode cX9_text 175 = .ok (.getfield 39, 3) := by decide +kernel
theorem dX9_text_178 : decode cX9_text 178 = .ok (.iconst 0, 1) := by decide +kernel
theorem dX9_text_179 : decode cX9_text 179 = .ok (.iload_n 2, 1) := by decide +kernel
theorem dX9_text_180 : decode cX9_text 180 = .ok (.iadd, 1) := by decide +kernel
theorem dX9_text_181 : decode cX9_text 181 = .ok (.iload_n 2, 1) := by decide +kernel
theorem dX9_text_182 : decode cX9_text 182 = .ok (.aload_n 0, 1) := by decide +kernel
theorem dX9_text_183 : decode cX9_text 183 = .ok (.getfield 13, 3) := by decide +kernel
theorem dX9_text_186 : decode cX9_text 186 = .ok (.iconst 0, 1) := by decide +kernel
theorem dX9_text_187 : decode cX9_text 187 = .ok (.iaload, 1) := by decide +kernel
theorem dX9_text_188 : decode cX9_text 188 = .ok (.if_icmp .ge 15, 3) := by decide +kernel
theorem dX9_text_191 : decode cX9_text 191 = .ok (.aload_n 0, 1) := by decide +kernel
theorem dX9_text_192 : decode cX9_text 192 = .ok (.getfield 24, 3) := by decide +kernel
theorem dX9_text_195 : decode cX9_text 195 = .ok (.bipush 8, 2) := by decide +kernel
theorem dX9_text_197 : decode cX9_text 197 = .ok (.iload_n 2, 1) := by decide +kernel
theorem dX9_text_198 : decode cX9_text 198 = .ok (.iadd, 1) := by decide +kernel
theorem dX9_text_199 : decode cX9_text 199 = .ok (.iaload, 1) := by decide +kernel
theorem dX9_text_200 : decode cX9_text 200 = .ok (.goto 4, 3) := by decide +kernel
theorem dX9_text_203 : decode cX9_text 203 = .ok (.iconst 0, 1) := by decide +kernel
theorem dX9_text_204 : decode cX9_text 204 = .ok (.iastore, 1) := by decide +kernel
theorem dX9_text_205 : decode cX9_text 205 = .ok (.iinc 2 1, 3) := by decide +kernel
theorem dX9_text_208 : decode cX9_text 208 = .ok (.goto (-40), 3) := by decide +kernel
theorem dX9_text_211 : decode cX9_text 211 = .ok (.iconst 0, 1) := by decide +kernel
theorem dX9_text_212 : decode cX9_text 212 = .ok (.istore_n 2, 1) := by decide +kernel
theorem dX9_text_213 : decode cX9_text 213 = .ok (.iload_n 2, 1) := by decide +kernel
theorem dX9_text_214 : decode cX9_text 214 = .ok (.bipush 16, 2) := by decide +kernel
theorem dX9_text_216 : decode cX9_text 216 = .ok (.if_icmp .ge 103, 3) := by decide +kernel
theorem dX9_text_219 : decode cX9_text 219 = .ok (.aload_n 0, 1) := by decide +kernel
theorem dX9_text_220 : decode cX9_text 220 = .ok (.getfield 27, 3) := by decide +kernel
theorem dX9_text_223 : decode cX9_text 223 = .ok (.iload_n 2, 1) := by decide +kernel
theorem dX9_text_224 : decode cX9_text 224 = .ok (.aload_n 0, 1) := by decide +kernel
theorem dX9_text_225 : decode cX9_text 225 = .ok (.getfield 27, 3) := by decide +kernel
theorem dX9_text_228 : decode cX9_text 228 = .ok (.bipush 16, 2) := by decide +kernel
theorem dX9_text_230 : decode cX9_text 230 = .ok (.iload_n 2, 1) := by decide +kernel
theorem dX9_text_231 : decode cX9_text 231 = .ok (.iadd, 1) := by decide +kernel
theorem dX9_text_232 : decode cX9_text 232 = .ok (.iaload, 1) := by decide +kernel
theorem dX9_text_233 : decode cX9_text 233 = .ok (.iastore, 1) := by decide +kernel
theorem dX9_text_234 : decode cX9_text 234 = .ok (.aload_n 0, 1) := by decide +kernel
theorem dX9_text_235 : decode cX9_text 235 = .ok (.getfield 30, 3) := by decide +kernel
theorem dX9_text_238 : decode cX9_text 238 = .ok (.iload_n 2, 1) := by decide +kernel
theorem dX9_text_239 : decode cX9_text 239 = .ok (.aload_n 0, 1) := by decide +kernel
theorem dX9_text_240 : decode cX9_text 240 = .ok (.getfield 30, 3) := by decide +kernel
theorem dX9_text_243 : decode cX9_text 243 = .ok (.bipush 16, 2) := by decide +kernel
theorem dX9_text_245 : decode cX9_text 245 = .ok (.iload_n 2, 1) := by decide +kernel
theorem dX9_text_246 : decode cX9_text 246 = .ok (.iadd, 1) := by decide +kernel
theorem dX9_text_247 : decode cX9_text 247 = .ok (.iaload, 1) := by decide +kernel
theorem dX9_text_248 : decode cX9_text 248 = .ok (.iastore, 1) := by decide +kernel
theorem dX9_text_249 : decode cX9_text 249 = .ok (.aload_n 0, 1) := by decide +kernel
theorem dX9_text_250 : decode cX9_text 250 = .ok (.getfield 39, 3) := by decide +kernel
theorem dX9_text_253 : decode cX9_text 253 = .ok (.bipush 8, 2) := by decide +kernel
theorem dX9_text_255 : decode cX9_text 255 = .ok (.iload_n 2, 1) := by decide +kernel
theorem dX9_text_256 : decode cX9_text 256 = .ok (.iadd, 1) := by decide +kernel
theorem dX9_text_257 : decode cX9_text 257 = .ok (.iload_n 2, 1) := by decide +kernel
theorem dX9_text_258 : decode cX9_text 258 = .ok (.aload_n 0, 1) := by decide +kernel
theorem dX9_text_259 : decode cX9_text 259 = .ok (.getfield 17, 3) := by decide +kernel
theorem dX9_text_262 : decode cX9_text 262 = .ok (.iconst 0, 1) := by decide +kernel
theorem dX9_text_263 : decode cX9_text 263 = .ok (.iaload, 1) := by decide +kernel
theorem dX9_text_264 : decode cX9_text 264 = .ok (.if_icmp .ge 15, 3) := by decide +kernel
theorem dX9_text_267 : decode cX9_text 267 = .ok (.aload_n 0, 1) := by decide +kernel
theorem dX9_text_268 : decode cX9_text 268 = .ok (.getfield 33, 3) := by decide +kernel
theorem dX9_text_271 : decode cX9_text 271 = .ok (.bipush 16, 2) := by decide +kernel
theorem dX9_text_273 : decode cX9_text 273 = .ok (.iload_n 2, 1) := by decide +kernel
theorem dX9_text_274 : decode cX9_text 274 = .ok (.iadd, 1) := by decide +kernel
theorem dX9_text_275 : decode cX9_text 275 = .ok (.iaload, 1) := by decide +kernel
theorem dX9_text_276 : decode cX9_text 276 = .ok (.goto 4, 3) := by decide +kernel
theorem dX9_text_279 : decode cX9_text 279 = .ok (.iconst 0, 1) := by decide +kernel
theorem dX9_text_280 : decode cX9_text 280 = .ok (.iastore, 1) := by decide +kernel
theorem dX9_text_281 : decode cX9_text 281 = .ok (.aload_n 0, 1) := by decide +kernel
theorem dX9_text_282 : decode cX9_text 282 = .ok (.getfield 39, 3) := by decide +kernel
theorem dX9_text_285 : decode cX9_text 285 = .ok (.bipush 24, 2) := by decide +kernel
theorem dX9_text_287 : decode cX9_text 287 = .ok (.iload_n 2, 1) := by decide +kernel
theorem dX9_text_288 : decode cX9_text 288 = .ok (.iadd, 1) := by decide +kernel
theorem dX9_text_289 : decode cX9_text 289 = .ok (.iload_n 2, 1) := by decide +kernel
theorem dX9_text_290 : decode cX9_text 290 = .ok (.aload_n 0, 1) := by decide +kernel
theorem dX9_text_291 : decode cX9_text 291 = .ok (.getfield 17, 3) := by decide +kernel
theorem dX9_text_294 : decode cX9_text 294 = .ok (.iconst 0, 1) := by decide +kernel
theorem dX9_text_295 : decode cX9_text 295 = .ok (.iaload, 1) := by decide +kernel
theorem dX9_text_296 : decode cX9_text 296 = .ok (.if_icmp .ge 15, 3) := by decide +kernel
theorem dX9_text_299 : decode cX9_text 299 = .ok (.aload_n 0, 1) := by decide +kernel
theorem dX9_text_300 : decode cX9_text 300 = .ok (.getfield 36, 3) := by decide +kernel
theorem dX9_text_303 : decode cX9_text 303 = .ok (.bipush 16, 2) := by decide +kernel
theorem dX9_text_305 : decode cX9_text 305 = .ok (.iload_n 2, 1) := by decide +kernel
theorem dX9_text_306 : decode cX9_text 306 = .ok (.iadd, 1) := by decide +kernel
theorem dX9_text_307 : decode cX9_text 307 = .ok (.iaload, 1) := by decide +kernel
theorem dX9_text_308 : decode cX9_text 308 = .ok (.goto 4, 3) := by decide +kernel
theorem dX9_text_311 : decode cX9_text 311 = .ok (.iconst 0, 1) := by decide +kernel
theorem dX9_text_312 : decode cX9_text 312 = .ok (.iastore, 1) := by decide +kernel
theorem dX9_text_313 : decode cX9_text 313 = .ok (.iinc 2 1, 3) := by decide +kernel
theorem dX9_text_316 : decode cX9_text 316 = .ok (.goto (-103), 3) := by decide +kernel
theorem dX9_text_319 : decode cX9_text 319 = .ok (.aload_n 0, 1) := by decide +kernel
theorem dX9_text_320 : decode cX9_text 320 = .ok (.getfield 39, 3) := by decide +kernel
theorem dX9_text_323 : decode cX9_text 323 = .ok (.bipush 40, 2) := by decide +kernel
theorem dX9_text_325 : decode cX9_text 325 = .ok (.aload_n 0, 1) := by decide +kernel
theorem dX9_text_326 : decode cX9_text 326 = .ok (.getfield 200, 3) := by decide +kernel
theorem dX9_text_329 : decode cX9_text 329 = .ok (.iastore, 1) := by decide +kernel
theorem dX9_text_330 : decode cX9_text 330 = .ok (.aload_n 0, 1) := by decide +kernel
theorem dX9_text_331 : decode cX9_text 331 = .ok (.invokevirtual 79, 3) := by decide +kernel
theorem dX9_text_334 : decode cX9_text 334 = .ok (.aload_n 0, 1) := by decide +kernel
theorem dX9_text_335 : decode cX9_text 335 = .ok (.iconst 0, 1) := by decide +kernel
theorem dX9_text_336 : decode cX9_text 336 = .ok (.putfield 215, 3) := by decide +kernel
theorem dX9_text_339 : decode cX9_text 339 = .ok (.aload_n 0, 1) := by decide +kernel
theorem dX9_text_340 : decode cX9_text 340 = .ok (.getfield 48, 3) := by decide +kernel
theorem dX9_text_343 : decode cX9_text 343 = .ok (.iconst 0, 1) := by decide +kernel
theorem dX9_text_344 : decode cX9_text 344 = .ok (.iconst 0, 1) := by decide +kernel
theorem dX9_text_345 : decode cX9_text 345 = .ok (.bastore, 1) := by decide +kernel
theorem dX9_text_346 : decode cX9_text 346 = .ok (.aload_n 0, 1) := by decide +kernel
theorem dX9_text_347 : decode cX9_text 347 = .ok (.getfield 48, 3) := by decide +kernel
theorem dX9_text_350 : decode cX9_text 350 = .ok (.iconst 1, 1) := by decide +kernel
theorem dX9_text_351 : decode cX9_text 351 = .ok (.iconst 0, 1) := by decide +kernel
theorem dX9_text_352 : decode cX9_text 352 = .ok (.bastore, 1) := by decide +kernel
theorem dX9_text_353 : decode cX9_text 353 = .ok (.aload_n 0, 1) := by decide +kernel
theorem dX9_text_354 : decode cX9_text 354 = .ok (.getfield 13, 3) := by decide +kernel
theorem dX9_text_357 : decode cX9_text 357 = .ok (.iconst 0, 1) := by decide +kernel
theorem dX9_text_358 : decode cX9_text 358 = .ok (.iaload, 1) := by decide +kernel
theorem dX9_text_359 : decode cX9_text 359 = .ok (.ireturn, 1) := by decide +kernel
theorem dX9_begins_0 : decode cX9_begins 0 = .ok (.iconst 0, 1) := by decide +kernel
theorem dX9_begins_1 : decode cX9_begins 1 = .ok (.istore_n 1, 1) := by decide +kernel
theorem dX9_begins_2 : decode cX9_begins 2 = .ok (.iload_n 1, 1) := by decide +kernel
theorem dX9_begins_3 : decode cX9_begins 3 = .ok (.bipush 24, 2) := by decide +kernel
theorem dX9_begins_5 : decode cX9_begins 5 = .ok (.if_icmp .ge 29, 3) := by decide +kernel
theorem dX9_begins_8 : decode cX9_begins 8 = .ok (.aload_n 0, 1) := by decide +kernel
theorem dX9_begins_9 : decode cX9_begins 9 = .ok (.getfield 39, 3) := by decide +kernel
theorem dX9_begins_12 : decode cX9_begins 12 = .ok (.bipush 50, 2) := by decide +kernel
theorem dX9_begins_14 : decode cX9_begins 14 = .ok (.iload_n 1, 1) := by decide +kernel
theorem dX9_begins_15 : decode cX9_begins 15 = .ok (.iadd, 1) := by decide +kernel
theorem dX9_begins_16 : decode cX9_begins 16 = .ok (.iconst 0, 1) := by decide +kernel
theorem dX9_begins_17 : decode cX9_begins 17 = .ok (.iastore, 1) := by decide +kernel
theorem dX9_begins_18 : decode cX9_begins 18 = .ok (.aload_n 0, 1) := by decide +kernel
theorem dX9_begins_19 : decode cX9_begins 19 = .ok (.getfield 39, 3) := by decide +kernel
theorem dX9_begins_22 : decode cX9_begins 22 = .ok (.bipush 74, 2) := by decide +kernel
theorem dX9_begins_24 : decode cX9_begins 24 = .ok (.iload_n 1, 1) := by decide +kernel
theorem dX9_begins_25 : decode cX9_begins 25 = .ok (.iadd, 1) := by decide +kernel
theorem dX9_begins_26 : decode cX9_begins 26 = .ok (.iconst 1, 1) := by decide +kernel
theorem dX9_begins_27 : decode cX9_begins 27 = .ok (.iastore, 1) := by decide +kernel
theorem dX9_begins_28 : decode cX9_begins 28 = .ok (.iinc 1 1, 3) := by decide +kernel
theorem dX9_begins_31 : decode cX9_begins 31 = .ok (.goto (-29), 3) := by decide +kernel
theorem dX9_begins_34 : decode cX9_begins 34 = .ok (.iconst 0, 1) := by decide +kernel
theorem dX9_begins_35 : decode cX9_begins 35 = .ok (.istore_n 1, 1) := by decide +kernel
theorem dX9_begins_36 : decode cX9_begins 36 = .ok (.iload_n 1, 1) := by decide +kernel
theorem dX9_begins_37 : decode cX9_begins 37 = .ok (.aload_n 0, 1) := by decide +kernel
theorem dX9_begins_38 : decode cX9_begins 38 = .ok (.getfield 13, 3) := by decide +kernel
theorem dX9_begins_41 : decode cX9_begins 41 = .ok (.iconst 0, 1) := by decide +kernel
theorem dX9_begins_42 : decode cX9_begins 42 = .ok (.iaload, 1) := by decide +kernel
theorem dX9_begins_43 : decode cX9_begins 43 = .ok (.if_icmp .ge 79, 3) := by decide +kernel
theorem dX9_begins_46 : decode cX9_begins 46 = .ok (.aload_n 0, 1) := by decide +kernel
theorem dX9_begins_47 : decode cX9_begins 47 = .ok (.getfield 39, 3) := by decide +kernel
theorem dX9_begins_50 : decode cX9_begins 50 = .ok (.iconst 0, 1) := by decide +kernel
theorem dX9_begins_51 : decode cX9_begins 51 = .ok (.iload_n 1, 1) := by decide +kernel
theorem dX9_begins_52 : decode cX9_begins 52 = .ok (.iadd, 1) := by decide +kernel
theorem dX9_begins_53 : decode cX9_begins 53 = .ok (.iaload, 1) := by decide +kernel
theorem dX9_begins_54 : decode cX9_begins 54 = .ok (.istore_n 2, 1) := by decide +kernel
theorem dX9_begins_55 : decode cX9_begins 55 = .ok (.aload_n 0, 1) := by decide +kernel
theorem dX9_begins_56 : decode cX9_begins 56 = .ok (.getfield 39, 3) := by decide +kernel
theorem dX9_begins_59 : decode cX9_begins 59 = .ok (.bipush 42, 2) := by decide +kernel
theorem dX9_begins_61 : decode cX9_begins 61 = .ok (.iload_n 1, 1) := by decide +kernel
theorem dX9_begins_62 : decode cX9_begins 62 = .ok (.iadd, 1) := by decide +kernel
theorem dX9_begins_63 : decode cX9_begins 63 = .ok (.iload_n 2, 1) := by decide +kernel
theorem dX9_begins_64 : decode cX9_begins 64 = .ok (.ifCond .lt 7, 3) := by decide +kernel
theorem dX9_begins_67 : decode cX9_begins 67 = .ok (.iconst 1, 1) := by decide +kernel
theorem dX9_begins_68 : decode cX9_begins 68 = .ok (.goto 4, 3) := by decide +kernel
theorem dX9_begins_71 : decode cX9_begins 71 = .ok (.iconst 0, 1) := by decide +kernel
theorem dX9_begins_72 : decode cX9_begins 72 = .ok (.iastore, 1) := by decide +kernel
theorem dX9_begins_73 : decode cX9_begins 73 = .ok (.aload_n 0, 1) := by decide +kernel
theorem dX9_begins_74 : decode cX9_begins 74 = .ok (.getfield 39, 3) := by decide +kernel
theorem dX9_begins_77 : decode cX9_begins 77 = .ok (.bipush 50, 2) := by decide +kernel
theorem dX9_begins_79 : decode cX9_begins 79 = .ok (.aload_n 0, 1) := by decide +kernel
theorem dX9_begins_80 : decode cX9_begins 80 = .ok (.getfield 17, 3) := by decide +kernel
theorem dX9_begins_83 : decode cX9_begins 83 = .ok (.iconst 0, 1) := by decide +kernel
theorem dX9_begins_84 : decode cX9_begins 84 = .ok (.iaload, 1) := by decide +kernel
theorem dX9_begins_85 : decode cX9_begins 85 = .ok (.iadd, 1) := by decide +kernel
theorem dX9_begins_86 : decode cX9_begins 86 = .ok (.iload_n 1, 1) := by decide +kernel
theorem dX9_begins_87 : decode cX9_begins 87 = .ok (.iadd, 1) := by decide +kernel
theorem dX9_begins_88 : decode cX9_begins 88 = .ok (.iload_n 2, 1) := by decide +kernel
theorem dX9_begins_89 : decode cX9_begins 89 = .ok (.ifCond .lt 7, 3) := by decide +kernel
theorem dX9_begins_92 : decode cX9_begins 92 = .ok (.iload_n 2, 1) := by decide +kernel
theorem dX9_begins_93 : decode cX9_begins 93 = .ok (.goto 5, 3) := by decide +kernel
theorem dX9_begins_96 : decode cX9_begins 96 = .ok (.iload_n 2, 1) := by decide +kernel
theorem dX9_begins_97 : decode cX9_begins 97 = .ok (.ineg, 1) := by decide +kernel
theorem dX9_begins_98 : decode cX9_begins 98 = .ok (.iastore, 1) := by decide +kernel
theorem dX9_begins_99 : decode cX9_begins 99 = .ok (.aload_n 0, 1) := by decide +kernel
theorem dX9_begins_100 : decode cX9_begins 100 = .ok (.getfield 39, 3) := by decide +kernel
theorem dX9_begins_103 : decode cX9_begins 103 = .ok (.bipush 74, 2) := by decide +kernel
theorem dX9_begins_105 : decode cX9_begins 105 = .ok (.aload_n 0, 1) := by decide +kernel
theorem dX9_begins_106 : decode cX9_begins 106 = .ok (.getfield 17, 3) := by decide +kernel
theorem dX9_begins_109 : decode cX9_begins 109 = .ok (.iconst 0, 1) := by decide +kernel
theorem dX9_begins_110 : decode cX9_begins 110 = .ok (.iaload, 1) := by decide +kernel
theorem dX9_begins_111 : decode cX9_begins 111 = .ok (.iadd, 1) := by decide +kernel
theorem dX9_begins_112 : decode cX9_begins 112 = .ok (.iload_n 1, 1) := by decide +kernel
theorem dX9_begins_113 : decode cX9_begins 113 = .ok (.iadd, 1) := by decide +kernel
theorem dX9_begins_114 : decode cX9_begins 114 = .ok (.iconst 0, 1) := by decide +kernel
theorem dX9_begins_115 : decode cX9_begins 115 = .ok (.iastore, 1) := by decide +kernel
theorem dX9_begins_116 : decode cX9_begins 116 = .ok (.iinc 1 1, 3) := by decide +kernel
theorem dX9_begins_119 : decode cX9_begins 119 = .ok (.goto (-83), 3) := by decide +kernel
theorem dX9_begins_122 : decode cX9_begins 122 = .ok (.aload_n 0, 1) := by decide +kernel
theorem dX9_begins_123 : decode cX9_begins 123 = .ok (.getfield 39, 3) := by decide +kernel
theorem dX9_begins_126 : decode cX9_begins 126 = .ok (.bipush 41, 2) := by decide +kernel
theorem dX9_begins_128 : decode cX9_begins 128 = .ok (.iconst 0, 1) := by decide +kernel
theorem dX9_begins_129 : decode cX9_begins 129 = .ok (.iastore, 1) := by decide +kernel
theorem dX9_begins_130 : decode cX9_begins 130 = .ok (.aload_n 0, 1) := by decide +kernel
theorem dX9_begins_131 : decode cX9_begins 131 = .ok (.getfield 39, 3) := by decide +kernel
theorem dX9_begins_134 : decode cX9_begins 134 = .ok (.bipush 98, 2) := by decide +kernel
theorem dX9_begins_136 : decode cX9_begins 136 = .ok (.iconst 0, 1) := by decide +kernel
theorem dX9_begins_137 : decode cX9_begins 137 = .ok (.iastore, 1) := by decide +kernel
theorem dX9_begins_138 : decode cX9_begins 138 = .ok (.bipush 99, 2) := by decide +kernel
theorem dX9_begins_140 : decode cX9_begins 140 = .ok (.istore_n 1, 1) := by decide +kernel
theorem dX9_begins_141 : decode cX9_begins 141 = .ok (.iload_n 1, 1) := by decide +kernel
theorem dX9_begins_142 : decode cX9_begins 142 = .ok (.sipush 180, 3) := by decide +kernel
theorem dX9_begins_145 : decode cX9_begins 145 = .ok (.if_icmp .ge 16, 3) := by decide +kernel
theorem dX9_begins_148 : decode cX9_begins 148 = .ok (.aload_n 0, 1) := by decide +kernel
theorem dX9_begins_149 : decode cX9_begins 149 = .ok (.getfield 39, 3) := by decide +kernel
theorem dX9_begins_152 : decode cX9_begins 152 = .ok (.iload_n 1, 1) := by decide +kernel
theorem dX9_begins_153 : decode cX9_begins 153 = .ok (.iconst 0, 1) := by decide +kernel
theorem dX9_begins_154 : decode cX9_begins 154 = .ok (.iastore, 1) := by decide +kernel
theorem dX9_begins_155 : decode cX9_begins 155 = .ok (.iinc 1 1, 3) := by decide +kernel
theorem dX9_begins_158 : decode cX9_begins 158 = .ok (.goto (-17), 3) := by decide +kernel
theorem dX9_begins_161 : decode cX9_begins 161 = .ok (.return_, 1) := by decide +kernel
theorem dX9_ways_0 : decode cX9_ways 0 = .ok (.aload_n 0, 1) := by decide +kernel
theorem dX9_ways_1 : decode cX9_ways 1 = .ok (.getfield 17, 3) := by decide +kernel
theorem dX9_ways_4 : decode cX9_ways 4 = .ok (.iconst 0, 1) := by decide +kernel
theorem dX9_ways_5 : decode cX9_ways 5 = .ok (.iaload, 1) := by decide +kernel
theorem dX9_ways_6 : decode cX9_ways 6 = .ok (.aload_n 0, 1) := by decide +kernel
theorem dX9_ways_7 : decode cX9_ways 7 = .ok (.getfield 13, 3) := by decide +kernel
theorem dX9_ways_10 : decode cX9_ways 10 = .ok (.iconst 0, 1) := by decide +kernel
theorem dX9_ways_11 : decode cX9_ways 11 = .ok (.iaload, 1) := by decide +kernel
theorem dX9_ways_12 : decode cX9_ways 12 = .ok (.iadd, 1) := by decide +kernel
theorem dX9_ways_13 : decode cX9_ways 13 = .ok (.ireturn, 1) := by decide +kernel
theorem dX9_isDock_0 : decode cX9_isDock 0 = .ok (.iload_n 1, 1) := by decide +kernel
theorem dX9_isDock_1 : decode cX9_isDock 1 = .ok (.i2l, 1) := by decide +kernel
theorem dX9_isDock_2 : decode cX9_isDock 2 = .ok (.lconst 0, 1) := by decide +kernel
theorem dX9_isDock_3 : decode cX9_isDock 3 = .ok (.aload_n 0, 1) := by decide +kernel
theorem dX9_isDock_4 : decode cX9_isDock 4 = .ok (.getfield 13, 3) := by decide +kernel
theorem dX9_isDock_7 : decode cX9_isDock 7 = .ok (.iconst 0, 1) := by decide +kernel
theorem dX9_isDock_8 : decode cX9_isDock 8 = .ok (.iaload, 1) := by decide +kernel
theorem dX9_isDock_9 : decode cX9_isDock 9 = .ok (.iconst 1, 1) := by decide +kernel
theorem dX9_isDock_10 : decode cX9_isDock 10 = .ok (.isub, 1) := by decide +kernel
theorem dX9_isDock_11 : decode cX9_isDock 11 = .ok (.i2l, 1) := by decide +kernel
theorem dX9_isDock_12 : decode cX9_isDock 12 = .ok (.invokestatic 120, 3) := by decide +kernel
theorem dX9_isDock_15 : decode cX9_isDock 15 = .ok (.ireturn, 1) := by decide +kernel
theorem dX9_isRoute_0 : decode cX9_isRoute 0 = .ok (.iload_n 1, 1) := by decide +kernel
theorem dX9_isRoute_1 : decode cX9_isRoute 1 = .ok (.i2l, 1) := by decide +kernel
theorem dX9_isRoute_2 : decode cX9_isRoute 2 = .ok (.lconst 0, 1) := by decide +kernel
theorem dX9_isRoute_3 : decode cX9_isRoute 3 = .ok (.aload_n 0, 1) := by decide +kernel
theorem dX9_isRoute_4 : decode cX9_isRoute 4 = .ok (.getfield 17, 3) := by decide +kernel
theorem dX9_isRoute_7 : decode cX9_isRoute 7 = .ok (.iconst 0, 1) := by decide +kernel
theorem dX9_isRoute_8 : decode cX9_isRoute 8 = .ok (.iaload, 1) := by decide +kernel
theorem dX9_isRoute_9 : decode cX9_isRoute 9 = .ok (.iconst 1, 1) := by decide +kernel
theorem dX9_isRoute_10 : decode cX9_isRoute 10 = .ok (.isub, 1) := by decide +kernel
theorem dX9_isRoute_11 : decode cX9_isRoute 11 = .ok (.i2l, 1) := by decide +kernel
theorem dX9_isRoute_12 : decode cX9_isRoute 12 = .ok (.invokestatic 120, 3) := by decide +kernel
theorem dX9_isRoute_15 : decode cX9_isRoute 15 = .ok (.ireturn, 1) := by decide +kernel
theorem dX9_isWay_0 : decode cX9_isWay 0 = .ok (.iload_n 1, 1) := by decide +kernel
theorem dX9_isWay_1 : decode cX9_isWay 1 = .ok (.i2l, 1) := by decide +kernel
theorem dX9_isWay_2 : decode cX9_isWay 2 = .ok (.lconst 0, 1) := by decide +kernel
theorem dX9_isWay_3 : decode cX9_isWay 3 = .ok (.aload_n 0, 1) := by decide +kernel
theorem dX9_isWay_4 : decode cX9_isWay 4 = .ok (.invokevirtual 218, 3) := by decide +kernel
theorem dX9_isWay_7 : decode cX9_isWay 7 = .ok (.iconst 1, 1) := by decide +kernel
theorem dX9_isWay_8 : decode cX9_isWay 8 = .ok (.isub, 1) := by decide +kernel
theorem dX9_isWay_9 : decode cX9_isWay 9 = .ok (.i2l, 1) := by decide +kernel
theorem dX9_isWay_10 : decode cX9_isWay 10 = .ok (.invokestatic 120, 3) := by decide +kernel
theorem dX9_isWay_13 : decode cX9_isWay 13 = .ok (.ireturn, 1) := by decide +kernel
theorem dX9_beginOf_0 : decode cX9_beginOf 0 = .ok (.iload_n 1, 1) := by decide +kernel
theorem dX9_beginOf_1 : decode cX9_beginOf 1 = .ok (.aload_n 0, 1) := by decide +kernel
theorem dX9_beginOf_2 : decode cX9_beginOf 2 = .ok (.getfield 17, 3) := by decide +kernel
theorem dX9_beginOf_5 : decode cX9_beginOf 5 = .ok (.iconst 0, 1) := by decide +kernel
theorem dX9_beginOf_6 : decode cX9_beginOf 6 = .ok (.iaload, 1) := by decide +kernel
theorem dX9_beginOf_7 : decode cX9_beginOf 7 = .ok (.if_icmp .ge 10, 3) := by decide +kernel
theorem dX9_beginOf_10 : decode cX9_beginOf 10 = .ok (.aload_n 0, 1) := by decide +kernel
theorem dX9_beginOf_11 : decode cX9_beginOf 11 = .ok (.getfield 27, 3) := by decide +kernel
theorem dX9_beginOf_14 : decode cX9_beginOf 14 = .ok (.iload_n 1, 1) := by decide +kernel
theorem dX9_beginOf_15 : decode cX9_beginOf 15 = .ok (.iaload, 1) := by decide +kernel
theorem dX9_beginOf_16 : decode cX9_beginOf 16 = .ok (.ireturn, 1) := by decide +kernel
theorem dX9_beginOf_17 : decode cX9_beginOf 17 = .ok (.iload_n 1, 1) := by decide +kernel
theorem dX9_beginOf_18 : decode cX9_beginOf 18 = .ok (.aload_n 0, 1) := by decide +kernel
theorem dX9_beginOf_19 : decode cX9_beginOf 19 = .ok (.getfield 17, 3) := by decide +kernel
theorem dX9_beginOf_22 : decode cX9_beginOf 22 = .ok (.iconst 0, 1) := by decide +kernel
theorem dX9_beginOf_23 : decode cX9_beginOf 23 = .ok (.iaload, 1) := by decide +kernel
theorem dX9_beginOf_24 : decode cX9_beginOf 24 = .ok (.isub, 1) := by decide +kernel
theorem dX9_beginOf_25 : decode cX9_beginOf 25 = .ok (.istore_n 2, 1) := by decide +kernel
theorem dX9_beginOf_26 : decode cX9_beginOf 26 = .ok (.aload_n 0, 1) := by decide +kernel
theorem dX9_beginOf_27 : decode cX9_beginOf 27 = .ok (.getfield 39, 3) := by decide +kernel
theorem dX9_beginOf_30 : decode cX9_beginOf 30 = .ok (.bipush 42, 2) := by decide +kernel
theorem dX9_beginOf_32 : decode cX9_beginOf 32 = .ok (.iload_n 2, 1) := by decide +kernel
theorem dX9_beginOf_33 : decode cX9_beginOf 33 = .ok (.iadd, 1) := by decide +kernel
theorem dX9_beginOf_34 : decode cX9_beginOf 34 = .ok (.iaload, 1) := by decide +kernel
theorem dX9_beginOf_35 : decode cX9_beginOf 35 = .ok (.iconst 1, 1) := by decide +kernel
theorem dX9_beginOf_36 : decode cX9_beginOf 36 = .ok (.if_icmp .ne 7, 3) := by decide +kernel
theorem dX9_beginOf_39 : decode cX9_beginOf 39 = .ok (.iload_n 2, 1) := by decide +kernel
theorem dX9_beginOf_40 : decode cX9_beginOf 40 = .ok (.goto 5, 3) := by decide +kernel
theorem dX9_beginOf_43 : decode cX9_beginOf 43 = .ok (.bipush 8, 2) := by decide +kernel
theorem dX9_beginOf_45 : decode cX9_beginOf 45 = .ok (.ireturn, 1) := by decide +kernel
theorem dX9_endOf_0 : decode cX9_endOf 0 = .ok (.iload_n 1, 1) := by decide +kernel
theorem dX9_endOf_1 : decode cX9_endOf 1 = .ok (.aload_n 0, 1) := by decide +kernel
theorem dX9_endOf_2 : decode cX9_endOf 2 = .ok (.getfield 17, 3) := by decide +kernel
theorem dX9_endOf_5 : decode cX9_endOf 5 = .ok (.iconst 0, 1) := by decide +kernel
theorem dX9_endOf_6 : decode cX9_endOf 6 = .ok (.iaload, 1) := by decide +kernel
theorem dX9_endOf_7 : decode cX9_endOf 7 = .ok (.if_icmp .ge 10, 3) := by decide +kernel
theorem dX9_endOf_10 : decode cX9_endOf 10 = .ok (.aload_n 0, 1) := by decide +kernel
theorem dX9_endOf_11 : decode cX9_endOf 11 = .ok (.getfield 30, 3) := by decide +kernel
theorem dX9_endOf_14 : decode cX9_endOf 14 = .ok (.iload_n 1, 1) := by decide +kernel
theorem dX9_endOf_15 : decode cX9_endOf 15 = .ok (.iaload, 1) := by decide +kernel
theorem dX9_endOf_16 : decode cX9_endOf 16 = .ok (.ireturn, 1) := by decide +kernel
theorem dX9_endOf_17 : decode cX9_endOf 17 = .ok (.iload_n 1, 1) := by decide +kernel
theorem dX9_endOf_18 : decode cX9_endOf 18 = .ok (.aload_n 0, 1) := by decide +kernel
theorem dX9_endOf_19 : decode cX9_endOf 19 = .ok (.getfield 17, 3) := by decide +kernel
theorem dX9_endOf_22 : decode cX9_endOf 22 = .ok (.iconst 0, 1) := by decide +kernel
theorem dX9_endOf_23 : decode cX9_endOf 23 = .ok (.iaload, 1) := by decide +kernel
theorem dX9_endOf_24 : decode cX9_endOf 24 = .ok (.isub, 1) := by decide +kernel
theorem dX9_endOf_25 : decode cX9_endOf 25 = .ok (.istore_n 2, 1) := by decide +kernel
theorem dX9_endOf_26 : decode cX9_endOf 26 = .ok (.aload_n 0, 1) := by decide +kernel
theorem dX9_endOf_27 : decode cX9_endOf 27 = .ok (.getfield 39, 3) := by decide +kernel
theorem dX9_endOf_30 : decode cX9_endOf 30 = .ok (.bipush 42, 2) := by decide +kernel
theorem dX9_endOf_32 : decode cX9_endOf 32 = .ok (.iload_n 2, 1) := by decide +kernel
theorem dX9_endOf_33 : decode cX9_endOf 33 = .ok (.iadd, 1) := by decide +kernel
theorem dX9_endOf_34 : decode cX9_endOf 34 = .ok (.iaload, 1) := by decide +kernel
theorem dX9_endOf_35 : decode cX9_endOf 35 = .ok (.iconst 1, 1) := by decide +kernel
theorem dX9_endOf_36 : decode cX9_endOf 36 = .ok (.if_icmp .ne 8, 3) := by decide +kernel
theorem dX9_endOf_39 : decode cX9_endOf 39 = .ok (.bipush 8, 2) := by decide +kernel
theorem dX9_endOf_41 : decode cX9_endOf 41 = .ok (.goto 4, 3) := by decide +kernel
theorem dX9_endOf_44 : decode cX9_endOf 44 = .ok (.iload_n 2, 1) := by decide +kernel
theorem dX9_endOf_45 : decode cX9_endOf 45 = .ok (.ireturn, 1) := by decide +kernel
theorem dX9_costOf_0 : decode cX9_costOf 0 = .ok (.iload_n 1, 1) := by decide +kernel
theorem dX9_costOf_1 : decode cX9_costOf 1 = .ok (.aload_n 0, 1) := by decide +kernel
theorem dX9_costOf_2 : decode cX9_costOf 2 = .ok (.getfield 17, 3) := by decide +kernel
theorem dX9_costOf_5 : decode cX9_costOf 5 = .ok (.iconst 0, 1) := by decide +kernel
theorem dX9_costOf_6 : decode cX9_costOf 6 = .ok (.iaload, 1) := by decide +kernel
theorem dX9_costOf_7 : decode cX9_costOf 7 = .ok (.if_icmp .ge 15, 3) := by decide +kernel
theorem dX9_costOf_10 : decode cX9_costOf 10 = .ok (.aload_n 0, 1) := by decide +kernel
theorem dX9_costOf_11 : decode cX9_costOf 11 = .ok (.getfield 39, 3) := by decide +kernel
theorem dX9_costOf_14 : decode cX9_costOf 14 = .ok (.bipush 8, 2) := by decide +kernel
theorem dX9_costOf_16 : decode cX9_costOf 16 = .ok (.iload_n 1, 1) := by decide +kernel
theorem dX9_costOf_17 : decode cX9_costOf 17 = .ok (.iadd, 1) := by decide +kernel
theorem dX9_costOf_18 : decode cX9_costOf 18 = .ok (.iaload, 1) := by decide +kernel
theorem dX9_costOf_19 : decode cX9_costOf 19 = .ok (.goto 6, 3) := by decide +kernel
theorem dX9_costOf_22 : decode cX9_costOf 22 = .ok (.sipush 10000, 3) := by decide +kernel
theorem dX9_costOf_25 : decode cX9_costOf 25 = .ok (.ireturn, 1) := by decide +kernel
theorem dX9_holdsOf_0 : decode cX9_holdsOf 0 = .ok (.iload_n 1, 1) := by decide +kernel
theorem dX9_holdsOf_1 : decode cX9_holdsOf 1 = .ok (.aload_n 0, 1) := by decide +kernel
theorem dX9_holdsOf_2 : decode cX9_holdsOf 2 = .ok (.getfield 17, 3) := by decide +kernel
theorem dX9_holdsOf_5 : decode cX9_holdsOf 5 = .ok (.iconst 0, 1) := by decide +kernel
theorem dX9_holdsOf_6 : decode cX9_holdsOf 6 = .ok (.iaload, 1) := by decide +kernel
theorem dX9_holdsOf_7 : decode cX9_holdsOf 7 = .ok (.if_icmp .ge 15, 3) := by decide +kernel
theorem dX9_holdsOf_10 : decode cX9_holdsOf 10 = .ok (.aload_n 0, 1) := by decide +kernel
theorem dX9_holdsOf_11 : decode cX9_holdsOf 11 = .ok (.getfield 39, 3) := by decide +kernel
theorem dX9_holdsOf_14 : decode cX9_holdsOf 14 = .ok (.bipush 24, 2) := by decide +kernel
theorem dX9_holdsOf_16 : decode cX9_holdsOf 16 = .ok (.iload_n 1, 1) := by decide +kernel
theorem dX9_holdsOf_17 : decode cX9_holdsOf 17 = .ok (.iadd, 1) := by decide +kernel
theorem dX9_holdsOf_18 : decode cX9_holdsOf 18 = .ok (.iaload, 1) := by decide +kernel
theorem dX9_holdsOf_19 : decode cX9_holdsOf 19 = .ok (.goto 5, 3) := by decide +kernel
theorem dX9_holdsOf_22 : decode cX9_holdsOf 22 = .ok (.ldc 221, 2) := by decide +kernel
theorem dX9_holdsOf_24 : decode cX9_holdsOf 24 = .ok (.ireturn, 1) := by decide +kernel
theorem dX9_hangs_0 : decode cX9_hangs 0 = .ok (.aload_n 0, 1) := by decide +kernel
theorem dX9_hangs_1 : decode cX9_hangs 1 = .ok (.getfield 55, 3) := by decide +kernel
theorem dX9_hangs_4 : decode cX9_hangs 4 = .ok (.iload_n 1, 1) := by decide +kernel
theorem dX9_hangs_5 : decode cX9_hangs 5 = .ok (.iload_n 3, 1) := by decide +kernel
theorem dX9_hangs_6 : decode cX9_hangs 6 = .ok (.iastore, 1) := by decide +kernel
theorem dX9_hangs_7 : decode cX9_hangs 7 = .ok (.aload_n 0, 1) := by decide +kernel
theorem dX9_hangs_8 : decode cX9_hangs 8 = .ok (.getfield 58, 3) := by decide +kernel
theorem dX9_hangs_11 : decode cX9_hangs 11 = .ok (.iload_n 1, 1) := by decide +kernel
theorem dX9_hangs_12 : decode cX9_hangs 12 = .ok (.aload_n 0, 1) := by decide +kernel
theorem dX9_hangs_13 : decode cX9_hangs 13 = .ok (.getfield 58, 3) := by decide +kernel
theorem dX9_hangs_16 : decode cX9_hangs 16 = .ok (.iload_n 2, 1) := by decide +kernel
theorem dX9_hangs_17 : decode cX9_hangs 17 = .ok (.iaload, 1) := by decide +kernel
theorem dX9_hangs_18 : decode cX9_hangs 18 = .ok (.iconst 1, 1) := by decide +kernel
theorem dX9_hangs_19 : decode cX9_hangs 19 = .ok (.iadd, 1) := by decide +kernel
theorem dX9_hangs_20 : decode cX9_hangs 20 = .ok (.iastore, 1) := by decide +kernel
theorem dX9_hangs_21 : decode cX9_hangs 21 = .ok (.aload_n 0, 1) := by decide +kernel
theorem dX9_hangs_22 : decode cX9_hangs 22 = .ok (.getfield 61, 3) := by decide +kernel
theorem dX9_hangs_25 : decode cX9_hangs 25 = .ok (.iload_n 1, 1) := by decide +kernel
theorem dX9_hangs_26 : decode cX9_hangs 26 = .ok (.aload_n 0, 1) := by decide +kernel
theorem dX9_hangs_27 : decode cX9_hangs 27 = .ok (.getfield 61, 3) := by decide +kernel
theorem dX9_hangs_30 : decode cX9_hangs 30 = .ok (.iload_n 2, 1) := by decide +kernel
theorem dX9_hangs_31 : decode cX9_hangs 31 = .ok (.iaload, 1) := by decide +kernel
theorem dX9_hangs_32 : decode cX9_hangs 32 = .ok (.iload 4, 2) := by decide +kernel
theorem dX9_hangs_34 : decode cX9_hangs 34 = .ok (.iadd, 1) := by decide +kernel
theorem dX9_hangs_35 : decode cX9_hangs 35 = .ok (.iastore, 1) := by decide +kernel
theorem dX9_hangs_36 : decode cX9_hangs 36 = .ok (.return_, 1) := by decide +kernel
theorem dX9_laysTree_0 : decode cX9_laysTree 0 = .ok (.iconst 0, 1) := by decide +kernel
theorem dX9_laysTree_1 : decode cX9_laysTree 1 = .ok (.istore_n 1, 1) := by decide +kernel
theorem dX9_laysTree_2 : decode cX9_laysTree 2 = .ok (.iload_n 1, 1) := by decide +kernel
theorem dX9_laysTree_3 : decode cX9_laysTree 3 = .ok (.bipush 9, 2) := by decide +kernel
theorem dX9_laysTree_5 : decode cX9_laysTree 5 = .ok (.if_icmp .ge 16, 3) := by decide +kernel
theorem dX9_laysTree_8 : decode cX9_laysTree 8 = .ok (.aload_n 0, 1) := by decide +kernel
theorem dX9_laysTree_9 : decode cX9_laysTree 9 = .ok (.getfield 58, 3) := by decide +kernel
theorem dX9_laysTree_12 : decode cX9_laysTree 12 = .ok (.iload_n 1, 1) := by decide +kernel
theorem dX9_laysTree_13 : decode cX9_laysTree 13 = .ok (.iconst (-1), 1) := by decide +kernel
theorem dX9_laysTree_14 : decode cX9_laysTree 14 = .ok (.iastore, 1) := by decide +kernel
theorem dX9_laysTree_15 : decode cX9_laysTree 15 = .ok (.iinc 1 1, 3) := by decide +kernel
theorem dX9_laysTree_18 : decode cX9_laysTree 18 = .ok (.goto (-16), 3) := by decide +kernel
theorem dX9_laysTree_21 : decode cX9_laysTree 21 = .ok (.aload_n 0, 1) := by decide +kernel
theorem dX9_laysTree_22 : decode cX9_laysTree 22 = .ok (.getfield 58, 3) := by decide +kernel
theorem dX9_laysTree_25 : decode cX9_laysTree 25 = .ok (.bipush 8, 2) := by decide +kernel
theorem dX9_laysTree_27 : decode cX9_laysTree 27 = .ok (.iconst 0, 1) := by decide +kernel
theorem dX9_laysTree_28 : decode cX9_laysTree 28 = .ok (.iastore, 1) := by decide +kernel
theorem dX9_laysTree_29 : decode cX9_laysTree 29 = .ok (.aload_n 0, 1) := by decide +kernel
theorem dX9_laysTree_30 : decode cX9_laysTree 30 = .ok (.getfield 61, 3) := by decide +kernel
theorem dX9_laysTree_33 : decode cX9_laysTree 33 = .ok (.bipush 8, 2) := by decide +kernel
theorem dX9_laysTree_35 : decode cX9_laysTree 35 = .ok (.iconst 0, 1) := by decide +kernel
theorem dX9_laysTree_36 : decode cX9_laysTree 36 = .ok (.iastore, 1) := by decide +kernel
theorem dX9_laysTree_37 : decode cX9_laysTree 37 = .ok (.aload_n 0, 1) := by decide +kernel
theorem dX9_laysTree_38 : decode cX9_laysTree 38 = .ok (.getfield 55, 3) := by decide +kernel
theorem dX9_laysTree_41 : decode cX9_laysTree 41 = .ok (.bipush 8, 2) := by decide +kernel
theorem dX9_laysTree_43 : decode cX9_laysTree 43 = .ok (.iconst (-1), 1) := by decide +kernel
theorem dX9_laysTree_44 : decode cX9_laysTree 44 = .ok (.iastore, 1) := by decide +kernel
theorem dX9_laysTree_45 : decode cX9_laysTree 45 = .ok (.iconst 1, 1) := by decide +kernel
theorem dX9_laysTree_46 : decode cX9_laysTree 46 = .ok (.istore_n 1, 1) := by decide +kernel
theorem dX9_laysTree_47 : decode cX9_laysTree 47 = .ok (.iload_n 1, 1) := by decide +kernel
theorem dX9_laysTree_48 : decode cX9_laysTree 48 = .ok (.ifCond .eq 128, 3) := by decide +kernel
theorem dX9_laysTree_51 : decode cX9_laysTree 51 = .ok (.iconst 0, 1) := by decide +kernel
theorem dX9_laysTree_52 : decode cX9_laysTree 52 = .ok (.istore_n 1, 1) := by decide +kernel
theorem dX9_laysTree_53 : decode cX9_laysTree 53 = .ok (.iconst 0, 1) := by decide +kernel
theorem dX9_laysTree_54 : decode cX9_laysTree 54 = .ok (.istore_n 2, 1) := by decide +kernel
theorem dX9_laysTree_55 : decode cX9_laysTree 55 = .ok (.iload_n 2, 1) := by decide +kernel
theorem dX9_laysTree_56 : decode cX9_laysTree 56 = .ok (.aload_n 0, 1) := by decide +kernel
theorem dX9_laysTree_57 : decode cX9_laysTree 57 = .ok (.invokevirtual 218, 3) := by decide +kernel
theorem dX9_laysTree_60 : decode cX9_laysTree 60 = .ok (.if_icmp .ge 113, 3) := by decide +kernel
theorem dX9_laysTree_63 : decode cX9_laysTree 63 = .ok (.aload_n 0, 1) := by decide +kernel
theorem dX9_laysTree_64 : decode cX9_laysTree 64 = .ok (.getfield 39, 3) := by decide +kernel
theorem dX9_laysTree_67 : decode cX9_laysTree 67 = .ok (.bipush 74, 2) := by decide +kernel
theorem dX9_laysTree_69 : decode cX9_laysTree 69 = .ok (.iload_n 2, 1) := by decide +kernel
theorem dX9_laysTree_70 : decode cX9_laysTree 70 = .ok (.iadd, 1) := by decide +kernel
theorem dX9_laysTree_71 : decode cX9_laysTree 71 = .ok (.iaload, 1) := by decide +kernel
theorem dX9_laysTree_72 : decode cX9_laysTree 72 = .ok (.ifCond .eq 6, 3) := by decide +kernel
theorem dX9_laysTree_75 : decode cX9_laysTree 75 = .ok (.goto 92, 3) := by decide +kernel
theorem dX9_laysTree_78 : decode cX9_laysTree 78 = .ok (.aload_n 0, 1) := by decide +kernel
theorem dX9_laysTree_79 : decode cX9_laysTree 79 = .ok (.iload_n 2, 1) := by decide +kernel
theorem dX9_laysTree_80 : decode cX9_laysTree 80 = .ok (.invokevirtual 222, 3) := by decide +kernel
theorem dX9_laysTree_83 : decode cX9_laysTree 83 = .ok (.istore_n 3, 1) := by decide +kernel
theorem dX9_laysTree_84 : decode cX9_laysTree 84 = .ok (.aload_n 0, 1) := by decide +kernel
theorem dX9_laysTree_85 : decode cX9_laysTree 85 = .ok (.iload_n 2, 1) := by decide +kernel
theorem dX9_laysTree_86 : decode cX9_laysTree 86 = .ok (.invokevirtual 225, 3) := by decide +kernel
theorem dX9_laysTree_89 : decode cX9_laysTree 89 = .ok (.istore 4, 2) := by decide +kernel
theorem dX9_laysTree_91 : decode cX9_laysTree 91 = .ok (.aload_n 0, 1) := by decide +kernel
theorem dX9_laysTree_92 : decode cX9_laysTree 92 = .ok (.getfield 58, 3) := by decide +kernel
theorem dX9_laysTree_95 : decode cX9_laysTree 95 = .ok (.iload_n 3, 1) := by decide +kernel
theorem dX9_laysTree_96 : decode cX9_laysTree 96 = .ok (.iaload, 1) := by decide +kernel
theorem dX9_laysTree_97 : decode cX9_laysTree 97 = .ok (.ifCond .ge 7, 3) := by decide +kernel
theorem dX9_laysTree_100 : decode cX9_laysTree 100 = .ok (.iconst 1, 1) := by decide +kernel
theorem dX9_laysTree_101 : decode cX9_laysTree 101 = .ok (.goto 4, 3) := by decide +kernel
theorem dX9_laysTree_104 : decode cX9_laysTree 104 = .ok (.iconst 0, 1) := by decide +kernel
theorem dX9_laysTree_105 : decode cX9_laysTree 105 = .ok (.aload_n 0, 1) := by decide +kernel
theorem dX9_laysTree_106 : decode cX9_laysTree 106 = .ok (.getfield 58, 3) := by decide +kernel
theorem dX9_laysTree_109 : decode cX9_laysTree 109 = .ok (.iload 4, 2) := by decide +kernel
theorem dX9_laysTree_111 : decode cX9_laysTree 111 = .ok (.iaload, 1) := by decide +kernel
theorem dX9_laysTree_112 : decode cX9_laysTree 112 = .ok (.ifCond .ge 7, 3) := by decide +kernel
theorem dX9_laysTree_115 : decode cX9_laysTree 115 = .ok (.iconst 1, 1) := by decide +kernel
theorem dX9_laysTree_116 : decode cX9_laysTree 116 = .ok (.goto 4, 3) := by decide +kernel
theorem dX9_laysTree_119 : decode cX9_laysTree 119 = .ok (.iconst 0, 1) := by decide +kernel
theorem dX9_laysTree_120 : decode cX9_laysTree 120 = .ok (.if_icmp .ne 6, 3) := by decide +kernel
theorem dX9_laysTree_123 : decode cX9_laysTree 123 = .ok (.goto 44, 3) := by decide +kernel
theorem dX9_laysTree_126 : decode cX9_laysTree 126 = .ok (.iconst 1, 1) := by decide +kernel
theorem dX9_laysTree_127 : decode cX9_laysTree 127 = .ok (.istore_n 1, 1) := by decide +kernel
theorem dX9_laysTree_128 : decode cX9_laysTree 128 = .ok (.aload_n 0, 1) := by decide +kernel
theorem dX9_laysTree_129 : decode cX9_laysTree 129 = .ok (.getfield 58, 3) := by decide +kernel
theorem dX9_laysTree_132 : decode cX9_laysTree 132 = .ok (.iload_n 3, 1) := by decide +kernel
theorem dX9_laysTree_133 : decode cX9_laysTree 133 = .ok (.iaload, 1) := by decide +kernel
theorem dX9_laysTree_134 : decode cX9_laysTree 134 = .ok (.ifCond .lt 19, 3) := by decide +kernel
theorem dX9_laysTree_137 : decode cX9_laysTree 137 = .ok (.aload_n 0, 1) := by decide +kernel
theorem dX9_laysTree_138 : decode cX9_laysTree 138 = .ok (.iload 4, 2) := by decide +kernel
theorem dX9_laysTree_140 : decode cX9_laysTree 140 = .ok (.iload_n 3, 1) := by decide +kernel
theorem dX9_laysTree_141 : decode cX9_laysTree 141 = .ok (.iload_n 2, 1) := by decide +kernel
theorem dX9_laysTree_142 : decode cX9_laysTree 142 = .ok (.aload_n 0, 1) := by decide +kernel
theorem dX9_laysTree_143 : decode cX9_laysTree 143 = .ok (.iload_n 2, 1) := by decide +kernel
theorem dX9_laysTree_144 : decode cX9_laysTree 144 = .ok (.invokevirtual 228, 3) := by decide +kernel
theorem dX9_laysTree_147 : decode cX9_laysTree 147 = .ok (.invokevirtual 231, 3) := by decide +kernel
theorem dX9_laysTree_150 : decode cX9_laysTree 150 = .ok (.goto 17, 3) := by decide +kernel
theorem dX9_laysTree_153 : decode cX9_laysTree 153 = .ok (.aload_n 0, 1) := by decide +kernel
theorem dX9_laysTree_154 : decode cX9_laysTree 154 = .ok (.iload_n 3, 1) := by decide +kernel
theorem dX9_laysTree_155 : decode cX9_laysTree 155 = .ok (.iload 4, 2) := by decide +kernel
theorem dX9_laysTree_157 : decode cX9_laysTree 157 = .ok (.iload_n 2, 1) := by decide +kernel
theorem dX9_laysTree_158 : decode cX9_laysTree 158 = .ok (.aload_n 0, 1) := by decide +kernel
theorem dX9_laysTree_159 : decode cX9_laysTree 159 = .ok (.iload_n 2, 1) := by decide +kernel
theorem dX9_laysTree_160 : decode cX9_laysTree 160 = .ok (.invokevirtual 228, 3) := by decide +kernel
theorem dX9_laysTree_163 : decode cX9_laysTree 163 = .ok (.ineg, 1) := by decide +kernel
theorem dX9_laysTree_164 : decode cX9_laysTree 164 = .ok (.invokevirtual 231, 3) := by decide +kernel
theorem dX9_laysTree_167 : decode cX9_laysTree 167 = .ok (.iinc 2 1, 3) := by decide +kernel
theorem dX9_laysTree_170 : decode cX9_laysTree 170 = .ok (.goto (-115), 3) := by decide +kernel
theorem dX9_laysTree_173 : decode cX9_laysTree 173 = .ok (.goto (-126), 3) := by decide +kernel
theorem dX9_laysTree_176 : decode cX9_laysTree 176 = .ok (.return_, 1) := by decide +kernel
theorem dX9_aboveOf_0 : decode cX9_aboveOf 0 = .ok (.aload_n 0, 1) := by decide +kernel
theorem dX9_aboveOf_1 : decode cX9_aboveOf 1 = .ok (.aload_n 0, 1) := by decide +kernel
theorem dX9_aboveOf_2 : decode cX9_aboveOf 2 = .ok (.getfield 55, 3) := by decide +kernel
theorem dX9_aboveOf_5 : decode cX9_aboveOf 5 = .ok (.iload_n 1, 1) := by decide +kernel
theorem dX9_aboveOf_6 : decode cX9_aboveOf 6 = .ok (.iaload, 1) := by decide +kernel
theorem dX9_aboveOf_7 : decode cX9_aboveOf 7 = .ok (.invokevirtual 222, 3) := by decide +kernel
theorem dX9_aboveOf_10 : decode cX9_aboveOf 10 = .ok (.iload_n 1, 1) := by decide +kernel
theorem dX9_aboveOf_11 : decode cX9_aboveOf 11 = .ok (.if_icmp .ne 16, 3) := by decide +kernel
theorem dX9_aboveOf_14 : decode cX9_aboveOf 14 = .ok (.aload_n 0, 1) := by decide +kernel
theorem dX9_aboveOf_15 : decode cX9_aboveOf 15 = .ok (.aload_n 0, 1) := by decide +kernel
theorem dX9_aboveOf_16 : decode cX9_aboveOf 16 = .ok (.getfield 55, 3) := by decide +kernel
theorem dX9_aboveOf_19 : decode cX9_aboveOf 19 = .ok (.iload_n 1, 1) := by decide +kernel
theorem dX9_aboveOf_20 : decode cX9_aboveOf 20 = .ok (.iaload, 1) := by decide +kernel
theorem dX9_aboveOf_21 : decode cX9_aboveOf 21 = .ok (.invokevirtual 225, 3) := by decide +kernel
theorem dX9_aboveOf_24 : decode cX9_aboveOf 24 = .ok (.goto 13, 3) := by decide +kernel
theorem dX9_aboveOf_27 : decode cX9_aboveOf 27 = .ok (.aload_n 0, 1) := by decide +kernel
theorem dX9_aboveOf_28 : decode cX9_aboveOf 28 = .ok (.aload_n 0, 1) := by decide +kernel
theorem dX9_aboveOf_29 : decode cX9_aboveOf 29 = .ok (.getfield 55, 3) := by decide +kernel
theorem dX9_aboveOf_32 : decode cX9_aboveOf 32 = .ok (.iload_n 1, 1) := by decide +kernel
theorem dX9_aboveOf_33 : decode cX9_aboveOf 33 = .ok (.iaload, 1) := by decide +kernel
theorem dX9_aboveOf_34 : decode cX9_aboveOf 34 = .ok (.invokevirtual 222, 3) := by decide +kernel
theorem dX9_aboveOf_37 : decode cX9_aboveOf 37 = .ok (.ireturn, 1) := by decide +kernel
theorem dX9_isUpward_0 : decode cX9_isUpward 0 = .ok (.aload_n 0, 1) := by decide +kernel
theorem dX9_isUpward_1 : decode cX9_isUpward 1 = .ok (.aload_n 0, 1) := by decide +kernel
theorem dX9_isUpward_2 : decode cX9_isUpward 2 = .ok (.getfield 55, 3) := by decide +kernel
theorem dX9_isUpward_5 : decode cX9_isUpward 5 = .ok (.iload_n 1, 1) := by decide +kernel
theorem dX9_isUpward_6 : decode cX9_isUpward 6 = .ok (.iaload, 1) := by decide +kernel
theorem dX9_isUpward_7 : decode cX9_isUpward 7 = .ok (.invokevirtual 222, 3) := by decide +kernel
theorem dX9_isUpward_10 : decode cX9_isUpward 10 = .ok (.iload_n 1, 1) := by decide +kernel
theorem dX9_isUpward_11 : decode cX9_isUpward 11 = .ok (.if_icmp .ne 7, 3) := by decide +kernel
theorem dX9_isUpward_14 : decode cX9_isUpward 14 = .ok (.iconst 1, 1) := by decide +kernel
theorem dX9_isUpward_15 : decode cX9_isUpward 15 = .ok (.goto 4, 3) := by decide +kernel
theorem dX9_isUpward_18 : decode cX9_isUpward 18 = .ok (.iconst 0, 1) := by decide +kernel
theorem dX9_isUpward_19 : decode cX9_isUpward 19 = .ok (.ireturn, 1) := by decide +kernel
theorem dX9_gainOf_0 : decode cX9_gainOf 0 = .ok (.aload_n 0, 1) := by decide +kernel
theorem dX9_gainOf_1 : decode cX9_gainOf 1 = .ok (.iload_n 1, 1) := by decide +kernel
theorem dX9_gainOf_2 : decode cX9_gainOf 2 = .ok (.invokevirtual 228, 3) := by decide +kernel
theorem dX9_gainOf_5 : decode cX9_gainOf 5 = .ok (.aload_n 0, 1) := by decide +kernel
theorem dX9_gainOf_6 : decode cX9_gainOf 6 = .ok (.getfield 61, 3) := by decide +kernel
theorem dX9_gainOf_9 : decode cX9_gainOf 9 = .ok (.aload_n 0, 1) := by decide +kernel
theorem dX9_gainOf_10 : decode cX9_gainOf 10 = .ok (.iload_n 1, 1) := by decide +kernel
theorem dX9_gainOf_11 : decode cX9_gainOf 11 = .ok (.invokevirtual 222, 3) := by decide +kernel
theorem dX9_gainOf_14 : decode cX9_gainOf 14 = .ok (.iaload, 1) := by decide +kernel
theorem dX9_gainOf_15 : decode cX9_gainOf 15 = .ok (.iadd, 1) := by decide +kernel
theorem dX9_gainOf_16 : decode cX9_gainOf 16 = .ok (.aload_n 0, 1) := by decide +kernel
theorem dX9_gainOf_17 : decode cX9_gainOf 17 = .ok (.getfield 61, 3) := by decide +kernel
theorem dX9_gainOf_20 : decode cX9_gainOf 20 = .ok (.aload_n 0, 1) := by decide +kernel
theorem dX9_gainOf_21 : decode cX9_gainOf 21 = .ok (.iload_n 1, 1) := by decide +kernel
theorem dX9_gainOf_22 : decode cX9_gainOf 22 = .ok (.invokevirtual 225, 3) := by decide +kernel
theorem dX9_gainOf_25 : decode cX9_gainOf 25 = .ok (.iaload, 1) := by decide +kernel
theorem dX9_gainOf_26 : decode cX9_gainOf 26 = .ok (.isub, 1) := by decide +kernel
theorem dX9_gainOf_27 : decode cX9_gainOf 27 = .ok (.ireturn, 1) := by decide +kernel
theorem dX9_isGood_0 : decode cX9_isGood 0 = .ok (.aload_n 0, 1) := by decide +kernel
theorem dX9_isGood_1 : decode cX9_isGood 1 = .ok (.getfield 39, 3) := by decide +kernel
theorem dX9_isGood_4 : decode cX9_isGood 4 = .ok (.bipush 74, 2) := by decide +kernel
theorem dX9_isGood_6 : decode cX9_isGood 6 = .ok (.iload_n 1, 1) := by decide +kernel
theorem dX9_isGood_7 : decode cX9_isGood 7 = .ok (.iadd, 1) := by decide +kernel
theorem dX9_isGood_8 : decode cX9_isGood 8 = .ok (.iaload, 1) := by decide +kernel
theorem dX9_isGood_9 : decode cX9_isGood 9 = .ok (.iconst 1, 1) := by decide +kernel
theorem dX9_isGood_10 : decode cX9_isGood 10 = .ok (.if_icmp .ne 11, 3) := by decide +kernel
theorem dX9_isGood_13 : decode cX9_isGood 13 = .ok (.aload_n 0, 1) := by decide +kernel
theorem dX9_isGood_14 : decode cX9_isGood 14 = .ok (.iload_n 1, 1) := by decide +kernel
theorem dX9_isGood_15 : decode cX9_isGood 15 = .ok (.invokevirtual 235, 3) := by decide +kernel
theorem dX9_isGood_18 : decode cX9_isGood 18 = .ok (.ifCond .lt 24, 3) := by decide +kernel
theorem dX9_isGood_21 : decode cX9_isGood 21 = .ok (.aload_n 0, 1) := by decide +kernel
theorem dX9_isGood_22 : decode cX9_isGood 22 = .ok (.getfield 39, 3) := by decide +kernel
theorem dX9_isGood_25 : decode cX9_isGood 25 = .ok (.bipush 74, 2) := by decide +kernel
theorem dX9_isGood_27 : decode cX9_isGood 27 = .ok (.iload_n 1, 1) := by decide +kernel
theorem dX9_isGood_28 : decode cX9_isGood 28 = .ok (.iadd, 1) := by decide +kernel
theorem dX9_isGood_29 : decode cX9_isGood 29 = .ok (.iaload, 1) := by decide +kernel
theorem dX9_isGood_30 : decode cX9_isGood 30 = .ok (.iconst 2, 1) := by decide +kernel
theorem dX9_isGood_31 : decode cX9_isGood 31 = .ok (.if_icmp .ne 15, 3) := by decide +kernel
theorem dX9_isGood_34 : decode cX9_isGood 34 = .ok (.aload_n 0, 1) := by decide +kernel
theorem dX9_isGood_35 : decode cX9_isGood 35 = .ok (.iload_n 1, 1) := by decide +kernel
theorem dX9_isGood_36 : decode cX9_isGood 36 = .ok (.invokevirtual 235, 3) := by decide +kernel
theorem dX9_isGood_39 : decode cX9_isGood 39 = .ok (.ifCond .le 7, 3) := by decide +kernel
theorem dX9_isGood_42 : decode cX9_isGood 42 = .ok (.iconst 1, 1) := by decide +kernel
theorem dX9_isGood_43 : decode cX9_isGood 43 = .ok (.goto 4, 3) := by decide +kernel
theorem dX9_isGood_46 : decode cX9_isGood 46 = .ok (.iconst 0, 1) := by decide +kernel
theorem dX9_isGood_47 : decode cX9_isGood 47 = .ok (.ireturn, 1) := by decide +kernel
theorem dX9_goodMany_0 : decode cX9_goodMany 0 = .ok (.iconst 0, 1) := by decide +kernel
theorem dX9_goodMany_1 : decode cX9_goodMany 1 = .ok (.istore_n 1, 1) := by decide +kernel
theorem dX9_goodMany_2 : decode cX9_goodMany 2 = .ok (.iconst 0, 1) := by decide +kernel
theorem dX9_goodMany_3 : decode cX9_goodMany 3 = .ok (.istore_n 2, 1) := by decide +kernel
theorem dX9_goodMany_4 : decode cX9_goodMany 4 = .ok (.iload_n 2, 1) := by decide +kernel
theorem dX9_goodMany_5 : decode cX9_goodMany 5 = .ok (.aload_n 0, 1) := by decide +kernel
theorem dX9_goodMany_6 : decode cX9_goodMany 6 = .ok (.invokevirtual 218, 3) := by decide +kernel
theorem dX9_goodMany_9 : decode cX9_goodMany 9 = .ok (.if_icmp .ge 25, 3) := by decide +kernel
theorem dX9_goodMany_12 : decode cX9_goodMany 12 = .ok (.iload_n 1, 1) := by decide +kernel
theorem dX9_goodMany_13 : decode cX9_goodMany 13 = .ok (.aload_n 0, 1) := by decide +kernel
theorem dX9_goodMany_14 : decode cX9_goodMany 14 = .ok (.iload_n 2, 1) := by decide +kernel
theorem dX9_goodMany_15 : decode cX9_goodMany 15 = .ok (.invokevirtual 238, 3) := by decide +kernel
theorem dX9_goodMany_18 : decode cX9_goodMany 18 = .ok (.ifCond .eq 7, 3) := by decide +kernel
theorem dX9_goodMany_21 : decode cX9_goodMany 21 = .ok (.iconst 1, 1) := by decide +kernel
theorem dX9_goodMany_22 : decode cX9_goodMany 22 = .ok (.goto 4, 3) := by decide +kernel
theorem dX9_goodMany_25 : decode cX9_goodMany 25 = .ok (.iconst 0, 1) := by decide +kernel
theorem dX9_goodMany_26 : decode cX9_goodMany 26 = .ok (.iadd, 1) := by decide +kernel
theorem dX9_goodMany_27 : decode cX9_goodMany 27 = .ok (.istore_n 1, 1) := by decide +kernel
theorem dX9_goodMany_28 : decode cX9_goodMany 28 = .ok (.iinc 2 1, 3) := by decide +kernel
theorem dX9_goodMany_31 : decode cX9_goodMany 31 = .ok (.goto (-27), 3) := by decide +kernel
theorem dX9_goodMany_34 : decode cX9_goodMany 34 = .ok (.iload_n 1, 1) := by decide +kernel
theorem dX9_goodMany_35 : decode cX9_goodMany 35 = .ok (.ireturn, 1) := by decide +kernel
theorem dX9_isEnd_0 : decode cX9_isEnd 0 = .ok (.aload_n 0, 1) := by decide +kernel
theorem dX9_isEnd_1 : decode cX9_isEnd 1 = .ok (.invokevirtual 242, 3) := by decide +kernel
theorem dX9_isEnd_4 : decode cX9_isEnd 4 = .ok (.aload_n 0, 1) := by decide +kernel
theorem dX9_isEnd_5 : decode cX9_isEnd 5 = .ok (.invokevirtual 245, 3) := by decide +kernel
theorem dX9_isEnd_8 : decode cX9_isEnd 8 = .ok (.ifCond .ne 7, 3) := by decide +kernel
theorem dX9_isEnd_11 : decode cX9_isEnd 11 = .ok (.iconst 1, 1) := by decide +kernel
theorem dX9_isEnd_12 : decode cX9_isEnd 12 = .ok (.goto 4, 3) := by decide +kernel
theorem dX9_isEnd_15 : decode cX9_isEnd 15 = .ok (.iconst 0, 1) := by decide +kernel
theorem dX9_isEnd_16 : decode cX9_isEnd 16 = .ok (.ireturn, 1) := by decide +kernel
theorem dX9_underOf_0 : decode cX9_underOf 0 = .ok (.iconst 0, 1) := by decide +kernel
theorem dX9_underOf_1 : decode cX9_underOf 1 = .ok (.istore_n 2, 1) := by decide +kernel
theorem dX9_underOf_2 : decode cX9_underOf 2 = .ok (.iconst 0, 1) := by decide +kernel
theorem dX9_underOf_3 : decode cX9_underOf 3 = .ok (.istore_n 3, 1) := by decide +kernel
theorem dX9_underOf_4 : decode cX9_underOf 4 = .ok (.iload_n 3, 1) := by decide +kernel
theorem dX9_underOf_5 : decode cX9_underOf 5 = .ok (.aload_n 0, 1) := by decide +kernel
theorem dX9_underOf_6 : decode cX9_underOf 6 = .ok (.getfield 13, 3) := by decide +kernel
theorem dX9_underOf_9 : decode cX9_underOf 9 = .ok (.iconst 0, 1) := by decide +kernel
theorem dX9_underOf_10 : decode cX9_underOf 10 = .ok (.iaload, 1) := by decide +kernel
theorem dX9_underOf_11 : decode cX9_underOf 11 = .ok (.if_icmp .ge 50, 3) := by decide +kernel
theorem dX9_underOf_14 : decode cX9_underOf 14 = .ok (.iload_n 3, 1) := by decide +kernel
theorem dX9_underOf_15 : decode cX9_underOf 15 = .ok (.istore 4, 2) := by decide +kernel
theorem dX9_underOf_17 : decode cX9_underOf 17 = .ok (.iload 4, 2) := by decide +kernel
theorem dX9_underOf_19 : decode cX9_underOf 19 = .ok (.iload_n 1, 1) := by decide +kernel
theorem dX9_underOf_20 : decode cX9_underOf 20 = .ok (.if_icmp .eq 21, 3) := by decide +kernel
theorem dX9_underOf_23 : decode cX9_underOf 23 = .ok (.iload 4, 2) := by decide +kernel
theorem dX9_underOf_25 : decode cX9_underOf 25 = .ok (.bipush 8, 2) := by decide +kernel
theorem dX9_underOf_27 : decode cX9_underOf 27 = .ok (.if_icmp .eq 14, 3) := by decide +kernel
theorem dX9_underOf_30 : decode cX9_underOf 30 = .ok (.aload_n 0, 1) := by decide +kernel
theorem dX9_underOf_31 : decode cX9_underOf 31 = .ok (.iload 4, 2) := by decide +kernel
theorem dX9_underOf_33 : decode cX9_underOf 33 = .ok (.invokevirtual 248, 3) := by decide +kernel
theorem dX9_underOf_36 : decode cX9_underOf 36 = .ok (.istore 4, 2) := by decide +kernel
theorem dX9_underOf_38 : decode cX9_underOf 38 = .ok (.goto (-21), 3) := by decide +kernel
theorem dX9_underOf_41 : decode cX9_underOf 41 = .ok (.iload_n 2, 1) := by decide +kernel
theorem dX9_underOf_42 : decode cX9_underOf 42 = .ok (.iload 4, 2) := by decide +kernel
theorem dX9_underOf_44 : decode cX9_underOf 44 = .ok (.iload_n 1, 1) := by decide +kernel
theorem dX9_underOf_45 : decode cX9_underOf 45 = .ok (.if_icmp .ne 7, 3) := by decide +kernel
theorem dX9_underOf_48 : decode cX9_underOf 48 = .ok (.iconst 1, 1) := by decide +kernel
theorem dX9_underOf_49 : decode cX9_underOf 49 = .ok (.goto 4, 3) := by decide +kernel
theorem dX9_underOf_52 : decode cX9_underOf 52 = .ok (.iconst 0, 1) := by decide +kernel
theorem dX9_underOf_53 : decode cX9_underOf 53 = .ok (.iadd, 1) := by decide +kernel
theorem dX9_underOf_54 : decode cX9_underOf 54 = .ok (.istore_n 2, 1) := by decide +kernel
theorem dX9_underOf_55 : decode cX9_underOf 55 = .ok (.iinc 3 1, 3) := by decide +kernel
theorem dX9_underOf_58 : decode cX9_underOf 58 = .ok (.goto (-54), 3) := by decide +kernel
theorem dX9_underOf_61 : decode cX9_underOf 61 = .ok (.iload_n 2, 1) := by decide +kernel
theorem dX9_underOf_62 : decode cX9_underOf 62 = .ok (.ireturn, 1) := by decide +kernel
theorem dX9_lackOf_0 : decode cX9_lackOf 0 = .ok (.aload_n 0, 1) := by decide +kernel
theorem dX9_lackOf_1 : decode cX9_lackOf 1 = .ok (.getfield 39, 3) := by decide +kernel
theorem dX9_lackOf_4 : decode cX9_lackOf 4 = .ok (.bipush 42, 2) := by decide +kernel
theorem dX9_lackOf_6 : decode cX9_lackOf 6 = .ok (.iload_n 1, 1) := by decide +kernel
theorem dX9_lackOf_7 : decode cX9_lackOf 7 = .ok (.iadd, 1) := by decide +kernel
theorem dX9_lackOf_8 : decode cX9_lackOf 8 = .ok (.iaload, 1) := by decide +kernel
theorem dX9_lackOf_9 : decode cX9_lackOf 9 = .ok (.ifCond .ne 22, 3) := by decide +kernel
theorem dX9_lackOf_12 : decode cX9_lackOf 12 = .ok (.aload_n 0, 1) := by decide +kernel
theorem dX9_lackOf_13 : decode cX9_lackOf 13 = .ok (.getfield 39, 3) := by decide +kernel
theorem dX9_lackOf_16 : decode cX9_lackOf 16 = .ok (.bipush 50, 2) := by decide +kernel
theorem dX9_lackOf_18 : decode cX9_lackOf 18 = .ok (.aload_n 0, 1) := by decide +kernel
theorem dX9_lackOf_19 : decode cX9_lackOf 19 = .ok (.getfield 17, 3) := by decide +kernel
theorem dX9_lackOf_22 : decode cX9_lackOf 22 = .ok (.iconst 0, 1) := by decide +kernel
theorem dX9_lackOf_23 : decode cX9_lackOf 23 = .ok (.iaload, 1) := by decide +kernel
theorem dX9_lackOf_24 : decode cX9_lackOf 24 = .ok (.iadd, 1) := by decide +kernel
theorem dX9_lackOf_25 : decode cX9_lackOf 25 = .ok (.iload_n 1, 1) := by decide +kernel
theorem dX9_lackOf_26 : decode cX9_lackOf 26 = .ok (.iadd, 1) := by decide +kernel
theorem dX9_lackOf_27 : decode cX9_lackOf 27 = .ok (.iaload, 1) := by decide +kernel
theorem dX9_lackOf_28 : decode cX9_lackOf 28 = .ok (.goto 4, 3) := by decide +kernel
theorem dX9_lackOf_31 : decode cX9_lackOf 31 = .ok (.iconst 0, 1) := by decide +kernel
theorem dX9_lackOf_32 : decode cX9_lackOf 32 = .ok (.ireturn, 1) := by decide +kernel
theorem dX9_stuckOf_0 : decode cX9_stuckOf 0 = .ok (.aload_n 0, 1) := by decide +kernel
theorem dX9_stuckOf_1 : decode cX9_stuckOf 1 = .ok (.getfield 39, 3) := by decide +kernel
theorem dX9_stuckOf_4 : decode cX9_stuckOf 4 = .ok (.bipush 42, 2) := by decide +kernel
theorem dX9_stuckOf_6 : decode cX9_stuckOf 6 = .ok (.iload_n 1, 1) := by decide +kernel
theorem dX9_stuckOf_7 : decode cX9_stuckOf 7 = .ok (.iadd, 1) := by decide +kernel
theorem dX9_stuckOf_8 : decode cX9_stuckOf 8 = .ok (.iaload, 1) := by decide +kernel
theorem dX9_stuckOf_9 : decode cX9_stuckOf 9 = .ok (.iconst 1, 1) := by decide +kernel
theorem dX9_stuckOf_10 : decode cX9_stuckOf 10 = .ok (.if_icmp .ne 22, 3) := by decide +kernel
theorem dX9_stuckOf_13 : decode cX9_stuckOf 13 = .ok (.aload_n 0, 1) := by decide +kernel
theorem dX9_stuckOf_14 : decode cX9_stuckOf 14 = .ok (.getfield 39, 3) := by decide +kernel
theorem dX9_stuckOf_17 : decode cX9_stuckOf 17 = .ok (.bipush 50, 2) := by decide +kernel
theorem dX9_stuckOf_19 : decode cX9_stuckOf 19 = .ok (.aload_n 0, 1) := by decide +kernel
theorem dX9_stuckOf_20 : decode cX9_stuckOf 20 = .ok (.getfield 17, 3) := by decide +kernel
theorem dX9_stuckOf_23 : decode cX9_stuckOf 23 = .ok (.iconst 0, 1) := by decide +kernel
theorem dX9_stuckOf_24 : decode cX9_stuckOf 24 = .ok (.iaload, 1) := by decide +kernel
theorem dX9_stuckOf_25 : decode cX9_stuckOf 25 = .ok (.iadd, 1) := by decide +kernel
theorem dX9_stuckOf_26 : decode cX9_stuckOf 26 = .ok (.iload_n 1, 1) := by decide +kernel
theorem dX9_stuckOf_27 : decode cX9_stuckOf 27 = .ok (.iadd, 1) := by decide +kernel
theorem dX9_stuckOf_28 : decode cX9_stuckOf 28 = .ok (.iaload, 1) := by decide +kernel
theorem dX9_stuckOf_29 : decode cX9_stuckOf 29 = .ok (.goto 4, 3) := by decide +kernel
theorem dX9_stuckOf_32 : decode cX9_stuckOf 32 = .ok (.iconst 0, 1) := by decide +kernel
theorem dX9_stuckOf_33 : decode cX9_stuckOf 33 = .ok (.ireturn, 1) := by decide +kernel
theorem dX9_dock_0 : decode cX9_dock 0 = .ok (.aload_n 0, 1) := by decide +kernel
theorem dX9_dock_1 : decode cX9_dock 1 = .ok (.aload_n 0, 1) := by decide +kernel
theorem dX9_dock_2 : decode cX9_dock 2 = .ok (.iload_n 1, 1) := by decide +kernel
theorem dX9_dock_3 : decode cX9_dock 3 = .ok (.invokevirtual 251, 3) := by decide +kernel
theorem dX9_dock_6 : decode cX9_dock 6 = .ok (.ifCond .eq 19, 3) := by decide +kernel
theorem dX9_dock_9 : decode cX9_dock 9 = .ok (.iload_n 2, 1) := by decide +kernel
theorem dX9_dock_10 : decode cX9_dock 10 = .ok (.i2l, 1) := by decide +kernel
theorem dX9_dock_11 : decode cX9_dock 11 = .ok (.lconst 0, 1) := by decide +kernel
theorem dX9_dock_12 : decode cX9_dock 12 = .ok (.ldc2_w 254, 3) := by decide +kernel
theorem dX9_dock_15 : decode cX9_dock 15 = .ok (.invokestatic 120, 3) := by decide +kernel
theorem dX9_dock_18 : decode cX9_dock 18 = .ok (.ifCond .eq 7, 3) := by decide +kernel
theorem dX9_dock_21 : decode cX9_dock 21 = .ok (.iconst 0, 1) := by decide +kernel
theorem dX9_dock_22 : decode cX9_dock 22 = .ok (.goto 4, 3) := by decide +kernel
theorem dX9_dock_25 : decode cX9_dock 25 = .ok (.iconst 1, 1) := by decide +kernel
theorem dX9_dock_26 : decode cX9_dock 26 = .ok (.putfield 82, 3) := by decide +kernel
theorem dX9_dock_29 : decode cX9_dock 29 = .ok (.aload_n 0, 1) := by decide +kernel
theorem dX9_dock_30 : decode cX9_dock 30 = .ok (.getfield 82, 3) := by decide +kernel
theorem dX9_dock_33 : decode cX9_dock 33 = .ok (.iconst 1, 1) := by decide +kernel
theorem dX9_dock_34 : decode cX9_dock 34 = .ok (.if_icmp .ne 5, 3) := by decide +kernel
theorem dX9_dock_37 : decode cX9_dock 37 = .ok (.iconst 0, 1) := by decide +kernel
theorem dX9_dock_38 : decode cX9_dock 38 = .ok (.ireturn, 1) := by decide +kernel
theorem dX9_dock_39 : decode cX9_dock 39 = .ok (.aload_n 0, 1) := by decide +kernel
theorem dX9_dock_40 : decode cX9_dock 40 = .ok (.invokevirtual 242, 3) := by decide +kernel
theorem dX9_dock_43 : decode cX9_dock 43 = .ok (.iload_n 2, 1) := by decide +kernel
theorem dX9_dock_44 : decode cX9_dock 44 = .ok (.tableswitch 82 0 5 #[40, 49, 56, 63, 70, 76], 40) := by decide +kernel
theorem dX9_dock_84 : decode cX9_dock 84 = .ok (.aload_n 0, 1) := by decide +kernel
theorem dX9_dock_85 : decode cX9_dock 85 = .ok (.getfield 39, 3) := by decide +kernel
theorem dX9_dock_88 : decode cX9_dock 88 = .ok (.iconst 0, 1) := by decide +kernel
theorem dX9_dock_89 : decode cX9_dock 89 = .ok (.iload_n 1, 1) := by decide +kernel
theorem dX9_dock_90 : decode cX9_dock 90 = .ok (.iadd, 1) := by decide +kernel
theorem dX9_dock_91 : decode cX9_dock 91 = .ok (.iaload, 1) := by decide +kernel
theorem dX9_dock_92 : decode cX9_dock 92 = .ok (.ireturn, 1) := by decide +kernel
theorem dX9_dock_93 : decode cX9_dock 93 = .ok (.aload_n 0, 1) := by decide +kernel
theorem dX9_dock_94 : decode cX9_dock 94 = .ok (.getfield 61, 3) := by decide +kernel
theorem dX9_dock_97 : decode cX9_dock 97 = .ok (.iload_n 1, 1) := by decide +kernel
theorem dX9_dock_98 : decode cX9_dock 98 = .ok (.iaload, 1) := by decide +kernel
theorem dX9_dock_99 : decode cX9_dock 99 = .ok (.ireturn, 1) := by decide +kernel
theorem dX9_dock_100 : decode cX9_dock 100 = .ok (.aload_n 0, 1) := by decide +kernel
theorem dX9_dock_101 : decode cX9_dock 101 = .ok (.getfield 58, 3) := by decide +kernel
theorem dX9_dock_104 : decode cX9_dock 104 = .ok (.iload_n 1, 1) := by decide +kernel
theorem dX9_dock_105 : decode cX9_dock 105 = .ok (.iaload, 1) := by decide +kernel
theorem dX9_dock_106 : decode cX9_dock 106 = .ok (.ireturn, 1) := by decide +kernel
theorem dX9_dock_107 : decode cX9_dock 107 = .ok (.aload_n 0, 1) := by decide +kernel
theorem dX9_dock_108 : decode cX9_dock 108 = .ok (.getfield 55, 3) := by decide +kernel
theorem dX9_dock_111 : decode cX9_dock 111 = .ok (.iload_n 1, 1) := by decide +kernel
theorem dX9_dock_112 : decode cX9_dock 112 = .ok (.iaload, 1) := by decide +kernel
theorem dX9_dock_113 : decode cX9_dock 113 = .ok (.ireturn, 1) := by decide +kernel
theorem dX9_dock_114 : decode cX9_dock 114 = .ok (.aload_n 0, 1) := by decide +kernel
theorem dX9_dock_115 : decode cX9_dock 115 = .ok (.iload_n 1, 1) := by decide +kernel
theorem dX9_dock_116 : decode cX9_dock 116 = .ok (.invokevirtual 256, 3) := by decide +kernel
theorem dX9_dock_119 : decode cX9_dock 119 = .ok (.ireturn, 1) := by decide +kernel
theorem dX9_dock_120 : decode cX9_dock 120 = .ok (.aload_n 0, 1) := by decide +kernel
theorem dX9_dock_121 : decode cX9_dock 121 = .ok (.iload_n 1, 1) := by decide +kernel
theorem dX9_dock_122 : decode cX9_dock 122 = .ok (.invokevirtual 259, 3) := by decide +kernel
theorem dX9_dock_125 : decode cX9_dock 125 = .ok (.ireturn, 1) := by decide +kernel
theorem dX9_dock_126 : decode cX9_dock 126 = .ok (.aload_n 0, 1) := by decide +kernel
theorem dX9_dock_127 : decode cX9_dock 127 = .ok (.iload_n 1, 1) := by decide +kernel
theorem dX9_dock_128 : decode cX9_dock 128 = .ok (.invokevirtual 262, 3) := by decide +kernel
theorem dX9_dock_131 : decode cX9_dock 131 = .ok (.ireturn, 1) := by decide +kernel
theorem dX9_told_0 : decode cX9_told 0 = .ok (.iload_n 0, 1) := by decide +kernel
theorem dX9_told_1 : decode cX9_told 1 = .ok (.bipush 8, 2) := by decide +kernel
theorem dX9_told_3 : decode cX9_told 3 = .ok (.if_icmp .ne 7, 3) := by decide +kernel
theorem dX9_told_6 : decode cX9_told 6 = .ok (.iconst (-1), 1) := by decide +kernel
theorem dX9_told_7 : decode cX9_told 7 = .ok (.goto 4, 3) := by decide +kernel
theorem dX9_told_10 : decode cX9_told 10 = .ok (.iload_n 0, 1) := by decide +kernel
theorem dX9_told_11 : decode cX9_told 11 = .ok (.ireturn, 1) := by decide +kernel
theorem dX9_way_0 : decode cX9_way 0 = .ok (.aload_n 0, 1) := by decide +kernel
theorem dX9_way_1 : decode cX9_way 1 = .ok (.aload_n 0, 1) := by decide +kernel
theorem dX9_way_2 : decode cX9_way 2 = .ok (.iload_n 1, 1) := by decide +kernel
theorem dX9_way_3 : decode cX9_way 3 = .ok (.invokevirtual 265, 3) := by decide +kernel
theorem dX9_way_6 : decode cX9_way 6 = .ok (.ifCond .eq 19, 3) := by decide +kernel
theorem dX9_way_9 : decode cX9_way 9 = .ok (.iload_n 2, 1) := by decide +kernel
theorem dX9_way_10 : decode cX9_way 10 = .ok (.i2l, 1) := by decide +kernel
theorem dX9_way_11 : decode cX9_way 11 = .ok (.lconst 0, 1) := by decide +kernel
theorem dX9_way_12 : decode cX9_way 12 = .ok (.ldc2_w 254, 3) := by decide +kernel
theorem dX9_way_15 : decode cX9_way 15 = .ok (.invokestatic 120, 3) := by decide +kernel
theorem dX9_way_18 : decode cX9_way 18 = .ok (.ifCond .eq 7, 3) := by decide +kernel
theorem dX9_way_21 : decode cX9_way 21 = .ok (.iconst 0, 1) := by decide +kernel
theorem dX9_way_22 : decode cX9_way 22 = .ok (.goto 4, 3) := by decide +kernel
theorem dX9_way_25 : decode cX9_way 25 = .ok (.iconst 1, 1) := by decide +kernel
theorem dX9_way_26 : decode cX9_way 26 = .ok (.putfield 82, 3) := by decide +kernel
theorem dX9_way_29 : decode cX9_way 29 = .ok (.aload_n 0, 1) := by decide +kernel
theorem dX9_way_30 : decode cX9_way 30 = .ok (.getfield 82, 3) := by decide +kernel
theorem dX9_way_33 : decode cX9_way 33 = .ok (.iconst 1, 1) := by decide +kernel
theorem dX9_way_34 : decode cX9_way 34 = .ok (.if_icmp .ne 5, 3) := by decide +kernel
theorem dX9_way_37 : decode cX9_way 37 = .ok (.iconst 0, 1) := by decide +kernel
theorem dX9_way_38 : decode cX9_way 38 = .ok (.ireturn, 1) := by decide +kernel
theorem dX9_way_39 : decode cX9_way 39 = .ok (.aload_n 0, 1) := by decide +kernel
theorem dX9_way_40 : decode cX9_way 40 = .ok (.invokevirtual 242, 3) := by decide +kernel
theorem dX9_way_43 : decode cX9_way 43 = .ok (.iload_n 2, 1) := by decide +kernel
theorem dX9_way_44 : decode cX9_way 44 = .ok (.tableswitch 108 0 5 #[40, 49, 58, 64, 88, 98], 40) := by decide +kernel
theorem dX9_way_84 : decode cX9_way 84 = .ok (.aload_n 0, 1) := by decide +kernel
theorem dX9_way_85 : decode cX9_way 85 = .ok (.iload_n 1, 1) := by decide +kernel
theorem dX9_way_86 : decode cX9_way 86 = .ok (.invokevirtual 222, 3) := by decide +kernel
theorem dX9_way_89 : decode cX9_way 89 = .ok (.invokestatic 268, 3) := by decide +kernel
theorem dX9_way_92 : decode cX9_way 92 = .ok (.ireturn, 1) := by decide +kernel
theorem dX9_way_93 : decode cX9_way 93 = .ok (.aload_n 0, 1) := by decide +kernel
theorem dX9_way_94 : decode cX9_way 94 = .ok (.iload_n 1, 1) := by decide +kernel
theorem dX9_way_95 : decode cX9_way 95 = .ok (.invokevirtual 225, 3) := by decide +kernel
theorem dX9_way_98 : decode cX9_way 98 = .ok (.invokestatic 268, 3) := by decide +kernel
theorem dX9_way_101 : decode cX9_way 101 = .ok (.ireturn, 1) := by decide +kernel
theorem dX9_way_102 : decode cX9_way 102 = .ok (.aload_n 0, 1) := by decide +kernel
theorem dX9_way_103 : decode cX9_way 103 = .ok (.iload_n 1, 1) := by decide +kernel
theorem dX9_way_104 : decode cX9_way 104 = .ok (.invokevirtual 228, 3) := by decide +kernel
theorem dX9_way_107 : decode cX9_way 107 = .ok (.ireturn, 1) := by decide +kernel
theorem dX9_way_108 : decode cX9_way 108 = .ok (.iload_n 1, 1) := by decide +kernel
theorem dX9_way_109 : decode cX9_way 109 = .ok (.aload_n 0, 1) := by decide +kernel
theorem dX9_way_110 : decode cX9_way 110 = .ok (.getfield 17, 3) := by decide +kernel
theorem dX9_way_113 : decode cX9_way 113 = .ok (.iconst 0, 1) := by decide +kernel
theorem dX9_way_114 : decode cX9_way 114 = .ok (.iaload, 1) := by decide +kernel
theorem dX9_way_115 : decode cX9_way 115 = .ok (.if_icmp .ge 15, 3) := by decide +kernel
theorem dX9_way_118 : decode cX9_way 118 = .ok (.aload_n 0, 1) := by decide +kernel
theorem dX9_way_119 : decode cX9_way 119 = .ok (.getfield 39, 3) := by decide +kernel
theorem dX9_way_122 : decode cX9_way 122 = .ok (.bipush 24, 2) := by decide +kernel
theorem dX9_way_124 : decode cX9_way 124 = .ok (.iload_n 1, 1) := by decide +kernel
theorem dX9_way_125 : decode cX9_way 125 = .ok (.iadd, 1) := by decide +kernel
theorem dX9_way_126 : decode cX9_way 126 = .ok (.iaload, 1) := by decide +kernel
theorem dX9_way_127 : decode cX9_way 127 = .ok (.goto 4, 3) := by decide +kernel
theorem dX9_way_130 : decode cX9_way 130 = .ok (.iconst (-1), 1) := by decide +kernel
theorem dX9_way_131 : decode cX9_way 131 = .ok (.ireturn, 1) := by decide +kernel
theorem dX9_way_132 : decode cX9_way 132 = .ok (.aload_n 0, 1) := by decide +kernel
theorem dX9_way_133 : decode cX9_way 133 = .ok (.getfield 39, 3) := by decide +kernel
theorem dX9_way_136 : decode cX9_way 136 = .ok (.bipush 50, 2) := by decide +kernel
theorem dX9_way_138 : decode cX9_way 138 = .ok (.iload_n 1, 1) := by decide +kernel
theorem dX9_way_139 : decode cX9_way 139 = .ok (.iadd, 1) := by decide +kernel
theorem dX9_way_140 : decode cX9_way 140 = .ok (.iaload, 1) := by decide +kernel
theorem dX9_way_141 : decode cX9_way 141 = .ok (.ireturn, 1) := by decide +kernel
theorem dX9_way_142 : decode cX9_way 142 = .ok (.aload_n 0, 1) := by decide +kernel
theorem dX9_way_143 : decode cX9_way 143 = .ok (.getfield 39, 3) := by decide +kernel
theorem dX9_way_146 : decode cX9_way 146 = .ok (.bipush 74, 2) := by decide +kernel
theorem dX9_way_148 : decode cX9_way 148 = .ok (.iload_n 1, 1) := by decide +kernel
theorem dX9_way_149 : decode cX9_way 149 = .ok (.iadd, 1) := by decide +kernel
theorem dX9_way_150 : decode cX9_way 150 = .ok (.iaload, 1) := by decide +kernel
theorem dX9_way_151 : decode cX9_way 151 = .ok (.ireturn, 1) := by decide +kernel
theorem dX9_way_152 : decode cX9_way 152 = .ok (.aload_n 0, 1) := by decide +kernel
theorem dX9_way_153 : decode cX9_way 153 = .ok (.iload_n 1, 1) := by decide +kernel
theorem dX9_way_154 : decode cX9_way 154 = .ok (.invokevirtual 235, 3) := by decide +kernel
theorem dX9_way_157 : decode cX9_way 157 = .ok (.ireturn, 1) := by decide +kernel
theorem dX9_ranked_0 : decode cX9_ranked 0 = .ok (.aload_n 0, 1) := by decide +kernel
theorem dX9_ranked_1 : decode cX9_ranked 1 = .ok (.iconst 0, 1) := by decide +kernel
theorem dX9_ranked_2 : decode cX9_ranked 2 = .ok (.putfield 82, 3) := by decide +kernel
theorem dX9_ranked_5 : decode cX9_ranked 5 = .ok (.aload_n 0, 1) := by decide +kernel
theorem dX9_ranked_6 : decode cX9_ranked 6 = .ok (.invokevirtual 242, 3) := by decide +kernel
theorem dX9_ranked_9 : decode cX9_ranked 9 = .ok (.iconst 0, 1) := by decide +kernel
theorem dX9_ranked_10 : decode cX9_ranked 10 = .ok (.istore_n 2, 1) := by decide +kernel
theorem dX9_ranked_11 : decode cX9_ranked 11 = .ok (.iload_n 2, 1) := by decide +kernel
theorem dX9_ranked_12 : decode cX9_ranked 12 = .ok (.aload_n 0, 1) := by decide +kernel
theorem dX9_ranked_13 : decode cX9_ranked 13 = .ok (.getfield 13, 3) := by decide +kernel
theorem dX9_ranked_16 : decode cX9_ranked 16 = .ok (.iconst 0, 1) := by decide +kernel
theorem dX9_ranked_17 : decode cX9_ranked 17 = .ok (.iaload, 1) := by decide +kernel
theorem dX9_ranked_18 : decode cX9_ranked 18 = .ok (.if_icmp .ge 84, 3) := by decide +kernel
theorem dX9_ranked_21 : decode cX9_ranked 21 = .ok (.iconst 0, 1) := by decide +kernel
theorem dX9_ranked_22 : decode cX9_ranked 22 = .ok (.istore_n 3, 1) := by decide +kernel
theorem dX9_ranked_23 : decode cX9_ranked 23 = .ok (.iconst 0, 1) := by decide +kernel
theorem dX9_ranked_24 : decode cX9_ranked 24 = .ok (.istore 4, 2) := by decide +kernel
theorem dX9_ranked_26 : decode cX9_ranked 26 = .ok (.iload 4, 2) := by decide +kernel
theorem dX9_ranked_28 : decode cX9_ranked 28 = .ok (.aload_n 0, 1) := by decide +kernel
theorem dX9_ranked_29 : decode cX9_ranked 29 = .ok (.getfield 13, 3) := by decide +kernel
theorem dX9_ranked_32 : decode cX9_ranked 32 = .ok (.iconst 0, 1) := by decide +kernel
theorem dX9_ranked_33 : decode cX9_ranked 33 = .ok (.iaload, 1) := by decide +kernel
theorem dX9_ranked_34 : decode cX9_ranked 34 = .ok (.if_icmp .ge 55, 3) := by decide +kernel
theorem dX9_ranked_37 : decode cX9_ranked 37 = .ok (.iload_n 3, 1) := by decide +kernel
theorem dX9_ranked_38 : decode cX9_ranked 38 = .ok (.aload_n 0, 1) := by decide +kernel
theorem dX9_ranked_39 : decode cX9_ranked 39 = .ok (.getfield 61, 3) := by decide +kernel
theorem dX9_ranked_42 : decode cX9_ranked 42 = .ok (.iload 4, 2) := by decide +kernel
theorem dX9_ranked_44 : decode cX9_ranked 44 = .ok (.iaload, 1) := by decide +kernel
theorem dX9_ranked_45 : decode cX9_ranked 45 = .ok (.aload_n 0, 1) := by decide +kernel
theorem dX9_ranked_46 : decode cX9_ranked 46 = .ok (.getfield 61, 3) := by decide +kernel
theorem dX9_ranked_49 : decode cX9_ranked 49 = .ok (.iload_n 2, 1) := by decide +kernel
theorem dX9_ranked_50 : decode cX9_ranked 50 = .ok (.iaload, 1) := by decide +kernel
theorem dX9_ranked_51 : decode cX9_ranked 51 = .ok (.if_icmp .lt 25, 3) := by decide +kernel
theorem dX9_ranked_54 : decode cX9_ranked 54 = .ok (.aload_n 0, 1) := by decide +kernel
theorem dX9_ranked_55 : decode cX9_ranked 55 = .ok (.getfield 61, 3) := by decide +kernel
theorem dX9_ranked_58 : decode cX9_ranked 58 = .ok (.iload 4, 2) := by decide +kernel
theorem dX9_ranked_60 : decode cX9_ranked 60 = .ok (.iaload, 1) := by decide +kernel
theorem dX9_ranked_61 : decode cX9_ranked 61 = .ok (.aload_n 0, 1) := by decide +kernel
theorem dX9_ranked_62 : decode cX9_ranked 62 = .ok (.getfield 61, 3) := by decide +kernel
theorem dX9_ranked_65 : decode cX9_ranked 65 = .ok (.iload_n 2, 1) := by decide +kernel
theorem dX9_ranked_66 : decode cX9_ranked 66 = .ok (.iaload, 1) := by decide +kernel
theorem dX9_ranked_67 : decode cX9_ranked 67 = .ok (.if_icmp .ne 13, 3) := by decide +kernel
theorem dX9_ranked_70 : decode cX9_ranked 70 = .ok (.iload 4, 2) := by decide +kernel
theorem dX9_ranked_72 : decode cX9_ranked 72 = .ok (.iload_n 2, 1) := by decide +kernel
theorem dX9_ranked_73 : decode cX9_ranked 73 = .ok (.if_icmp .ge 7, 3) := by decide +kernel
theorem dX9_ranked_76 : decode cX9_ranked 76 = .ok (.iconst 1, 1) := by decide +kernel
theorem dX9_ranked_77 : decode cX9_ranked 77 = .ok (.goto 4, 3) := by decide +kernel
theorem dX9_ranked_80 : decode cX9_ranked 80 = .ok (.iconst 0, 1) := by decide +kernel
theorem dX9_ranked_81 : decode cX9_ranked 81 = .ok (.iadd, 1) := by decide +kernel
theorem dX9_ranked_82 : decode cX9_ranked 82 = .ok (.istore_n 3, 1) := by decide +kernel
theorem dX9_ranked_83 : decode cX9_ranked 83 = .ok (.iinc 4 1, 3) := by decide +kernel
theorem dX9_ranked_86 : decode cX9_ranked 86 = .ok (.goto (-60), 3) := by decide +kernel
theorem dX9_ranked_89 : decode cX9_ranked 89 = .ok (.iload_n 3, 1) := by decide +kernel
theorem dX9_ranked_90 : decode cX9_ranked 90 = .ok (.iload_n 1, 1) := by decide +kernel
theorem dX9_ranked_91 : decode cX9_ranked 91 = .ok (.if_icmp .ne 5, 3) := by decide +kernel
theorem dX9_ranked_94 : decode cX9_ranked 94 = .ok (.iload_n 2, 1) := by decide +kernel
theorem dX9_ranked_95 : decode cX9_ranked 95 = .ok (.ireturn, 1) := by decide +kernel
theorem dX9_ranked_96 : decode cX9_ranked 96 = .ok (.iinc 2 1, 3) := by decide +kernel
theorem dX9_ranked_99 : decode cX9_ranked 99 = .ok (.goto (-88), 3) := by decide +kernel
theorem dX9_ranked_102 : decode cX9_ranked 102 = .ok (.iconst (-1), 1) := by decide +kernel
theorem dX9_ranked_103 : decode cX9_ranked 103 = .ok (.ireturn, 1) := by decide +kernel
theorem dX9_entering_0 : decode cX9_entering 0 = .ok (.iconst (-1), 1) := by decide +kernel
theorem dX9_entering_1 : decode cX9_entering 1 = .ok (.istore_n 1, 1) := by decide +kernel
theorem dX9_entering_2 : decode cX9_entering 2 = .ok (.iconst 0, 1) := by decide +kernel
theorem dX9_entering_3 : decode cX9_entering 3 = .ok (.istore_n 2, 1) := by decide +kernel
theorem dX9_entering_4 : decode cX9_entering 4 = .ok (.aload_n 0, 1) := by decide +kernel
theorem dX9_entering_5 : decode cX9_entering 5 = .ok (.getfield 39, 3) := by decide +kernel
theorem dX9_entering_8 : decode cX9_entering 8 = .ok (.bipush 41, 2) := by decide +kernel
theorem dX9_entering_10 : decode cX9_entering 10 = .ok (.iaload, 1) := by decide +kernel
theorem dX9_entering_11 : decode cX9_entering 11 = .ok (.istore_n 3, 1) := by decide +kernel
theorem dX9_entering_12 : decode cX9_entering 12 = .ok (.iload_n 2, 1) := by decide +kernel
theorem dX9_entering_13 : decode cX9_entering 13 = .ok (.aload_n 0, 1) := by decide +kernel
theorem dX9_entering_14 : decode cX9_entering 14 = .ok (.invokevirtual 218, 3) := by decide +kernel
theorem dX9_entering_17 : decode cX9_entering 17 = .ok (.if_icmp .ge 95, 3) := by decide +kernel
theorem dX9_entering_20 : decode cX9_entering 20 = .ok (.iload_n 1, 1) := by decide +kernel
theorem dX9_entering_21 : decode cX9_entering 21 = .ok (.iconst (-1), 1) := by decide +kernel
theorem dX9_entering_22 : decode cX9_entering 22 = .ok (.if_icmp .ne 90, 3) := by decide +kernel
theorem dX9_entering_25 : decode cX9_entering 25 = .ok (.iconst 0, 1) := by decide +kernel
theorem dX9_entering_26 : decode cX9_entering 26 = .ok (.istore 4, 2) := by decide +kernel
theorem dX9_entering_28 : decode cX9_entering 28 = .ok (.iload 4, 2) := by decide +kernel
theorem dX9_entering_30 : decode cX9_entering 30 = .ok (.aload_n 0, 1) := by decide +kernel
theorem dX9_entering_31 : decode cX9_entering 31 = .ok (.getfield 39, 3) := by decide +kernel
theorem dX9_entering_34 : decode cX9_entering 34 = .ok (.bipush 40, 2) := by decide +kernel
theorem dX9_entering_36 : decode cX9_entering 36 = .ok (.iaload, 1) := by decide +kernel
theorem dX9_entering_37 : decode cX9_entering 37 = .ok (.if_icmp .ge 72, 3) := by decide +kernel
theorem dX9_entering_40 : decode cX9_entering 40 = .ok (.iload_n 2, 1) := by decide +kernel
theorem dX9_entering_41 : decode cX9_entering 41 = .ok (.aload_n 0, 1) := by decide +kernel
theorem dX9_entering_42 : decode cX9_entering 42 = .ok (.invokevirtual 218, 3) := by decide +kernel
theorem dX9_entering_45 : decode cX9_entering 45 = .ok (.if_icmp .ge 64, 3) := by decide +kernel
theorem dX9_entering_48 : decode cX9_entering 48 = .ok (.aload_n 0, 1) := by decide +kernel
theorem dX9_entering_49 : decode cX9_entering 49 = .ok (.iload_n 3, 1) := by decide +kernel
theorem dX9_entering_50 : decode cX9_entering 50 = .ok (.invokevirtual 238, 3) := by decide +kernel
theorem dX9_entering_53 : decode cX9_entering 53 = .ok (.ifCond .eq 29, 3) := by decide +kernel
theorem dX9_entering_56 : decode cX9_entering 56 = .ok (.iload_n 1, 1) := by decide +kernel
theorem dX9_entering_57 : decode cX9_entering 57 = .ok (.iconst (-1), 1) := by decide +kernel
theorem dX9_entering_58 : decode cX9_entering 58 = .ok (.if_icmp .eq 22, 3) := by decide +kernel
theorem dX9_entering_61 : decode cX9_entering 61 = .ok (.aload_n 0, 1) := by decide +kernel
theorem dX9_entering_62 : decode cX9_entering 62 = .ok (.iload_n 3, 1) := by decide +kernel
theorem dX9_entering_63 : decode cX9_entering 63 = .ok (.invokevirtual 235, 3) := by decide +kernel
theorem dX9_entering_66 : decode cX9_entering 66 = .ok (.invokestatic 271, 3) := by decide +kernel
theorem dX9_entering_69 : decode cX9_entering 69 = .ok (.aload_n 0, 1) := by decide +kernel
theorem dX9_entering_70 : decode cX9_entering 70 = .ok (.iload_n 1, 1) := by decide +kernel
theorem dX9_entering_71 : decode cX9_entering 71 = .ok (.invokevirtual 235, 3) := by decide +kernel
theorem dX9_entering_74 : decode cX9_entering 74 = .ok (.invokestatic 271, 3) := by decide +kernel
theorem dX9_entering_77 : decode cX9_entering 77 = .ok (.if_icmp .le 5, 3) := by decide +kernel
theorem dX9_entering_80 : decode cX9_entering 80 = .ok (.iload_n 3, 1) := by decide +kernel
theorem dX9_entering_81 : decode cX9_entering 81 = .ok (.istore_n 1, 1) := by decide +kernel
theorem dX9_entering_82 : decode cX9_entering 82 = .ok (.iload_n 3, 1) := by decide +kernel
theorem dX9_entering_83 : decode cX9_entering 83 = .ok (.iconst 1, 1) := by decide +kernel
theorem dX9_entering_84 : decode cX9_entering 84 = .ok (.iadd, 1) := by decide +kernel
theorem dX9_entering_85 : decode cX9_entering 85 = .ok (.aload_n 0, 1) := by decide +kernel
theorem dX9_entering_86 : decode cX9_entering 86 = .ok (.invokevirtual 218, 3) := by decide +kernel
theorem dX9_entering_89 : decode cX9_entering 89 = .ok (.if_icmp .ne 7, 3) := by decide +kernel
theorem dX9_entering_92 : decode cX9_entering 92 = .ok (.iconst 0, 1) := by decide +kernel
theorem dX9_entering_93 : decode cX9_entering 93 = .ok (.goto 6, 3) := by decide +kernel
theorem dX9_entering_96 : decode cX9_entering 96 = .ok (.iload_n 3, 1) := by decide +kernel
theorem dX9_entering_97 : decode cX9_entering 97 = .ok (.iconst 1, 1) := by decide +kernel
theorem dX9_entering_98 : decode cX9_entering 98 = .ok (.iadd, 1) := by decide +kernel
theorem dX9_entering_99 : decode cX9_entering 99 = .ok (.istore_n 3, 1) := by decide +kernel
theorem dX9_entering_100 : decode cX9_entering 100 = .ok (.iinc 2 1, 3) := by decide +kernel
theorem dX9_entering_103 : decode cX9_entering 103 = .ok (.iinc 4 1, 3) := by decide +kernel
theorem dX9_entering_106 : decode cX9_entering 106 = .ok (.goto (-78), 3) := by decide +kernel
theorem dX9_entering_109 : decode cX9_entering 109 = .ok (.goto (-97), 3) := by decide +kernel
theorem dX9_entering_112 : decode cX9_entering 112 = .ok (.aload_n 0, 1) := by decide +kernel
theorem dX9_entering_113 : decode cX9_entering 113 = .ok (.iload_n 3, 1) := by decide +kernel
theorem dX9_entering_114 : decode cX9_entering 114 = .ok (.putfield 274, 3) := by decide +kernel
theorem dX9_entering_117 : decode cX9_entering 117 = .ok (.iload_n 1, 1) := by decide +kernel
theorem dX9_entering_118 : decode cX9_entering 118 = .ok (.ireturn, 1) := by decide +kernel
theorem dX9_sizeOf_0 : decode cX9_sizeOf 0 = .ok (.iload_n 0, 1) := by decide +kernel
theorem dX9_sizeOf_1 : decode cX9_sizeOf 1 = .ok (.ifCond .ge 8, 3) := by decide +kernel
theorem dX9_sizeOf_4 : decode cX9_sizeOf 4 = .ok (.iload_n 0, 1) := by decide +kernel
theorem dX9_sizeOf_5 : decode cX9_sizeOf 5 = .ok (.ineg, 1) := by decide +kernel
theorem dX9_sizeOf_6 : decode cX9_sizeOf 6 = .ok (.goto 4, 3) := by decide +kernel
theorem dX9_sizeOf_9 : decode cX9_sizeOf 9 = .ok (.iload_n 0, 1) := by decide +kernel
theorem dX9_sizeOf_10 : decode cX9_sizeOf 10 = .ok (.ireturn, 1) := by decide +kernel
theorem dX9_apexOf_0 : decode cX9_apexOf 0 = .ok (.iload_n 1, 1) := by decide +kernel
theorem dX9_apexOf_1 : decode cX9_apexOf 1 = .ok (.istore_n 3, 1) := by decide +kernel
theorem dX9_apexOf_2 : decode cX9_apexOf 2 = .ok (.iload_n 2, 1) := by decide +kernel
theorem dX9_apexOf_3 : decode cX9_apexOf 3 = .ok (.istore 4, 2) := by decide +kernel
theorem dX9_apexOf_5 : decode cX9_apexOf 5 = .ok (.iload_n 3, 1) := by decide +kernel
theorem dX9_apexOf_6 : decode cX9_apexOf 6 = .ok (.iload 4, 2) := by decide +kernel
theorem dX9_apexOf_8 : decode cX9_apexOf 8 = .ok (.if_icmp .eq 39, 3) := by decide +kernel
theorem dX9_apexOf_11 : decode cX9_apexOf 11 = .ok (.aload_n 0, 1) := by decide +kernel
theorem dX9_apexOf_12 : decode cX9_apexOf 12 = .ok (.getfield 58, 3) := by decide +kernel
theorem dX9_apexOf_15 : decode cX9_apexOf 15 = .ok (.iload_n 3, 1) := by decide +kernel
theorem dX9_apexOf_16 : decode cX9_apexOf 16 = .ok (.iaload, 1) := by decide +kernel
theorem dX9_apexOf_17 : decode cX9_apexOf 17 = .ok (.aload_n 0, 1) := by decide +kernel
theorem dX9_apexOf_18 : decode cX9_apexOf 18 = .ok (.getfield 58, 3) := by decide +kernel
theorem dX9_apexOf_21 : decode cX9_apexOf 21 = .ok (.iload 4, 2) := by decide +kernel
theorem dX9_apexOf_23 : decode cX9_apexOf 23 = .ok (.iaload, 1) := by decide +kernel
theorem dX9_apexOf_24 : decode cX9_apexOf 24 = .ok (.if_icmp .lt 12, 3) := by decide +kernel
theorem dX9_apexOf_27 : decode cX9_apexOf 27 = .ok (.aload_n 0, 1) := by decide +kernel
theorem dX9_apexOf_28 : decode cX9_apexOf 28 = .ok (.iload_n 3, 1) := by decide +kernel
theorem dX9_apexOf_29 : decode cX9_apexOf 29 = .ok (.invokevirtual 248, 3) := by decide +kernel
theorem dX9_apexOf_32 : decode cX9_apexOf 32 = .ok (.istore_n 3, 1) := by decide +kernel
theorem dX9_apexOf_33 : decode cX9_apexOf 33 = .ok (.goto (-28), 3) := by decide +kernel
theorem dX9_apexOf_36 : decode cX9_apexOf 36 = .ok (.aload_n 0, 1) := by decide +kernel
theorem dX9_apexOf_37 : decode cX9_apexOf 37 = .ok (.iload 4, 2) := by decide +kernel
theorem dX9_apexOf_39 : decode cX9_apexOf 39 = .ok (.invokevirtual 248, 3) := by decide +kernel
theorem dX9_apexOf_42 : decode cX9_apexOf 42 = .ok (.istore 4, 2) := by decide +kernel
theorem dX9_apexOf_44 : decode cX9_apexOf 44 = .ok (.goto (-39), 3) := by decide +kernel
theorem dX9_apexOf_47 : decode cX9_apexOf 47 = .ok (.iload_n 3, 1) := by decide +kernel
theorem dX9_apexOf_48 : decode cX9_apexOf 48 = .ok (.ireturn, 1) := by decide +kernel
theorem dX9_roomOf_0 : decode cX9_roomOf 0 = .ok (.aload_n 0, 1) := by decide +kernel
theorem dX9_roomOf_1 : decode cX9_roomOf 1 = .ok (.getfield 64, 3) := by decide +kernel
theorem dX9_roomOf_4 : decode cX9_roomOf 4 = .ok (.iload_n 1, 1) := by decide +kernel
theorem dX9_roomOf_5 : decode cX9_roomOf 5 = .ok (.iaload, 1) := by decide +kernel
theorem dX9_roomOf_6 : decode cX9_roomOf 6 = .ok (.iload_n 2, 1) := by decide +kernel
theorem dX9_roomOf_7 : decode cX9_roomOf 7 = .ok (.if_icmp .ne 9, 3) := by decide +kernel
theorem dX9_roomOf_10 : decode cX9_roomOf 10 = .ok (.aload_n 0, 1) := by decide +kernel
theorem dX9_roomOf_11 : decode cX9_roomOf 11 = .ok (.iload_n 2, 1) := by decide +kernel
theorem dX9_roomOf_12 : decode cX9_roomOf 12 = .ok (.invokevirtual 277, 3) := by decide +kernel
theorem dX9_roomOf_15 : decode cX9_roomOf 15 = .ok (.ireturn, 1) := by decide +kernel
theorem dX9_roomOf_16 : decode cX9_roomOf 16 = .ok (.aload_n 0, 1) := by decide +kernel
theorem dX9_roomOf_17 : decode cX9_roomOf 17 = .ok (.getfield 67, 3) := by decide +kernel
theorem dX9_roomOf_20 : decode cX9_roomOf 20 = .ok (.iload_n 1, 1) := by decide +kernel
theorem dX9_roomOf_21 : decode cX9_roomOf 21 = .ok (.baload, 1) := by decide +kernel
theorem dX9_roomOf_22 : decode cX9_roomOf 22 = .ok (.ifCond .ne 18, 3) := by decide +kernel
theorem dX9_roomOf_25 : decode cX9_roomOf 25 = .ok (.aload_n 0, 1) := by decide +kernel
theorem dX9_roomOf_26 : decode cX9_roomOf 26 = .ok (.getfield 39, 3) := by decide +kernel
theorem dX9_roomOf_29 : decode cX9_roomOf 29 = .ok (.bipush 50, 2) := by decide +kernel
theorem dX9_roomOf_31 : decode cX9_roomOf 31 = .ok (.aload_n 0, 1) := by decide +kernel
theorem dX9_roomOf_32 : decode cX9_roomOf 32 = .ok (.getfield 64, 3) := by decide +kernel
theorem dX9_roomOf_35 : decode cX9_roomOf 35 = .ok (.iload_n 1, 1) := by decide +kernel
theorem dX9_roomOf_36 : decode cX9_roomOf 36 = .ok (.iaload, 1) := by decide +kernel
theorem dX9_roomOf_37 : decode cX9_roomOf 37 = .ok (.iadd, 1) := by decide +kernel
theorem dX9_roomOf_38 : decode cX9_roomOf 38 = .ok (.iaload, 1) := by decide +kernel
theorem dX9_roomOf_39 : decode cX9_roomOf 39 = .ok (.ireturn, 1) := by decide +kernel
theorem dX9_roomOf_40 : decode cX9_roomOf 40 = .ok (.aload_n 0, 1) := by decide +kernel
theorem dX9_roomOf_41 : decode cX9_roomOf 41 = .ok (.getfield 64, 3) := by decide +kernel
theorem dX9_roomOf_44 : decode cX9_roomOf 44 = .ok (.iload_n 1, 1) := by decide +kernel
theorem dX9_roomOf_45 : decode cX9_roomOf 45 = .ok (.iaload, 1) := by decide +kernel
theorem dX9_roomOf_46 : decode cX9_roomOf 46 = .ok (.aload_n 0, 1) := by decide +kernel
theorem dX9_roomOf_47 : decode cX9_roomOf 47 = .ok (.getfield 17, 3) := by decide +kernel
theorem dX9_roomOf_50 : decode cX9_roomOf 50 = .ok (.iconst 0, 1) := by decide +kernel
theorem dX9_roomOf_51 : decode cX9_roomOf 51 = .ok (.iaload, 1) := by decide +kernel
theorem dX9_roomOf_52 : decode cX9_roomOf 52 = .ok (.if_icmp .ge 35, 3) := by decide +kernel
theorem dX9_roomOf_55 : decode cX9_roomOf 55 = .ok (.aload_n 0, 1) := by decide +kernel
theorem dX9_roomOf_56 : decode cX9_roomOf 56 = .ok (.getfield 39, 3) := by decide +kernel
theorem dX9_roomOf_59 : decode cX9_roomOf 59 = .ok (.bipush 24, 2) := by decide +kernel
theorem dX9_roomOf_61 : decode cX9_roomOf 61 = .ok (.aload_n 0, 1) := by decide +kernel
theorem dX9_roomOf_62 : decode cX9_roomOf 62 = .ok (.getfield 64, 3) := by decide +kernel
theorem dX9_roomOf_65 : decode cX9_roomOf 65 = .ok (.iload_n 1, 1) := by decide +kernel
theorem dX9_roomOf_66 : decode cX9_roomOf 66 = .ok (.iaload, 1) := by decide +kernel
theorem dX9_roomOf_67 : decode cX9_roomOf 67 = .ok (.iadd, 1) := by decide +kernel
theorem dX9_roomOf_68 : decode cX9_roomOf 68 = .ok (.iaload, 1) := by decide +kernel
theorem dX9_roomOf_69 : decode cX9_roomOf 69 = .ok (.aload_n 0, 1) := by decide +kernel
theorem dX9_roomOf_70 : decode cX9_roomOf 70 = .ok (.getfield 39, 3) := by decide +kernel
theorem dX9_roomOf_73 : decode cX9_roomOf 73 = .ok (.bipush 50, 2) := by decide +kernel
theorem dX9_roomOf_75 : decode cX9_roomOf 75 = .ok (.aload_n 0, 1) := by decide +kernel
theorem dX9_roomOf_76 : decode cX9_roomOf 76 = .ok (.getfield 64, 3) := by decide +kernel
theorem dX9_roomOf_79 : decode cX9_roomOf 79 = .ok (.iload_n 1, 1) := by decide +kernel
theorem dX9_roomOf_80 : decode cX9_roomOf 80 = .ok (.iaload, 1) := by decide +kernel
theorem dX9_roomOf_81 : decode cX9_roomOf 81 = .ok (.iadd, 1) := by decide +kernel
theorem dX9_roomOf_82 : decode cX9_roomOf 82 = .ok (.iaload, 1) := by decide +kernel
theorem dX9_roomOf_83 : decode cX9_roomOf 83 = .ok (.isub, 1) := by decide +kernel
theorem dX9_roomOf_84 : decode cX9_roomOf 84 = .ok (.goto 5, 3) := by decide +kernel
theorem dX9_roomOf_87 : decode cX9_roomOf 87 = .ok (.ldc 221, 2) := by decide +kernel
theorem dX9_roomOf_89 : decode cX9_roomOf 89 = .ok (.ireturn, 1) := by decide +kernel
theorem dX9_laysRing_0 : decode cX9_laysRing 0 = .ok (.aload_n 0, 1) := by decide +kernel
theorem dX9_laysRing_1 : decode cX9_laysRing 1 = .ok (.getfield 39, 3) := by decide +kernel
theorem dX9_laysRing_4 : decode cX9_laysRing 4 = .ok (.bipush 74, 2) := by decide +kernel
theorem dX9_laysRing_6 : decode cX9_laysRing 6 = .ok (.iload_n 1, 1) := by decide +kernel
theorem dX9_laysRing_7 : decode cX9_laysRing 7 = .ok (.iadd, 1) := by decide +kernel
theorem dX9_laysRing_8 : decode cX9_laysRing 8 = .ok (.iaload, 1) := by decide +kernel
theorem dX9_laysRing_9 : decode cX9_laysRing 9 = .ok (.iconst 1, 1) := by decide +kernel
theorem dX9_laysRing_10 : decode cX9_laysRing 10 = .ok (.if_icmp .ne 7, 3) := by decide +kernel
theorem dX9_laysRing_13 : decode cX9_laysRing 13 = .ok (.iconst 1, 1) := by decide +kernel
theorem dX9_laysRing_14 : decode cX9_laysRing 14 = .ok (.goto 4, 3) := by decide +kernel
theorem dX9_laysRing_17 : decode cX9_laysRing 17 = .ok (.iconst 0, 1) := by decide +kernel
theorem dX9_laysRing_18 : decode cX9_laysRing 18 = .ok (.istore_n 2, 1) := by decide +kernel
theorem dX9_laysRing_19 : decode cX9_laysRing 19 = .ok (.iload_n 2, 1) := by decide +kernel
theorem dX9_laysRing_20 : decode cX9_laysRing 20 = .ok (.ifCond .eq 11, 3) := by decide +kernel
theorem dX9_laysRing_23 : decode cX9_laysRing 23 = .ok (.aload_n 0, 1) := by decide +kernel
theorem dX9_laysRing_24 : decode cX9_laysRing 24 = .ok (.iload_n 1, 1) := by decide +kernel
theorem dX9_laysRing_25 : decode cX9_laysRing 25 = .ok (.invokevirtual 222, 3) := by decide +kernel
theorem dX9_laysRing_28 : decode cX9_laysRing 28 = .ok (.goto 8, 3) := by decide +kernel
theorem dX9_laysRing_31 : decode cX9_laysRing 31 = .ok (.aload_n 0, 1) := by decide +kernel
theorem dX9_laysRing_32 : decode cX9_laysRing 32 = .ok (.iload_n 1, 1) := by decide +kernel
theorem dX9_laysRing_33 : decode cX9_laysRing 33 = .ok (.invokevirtual 225, 3) := by decide +kernel
theorem dX9_laysRing_36 : decode cX9_laysRing 36 = .ok (.istore_n 3, 1) := by decide +kernel
theorem dX9_laysRing_37 : decode cX9_laysRing 37 = .ok (.iload_n 2, 1) := by decide +kernel
theorem dX9_laysRing_38 : decode cX9_laysRing 38 = .ok (.ifCond .eq 11, 3) := by decide +kernel
theorem dX9_laysRing_41 : decode cX9_laysRing 41 = .ok (.aload_n 0, 1) := by decide +kernel
theorem dX9_laysRing_42 : decode cX9_laysRing 42 = .ok (.iload_n 1, 1) := by decide +kernel
theorem dX9_laysRing_43 : decode cX9_laysRing 43 = .ok (.invokevirtual 225, 3) := by decide +kernel
