theorem dX9_hold_74 : decode cX9_hold 74 = .ok (.iload_n 1, 1) := by decide +kernel
theorem dX9_hold_75 : decode cX9_hold 75 = .ok (.iadd, 1) := by decide +kernel
theorem dX9_hold_76 : decode cX9_hold 76 = .ok (.iload_n 2, 1) := by decide +kernel
theorem dX9_hold_77 : decode cX9_hold 77 = .ok (.invokevirtual 366, 3) := by decide +kernel
theorem dX9_hold_80 : decode cX9_hold 80 = .ok (.ireturn, 1) := by decide +kernel
theorem dX9_block_0 : decode cX9_block 0 = .ok (.aload_n 0, 1) := by decide +kernel
theorem dX9_block_1 : decode cX9_block 1 = .ok (.iconst 0, 1) := by decide +kernel
theorem dX9_block_2 : decode cX9_block 2 = .ok (.putfield 82, 3) := by decide +kernel
theorem dX9_block_5 : decode cX9_block 5 = .ok (.iload_n 1, 1) := by decide +kernel
theorem dX9_block_6 : decode cX9_block 6 = .ok (.i2l, 1) := by decide +kernel
theorem dX9_block_7 : decode cX9_block 7 = .ok (.lconst 1, 1) := by decide +kernel
theorem dX9_block_8 : decode cX9_block 8 = .ok (.ldc2_w 369, 3) := by decide +kernel
theorem dX9_block_11 : decode cX9_block 11 = .ok (.invokestatic 120, 3) := by decide +kernel
theorem dX9_block_14 : decode cX9_block 14 = .ok (.ifCond .eq 24, 3) := by decide +kernel
theorem dX9_block_17 : decode cX9_block 17 = .ok (.aload_n 0, 1) := by decide +kernel
theorem dX9_block_18 : decode cX9_block 18 = .ok (.getfield 39, 3) := by decide +kernel
theorem dX9_block_21 : decode cX9_block 21 = .ok (.bipush 40, 2) := by decide +kernel
theorem dX9_block_23 : decode cX9_block 23 = .ok (.iaload, 1) := by decide +kernel
theorem dX9_block_24 : decode cX9_block 24 = .ok (.iload_n 1, 1) := by decide +kernel
theorem dX9_block_25 : decode cX9_block 25 = .ok (.if_icmp .eq 13, 3) := by decide +kernel
theorem dX9_block_28 : decode cX9_block 28 = .ok (.aload_n 0, 1) := by decide +kernel
theorem dX9_block_29 : decode cX9_block 29 = .ok (.bipush 40, 2) := by decide +kernel
theorem dX9_block_31 : decode cX9_block 31 = .ok (.iload_n 1, 1) := by decide +kernel
theorem dX9_block_32 : decode cX9_block 32 = .ok (.invokevirtual 366, 3) := by decide +kernel
theorem dX9_block_35 : decode cX9_block 35 = .ok (.goto 4, 3) := by decide +kernel
theorem dX9_block_38 : decode cX9_block 38 = .ok (.iconst (-1), 1) := by decide +kernel
theorem dX9_block_39 : decode cX9_block 39 = .ok (.ireturn, 1) := by decide +kernel
theorem dX9_anew_0 : decode cX9_anew 0 = .ok (.aload_n 0, 1) := by decide +kernel
theorem dX9_anew_1 : decode cX9_anew 1 = .ok (.iconst 0, 1) := by decide +kernel
theorem dX9_anew_2 : decode cX9_anew 2 = .ok (.putfield 82, 3) := by decide +kernel
theorem dX9_anew_5 : decode cX9_anew 5 = .ok (.aload_n 0, 1) := by decide +kernel
theorem dX9_anew_6 : decode cX9_anew 6 = .ok (.invokevirtual 319, 3) := by decide +kernel
theorem dX9_anew_9 : decode cX9_anew 9 = .ok (.aload_n 0, 1) := by decide +kernel
theorem dX9_anew_10 : decode cX9_anew 10 = .ok (.getfield 39, 3) := by decide +kernel
theorem dX9_anew_13 : decode cX9_anew 13 = .ok (.bipush 98, 2) := by decide +kernel
theorem dX9_anew_15 : decode cX9_anew 15 = .ok (.iaload, 1) := by decide +kernel
theorem dX9_anew_16 : decode cX9_anew 16 = .ok (.istore_n 1, 1) := by decide +kernel
theorem dX9_anew_17 : decode cX9_anew 17 = .ok (.aload_n 0, 1) := by decide +kernel
theorem dX9_anew_18 : decode cX9_anew 18 = .ok (.invokevirtual 79, 3) := by decide +kernel
theorem dX9_anew_21 : decode cX9_anew 21 = .ok (.iload_n 1, 1) := by decide +kernel
theorem dX9_anew_22 : decode cX9_anew 22 = .ok (.ireturn, 1) := by decide +kernel
theorem dX9_writes_0 : decode cX9_writes 0 = .ok (.aload_n 0, 1) := by decide +kernel
theorem dX9_writes_1 : decode cX9_writes 1 = .ok (.getfield 76, 3) := by decide +kernel
theorem dX9_writes_4 : decode cX9_writes 4 = .ok (.aload_n 0, 1) := by decide +kernel
theorem dX9_writes_5 : decode cX9_writes 5 = .ok (.getfield 371, 3) := by decide +kernel
theorem dX9_writes_8 : decode cX9_writes 8 = .ok (.iload_n 1, 1) := by decide +kernel
theorem dX9_writes_9 : decode cX9_writes 9 = .ok (.iastore, 1) := by decide +kernel
theorem dX9_writes_10 : decode cX9_writes 10 = .ok (.aload_n 0, 1) := by decide +kernel
theorem dX9_writes_11 : decode cX9_writes 11 = .ok (.dup, 1) := by decide +kernel
theorem dX9_writes_12 : decode cX9_writes 12 = .ok (.getfield 371, 3) := by decide +kernel
theorem dX9_writes_15 : decode cX9_writes 15 = .ok (.iconst 1, 1) := by decide +kernel
theorem dX9_writes_16 : decode cX9_writes 16 = .ok (.iadd, 1) := by decide +kernel
theorem dX9_writes_17 : decode cX9_writes 17 = .ok (.putfield 371, 3) := by decide +kernel
theorem dX9_writes_20 : decode cX9_writes 20 = .ok (.return_, 1) := by decide +kernel
theorem dX9_writesName_0 : decode cX9_writesName 0 = .ok (.bipush 25, 2) := by decide +kernel
theorem dX9_writesName_2 : decode cX9_writesName 2 = .ok (.istore_n 3, 1) := by decide +kernel
theorem dX9_writesName_3 : decode cX9_writesName 3 = .ok (.iload_n 3, 1) := by decide +kernel
theorem dX9_writesName_4 : decode cX9_writesName 4 = .ok (.ifCond .lt 33, 3) := by decide +kernel
theorem dX9_writesName_7 : decode cX9_writesName 7 = .ok (.lload_n 1, 1) := by decide +kernel
theorem dX9_writesName_8 : decode cX9_writesName 8 = .ok (.iload_n 3, 1) := by decide +kernel
theorem dX9_writesName_9 : decode cX9_writesName 9 = .ok (.lshr, 1) := by decide +kernel
theorem dX9_writesName_10 : decode cX9_writesName 10 = .ok (.ldc2_w 374, 3) := by decide +kernel
theorem dX9_writesName_13 : decode cX9_writesName 13 = .ok (.land, 1) := by decide +kernel
theorem dX9_writesName_14 : decode cX9_writesName 14 = .ok (.l2i, 1) := by decide +kernel
theorem dX9_writesName_15 : decode cX9_writesName 15 = .ok (.istore 4, 2) := by decide +kernel
theorem dX9_writesName_17 : decode cX9_writesName 17 = .ok (.iload 4, 2) := by decide +kernel
theorem dX9_writesName_19 : decode cX9_writesName 19 = .ok (.ifCond .le 12, 3) := by decide +kernel
theorem dX9_writesName_22 : decode cX9_writesName 22 = .ok (.aload_n 0, 1) := by decide +kernel
theorem dX9_writesName_23 : decode cX9_writesName 23 = .ok (.bipush 96, 2) := by decide +kernel
theorem dX9_writesName_25 : decode cX9_writesName 25 = .ok (.iload 4, 2) := by decide +kernel
theorem dX9_writesName_27 : decode cX9_writesName 27 = .ok (.iadd, 1) := by decide +kernel
theorem dX9_writesName_28 : decode cX9_writesName 28 = .ok (.invokevirtual 376, 3) := by decide +kernel
theorem dX9_writesName_31 : decode cX9_writesName 31 = .ok (.iinc 3 (-5), 3) := by decide +kernel
theorem dX9_writesName_34 : decode cX9_writesName 34 = .ok (.goto (-31), 3) := by decide +kernel
theorem dX9_writesName_37 : decode cX9_writesName 37 = .ok (.return_, 1) := by decide +kernel
theorem dX9_writesNumber_0 : decode cX9_writesNumber 0 = .ok (.iload_n 1, 1) := by decide +kernel
theorem dX9_writesNumber_1 : decode cX9_writesNumber 1 = .ok (.bipush 99, 2) := by decide +kernel
theorem dX9_writesNumber_3 : decode cX9_writesNumber 3 = .ok (.if_icmp .le 14, 3) := by decide +kernel
theorem dX9_writesNumber_6 : decode cX9_writesNumber 6 = .ok (.aload_n 0, 1) := by decide +kernel
theorem dX9_writesNumber_7 : decode cX9_writesNumber 7 = .ok (.bipush 48, 2) := by decide +kernel
theorem dX9_writesNumber_9 : decode cX9_writesNumber 9 = .ok (.iload_n 1, 1) := by decide +kernel
theorem dX9_writesNumber_10 : decode cX9_writesNumber 10 = .ok (.bipush 100, 2) := by decide +kernel
theorem dX9_writesNumber_12 : decode cX9_writesNumber 12 = .ok (.idiv, 1) := by decide +kernel
theorem dX9_writesNumber_13 : decode cX9_writesNumber 13 = .ok (.iadd, 1) := by decide +kernel
theorem dX9_writesNumber_14 : decode cX9_writesNumber 14 = .ok (.invokevirtual 376, 3) := by decide +kernel
theorem dX9_writesNumber_17 : decode cX9_writesNumber 17 = .ok (.iload_n 1, 1) := by decide +kernel
theorem dX9_writesNumber_18 : decode cX9_writesNumber 18 = .ok (.bipush 9, 2) := by decide +kernel
theorem dX9_writesNumber_20 : decode cX9_writesNumber 20 = .ok (.if_icmp .le 17, 3) := by decide +kernel
theorem dX9_writesNumber_23 : decode cX9_writesNumber 23 = .ok (.aload_n 0, 1) := by decide +kernel
theorem dX9_writesNumber_24 : decode cX9_writesNumber 24 = .ok (.bipush 48, 2) := by decide +kernel
theorem dX9_writesNumber_26 : decode cX9_writesNumber 26 = .ok (.iload_n 1, 1) := by decide +kernel
theorem dX9_writesNumber_27 : decode cX9_writesNumber 27 = .ok (.bipush 10, 2) := by decide +kernel
theorem dX9_writesNumber_29 : decode cX9_writesNumber 29 = .ok (.idiv, 1) := by decide +kernel
theorem dX9_writesNumber_30 : decode cX9_writesNumber 30 = .ok (.bipush 10, 2) := by decide +kernel
theorem dX9_writesNumber_32 : decode cX9_writesNumber 32 = .ok (.irem, 1) := by decide +kernel
theorem dX9_writesNumber_33 : decode cX9_writesNumber 33 = .ok (.iadd, 1) := by decide +kernel
theorem dX9_writesNumber_34 : decode cX9_writesNumber 34 = .ok (.invokevirtual 376, 3) := by decide +kernel
theorem dX9_writesNumber_37 : decode cX9_writesNumber 37 = .ok (.aload_n 0, 1) := by decide +kernel
theorem dX9_writesNumber_38 : decode cX9_writesNumber 38 = .ok (.bipush 48, 2) := by decide +kernel
theorem dX9_writesNumber_40 : decode cX9_writesNumber 40 = .ok (.iload_n 1, 1) := by decide +kernel
theorem dX9_writesNumber_41 : decode cX9_writesNumber 41 = .ok (.bipush 10, 2) := by decide +kernel
theorem dX9_writesNumber_43 : decode cX9_writesNumber 43 = .ok (.irem, 1) := by decide +kernel
theorem dX9_writesNumber_44 : decode cX9_writesNumber 44 = .ok (.iadd, 1) := by decide +kernel
theorem dX9_writesNumber_45 : decode cX9_writesNumber 45 = .ok (.invokevirtual 376, 3) := by decide +kernel
theorem dX9_writesNumber_48 : decode cX9_writesNumber 48 = .ok (.return_, 1) := by decide +kernel
theorem dX9_sheet_0 : decode cX9_sheet 0 = .ok (.aload_n 0, 1) := by decide +kernel
theorem dX9_sheet_1 : decode cX9_sheet 1 = .ok (.iconst 0, 1) := by decide +kernel
theorem dX9_sheet_2 : decode cX9_sheet 2 = .ok (.putfield 82, 3) := by decide +kernel
theorem dX9_sheet_5 : decode cX9_sheet 5 = .ok (.iload_n 1, 1) := by decide +kernel
theorem dX9_sheet_6 : decode cX9_sheet 6 = .ok (.iconst (-1), 1) := by decide +kernel
theorem dX9_sheet_7 : decode cX9_sheet 7 = .ok (.if_icmp .ge 5, 3) := by decide +kernel
theorem dX9_sheet_10 : decode cX9_sheet 10 = .ok (.iconst (-1), 1) := by decide +kernel
theorem dX9_sheet_11 : decode cX9_sheet 11 = .ok (.ireturn, 1) := by decide +kernel
theorem dX9_sheet_12 : decode cX9_sheet 12 = .ok (.aload_n 0, 1) := by decide +kernel
theorem dX9_sheet_13 : decode cX9_sheet 13 = .ok (.iconst 0, 1) := by decide +kernel
theorem dX9_sheet_14 : decode cX9_sheet 14 = .ok (.putfield 371, 3) := by decide +kernel
theorem dX9_sheet_17 : decode cX9_sheet 17 = .ok (.iconst 0, 1) := by decide +kernel
theorem dX9_sheet_18 : decode cX9_sheet 18 = .ok (.istore_n 2, 1) := by decide +kernel
theorem dX9_sheet_19 : decode cX9_sheet 19 = .ok (.iload_n 2, 1) := by decide +kernel
theorem dX9_sheet_20 : decode cX9_sheet 20 = .ok (.aload_n 0, 1) := by decide +kernel
theorem dX9_sheet_21 : decode cX9_sheet 21 = .ok (.getfield 17, 3) := by decide +kernel
theorem dX9_sheet_24 : decode cX9_sheet 24 = .ok (.iconst 0, 1) := by decide +kernel
theorem dX9_sheet_25 : decode cX9_sheet 25 = .ok (.iaload, 1) := by decide +kernel
theorem dX9_sheet_26 : decode cX9_sheet 26 = .ok (.if_icmp .ge 62, 3) := by decide +kernel
theorem dX9_sheet_29 : decode cX9_sheet 29 = .ok (.aload_n 0, 1) := by decide +kernel
theorem dX9_sheet_30 : decode cX9_sheet 30 = .ok (.getfield 39, 3) := by decide +kernel
theorem dX9_sheet_33 : decode cX9_sheet 33 = .ok (.bipush 50, 2) := by decide +kernel
theorem dX9_sheet_35 : decode cX9_sheet 35 = .ok (.iload_n 2, 1) := by decide +kernel
theorem dX9_sheet_36 : decode cX9_sheet 36 = .ok (.iadd, 1) := by decide +kernel
theorem dX9_sheet_37 : decode cX9_sheet 37 = .ok (.iaload, 1) := by decide +kernel
theorem dX9_sheet_38 : decode cX9_sheet 38 = .ok (.ifCond .ne 6, 3) := by decide +kernel
theorem dX9_sheet_41 : decode cX9_sheet 41 = .ok (.goto 41, 3) := by decide +kernel
theorem dX9_sheet_44 : decode cX9_sheet 44 = .ok (.aload_n 0, 1) := by decide +kernel
theorem dX9_sheet_45 : decode cX9_sheet 45 = .ok (.aload_n 0, 1) := by decide +kernel
theorem dX9_sheet_46 : decode cX9_sheet 46 = .ok (.getfield 20, 3) := by decide +kernel
theorem dX9_sheet_49 : decode cX9_sheet 49 = .ok (.bipush 8, 2) := by decide +kernel
theorem dX9_sheet_51 : decode cX9_sheet 51 = .ok (.iload_n 2, 1) := by decide +kernel
theorem dX9_sheet_52 : decode cX9_sheet 52 = .ok (.iadd, 1) := by decide +kernel
theorem dX9_sheet_53 : decode cX9_sheet 53 = .ok (.laload, 1) := by decide +kernel
theorem dX9_sheet_54 : decode cX9_sheet 54 = .ok (.invokevirtual 379, 3) := by decide +kernel
theorem dX9_sheet_57 : decode cX9_sheet 57 = .ok (.aload_n 0, 1) := by decide +kernel
theorem dX9_sheet_58 : decode cX9_sheet 58 = .ok (.bipush 32, 2) := by decide +kernel
theorem dX9_sheet_60 : decode cX9_sheet 60 = .ok (.invokevirtual 376, 3) := by decide +kernel
theorem dX9_sheet_63 : decode cX9_sheet 63 = .ok (.aload_n 0, 1) := by decide +kernel
theorem dX9_sheet_64 : decode cX9_sheet 64 = .ok (.aload_n 0, 1) := by decide +kernel
theorem dX9_sheet_65 : decode cX9_sheet 65 = .ok (.getfield 39, 3) := by decide +kernel
theorem dX9_sheet_68 : decode cX9_sheet 68 = .ok (.bipush 50, 2) := by decide +kernel
theorem dX9_sheet_70 : decode cX9_sheet 70 = .ok (.iload_n 2, 1) := by decide +kernel
theorem dX9_sheet_71 : decode cX9_sheet 71 = .ok (.iadd, 1) := by decide +kernel
theorem dX9_sheet_72 : decode cX9_sheet 72 = .ok (.iaload, 1) := by decide +kernel
theorem dX9_sheet_73 : decode cX9_sheet 73 = .ok (.invokevirtual 383, 3) := by decide +kernel
theorem dX9_sheet_76 : decode cX9_sheet 76 = .ok (.aload_n 0, 1) := by decide +kernel
theorem dX9_sheet_77 : decode cX9_sheet 77 = .ok (.bipush 59, 2) := by decide +kernel
theorem dX9_sheet_79 : decode cX9_sheet 79 = .ok (.invokevirtual 376, 3) := by decide +kernel
theorem dX9_sheet_82 : decode cX9_sheet 82 = .ok (.iinc 2 1, 3) := by decide +kernel
theorem dX9_sheet_85 : decode cX9_sheet 85 = .ok (.goto (-66), 3) := by decide +kernel
theorem dX9_sheet_88 : decode cX9_sheet 88 = .ok (.iload_n 1, 1) := by decide +kernel
theorem dX9_sheet_89 : decode cX9_sheet 89 = .ok (.iconst (-1), 1) := by decide +kernel
theorem dX9_sheet_90 : decode cX9_sheet 90 = .ok (.if_icmp .ne 10, 3) := by decide +kernel
theorem dX9_sheet_93 : decode cX9_sheet 93 = .ok (.aload_n 0, 1) := by decide +kernel
theorem dX9_sheet_94 : decode cX9_sheet 94 = .ok (.getfield 371, 3) := by decide +kernel
theorem dX9_sheet_97 : decode cX9_sheet 97 = .ok (.goto 22, 3) := by decide +kernel
theorem dX9_sheet_100 : decode cX9_sheet 100 = .ok (.iload_n 1, 1) := by decide +kernel
theorem dX9_sheet_101 : decode cX9_sheet 101 = .ok (.aload_n 0, 1) := by decide +kernel
theorem dX9_sheet_102 : decode cX9_sheet 102 = .ok (.getfield 371, 3) := by decide +kernel
theorem dX9_sheet_105 : decode cX9_sheet 105 = .ok (.if_icmp .ge 12, 3) := by decide +kernel
theorem dX9_sheet_108 : decode cX9_sheet 108 = .ok (.aload_n 0, 1) := by decide +kernel
theorem dX9_sheet_109 : decode cX9_sheet 109 = .ok (.getfield 76, 3) := by decide +kernel
theorem dX9_sheet_112 : decode cX9_sheet 112 = .ok (.iload_n 1, 1) := by decide +kernel
theorem dX9_sheet_113 : decode cX9_sheet 113 = .ok (.iaload, 1) := by decide +kernel
theorem dX9_sheet_114 : decode cX9_sheet 114 = .ok (.goto 5, 3) := by decide +kernel
theorem dX9_sheet_117 : decode cX9_sheet 117 = .ok (.bipush (-2), 2) := by decide +kernel
theorem dX9_sheet_119 : decode cX9_sheet 119 = .ok (.ireturn, 1) := by decide +kernel
theorem dX9_undo_0 : decode cX9_undo 0 = .ok (.aload_n 0, 1) := by decide +kernel
theorem dX9_undo_1 : decode cX9_undo 1 = .ok (.iconst 0, 1) := by decide +kernel
theorem dX9_undo_2 : decode cX9_undo 2 = .ok (.putfield 82, 3) := by decide +kernel
theorem dX9_undo_5 : decode cX9_undo 5 = .ok (.aload_n 0, 1) := by decide +kernel
theorem dX9_undo_6 : decode cX9_undo 6 = .ok (.getfield 215, 3) := by decide +kernel
theorem dX9_undo_9 : decode cX9_undo 9 = .ok (.ifCond .ne 5, 3) := by decide +kernel
theorem dX9_undo_12 : decode cX9_undo 12 = .ok (.iconst (-1), 1) := by decide +kernel
theorem dX9_undo_13 : decode cX9_undo 13 = .ok (.ireturn, 1) := by decide +kernel
theorem dX9_undo_14 : decode cX9_undo 14 = .ok (.aload_n 0, 1) := by decide +kernel
theorem dX9_undo_15 : decode cX9_undo 15 = .ok (.dup, 1) := by decide +kernel
theorem dX9_undo_16 : decode cX9_undo 16 = .ok (.getfield 215, 3) := by decide +kernel
theorem dX9_undo_19 : decode cX9_undo 19 = .ok (.iconst 1, 1) := by decide +kernel
theorem dX9_undo_20 : decode cX9_undo 20 = .ok (.isub, 1) := by decide +kernel
theorem dX9_undo_21 : decode cX9_undo 21 = .ok (.putfield 215, 3) := by decide +kernel
theorem dX9_undo_24 : decode cX9_undo 24 = .ok (.iconst 0, 1) := by decide +kernel
theorem dX9_undo_25 : decode cX9_undo 25 = .ok (.istore_n 1, 1) := by decide +kernel
theorem dX9_undo_26 : decode cX9_undo 26 = .ok (.iload_n 1, 1) := by decide +kernel
theorem dX9_undo_27 : decode cX9_undo 27 = .ok (.sipush 180, 3) := by decide +kernel
theorem dX9_undo_30 : decode cX9_undo 30 = .ok (.if_icmp .ge 30, 3) := by decide +kernel
theorem dX9_undo_33 : decode cX9_undo 33 = .ok (.aload_n 0, 1) := by decide +kernel
theorem dX9_undo_34 : decode cX9_undo 34 = .ok (.getfield 39, 3) := by decide +kernel
theorem dX9_undo_37 : decode cX9_undo 37 = .ok (.iload_n 1, 1) := by decide +kernel
theorem dX9_undo_38 : decode cX9_undo 38 = .ok (.aload_n 0, 1) := by decide +kernel
theorem dX9_undo_39 : decode cX9_undo 39 = .ok (.getfield 42, 3) := by decide +kernel
theorem dX9_undo_42 : decode cX9_undo 42 = .ok (.sipush 180, 3) := by decide +kernel
theorem dX9_undo_45 : decode cX9_undo 45 = .ok (.aload_n 0, 1) := by decide +kernel
theorem dX9_undo_46 : decode cX9_undo 46 = .ok (.getfield 215, 3) := by decide +kernel
theorem dX9_undo_49 : decode cX9_undo 49 = .ok (.imul, 1) := by decide +kernel
theorem dX9_undo_50 : decode cX9_undo 50 = .ok (.iload_n 1, 1) := by decide +kernel
theorem dX9_undo_51 : decode cX9_undo 51 = .ok (.iadd, 1) := by decide +kernel
theorem dX9_undo_52 : decode cX9_undo 52 = .ok (.iaload, 1) := by decide +kernel
theorem dX9_undo_53 : decode cX9_undo 53 = .ok (.iastore, 1) := by decide +kernel
theorem dX9_undo_54 : decode cX9_undo 54 = .ok (.iinc 1 1, 3) := by decide +kernel
theorem dX9_undo_57 : decode cX9_undo 57 = .ok (.goto (-31), 3) := by decide +kernel
theorem dX9_undo_60 : decode cX9_undo 60 = .ok (.aload_n 0, 1) := by decide +kernel
theorem dX9_undo_61 : decode cX9_undo 61 = .ok (.getfield 215, 3) := by decide +kernel
theorem dX9_undo_64 : decode cX9_undo 64 = .ok (.ireturn, 1) := by decide +kernel
theorem dX9_keep_0 : decode cX9_keep 0 = .ok (.aload_n 0, 1) := by decide +kernel
theorem dX9_keep_1 : decode cX9_keep 1 = .ok (.iconst 0, 1) := by decide +kernel
theorem dX9_keep_2 : decode cX9_keep 2 = .ok (.putfield 82, 3) := by decide +kernel
theorem dX9_keep_5 : decode cX9_keep 5 = .ok (.iload_n 1, 1) := by decide +kernel
theorem dX9_keep_6 : decode cX9_keep 6 = .ok (.i2l, 1) := by decide +kernel
theorem dX9_keep_7 : decode cX9_keep 7 = .ok (.lconst 0, 1) := by decide +kernel
theorem dX9_keep_8 : decode cX9_keep 8 = .ok (.lconst 1, 1) := by decide +kernel
theorem dX9_keep_9 : decode cX9_keep 9 = .ok (.invokestatic 120, 3) := by decide +kernel
theorem dX9_keep_12 : decode cX9_keep 12 = .ok (.ifCond .eq 16, 3) := by decide +kernel
theorem dX9_keep_15 : decode cX9_keep 15 = .ok (.iload_n 2, 1) := by decide +kernel
theorem dX9_keep_16 : decode cX9_keep 16 = .ok (.ifCond .eq 14, 3) := by decide +kernel
theorem dX9_keep_19 : decode cX9_keep 19 = .ok (.aload_n 0, 1) := by decide +kernel
theorem dX9_keep_20 : decode cX9_keep 20 = .ok (.getfield 48, 3) := by decide +kernel
theorem dX9_keep_23 : decode cX9_keep 23 = .ok (.iload_n 1, 1) := by decide +kernel
theorem dX9_keep_24 : decode cX9_keep 24 = .ok (.baload, 1) := by decide +kernel
theorem dX9_keep_25 : decode cX9_keep 25 = .ok (.ifCond .ne 5, 3) := by decide +kernel
theorem dX9_keep_28 : decode cX9_keep 28 = .ok (.iconst 0, 1) := by decide +kernel
theorem dX9_keep_29 : decode cX9_keep 29 = .ok (.ireturn, 1) := by decide +kernel
theorem dX9_keep_30 : decode cX9_keep 30 = .ok (.iconst 0, 1) := by decide +kernel
theorem dX9_keep_31 : decode cX9_keep 31 = .ok (.istore_n 3, 1) := by decide +kernel
theorem dX9_keep_32 : decode cX9_keep 32 = .ok (.iload_n 3, 1) := by decide +kernel
theorem dX9_keep_33 : decode cX9_keep 33 = .ok (.sipush 180, 3) := by decide +kernel
theorem dX9_keep_36 : decode cX9_keep 36 = .ok (.if_icmp .ge 52, 3) := by decide +kernel
theorem dX9_keep_39 : decode cX9_keep 39 = .ok (.iload_n 2, 1) := by decide +kernel
theorem dX9_keep_40 : decode cX9_keep 40 = .ok (.ifCond .eq 24, 3) := by decide +kernel
theorem dX9_keep_43 : decode cX9_keep 43 = .ok (.aload_n 0, 1) := by decide +kernel
theorem dX9_keep_44 : decode cX9_keep 44 = .ok (.getfield 39, 3) := by decide +kernel
theorem dX9_keep_47 : decode cX9_keep 47 = .ok (.iload_n 3, 1) := by decide +kernel
theorem dX9_keep_48 : decode cX9_keep 48 = .ok (.aload_n 0, 1) := by decide +kernel
theorem dX9_keep_49 : decode cX9_keep 49 = .ok (.getfield 45, 3) := by decide +kernel
theorem dX9_keep_52 : decode cX9_keep 52 = .ok (.sipush 180, 3) := by decide +kernel
theorem dX9_keep_55 : decode cX9_keep 55 = .ok (.iload_n 1, 1) := by decide +kernel
theorem dX9_keep_56 : decode cX9_keep 56 = .ok (.imul, 1) := by decide +kernel
theorem dX9_keep_57 : decode cX9_keep 57 = .ok (.iload_n 3, 1) := by decide +kernel
theorem dX9_keep_58 : decode cX9_keep 58 = .ok (.iadd, 1) := by decide +kernel
theorem dX9_keep_59 : decode cX9_keep 59 = .ok (.iaload, 1) := by decide +kernel
theorem dX9_keep_60 : decode cX9_keep 60 = .ok (.iastore, 1) := by decide +kernel
theorem dX9_keep_61 : decode cX9_keep 61 = .ok (.goto 21, 3) := by decide +kernel
theorem dX9_keep_64 : decode cX9_keep 64 = .ok (.aload_n 0, 1) := by decide +kernel
theorem dX9_keep_65 : decode cX9_keep 65 = .ok (.getfield 45, 3) := by decide +kernel
theorem dX9_keep_68 : decode cX9_keep 68 = .ok (.sipush 180, 3) := by decide +kernel
theorem dX9_keep_71 : decode cX9_keep 71 = .ok (.iload_n 1, 1) := by decide +kernel
theorem dX9_keep_72 : decode cX9_keep 72 = .ok (.imul, 1) := by decide +kernel
theorem dX9_keep_73 : decode cX9_keep 73 = .ok (.iload_n 3, 1) := by decide +kernel
theorem dX9_keep_74 : decode cX9_keep 74 = .ok (.iadd, 1) := by decide +kernel
theorem dX9_keep_75 : decode cX9_keep 75 = .ok (.aload_n 0, 1) := by decide +kernel
theorem dX9_keep_76 : decode cX9_keep 76 = .ok (.getfield 39, 3) := by decide +kernel
theorem dX9_keep_79 : decode cX9_keep 79 = .ok (.iload_n 3, 1) := by decide +kernel
theorem dX9_keep_80 : decode cX9_keep 80 = .ok (.iaload, 1) := by decide +kernel
theorem dX9_keep_81 : decode cX9_keep 81 = .ok (.iastore, 1) := by decide +kernel
theorem dX9_keep_82 : decode cX9_keep 82 = .ok (.iinc 3 1, 3) := by decide +kernel
theorem dX9_keep_85 : decode cX9_keep 85 = .ok (.goto (-53), 3) := by decide +kernel
theorem dX9_keep_88 : decode cX9_keep 88 = .ok (.iload_n 2, 1) := by decide +kernel
theorem dX9_keep_89 : decode cX9_keep 89 = .ok (.ifCond .eq 11, 3) := by decide +kernel
theorem dX9_keep_92 : decode cX9_keep 92 = .ok (.aload_n 0, 1) := by decide +kernel
theorem dX9_keep_93 : decode cX9_keep 93 = .ok (.iconst 0, 1) := by decide +kernel
theorem dX9_keep_94 : decode cX9_keep 94 = .ok (.putfield 215, 3) := by decide +kernel
theorem dX9_keep_97 : decode cX9_keep 97 = .ok (.goto 10, 3) := by decide +kernel
theorem dX9_keep_100 : decode cX9_keep 100 = .ok (.aload_n 0, 1) := by decide +kernel
theorem dX9_keep_101 : decode cX9_keep 101 = .ok (.getfield 48, 3) := by decide +kernel
theorem dX9_keep_104 : decode cX9_keep 104 = .ok (.iload_n 1, 1) := by decide +kernel
theorem dX9_keep_105 : decode cX9_keep 105 = .ok (.iconst 1, 1) := by decide +kernel
theorem dX9_keep_106 : decode cX9_keep 106 = .ok (.bastore, 1) := by decide +kernel
theorem dX9_keep_107 : decode cX9_keep 107 = .ok (.iconst 1, 1) := by decide +kernel
theorem dX9_keep_108 : decode cX9_keep 108 = .ok (.ireturn, 1) := by decide +kernel
theorem dX9_count_0 : decode cX9_count 0 = .ok (.aload_n 0, 1) := by decide +kernel
theorem dX9_count_1 : decode cX9_count 1 = .ok (.iconst 0, 1) := by decide +kernel
theorem dX9_count_2 : decode cX9_count 2 = .ok (.putfield 82, 3) := by decide +kernel
theorem dX9_count_5 : decode cX9_count 5 = .ok (.iconst 0, 1) := by decide +kernel
theorem dX9_count_6 : decode cX9_count 6 = .ok (.istore_n 2, 1) := by decide +kernel
theorem dX9_count_7 : decode cX9_count 7 = .ok (.iload_n 1, 1) := by decide +kernel
theorem dX9_count_8 : decode cX9_count 8 = .ok (.tableswitch 208 0 10 #[60, 67, 74, 82, 90, 98, 106, 111, 116, 129, 168], 60) := by decide +kernel
theorem dX9_count_68 : decode cX9_count 68 = .ok (.aload_n 0, 1) := by decide +kernel
theorem dX9_count_69 : decode cX9_count 69 = .ok (.getfield 13, 3) := by decide +kernel
theorem dX9_count_72 : decode cX9_count 72 = .ok (.iconst 0, 1) := by decide +kernel
theorem dX9_count_73 : decode cX9_count 73 = .ok (.iaload, 1) := by decide +kernel
theorem dX9_count_74 : decode cX9_count 74 = .ok (.ireturn, 1) := by decide +kernel
theorem dX9_count_75 : decode cX9_count 75 = .ok (.aload_n 0, 1) := by decide +kernel
theorem dX9_count_76 : decode cX9_count 76 = .ok (.getfield 17, 3) := by decide +kernel
theorem dX9_count_79 : decode cX9_count 79 = .ok (.iconst 0, 1) := by decide +kernel
theorem dX9_count_80 : decode cX9_count 80 = .ok (.iaload, 1) := by decide +kernel
theorem dX9_count_81 : decode cX9_count 81 = .ok (.ireturn, 1) := by decide +kernel
theorem dX9_count_82 : decode cX9_count 82 = .ok (.aload_n 0, 1) := by decide +kernel
theorem dX9_count_83 : decode cX9_count 83 = .ok (.getfield 39, 3) := by decide +kernel
theorem dX9_count_86 : decode cX9_count 86 = .ok (.bipush 40, 2) := by decide +kernel
theorem dX9_count_88 : decode cX9_count 88 = .ok (.iaload, 1) := by decide +kernel
theorem dX9_count_89 : decode cX9_count 89 = .ok (.ireturn, 1) := by decide +kernel
theorem dX9_count_90 : decode cX9_count 90 = .ok (.aload_n 0, 1) := by decide +kernel
theorem dX9_count_91 : decode cX9_count 91 = .ok (.getfield 39, 3) := by decide +kernel
theorem dX9_count_94 : decode cX9_count 94 = .ok (.bipush 41, 2) := by decide +kernel
theorem dX9_count_96 : decode cX9_count 96 = .ok (.iaload, 1) := by decide +kernel
theorem dX9_count_97 : decode cX9_count 97 = .ok (.ireturn, 1) := by decide +kernel
theorem dX9_count_98 : decode cX9_count 98 = .ok (.aload_n 0, 1) := by decide +kernel
theorem dX9_count_99 : decode cX9_count 99 = .ok (.getfield 39, 3) := by decide +kernel
theorem dX9_count_102 : decode cX9_count 102 = .ok (.bipush 99, 2) := by decide +kernel
theorem dX9_count_104 : decode cX9_count 104 = .ok (.iaload, 1) := by decide +kernel
theorem dX9_count_105 : decode cX9_count 105 = .ok (.ireturn, 1) := by decide +kernel
theorem dX9_count_106 : decode cX9_count 106 = .ok (.aload_n 0, 1) := by decide +kernel
theorem dX9_count_107 : decode cX9_count 107 = .ok (.getfield 39, 3) := by decide +kernel
theorem dX9_count_110 : decode cX9_count 110 = .ok (.bipush 98, 2) := by decide +kernel
theorem dX9_count_112 : decode cX9_count 112 = .ok (.iaload, 1) := by decide +kernel
theorem dX9_count_113 : decode cX9_count 113 = .ok (.ireturn, 1) := by decide +kernel
theorem dX9_count_114 : decode cX9_count 114 = .ok (.aload_n 0, 1) := by decide +kernel
theorem dX9_count_115 : decode cX9_count 115 = .ok (.getfield 215, 3) := by decide +kernel
theorem dX9_count_118 : decode cX9_count 118 = .ok (.ireturn, 1) := by decide +kernel
theorem dX9_count_119 : decode cX9_count 119 = .ok (.aload_n 0, 1) := by decide +kernel
theorem dX9_count_120 : decode cX9_count 120 = .ok (.getfield 86, 3) := by decide +kernel
theorem dX9_count_123 : decode cX9_count 123 = .ok (.ireturn, 1) := by decide +kernel
theorem dX9_count_124 : decode cX9_count 124 = .ok (.aload_n 0, 1) := by decide +kernel
theorem dX9_count_125 : decode cX9_count 125 = .ok (.invokevirtual 316, 3) := by decide +kernel
theorem dX9_count_128 : decode cX9_count 128 = .ok (.ifCond .eq 7, 3) := by decide +kernel
theorem dX9_count_131 : decode cX9_count 131 = .ok (.iconst 1, 1) := by decide +kernel
theorem dX9_count_132 : decode cX9_count 132 = .ok (.goto 4, 3) := by decide +kernel
theorem dX9_count_135 : decode cX9_count 135 = .ok (.iconst 0, 1) := by decide +kernel
theorem dX9_count_136 : decode cX9_count 136 = .ok (.ireturn, 1) := by decide +kernel
theorem dX9_count_137 : decode cX9_count 137 = .ok (.iconst 0, 1) := by decide +kernel
theorem dX9_count_138 : decode cX9_count 138 = .ok (.istore_n 3, 1) := by decide +kernel
theorem dX9_count_139 : decode cX9_count 139 = .ok (.iload_n 3, 1) := by decide +kernel
theorem dX9_count_140 : decode cX9_count 140 = .ok (.aload_n 0, 1) := by decide +kernel
theorem dX9_count_141 : decode cX9_count 141 = .ok (.invokevirtual 218, 3) := by decide +kernel
theorem dX9_count_144 : decode cX9_count 144 = .ok (.if_icmp .ge 30, 3) := by decide +kernel
theorem dX9_count_147 : decode cX9_count 147 = .ok (.iload_n 2, 1) := by decide +kernel
theorem dX9_count_148 : decode cX9_count 148 = .ok (.aload_n 0, 1) := by decide +kernel
theorem dX9_count_149 : decode cX9_count 149 = .ok (.getfield 39, 3) := by decide +kernel
theorem dX9_count_152 : decode cX9_count 152 = .ok (.bipush 74, 2) := by decide +kernel
theorem dX9_count_154 : decode cX9_count 154 = .ok (.iload_n 3, 1) := by decide +kernel
theorem dX9_count_155 : decode cX9_count 155 = .ok (.iadd, 1) := by decide +kernel
theorem dX9_count_156 : decode cX9_count 156 = .ok (.iaload, 1) := by decide +kernel
theorem dX9_count_157 : decode cX9_count 157 = .ok (.iconst 2, 1) := by decide +kernel
theorem dX9_count_158 : decode cX9_count 158 = .ok (.if_icmp .ne 7, 3) := by decide +kernel
theorem dX9_count_161 : decode cX9_count 161 = .ok (.iconst 1, 1) := by decide +kernel
theorem dX9_count_162 : decode cX9_count 162 = .ok (.goto 4, 3) := by decide +kernel
theorem dX9_count_165 : decode cX9_count 165 = .ok (.iconst 0, 1) := by decide +kernel
theorem dX9_count_166 : decode cX9_count 166 = .ok (.iadd, 1) := by decide +kernel
theorem dX9_count_167 : decode cX9_count 167 = .ok (.istore_n 2, 1) := by decide +kernel
theorem dX9_count_168 : decode cX9_count 168 = .ok (.iinc 3 1, 3) := by decide +kernel
theorem dX9_count_171 : decode cX9_count 171 = .ok (.goto (-32), 3) := by decide +kernel
theorem dX9_count_174 : decode cX9_count 174 = .ok (.iload_n 2, 1) := by decide +kernel
theorem dX9_count_175 : decode cX9_count 175 = .ok (.ireturn, 1) := by decide +kernel
theorem dX9_count_176 : decode cX9_count 176 = .ok (.iconst 0, 1) := by decide +kernel
theorem dX9_count_177 : decode cX9_count 177 = .ok (.istore_n 3, 1) := by decide +kernel
theorem dX9_count_178 : decode cX9_count 178 = .ok (.iload_n 3, 1) := by decide +kernel
theorem dX9_count_179 : decode cX9_count 179 = .ok (.aload_n 0, 1) := by decide +kernel
theorem dX9_count_180 : decode cX9_count 180 = .ok (.getfield 17, 3) := by decide +kernel
theorem dX9_count_183 : decode cX9_count 183 = .ok (.iconst 0, 1) := by decide +kernel
theorem dX9_count_184 : decode cX9_count 184 = .ok (.iaload, 1) := by decide +kernel
theorem dX9_count_185 : decode cX9_count 185 = .ok (.if_icmp .ge 29, 3) := by decide +kernel
theorem dX9_count_188 : decode cX9_count 188 = .ok (.iload_n 2, 1) := by decide +kernel
theorem dX9_count_189 : decode cX9_count 189 = .ok (.aload_n 0, 1) := by decide +kernel
theorem dX9_count_190 : decode cX9_count 190 = .ok (.getfield 39, 3) := by decide +kernel
theorem dX9_count_193 : decode cX9_count 193 = .ok (.bipush 74, 2) := by decide +kernel
theorem dX9_count_195 : decode cX9_count 195 = .ok (.iload_n 3, 1) := by decide +kernel
theorem dX9_count_196 : decode cX9_count 196 = .ok (.iadd, 1) := by decide +kernel
theorem dX9_count_197 : decode cX9_count 197 = .ok (.iaload, 1) := by decide +kernel
theorem dX9_count_198 : decode cX9_count 198 = .ok (.ifCond .ne 7, 3) := by decide +kernel
theorem dX9_count_201 : decode cX9_count 201 = .ok (.iconst 1, 1) := by decide +kernel
theorem dX9_count_202 : decode cX9_count 202 = .ok (.goto 4, 3) := by decide +kernel
theorem dX9_count_205 : decode cX9_count 205 = .ok (.iconst 0, 1) := by decide +kernel
theorem dX9_count_206 : decode cX9_count 206 = .ok (.iadd, 1) := by decide +kernel
theorem dX9_count_207 : decode cX9_count 207 = .ok (.istore_n 2, 1) := by decide +kernel
theorem dX9_count_208 : decode cX9_count 208 = .ok (.iinc 3 1, 3) := by decide +kernel
theorem dX9_count_211 : decode cX9_count 211 = .ok (.goto (-33), 3) := by decide +kernel
theorem dX9_count_214 : decode cX9_count 214 = .ok (.iload_n 2, 1) := by decide +kernel
theorem dX9_count_215 : decode cX9_count 215 = .ok (.ireturn, 1) := by decide +kernel
theorem dX9_count_216 : decode cX9_count 216 = .ok (.iconst (-1), 1) := by decide +kernel
theorem dX9_count_217 : decode cX9_count 217 = .ok (.ireturn, 1) := by decide +kernel
theorem dJ9_floorMod_7cf53_0 : decode cJ9_floorMod_7cf53 0 = .ok (.iload_n 0, 1) := by decide +kernel
theorem dJ9_floorMod_7cf53_1 : decode cJ9_floorMod_7cf53 1 = .ok (.iload_n 1, 1) := by decide +kernel
theorem dJ9_floorMod_7cf53_2 : decode cJ9_floorMod_7cf53 2 = .ok (.irem, 1) := by decide +kernel
theorem dJ9_floorMod_7cf53_3 : decode cJ9_floorMod_7cf53 3 = .ok (.istore_n 2, 1) := by decide +kernel
theorem dJ9_floorMod_7cf53_4 : decode cJ9_floorMod_7cf53 4 = .ok (.iload_n 0, 1) := by decide +kernel
theorem dJ9_floorMod_7cf53_5 : decode cJ9_floorMod_7cf53 5 = .ok (.iload_n 1, 1) := by decide +kernel
theorem dJ9_floorMod_7cf53_6 : decode cJ9_floorMod_7cf53 6 = .ok (.ixor, 1) := by decide +kernel
theorem dJ9_floorMod_7cf53_7 : decode cJ9_floorMod_7cf53 7 = .ok (.ifCond .ge 11, 3) := by decide +kernel
theorem dJ9_floorMod_7cf53_10 : decode cJ9_floorMod_7cf53 10 = .ok (.iload_n 2, 1) := by decide +kernel
theorem dJ9_floorMod_7cf53_11 : decode cJ9_floorMod_7cf53 11 = .ok (.ifCond .eq 7, 3) := by decide +kernel
theorem dJ9_floorMod_7cf53_14 : decode cJ9_floorMod_7cf53 14 = .ok (.iload_n 2, 1) := by decide +kernel
theorem dJ9_floorMod_7cf53_15 : decode cJ9_floorMod_7cf53 15 = .ok (.iload_n 1, 1) := by decide +kernel
theorem dJ9_floorMod_7cf53_16 : decode cJ9_floorMod_7cf53 16 = .ok (.iadd, 1) := by decide +kernel
theorem dJ9_floorMod_7cf53_17 : decode cJ9_floorMod_7cf53 17 = .ok (.ireturn, 1) := by decide +kernel
theorem dJ9_floorMod_7cf53_18 : decode cJ9_floorMod_7cf53 18 = .ok (.iload_n 2, 1) := by decide +kernel
theorem dJ9_floorMod_7cf53_19 : decode cJ9_floorMod_7cf53 19 = .ok (.ireturn, 1) := by decide +kernel
theorem dJ9_abs_0f7a4_0 : decode cJ9_abs_0f7a4 0 = .ok (.iload_n 0, 1) := by decide +kernel
theorem dJ9_abs_0f7a4_1 : decode cJ9_abs_0f7a4 1 = .ok (.ifCond .ge 8, 3) := by decide +kernel
theorem dJ9_abs_0f7a4_4 : decode cJ9_abs_0f7a4 4 = .ok (.iload_n 0, 1) := by decide +kernel
theorem dJ9_abs_0f7a4_5 : decode cJ9_abs_0f7a4 5 = .ok (.ineg, 1) := by decide +kernel
theorem dJ9_abs_0f7a4_6 : decode cJ9_abs_0f7a4 6 = .ok (.goto 4, 3) := by decide +kernel
theorem dJ9_abs_0f7a4_9 : decode cJ9_abs_0f7a4 9 = .ok (.iload_n 0, 1) := by decide +kernel
theorem dJ9_abs_0f7a4_10 : decode cJ9_abs_0f7a4 10 = .ok (.ireturn, 1) := by decide +kernel
theorem dJ9_max_7cf53_0 : decode cJ9_max_7cf53 0 = .ok (.iload_n 0, 1) := by decide +kernel
theorem dJ9_max_7cf53_1 : decode cJ9_max_7cf53 1 = .ok (.iload_n 1, 1) := by decide +kernel
theorem dJ9_max_7cf53_2 : decode cJ9_max_7cf53 2 = .ok (.if_icmp .lt 7, 3) := by decide +kernel
theorem dJ9_max_7cf53_5 : decode cJ9_max_7cf53 5 = .ok (.iload_n 0, 1) := by decide +kernel
theorem dJ9_max_7cf53_6 : decode cJ9_max_7cf53 6 = .ok (.goto 4, 3) := by decide +kernel
theorem dJ9_max_7cf53_9 : decode cJ9_max_7cf53 9 = .ok (.iload_n 1, 1) := by decide +kernel
theorem dJ9_max_7cf53_10 : decode cJ9_max_7cf53 10 = .ok (.ireturn, 1) := by decide +kernel
theorem dJ9_min_7cf53_0 : decode cJ9_min_7cf53 0 = .ok (.iload_n 0, 1) := by decide +kernel
theorem dJ9_min_7cf53_1 : decode cJ9_min_7cf53 1 = .ok (.iload_n 1, 1) := by decide +kernel
theorem dJ9_min_7cf53_2 : decode cJ9_min_7cf53 2 = .ok (.if_icmp .gt 7, 3) := by decide +kernel
theorem dJ9_min_7cf53_5 : decode cJ9_min_7cf53 5 = .ok (.iload_n 0, 1) := by decide +kernel
theorem dJ9_min_7cf53_6 : decode cJ9_min_7cf53 6 = .ok (.goto 4, 3) := by decide +kernel
theorem dJ9_min_7cf53_9 : decode cJ9_min_7cf53 9 = .ok (.iload_n 1, 1) := by decide +kernel
theorem dJ9_min_7cf53_10 : decode cJ9_min_7cf53 10 = .ok (.ireturn, 1) := by decide +kernel
theorem dJ0_length_8abf5_0 : decode cJ0_length_8abf5 0 = .ok (.aload_n 0, 1) := by decide +kernel
theorem dJ0_length_8abf5_1 : decode cJ0_length_8abf5 1 = .ok (.getfield 9, 3) := by decide +kernel
theorem dJ0_length_8abf5_4 : decode cJ0_length_8abf5 4 = .ok (.arraylength, 1) := by decide +kernel
theorem dJ0_length_8abf5_5 : decode cJ0_length_8abf5 5 = .ok (.aload_n 0, 1) := by decide +kernel
theorem dJ0_length_8abf5_6 : decode cJ0_length_8abf5 6 = .ok (.invokevirtual 335, 3) := by decide +kernel
theorem dJ0_length_8abf5_9 : decode cJ0_length_8abf5 9 = .ok (.ishr, 1) := by decide +kernel
theorem dJ0_length_8abf5_10 : decode cJ0_length_8abf5 10 = .ok (.ireturn, 1) := by decide +kernel
theorem dJ0_charAt_5068e_0 : decode cJ0_charAt_5068e 0 = .ok (.aload_n 0, 1) := by decide +kernel
theorem dJ0_charAt_5068e_1 : decode cJ0_charAt_5068e 1 = .ok (.invokevirtual 492, 3) := by decide +kernel
theorem dJ0_charAt_5068e_4 : decode cJ0_charAt_5068e 4 = .ok (.ifCond .eq 12, 3) := by decide +kernel
theorem dJ0_charAt_5068e_7 : decode cJ0_charAt_5068e 7 = .ok (.aload_n 0, 1) := by decide +kernel
theorem dJ0_charAt_5068e_8 : decode cJ0_charAt_5068e 8 = .ok (.getfield 9, 3) := by decide +kernel
theorem dJ0_charAt_5068e_11 : decode cJ0_charAt_5068e 11 = .ok (.iload_n 1, 1) := by decide +kernel
theorem dJ0_charAt_5068e_12 : decode cJ0_charAt_5068e 12 = .ok (.invokestatic 495, 3) := by decide +kernel
theorem dJ0_charAt_5068e_15 : decode cJ0_charAt_5068e 15 = .ok (.ireturn, 1) := by decide +kernel
theorem dJ0_charAt_5068e_16 : decode cJ0_charAt_5068e 16 = .ok (.aload_n 0, 1) := by decide +kernel
theorem dJ0_charAt_5068e_17 : decode cJ0_charAt_5068e 17 = .ok (.getfield 9, 3) := by decide +kernel
theorem dJ0_charAt_5068e_20 : decode cJ0_charAt_5068e 20 = .ok (.iload_n 1, 1) := by decide +kernel
theorem dJ0_charAt_5068e_21 : decode cJ0_charAt_5068e 21 = .ok (.invokestatic 498, 3) := by decide +kernel
theorem dJ0_charAt_5068e_24 : decode cJ0_charAt_5068e 24 = .ok (.ireturn, 1) := by decide +kernel
theorem dJ0_coder_7d493_0 : decode cJ0_coder_7d493 0 = .ok (.getstatic 38, 3) := by decide +kernel
theorem dJ0_coder_7d493_3 : decode cJ0_coder_7d493 3 = .ok (.ifCond .eq 10, 3) := by decide +kernel
theorem dJ0_coder_7d493_6 : decode cJ0_coder_7d493 6 = .ok (.aload_n 0, 1) := by decide +kernel
theorem dJ0_coder_7d493_7 : decode cJ0_coder_7d493 7 = .ok (.getfield 15, 3) := by decide +kernel
theorem dJ0_coder_7d493_10 : decode cJ0_coder_7d493 10 = .ok (.goto 4, 3) := by decide +kernel
theorem dJ0_coder_7d493_13 : decode cJ0_coder_7d493 13 = .ok (.iconst 1, 1) := by decide +kernel
theorem dJ0_coder_7d493_14 : decode cJ0_coder_7d493 14 = .ok (.ireturn, 1) := by decide +kernel
theorem dJ0_isLatin1_aae02_0 : decode cJ0_isLatin1_aae02 0 = .ok (.getstatic 38, 3) := by decide +kernel
theorem dJ0_isLatin1_aae02_3 : decode cJ0_isLatin1_aae02 3 = .ok (.ifCond .eq 14, 3) := by decide +kernel
theorem dJ0_isLatin1_aae02_6 : decode cJ0_isLatin1_aae02 6 = .ok (.aload_n 0, 1) := by decide +kernel
theorem dJ0_isLatin1_aae02_7 : decode cJ0_isLatin1_aae02 7 = .ok (.getfield 15, 3) := by decide +kernel
theorem dJ0_isLatin1_aae02_10 : decode cJ0_isLatin1_aae02 10 = .ok (.ifCond .ne 7, 3) := by decide +kernel
theorem dJ0_isLatin1_aae02_13 : decode cJ0_isLatin1_aae02 13 = .ok (.iconst 1, 1) := by decide +kernel
theorem dJ0_isLatin1_aae02_14 : decode cJ0_isLatin1_aae02 14 = .ok (.goto 4, 3) := by decide +kernel
theorem dJ0_isLatin1_aae02_17 : decode cJ0_isLatin1_aae02 17 = .ok (.iconst 0, 1) := by decide +kernel
theorem dJ0_isLatin1_aae02_18 : decode cJ0_isLatin1_aae02 18 = .ok (.ireturn, 1) := by decide +kernel
theorem dJ0_checkIndex_df160_0 : decode cJ0_checkIndex_df160 0 = .ok (.iload_n 0, 1) := by decide +kernel
theorem dJ0_checkIndex_df160_1 : decode cJ0_checkIndex_df160 1 = .ok (.iload_n 1, 1) := by decide +kernel
theorem dJ0_checkIndex_df160_2 : decode cJ0_checkIndex_df160 2 = .ok (.getstatic 1053, 3) := by decide +kernel
theorem dJ0_checkIndex_df160_5 : decode cJ0_checkIndex_df160 5 = .ok (.invokestatic 1059, 3) := by decide +kernel
theorem dJ0_checkIndex_df160_8 : decode cJ0_checkIndex_df160 8 = .ok (.pop, 1) := by decide +kernel
theorem dJ0_checkIndex_df160_9 : decode cJ0_checkIndex_df160 9 = .ok (.return_, 1) := by decide +kernel
theorem dJ1_charAt_3b067_0 : decode cJ1_charAt_3b067 0 = .ok (.iload_n 1, 1) := by decide +kernel
theorem dJ1_charAt_3b067_1 : decode cJ1_charAt_3b067 1 = .ok (.aload_n 0, 1) := by decide +kernel
theorem dJ1_charAt_3b067_2 : decode cJ1_charAt_3b067 2 = .ok (.arraylength, 1) := by decide +kernel
theorem dJ1_charAt_3b067_3 : decode cJ1_charAt_3b067 3 = .ok (.invokestatic 9, 3) := by decide +kernel
theorem dJ1_charAt_3b067_6 : decode cJ1_charAt_3b067 6 = .ok (.aload_n 0, 1) := by decide +kernel
theorem dJ1_charAt_3b067_7 : decode cJ1_charAt_3b067 7 = .ok (.iload_n 1, 1) := by decide +kernel
theorem dJ1_charAt_3b067_8 : decode cJ1_charAt_3b067 8 = .ok (.baload, 1) := by decide +kernel
theorem dJ1_charAt_3b067_9 : decode cJ1_charAt_3b067 9 = .ok (.sipush 255, 3) := by decide +kernel
theorem dJ1_charAt_3b067_12 : decode cJ1_charAt_3b067 12 = .ok (.iand, 1) := by decide +kernel
theorem dJ1_charAt_3b067_13 : decode cJ1_charAt_3b067 13 = .ok (.i2c, 1) := by decide +kernel
theorem dJ1_charAt_3b067_14 : decode cJ1_charAt_3b067 14 = .ok (.ireturn, 1) := by decide +kernel
theorem dJ2_getChar_3b067_0 : decode cJ2_getChar_3b067 0 = .ok (.getstatic 44, 3) := by decide +kernel
theorem dJ2_getChar_3b067_3 : decode cJ2_getChar_3b067 3 = .ok (.ifCond .ne 25, 3) := by decide +kernel
theorem dJ2_getChar_3b067_6 : decode cJ2_getChar_3b067 6 = .ok (.iload_n 1, 1) := by decide +kernel
theorem dJ2_getChar_3b067_7 : decode cJ2_getChar_3b067 7 = .ok (.ifCond .lt 11, 3) := by decide +kernel
theorem dJ2_getChar_3b067_10 : decode cJ2_getChar_3b067 10 = .ok (.iload_n 1, 1) := by decide +kernel
theorem dJ2_getChar_3b067_11 : decode cJ2_getChar_3b067 11 = .ok (.aload_n 0, 1) := by decide +kernel
theorem dJ2_getChar_3b067_12 : decode cJ2_getChar_3b067 12 = .ok (.invokestatic 48, 3) := by decide +kernel
theorem dJ2_getChar_3b067_15 : decode cJ2_getChar_3b067 15 = .ok (.if_icmp .lt 13, 3) := by decide +kernel
theorem dJ2_getChar_3b067_18 : decode cJ2_getChar_3b067 18 = .ok (.new 52, 3) := by decide +kernel
theorem dJ2_getChar_3b067_21 : decode cJ2_getChar_3b067 21 = .ok (.dup, 1) := by decide +kernel
theorem dJ2_getChar_3b067_22 : decode cJ2_getChar_3b067 22 = .ok (.ldc 54, 2) := by decide +kernel
theorem dJ2_getChar_3b067_24 : decode cJ2_getChar_3b067 24 = .ok (.invokespecial 56, 3) := by decide +kernel
theorem dJ2_getChar_3b067_27 : decode cJ2_getChar_3b067 27 = .ok (.athrow, 1) := by decide +kernel
theorem dJ2_getChar_3b067_28 : decode cJ2_getChar_3b067 28 = .ok (.iload_n 1, 1) := by decide +kernel
theorem dJ2_getChar_3b067_29 : decode cJ2_getChar_3b067 29 = .ok (.iconst 1, 1) := by decide +kernel
theorem dJ2_getChar_3b067_30 : decode cJ2_getChar_3b067 30 = .ok (.ishl, 1) := by decide +kernel
theorem dJ2_getChar_3b067_31 : decode cJ2_getChar_3b067 31 = .ok (.istore_n 1, 1) := by decide +kernel
theorem dJ2_getChar_3b067_32 : decode cJ2_getChar_3b067 32 = .ok (.aload_n 0, 1) := by decide +kernel
theorem dJ2_getChar_3b067_33 : decode cJ2_getChar_3b067 33 = .ok (.iload_n 1, 1) := by decide +kernel
theorem dJ2_getChar_3b067_34 : decode cJ2_getChar_3b067 34 = .ok (.iinc 1 1, 3) := by decide +kernel
theorem dJ2_getChar_3b067_37 : decode cJ2_getChar_3b067 37 = .ok (.baload, 1) := by decide +kernel
theorem dJ2_getChar_3b067_38 : decode cJ2_getChar_3b067 38 = .ok (.sipush 255, 3) := by decide +kernel
theorem dJ2_getChar_3b067_41 : decode cJ2_getChar_3b067 41 = .ok (.iand, 1) := by decide +kernel
theorem dJ2_getChar_3b067_42 : decode cJ2_getChar_3b067 42 = .ok (.getstatic 59, 3) := by decide +kernel
theorem dJ2_getChar_3b067_45 : decode cJ2_getChar_3b067 45 = .ok (.ishl, 1) := by decide +kernel
theorem dJ2_getChar_3b067_46 : decode cJ2_getChar_3b067 46 = .ok (.aload_n 0, 1) := by decide +kernel
theorem dJ2_getChar_3b067_47 : decode cJ2_getChar_3b067 47 = .ok (.iload_n 1, 1) := by decide +kernel
theorem dJ2_getChar_3b067_48 : decode cJ2_getChar_3b067 48 = .ok (.baload, 1) := by decide +kernel
theorem dJ2_getChar_3b067_49 : decode cJ2_getChar_3b067 49 = .ok (.sipush 255, 3) := by decide +kernel
theorem dJ2_getChar_3b067_52 : decode cJ2_getChar_3b067 52 = .ok (.iand, 1) := by decide +kernel
theorem dJ2_getChar_3b067_53 : decode cJ2_getChar_3b067 53 = .ok (.getstatic 63, 3) := by decide +kernel
theorem dJ2_getChar_3b067_56 : decode cJ2_getChar_3b067 56 = .ok (.ishl, 1) := by decide +kernel
theorem dJ2_getChar_3b067_57 : decode cJ2_getChar_3b067 57 = .ok (.ior, 1) := by decide +kernel
theorem dJ2_getChar_3b067_58 : decode cJ2_getChar_3b067 58 = .ok (.i2c, 1) := by decide +kernel
theorem dJ2_getChar_3b067_59 : decode cJ2_getChar_3b067 59 = .ok (.ireturn, 1) := by decide +kernel
theorem dJ2_length_9d52b_0 : decode cJ2_length_9d52b 0 = .ok (.aload_n 0, 1) := by decide +kernel
theorem dJ2_length_9d52b_1 : decode cJ2_length_9d52b 1 = .ok (.arraylength, 1) := by decide +kernel
theorem dJ2_length_9d52b_2 : decode cJ2_length_9d52b 2 = .ok (.iconst 1, 1) := by decide +kernel
theorem dJ2_length_9d52b_3 : decode cJ2_length_9d52b 3 = .ok (.ishr, 1) := by decide +kernel
theorem dJ2_length_9d52b_4 : decode cJ2_length_9d52b 4 = .ok (.ireturn, 1) := by decide +kernel
theorem dJ2_charAt_3b067_0 : decode cJ2_charAt_3b067 0 = .ok (.iload_n 1, 1) := by decide +kernel
theorem dJ2_charAt_3b067_1 : decode cJ2_charAt_3b067 1 = .ok (.aload_n 0, 1) := by decide +kernel
theorem dJ2_charAt_3b067_2 : decode cJ2_charAt_3b067 2 = .ok (.invokestatic 67, 3) := by decide +kernel
theorem dJ2_charAt_3b067_5 : decode cJ2_charAt_3b067 5 = .ok (.aload_n 0, 1) := by decide +kernel
theorem dJ2_charAt_3b067_6 : decode cJ2_charAt_3b067 6 = .ok (.iload_n 1, 1) := by decide +kernel
theorem dJ2_charAt_3b067_7 : decode cJ2_charAt_3b067 7 = .ok (.invokestatic 71, 3) := by decide +kernel
theorem dJ2_charAt_3b067_10 : decode cJ2_charAt_3b067 10 = .ok (.ireturn, 1) := by decide +kernel
theorem dJ2_checkIndex_2214a_0 : decode cJ2_checkIndex_2214a 0 = .ok (.iload_n 0, 1) := by decide +kernel
theorem dJ2_checkIndex_2214a_1 : decode cJ2_checkIndex_2214a 1 = .ok (.aload_n 1, 1) := by decide +kernel
theorem dJ2_checkIndex_2214a_2 : decode cJ2_checkIndex_2214a 2 = .ok (.invokestatic 48, 3) := by decide +kernel
theorem dJ2_checkIndex_2214a_5 : decode cJ2_checkIndex_2214a 5 = .ok (.invokestatic 414, 3) := by decide +kernel
theorem dJ2_checkIndex_2214a_8 : decode cJ2_checkIndex_2214a 8 = .ok (.return_, 1) := by decide +kernel
theorem dJ3_checkIndex_8e157_0 : decode cJ3_checkIndex_8e157 0 = .ok (.iload_n 0, 1) := by decide +kernel
theorem dJ3_checkIndex_8e157_1 : decode cJ3_checkIndex_8e157 1 = .ok (.ifCond .lt 8, 3) := by decide +kernel
theorem dJ3_checkIndex_8e157_4 : decode cJ3_checkIndex_8e157 4 = .ok (.iload_n 0, 1) := by decide +kernel
theorem dJ3_checkIndex_8e157_5 : decode cJ3_checkIndex_8e157 5 = .ok (.iload_n 1, 1) := by decide +kernel
theorem dJ3_checkIndex_8e157_6 : decode cJ3_checkIndex_8e157 6 = .ok (.if_icmp .lt 10, 3) := by decide +kernel
theorem dJ3_checkIndex_8e157_9 : decode cJ3_checkIndex_8e157 9 = .ok (.aload_n 2, 1) := by decide +kernel
theorem dJ3_checkIndex_8e157_10 : decode cJ3_checkIndex_8e157 10 = .ok (.iload_n 0, 1) := by decide +kernel
theorem dJ3_checkIndex_8e157_11 : decode cJ3_checkIndex_8e157 11 = .ok (.iload_n 1, 1) := by decide +kernel
theorem dJ3_checkIndex_8e157_12 : decode cJ3_checkIndex_8e157 12 = .ok (.invokestatic 95, 3) := by decide +kernel
theorem dJ3_checkIndex_8e157_15 : decode cJ3_checkIndex_8e157 15 = .ok (.athrow, 1) := by decide +kernel
theorem dJ3_checkIndex_8e157_16 : decode cJ3_checkIndex_8e157 16 = .ok (.iload_n 0, 1) := by decide +kernel
theorem dJ3_checkIndex_8e157_17 : decode cJ3_checkIndex_8e157 17 = .ok (.ireturn, 1) := by decide +kernel
theorem dL_dock_0 : decode cL_dock 0 = .ok (.aload_n 3, 1) := by decide +kernel
theorem dL_dock_1 : decode cL_dock 1 = .ok (.iconst 0, 1) := by decide +kernel
theorem dL_dock_2 : decode cL_dock 2 = .ok (.aload_n 0, 1) := by decide +kernel
theorem dL_dock_3 : decode cL_dock 3 = .ok (.iload_n 1, 1) := by decide +kernel
theorem dL_dock_4 : decode cL_dock 4 = .ok (.iload_n 2, 1) := by decide +kernel
theorem dL_dock_5 : decode cL_dock 5 = .ok (.invokevirtual 7, 3) := by decide +kernel
theorem dL_dock_8 : decode cL_dock 8 = .ok (.i2l, 1) := by decide +kernel
theorem dL_dock_9 : decode cL_dock 9 = .ok (.lastore, 1) := by decide +kernel
theorem dL_dock_10 : decode cL_dock 10 = .ok (.goto 7, 3) := by decide +kernel
theorem dL_dock_13 : decode cL_dock 13 = .ok (.astore 4, 2) := by decide +kernel
theorem dL_dock_15 : decode cL_dock 15 = .ok (.iconst 1, 1) := by decide +kernel
theorem dL_dock_16 : decode cL_dock 16 = .ok (.ireturn, 1) := by decide +kernel
theorem dL_dock_17 : decode cL_dock 17 = .ok (.iconst 0, 1) := by decide +kernel
theorem dL_dock_18 : decode cL_dock 18 = .ok (.ireturn, 1) := by decide +kernel
theorem dL_way_0 : decode cL_way 0 = .ok (.aload_n 3, 1) := by decide +kernel
theorem dL_way_1 : decode cL_way 1 = .ok (.iconst 0, 1) := by decide +kernel
theorem dL_way_2 : decode cL_way 2 = .ok (.aload_n 0, 1) := by decide +kernel
theorem dL_way_3 : decode cL_way 3 = .ok (.iload_n 1, 1) := by decide +kernel
theorem dL_way_4 : decode cL_way 4 = .ok (.iload_n 2, 1) := by decide +kernel
theorem dL_way_5 : decode cL_way 5 = .ok (.invokevirtual 15, 3) := by decide +kernel
theorem dL_way_8 : decode cL_way 8 = .ok (.i2l, 1) := by decide +kernel
theorem dL_way_9 : decode cL_way 9 = .ok (.lastore, 1) := by decide +kernel
theorem dL_way_10 : decode cL_way 10 = .ok (.goto 7, 3) := by decide +kernel
theorem dL_way_13 : decode cL_way 13 = .ok (.astore 4, 2) := by decide +kernel
theorem dL_way_15 : decode cL_way 15 = .ok (.iconst 1, 1) := by decide +kernel
theorem dL_way_16 : decode cL_way 16 = .ok (.ireturn, 1) := by decide +kernel
theorem dL_way_17 : decode cL_way 17 = .ok (.iconst 0, 1) := by decide +kernel
theorem dL_way_18 : decode cL_way 18 = .ok (.ireturn, 1) := by decide +kernel
theorem dL_log_0 : decode cL_log 0 = .ok (.aload_n 3, 1) := by decide +kernel
theorem dL_log_1 : decode cL_log 1 = .ok (.iconst 0, 1) := by decide +kernel
theorem dL_log_2 : decode cL_log 2 = .ok (.aload_n 0, 1) := by decide +kernel
theorem dL_log_3 : decode cL_log 3 = .ok (.iload_n 1, 1) := by decide +kernel
theorem dL_log_4 : decode cL_log 4 = .ok (.iload_n 2, 1) := by decide +kernel
theorem dL_log_5 : decode cL_log 5 = .ok (.invokevirtual 18, 3) := by decide +kernel
theorem dL_log_8 : decode cL_log 8 = .ok (.i2l, 1) := by decide +kernel
theorem dL_log_9 : decode cL_log 9 = .ok (.lastore, 1) := by decide +kernel
theorem dL_log_10 : decode cL_log 10 = .ok (.goto 7, 3) := by decide +kernel
theorem dL_log_13 : decode cL_log 13 = .ok (.astore 4, 2) := by decide +kernel
theorem dL_log_15 : decode cL_log 15 = .ok (.iconst 1, 1) := by decide +kernel
theorem dL_log_16 : decode cL_log 16 = .ok (.ireturn, 1) := by decide +kernel
theorem dL_log_17 : decode cL_log 17 = .ok (.iconst 0, 1) := by decide +kernel
theorem dL_log_18 : decode cL_log 18 = .ok (.ireturn, 1) := by decide +kernel
theorem dL_law_0 : decode cL_law 0 = .ok (.new 8, 3) := by decide +kernel
theorem dL_law_3 : decode cL_law 3 = .ok (.dup, 1) := by decide +kernel
theorem dL_law_4 : decode cL_law 4 = .ok (.invokespecial 21, 3) := by decide +kernel
theorem dL_law_7 : decode cL_law 7 = .ok (.astore_n 1, 1) := by decide +kernel
theorem dL_law_8 : decode cL_law 8 = .ok (.new 22, 3) := by decide +kernel
theorem dL_law_11 : decode cL_law 11 = .ok (.dup, 1) := by decide +kernel
theorem dL_law_12 : decode cL_law 12 = .ok (.invokespecial 24, 3) := by decide +kernel
theorem dL_law_15 : decode cL_law 15 = .ok (.astore_n 2, 1) := by decide +kernel
theorem dL_law_16 : decode cL_law 16 = .ok (.iconst 1, 1) := by decide +kernel
theorem dL_law_17 : decode cL_law 17 = .ok (.newarray .long, 2) := by decide +kernel
theorem dL_law_19 : decode cL_law 19 = .ok (.astore_n 3, 1) := by decide +kernel
theorem dL_law_20 : decode cL_law 20 = .ok (.iconst 0, 1) := by decide +kernel
theorem dL_law_21 : decode cL_law 21 = .ok (.istore 4, 2) := by decide +kernel
theorem dL_law_23 : decode cL_law 23 = .ok (.iload 4, 2) := by decide +kernel
theorem dL_law_25 : decode cL_law 25 = .ok (.aload_n 0, 1) := by decide +kernel
theorem dL_law_26 : decode cL_law 26 = .ok (.arraylength, 1) := by decide +kernel
theorem dL_law_27 : decode cL_law 27 = .ok (.bipush 6, 2) := by decide +kernel
theorem dL_law_29 : decode cL_law 29 = .ok (.isub, 1) := by decide +kernel
theorem dL_law_30 : decode cL_law 30 = .ok (.if_icmp .gt 1136, 3) := by decide +kernel
theorem dL_law_33 : decode cL_law 33 = .ok (.aload_n 0, 1) := by decide +kernel
theorem dL_law_34 : decode cL_law 34 = .ok (.iload 4, 2) := by decide +kernel
theorem dL_law_36 : decode cL_law 36 = .ok (.iaload, 1) := by decide +kernel
theorem dL_law_37 : decode cL_law 37 = .ok (.bipush 31, 2) := by decide +kernel
theorem dL_law_39 : decode cL_law 39 = .ok (.iand, 1) := by decide +kernel
theorem dL_law_40 : decode cL_law 40 = .ok (.tableswitch 1120 0 30 #[140, 213, 238, 278, 318, 343, 356, 369, 406, 443, 456, 469, 494, 534, 547, 584, 597, 610, 635, 672, 725, 802, 839, 892, 929, 966, 991, 1004, 1029, 1042, 1095], 140) := by decide +kernel
theorem dL_law_180 : decode cL_law 180 = .ok (.aload_n 1, 1) := by decide +kernel
theorem dL_law_181 : decode cL_law 181 = .ok (.aload_n 0, 1) := by decide +kernel
theorem dL_law_182 : decode cL_law 182 = .ok (.iload 4, 2) := by decide +kernel
theorem dL_law_184 : decode cL_law 184 = .ok (.iconst 1, 1) := by decide +kernel
theorem dL_law_185 : decode cL_law 185 = .ok (.iadd, 1) := by decide +kernel
theorem dL_law_186 : decode cL_law 186 = .ok (.iaload, 1) := by decide +kernel
theorem dL_law_187 : decode cL_law 187 = .ok (.aload_n 0, 1) := by decide +kernel
theorem dL_law_188 : decode cL_law 188 = .ok (.iload 4, 2) := by decide +kernel
theorem dL_law_190 : decode cL_law 190 = .ok (.iconst 2, 1) := by decide +kernel
theorem dL_law_191 : decode cL_law 191 = .ok (.iadd, 1) := by decide +kernel
theorem dL_law_192 : decode cL_law 192 = .ok (.iaload, 1) := by decide +kernel
theorem dL_law_193 : decode cL_law 193 = .ok (.aload_n 0, 1) := by decide +kernel
theorem dL_law_194 : decode cL_law 194 = .ok (.iload 4, 2) := by decide +kernel
theorem dL_law_196 : decode cL_law 196 = .ok (.iconst 3, 1) := by decide +kernel
theorem dL_law_197 : decode cL_law 197 = .ok (.iadd, 1) := by decide +kernel
theorem dL_law_198 : decode cL_law 198 = .ok (.iaload, 1) := by decide +kernel
theorem dL_law_199 : decode cL_law 199 = .ok (.aload_n 0, 1) := by decide +kernel
theorem dL_law_200 : decode cL_law 200 = .ok (.iload 4, 2) := by decide +kernel
theorem dL_law_202 : decode cL_law 202 = .ok (.iconst 4, 1) := by decide +kernel
theorem dL_law_203 : decode cL_law 203 = .ok (.iadd, 1) := by decide +kernel
theorem dL_law_204 : decode cL_law 204 = .ok (.iaload, 1) := by decide +kernel
theorem dL_law_205 : decode cL_law 205 = .ok (.aload_n 0, 1) := by decide +kernel
theorem dL_law_206 : decode cL_law 206 = .ok (.iload 4, 2) := by decide +kernel
theorem dL_law_208 : decode cL_law 208 = .ok (.iconst 5, 1) := by decide +kernel
theorem dL_law_209 : decode cL_law 209 = .ok (.iadd, 1) := by decide +kernel
theorem dL_law_210 : decode cL_law 210 = .ok (.iaload, 1) := by decide +kernel
theorem dL_law_211 : decode cL_law 211 = .ok (.invokevirtual 25, 3) := by decide +kernel
theorem dL_law_214 : decode cL_law 214 = .ok (.pop, 1) := by decide +kernel
theorem dL_law_215 : decode cL_law 215 = .ok (.aload_n 2, 1) := by decide +kernel
theorem dL_law_216 : decode cL_law 216 = .ok (.aload_n 0, 1) := by decide +kernel
theorem dL_law_217 : decode cL_law 217 = .ok (.iload 4, 2) := by decide +kernel
theorem dL_law_219 : decode cL_law 219 = .ok (.iconst 1, 1) := by decide +kernel
theorem dL_law_220 : decode cL_law 220 = .ok (.iadd, 1) := by decide +kernel
theorem dL_law_221 : decode cL_law 221 = .ok (.iaload, 1) := by decide +kernel
theorem dL_law_222 : decode cL_law 222 = .ok (.aload_n 0, 1) := by decide +kernel
theorem dL_law_223 : decode cL_law 223 = .ok (.iload 4, 2) := by decide +kernel
theorem dL_law_225 : decode cL_law 225 = .ok (.iconst 2, 1) := by decide +kernel
theorem dL_law_226 : decode cL_law 226 = .ok (.iadd, 1) := by decide +kernel
theorem dL_law_227 : decode cL_law 227 = .ok (.iaload, 1) := by decide +kernel
theorem dL_law_228 : decode cL_law 228 = .ok (.aload_n 0, 1) := by decide +kernel
theorem dL_law_229 : decode cL_law 229 = .ok (.iload 4, 2) := by decide +kernel
theorem dL_law_231 : decode cL_law 231 = .ok (.iconst 3, 1) := by decide +kernel
theorem dL_law_232 : decode cL_law 232 = .ok (.iadd, 1) := by decide +kernel
theorem dL_law_233 : decode cL_law 233 = .ok (.iaload, 1) := by decide +kernel
theorem dL_law_234 : decode cL_law 234 = .ok (.aload_n 0, 1) := by decide +kernel
theorem dL_law_235 : decode cL_law 235 = .ok (.iload 4, 2) := by decide +kernel
theorem dL_law_237 : decode cL_law 237 = .ok (.iconst 4, 1) := by decide +kernel
theorem dL_law_238 : decode cL_law 238 = .ok (.iadd, 1) := by decide +kernel
theorem dL_law_239 : decode cL_law 239 = .ok (.iaload, 1) := by decide +kernel
theorem dL_law_240 : decode cL_law 240 = .ok (.aload_n 0, 1) := by decide +kernel
theorem dL_law_241 : decode cL_law 241 = .ok (.iload 4, 2) := by decide +kernel
theorem dL_law_243 : decode cL_law 243 = .ok (.iconst 5, 1) := by decide +kernel
theorem dL_law_244 : decode cL_law 244 = .ok (.iadd, 1) := by decide +kernel
theorem dL_law_245 : decode cL_law 245 = .ok (.iaload, 1) := by decide +kernel
theorem dL_law_246 : decode cL_law 246 = .ok (.invokevirtual 29, 3) := by decide +kernel
theorem dL_law_249 : decode cL_law 249 = .ok (.pop, 1) := by decide +kernel
theorem dL_law_250 : decode cL_law 250 = .ok (.goto 910, 3) := by decide +kernel
theorem dL_law_253 : decode cL_law 253 = .ok (.aload_n 1, 1) := by decide +kernel
theorem dL_law_254 : decode cL_law 254 = .ok (.aload_n 0, 1) := by decide +kernel
theorem dL_law_255 : decode cL_law 255 = .ok (.iload 4, 2) := by decide +kernel
theorem dL_law_257 : decode cL_law 257 = .ok (.iconst 1, 1) := by decide +kernel
theorem dL_law_258 : decode cL_law 258 = .ok (.iadd, 1) := by decide +kernel
theorem dL_law_259 : decode cL_law 259 = .ok (.iaload, 1) := by decide +kernel
theorem dL_law_260 : decode cL_law 260 = .ok (.invokevirtual 30, 3) := by decide +kernel
theorem dL_law_263 : decode cL_law 263 = .ok (.pop, 1) := by decide +kernel
theorem dL_law_264 : decode cL_law 264 = .ok (.aload_n 2, 1) := by decide +kernel
theorem dL_law_265 : decode cL_law 265 = .ok (.aload_n 0, 1) := by decide +kernel
theorem dL_law_266 : decode cL_law 266 = .ok (.iload 4, 2) := by decide +kernel
theorem dL_law_268 : decode cL_law 268 = .ok (.iconst 1, 1) := by decide +kernel
theorem dL_law_269 : decode cL_law 269 = .ok (.iadd, 1) := by decide +kernel
theorem dL_law_270 : decode cL_law 270 = .ok (.iaload, 1) := by decide +kernel
theorem dL_law_271 : decode cL_law 271 = .ok (.invokevirtual 34, 3) := by decide +kernel
theorem dL_law_274 : decode cL_law 274 = .ok (.pop, 1) := by decide +kernel
theorem dL_law_275 : decode cL_law 275 = .ok (.goto 885, 3) := by decide +kernel
theorem dL_law_278 : decode cL_law 278 = .ok (.aload_n 1, 1) := by decide +kernel
theorem dL_law_279 : decode cL_law 279 = .ok (.aload_n 0, 1) := by decide +kernel
theorem dL_law_280 : decode cL_law 280 = .ok (.iload 4, 2) := by decide +kernel
theorem dL_law_282 : decode cL_law 282 = .ok (.iconst 1, 1) := by decide +kernel
theorem dL_law_283 : decode cL_law 283 = .ok (.iadd, 1) := by decide +kernel
theorem dL_law_284 : decode cL_law 284 = .ok (.iaload, 1) := by decide +kernel
theorem dL_law_285 : decode cL_law 285 = .ok (.aload_n 0, 1) := by decide +kernel
theorem dL_law_286 : decode cL_law 286 = .ok (.iload 4, 2) := by decide +kernel
theorem dL_law_288 : decode cL_law 288 = .ok (.iconst 2, 1) := by decide +kernel
theorem dL_law_289 : decode cL_law 289 = .ok (.iadd, 1) := by decide +kernel
theorem dL_law_290 : decode cL_law 290 = .ok (.iaload, 1) := by decide +kernel
theorem dL_law_291 : decode cL_law 291 = .ok (.aload_n 3, 1) := by decide +kernel
theorem dL_law_292 : decode cL_law 292 = .ok (.invokestatic 35, 3) := by decide +kernel
theorem dL_law_295 : decode cL_law 295 = .ok (.istore 5, 2) := by decide +kernel
theorem dL_law_297 : decode cL_law 297 = .ok (.aload_n 2, 1) := by decide +kernel
theorem dL_law_298 : decode cL_law 298 = .ok (.aload_n 0, 1) := by decide +kernel
theorem dL_law_299 : decode cL_law 299 = .ok (.iload 4, 2) := by decide +kernel
theorem dL_law_301 : decode cL_law 301 = .ok (.iconst 1, 1) := by decide +kernel
theorem dL_law_302 : decode cL_law 302 = .ok (.iadd, 1) := by decide +kernel
theorem dL_law_303 : decode cL_law 303 = .ok (.iaload, 1) := by decide +kernel
theorem dL_law_304 : decode cL_law 304 = .ok (.aload_n 0, 1) := by decide +kernel
theorem dL_law_305 : decode cL_law 305 = .ok (.iload 4, 2) := by decide +kernel
theorem dL_law_307 : decode cL_law 307 = .ok (.iconst 2, 1) := by decide +kernel
theorem dL_law_308 : decode cL_law 308 = .ok (.iadd, 1) := by decide +kernel
theorem dL_law_309 : decode cL_law 309 = .ok (.iaload, 1) := by decide +kernel
theorem dL_law_310 : decode cL_law 310 = .ok (.invokevirtual 40, 3) := by decide +kernel
theorem dL_law_313 : decode cL_law 313 = .ok (.istore 6, 2) := by decide +kernel
theorem dL_law_315 : decode cL_law 315 = .ok (.goto 845, 3) := by decide +kernel
theorem dL_law_318 : decode cL_law 318 = .ok (.aload_n 1, 1) := by decide +kernel
theorem dL_law_319 : decode cL_law 319 = .ok (.aload_n 0, 1) := by decide +kernel
theorem dL_law_320 : decode cL_law 320 = .ok (.iload 4, 2) := by decide +kernel
theorem dL_law_322 : decode cL_law 322 = .ok (.iconst 1, 1) := by decide +kernel
theorem dL_law_323 : decode cL_law 323 = .ok (.iadd, 1) := by decide +kernel
theorem dL_law_324 : decode cL_law 324 = .ok (.iaload, 1) := by decide +kernel
theorem dL_law_325 : decode cL_law 325 = .ok (.aload_n 0, 1) := by decide +kernel
theorem dL_law_326 : decode cL_law 326 = .ok (.iload 4, 2) := by decide +kernel
theorem dL_law_328 : decode cL_law 328 = .ok (.iconst 2, 1) := by decide +kernel
theorem dL_law_329 : decode cL_law 329 = .ok (.iadd, 1) := by decide +kernel
theorem dL_law_330 : decode cL_law 330 = .ok (.iaload, 1) := by decide +kernel
theorem dL_law_331 : decode cL_law 331 = .ok (.aload_n 3, 1) := by decide +kernel
theorem dL_law_332 : decode cL_law 332 = .ok (.invokestatic 41, 3) := by decide +kernel
theorem dL_law_335 : decode cL_law 335 = .ok (.istore 5, 2) := by decide +kernel
theorem dL_law_337 : decode cL_law 337 = .ok (.aload_n 2, 1) := by decide +kernel
theorem dL_law_338 : decode cL_law 338 = .ok (.aload_n 0, 1) := by decide +kernel
theorem dL_law_339 : decode cL_law 339 = .ok (.iload 4, 2) := by decide +kernel
theorem dL_law_341 : decode cL_law 341 = .ok (.iconst 1, 1) := by decide +kernel
theorem dL_law_342 : decode cL_law 342 = .ok (.iadd, 1) := by decide +kernel
theorem dL_law_343 : decode cL_law 343 = .ok (.iaload, 1) := by decide +kernel
theorem dL_law_344 : decode cL_law 344 = .ok (.aload_n 0, 1) := by decide +kernel
theorem dL_law_345 : decode cL_law 345 = .ok (.iload 4, 2) := by decide +kernel
theorem dL_law_347 : decode cL_law 347 = .ok (.iconst 2, 1) := by decide +kernel
theorem dL_law_348 : decode cL_law 348 = .ok (.iadd, 1) := by decide +kernel
theorem dL_law_349 : decode cL_law 349 = .ok (.iaload, 1) := by decide +kernel
theorem dL_law_350 : decode cL_law 350 = .ok (.invokevirtual 43, 3) := by decide +kernel
theorem dL_law_353 : decode cL_law 353 = .ok (.istore 6, 2) := by decide +kernel
theorem dL_law_355 : decode cL_law 355 = .ok (.goto 805, 3) := by decide +kernel
theorem dL_law_358 : decode cL_law 358 = .ok (.aload_n 1, 1) := by decide +kernel
theorem dL_law_359 : decode cL_law 359 = .ok (.aload_n 0, 1) := by decide +kernel
theorem dL_law_360 : decode cL_law 360 = .ok (.iload 4, 2) := by decide +kernel
theorem dL_law_362 : decode cL_law 362 = .ok (.iconst 1, 1) := by decide +kernel
theorem dL_law_363 : decode cL_law 363 = .ok (.iadd, 1) := by decide +kernel
theorem dL_law_364 : decode cL_law 364 = .ok (.iaload, 1) := by decide +kernel
theorem dL_law_365 : decode cL_law 365 = .ok (.invokevirtual 44, 3) := by decide +kernel
theorem dL_law_368 : decode cL_law 368 = .ok (.pop, 1) := by decide +kernel
theorem dL_law_369 : decode cL_law 369 = .ok (.aload_n 2, 1) := by decide +kernel
theorem dL_law_370 : decode cL_law 370 = .ok (.aload_n 0, 1) := by decide +kernel
theorem dL_law_371 : decode cL_law 371 = .ok (.iload 4, 2) := by decide +kernel
theorem dL_law_373 : decode cL_law 373 = .ok (.iconst 1, 1) := by decide +kernel
theorem dL_law_374 : decode cL_law 374 = .ok (.iadd, 1) := by decide +kernel
theorem dL_law_375 : decode cL_law 375 = .ok (.iaload, 1) := by decide +kernel
theorem dL_law_376 : decode cL_law 376 = .ok (.invokevirtual 47, 3) := by decide +kernel
theorem dL_law_379 : decode cL_law 379 = .ok (.pop, 1) := by decide +kernel
theorem dL_law_380 : decode cL_law 380 = .ok (.goto 780, 3) := by decide +kernel
theorem dL_law_383 : decode cL_law 383 = .ok (.aload_n 1, 1) := by decide +kernel
theorem dL_law_384 : decode cL_law 384 = .ok (.invokevirtual 48, 3) := by decide +kernel
theorem dL_law_387 : decode cL_law 387 = .ok (.pop, 1) := by decide +kernel
theorem dL_law_388 : decode cL_law 388 = .ok (.aload_n 2, 1) := by decide +kernel
theorem dL_law_389 : decode cL_law 389 = .ok (.invokevirtual 52, 3) := by decide +kernel
theorem dL_law_392 : decode cL_law 392 = .ok (.pop, 1) := by decide +kernel
theorem dL_law_393 : decode cL_law 393 = .ok (.goto 767, 3) := by decide +kernel
theorem dL_law_396 : decode cL_law 396 = .ok (.aload_n 1, 1) := by decide +kernel
theorem dL_law_397 : decode cL_law 397 = .ok (.invokevirtual 53, 3) := by decide +kernel
theorem dL_law_400 : decode cL_law 400 = .ok (.pop, 1) := by decide +kernel
theorem dL_law_401 : decode cL_law 401 = .ok (.aload_n 2, 1) := by decide +kernel
theorem dL_law_402 : decode cL_law 402 = .ok (.invokevirtual 56, 3) := by decide +kernel
theorem dL_law_405 : decode cL_law 405 = .ok (.pop, 1) := by decide +kernel
theorem dL_law_406 : decode cL_law 406 = .ok (.goto 754, 3) := by decide +kernel
theorem dL_law_409 : decode cL_law 409 = .ok (.aload_n 1, 1) := by decide +kernel
theorem dL_law_410 : decode cL_law 410 = .ok (.aload_n 0, 1) := by decide +kernel
theorem dL_law_411 : decode cL_law 411 = .ok (.iload 4, 2) := by decide +kernel
theorem dL_law_413 : decode cL_law 413 = .ok (.iconst 1, 1) := by decide +kernel
theorem dL_law_414 : decode cL_law 414 = .ok (.iadd, 1) := by decide +kernel
theorem dL_law_415 : decode cL_law 415 = .ok (.iaload, 1) := by decide +kernel
theorem dL_law_416 : decode cL_law 416 = .ok (.aload_n 0, 1) := by decide +kernel
theorem dL_law_417 : decode cL_law 417 = .ok (.iload 4, 2) := by decide +kernel
theorem dL_law_419 : decode cL_law 419 = .ok (.iconst 2, 1) := by decide +kernel
theorem dL_law_420 : decode cL_law 420 = .ok (.iadd, 1) := by decide +kernel
theorem dL_law_421 : decode cL_law 421 = .ok (.iaload, 1) := by decide +kernel
theorem dL_law_422 : decode cL_law 422 = .ok (.invokevirtual 57, 3) := by decide +kernel
theorem dL_law_425 : decode cL_law 425 = .ok (.pop, 1) := by decide +kernel
theorem dL_law_426 : decode cL_law 426 = .ok (.aload_n 2, 1) := by decide +kernel
theorem dL_law_427 : decode cL_law 427 = .ok (.aload_n 0, 1) := by decide +kernel
theorem dL_law_428 : decode cL_law 428 = .ok (.iload 4, 2) := by decide +kernel
theorem dL_law_430 : decode cL_law 430 = .ok (.iconst 1, 1) := by decide +kernel
theorem dL_law_431 : decode cL_law 431 = .ok (.iadd, 1) := by decide +kernel
theorem dL_law_432 : decode cL_law 432 = .ok (.iaload, 1) := by decide +kernel
theorem dL_law_433 : decode cL_law 433 = .ok (.aload_n 0, 1) := by decide +kernel
theorem dL_law_434 : decode cL_law 434 = .ok (.iload 4, 2) := by decide +kernel
theorem dL_law_436 : decode cL_law 436 = .ok (.iconst 2, 1) := by decide +kernel
theorem dL_law_437 : decode cL_law 437 = .ok (.iadd, 1) := by decide +kernel
theorem dL_law_438 : decode cL_law 438 = .ok (.iaload, 1) := by decide +kernel
theorem dL_law_439 : decode cL_law 439 = .ok (.invokevirtual 60, 3) := by decide +kernel
theorem dL_law_442 : decode cL_law 442 = .ok (.pop, 1) := by decide +kernel
theorem dL_law_443 : decode cL_law 443 = .ok (.goto 717, 3) := by decide +kernel
theorem dL_law_446 : decode cL_law 446 = .ok (.aload_n 1, 1) := by decide +kernel
theorem dL_law_447 : decode cL_law 447 = .ok (.aload_n 0, 1) := by decide +kernel
theorem dL_law_448 : decode cL_law 448 = .ok (.iload 4, 2) := by decide +kernel
theorem dL_law_450 : decode cL_law 450 = .ok (.iconst 1, 1) := by decide +kernel
theorem dL_law_451 : decode cL_law 451 = .ok (.iadd, 1) := by decide +kernel
theorem dL_law_452 : decode cL_law 452 = .ok (.iaload, 1) := by decide +kernel
theorem dL_law_453 : decode cL_law 453 = .ok (.aload_n 0, 1) := by decide +kernel
theorem dL_law_454 : decode cL_law 454 = .ok (.iload 4, 2) := by decide +kernel
theorem dL_law_456 : decode cL_law 456 = .ok (.iconst 2, 1) := by decide +kernel
theorem dL_law_457 : decode cL_law 457 = .ok (.iadd, 1) := by decide +kernel
theorem dL_law_458 : decode cL_law 458 = .ok (.iaload, 1) := by decide +kernel
theorem dL_law_459 : decode cL_law 459 = .ok (.invokevirtual 61, 3) := by decide +kernel
theorem dL_law_462 : decode cL_law 462 = .ok (.pop, 1) := by decide +kernel
theorem dL_law_463 : decode cL_law 463 = .ok (.aload_n 2, 1) := by decide +kernel
theorem dL_law_464 : decode cL_law 464 = .ok (.aload_n 0, 1) := by decide +kernel
theorem dL_law_465 : decode cL_law 465 = .ok (.iload 4, 2) := by decide +kernel
theorem dL_law_467 : decode cL_law 467 = .ok (.iconst 1, 1) := by decide +kernel
theorem dL_law_468 : decode cL_law 468 = .ok (.iadd, 1) := by decide +kernel
theorem dL_law_469 : decode cL_law 469 = .ok (.iaload, 1) := by decide +kernel
theorem dL_law_470 : decode cL_law 470 = .ok (.aload_n 0, 1) := by decide +kernel
theorem dL_law_471 : decode cL_law 471 = .ok (.iload 4, 2) := by decide +kernel
theorem dL_law_473 : decode cL_law 473 = .ok (.iconst 2, 1) := by decide +kernel
theorem dL_law_474 : decode cL_law 474 = .ok (.iadd, 1) := by decide +kernel
theorem dL_law_475 : decode cL_law 475 = .ok (.iaload, 1) := by decide +kernel
theorem dL_law_476 : decode cL_law 476 = .ok (.invokevirtual 64, 3) := by decide +kernel
theorem dL_law_479 : decode cL_law 479 = .ok (.pop, 1) := by decide +kernel
theorem dL_law_480 : decode cL_law 480 = .ok (.goto 680, 3) := by decide +kernel
theorem dL_law_483 : decode cL_law 483 = .ok (.aload_n 1, 1) := by decide +kernel
theorem dL_law_484 : decode cL_law 484 = .ok (.invokevirtual 65, 3) := by decide +kernel
theorem dL_law_487 : decode cL_law 487 = .ok (.pop, 1) := by decide +kernel
theorem dL_law_488 : decode cL_law 488 = .ok (.aload_n 2, 1) := by decide +kernel
theorem dL_law_489 : decode cL_law 489 = .ok (.invokevirtual 68, 3) := by decide +kernel
theorem dL_law_492 : decode cL_law 492 = .ok (.pop, 1) := by decide +kernel
theorem dL_law_493 : decode cL_law 493 = .ok (.goto 667, 3) := by decide +kernel
theorem dL_law_496 : decode cL_law 496 = .ok (.aload_n 1, 1) := by decide +kernel
theorem dL_law_497 : decode cL_law 497 = .ok (.invokevirtual 69, 3) := by decide +kernel
theorem dL_law_500 : decode cL_law 500 = .ok (.pop, 1) := by decide +kernel
theorem dL_law_501 : decode cL_law 501 = .ok (.aload_n 2, 1) := by decide +kernel
theorem dL_law_502 : decode cL_law 502 = .ok (.invokevirtual 72, 3) := by decide +kernel
theorem dL_law_505 : decode cL_law 505 = .ok (.pop, 1) := by decide +kernel
theorem dL_law_506 : decode cL_law 506 = .ok (.goto 654, 3) := by decide +kernel
theorem dL_law_509 : decode cL_law 509 = .ok (.aload_n 1, 1) := by decide +kernel
theorem dL_law_510 : decode cL_law 510 = .ok (.aload_n 0, 1) := by decide +kernel
theorem dL_law_511 : decode cL_law 511 = .ok (.iload 4, 2) := by decide +kernel
theorem dL_law_513 : decode cL_law 513 = .ok (.iconst 1, 1) := by decide +kernel
theorem dL_law_514 : decode cL_law 514 = .ok (.iadd, 1) := by decide +kernel
theorem dL_law_515 : decode cL_law 515 = .ok (.iaload, 1) := by decide +kernel
theorem dL_law_516 : decode cL_law 516 = .ok (.invokevirtual 73, 3) := by decide +kernel
theorem dL_law_519 : decode cL_law 519 = .ok (.pop, 1) := by decide +kernel
theorem dL_law_520 : decode cL_law 520 = .ok (.aload_n 2, 1) := by decide +kernel
theorem dL_law_521 : decode cL_law 521 = .ok (.aload_n 0, 1) := by decide +kernel
theorem dL_law_522 : decode cL_law 522 = .ok (.iload 4, 2) := by decide +kernel
theorem dL_law_524 : decode cL_law 524 = .ok (.iconst 1, 1) := by decide +kernel
theorem dL_law_525 : decode cL_law 525 = .ok (.iadd, 1) := by decide +kernel
theorem dL_law_526 : decode cL_law 526 = .ok (.iaload, 1) := by decide +kernel
theorem dL_law_527 : decode cL_law 527 = .ok (.invokevirtual 76, 3) := by decide +kernel
theorem dL_law_530 : decode cL_law 530 = .ok (.pop, 1) := by decide +kernel
theorem dL_law_531 : decode cL_law 531 = .ok (.goto 629, 3) := by decide +kernel
theorem dL_law_534 : decode cL_law 534 = .ok (.aload_n 1, 1) := by decide +kernel
theorem dL_law_535 : decode cL_law 535 = .ok (.aload_n 0, 1) := by decide +kernel
theorem dL_law_536 : decode cL_law 536 = .ok (.iload 4, 2) := by decide +kernel
theorem dL_law_538 : decode cL_law 538 = .ok (.iconst 1, 1) := by decide +kernel
theorem dL_law_539 : decode cL_law 539 = .ok (.iadd, 1) := by decide +kernel
theorem dL_law_540 : decode cL_law 540 = .ok (.iaload, 1) := by decide +kernel
theorem dL_law_541 : decode cL_law 541 = .ok (.aload_n 0, 1) := by decide +kernel
theorem dL_law_542 : decode cL_law 542 = .ok (.iload 4, 2) := by decide +kernel
theorem dL_law_544 : decode cL_law 544 = .ok (.iconst 2, 1) := by decide +kernel
theorem dL_law_545 : decode cL_law 545 = .ok (.iadd, 1) := by decide +kernel
theorem dL_law_546 : decode cL_law 546 = .ok (.iaload, 1) := by decide +kernel
theorem dL_law_547 : decode cL_law 547 = .ok (.aload_n 3, 1) := by decide +kernel
theorem dL_law_548 : decode cL_law 548 = .ok (.invokestatic 77, 3) := by decide +kernel
theorem dL_law_551 : decode cL_law 551 = .ok (.istore 5, 2) := by decide +kernel
theorem dL_law_553 : decode cL_law 553 = .ok (.aload_n 2, 1) := by decide +kernel
theorem dL_law_554 : decode cL_law 554 = .ok (.aload_n 0, 1) := by decide +kernel
theorem dL_law_555 : decode cL_law 555 = .ok (.iload 4, 2) := by decide +kernel
theorem dL_law_557 : decode cL_law 557 = .ok (.iconst 1, 1) := by decide +kernel
theorem dL_law_558 : decode cL_law 558 = .ok (.iadd, 1) := by decide +kernel
theorem dL_law_559 : decode cL_law 559 = .ok (.iaload, 1) := by decide +kernel
theorem dL_law_560 : decode cL_law 560 = .ok (.aload_n 0, 1) := by decide +kernel
theorem dL_law_561 : decode cL_law 561 = .ok (.iload 4, 2) := by decide +kernel
theorem dL_law_563 : decode cL_law 563 = .ok (.iconst 2, 1) := by decide +kernel
theorem dL_law_564 : decode cL_law 564 = .ok (.iadd, 1) := by decide +kernel
theorem dL_law_565 : decode cL_law 565 = .ok (.iaload, 1) := by decide +kernel
theorem dL_law_566 : decode cL_law 566 = .ok (.invokevirtual 79, 3) := by decide +kernel
theorem dL_law_569 : decode cL_law 569 = .ok (.istore 6, 2) := by decide +kernel
theorem dL_law_571 : decode cL_law 571 = .ok (.goto 589, 3) := by decide +kernel
theorem dL_law_574 : decode cL_law 574 = .ok (.aload_n 1, 1) := by decide +kernel
theorem dL_law_575 : decode cL_law 575 = .ok (.invokevirtual 80, 3) := by decide +kernel
theorem dL_law_578 : decode cL_law 578 = .ok (.pop, 1) := by decide +kernel
theorem dL_law_579 : decode cL_law 579 = .ok (.aload_n 2, 1) := by decide +kernel
theorem dL_law_580 : decode cL_law 580 = .ok (.invokevirtual 83, 3) := by decide +kernel
theorem dL_law_583 : decode cL_law 583 = .ok (.pop, 1) := by decide +kernel
theorem dL_law_584 : decode cL_law 584 = .ok (.goto 576, 3) := by decide +kernel
theorem dL_law_587 : decode cL_law 587 = .ok (.aload_n 1, 1) := by decide +kernel
theorem dL_law_588 : decode cL_law 588 = .ok (.aload_n 0, 1) := by decide +kernel
theorem dL_law_589 : decode cL_law 589 = .ok (.iload 4, 2) := by decide +kernel
theorem dL_law_591 : decode cL_law 591 = .ok (.iconst 1, 1) := by decide +kernel
theorem dL_law_592 : decode cL_law 592 = .ok (.iadd, 1) := by decide +kernel
theorem dL_law_593 : decode cL_law 593 = .ok (.iaload, 1) := by decide +kernel
theorem dL_law_594 : decode cL_law 594 = .ok (.aload_n 0, 1) := by decide +kernel
theorem dL_law_595 : decode cL_law 595 = .ok (.iload 4, 2) := by decide +kernel
theorem dL_law_597 : decode cL_law 597 = .ok (.iconst 2, 1) := by decide +kernel
theorem dL_law_598 : decode cL_law 598 = .ok (.iadd, 1) := by decide +kernel
theorem dL_law_599 : decode cL_law 599 = .ok (.iaload, 1) := by decide +kernel
theorem dL_law_600 : decode cL_law 600 = .ok (.invokevirtual 84, 3) := by decide +kernel
theorem dL_law_603 : decode cL_law 603 = .ok (.pop, 1) := by decide +kernel
theorem dL_law_604 : decode cL_law 604 = .ok (.aload_n 2, 1) := by decide +kernel
theorem dL_law_605 : decode cL_law 605 = .ok (.aload_n 0, 1) := by decide +kernel
theorem dL_law_606 : decode cL_law 606 = .ok (.iload 4, 2) := by decide +kernel
theorem dL_law_608 : decode cL_law 608 = .ok (.iconst 1, 1) := by decide +kernel
theorem dL_law_609 : decode cL_law 609 = .ok (.iadd, 1) := by decide +kernel
theorem dL_law_610 : decode cL_law 610 = .ok (.iaload, 1) := by decide +kernel
theorem dL_law_611 : decode cL_law 611 = .ok (.aload_n 0, 1) := by decide +kernel
theorem dL_law_612 : decode cL_law 612 = .ok (.iload 4, 2) := by decide +kernel
theorem dL_law_614 : decode cL_law 614 = .ok (.iconst 2, 1) := by decide +kernel
theorem dL_law_615 : decode cL_law 615 = .ok (.iadd, 1) := by decide +kernel
theorem dL_law_616 : decode cL_law 616 = .ok (.iaload, 1) := by decide +kernel
theorem dL_law_617 : decode cL_law 617 = .ok (.invokevirtual 87, 3) := by decide +kernel
theorem dL_law_620 : decode cL_law 620 = .ok (.pop, 1) := by decide +kernel
theorem dL_law_621 : decode cL_law 621 = .ok (.goto 539, 3) := by decide +kernel
theorem dL_law_624 : decode cL_law 624 = .ok (.aload_n 1, 1) := by decide +kernel
theorem dL_law_625 : decode cL_law 625 = .ok (.invokevirtual 88, 3) := by decide +kernel
theorem dL_law_628 : decode cL_law 628 = .ok (.pop2, 1) := by decide +kernel
theorem dL_law_629 : decode cL_law 629 = .ok (.aload_n 2, 1) := by decide +kernel
theorem dL_law_630 : decode cL_law 630 = .ok (.invokevirtual 92, 3) := by decide +kernel
theorem dL_law_633 : decode cL_law 633 = .ok (.pop2, 1) := by decide +kernel
theorem dL_law_634 : decode cL_law 634 = .ok (.goto 526, 3) := by decide +kernel
theorem dL_law_637 : decode cL_law 637 = .ok (.aload_n 1, 1) := by decide +kernel
theorem dL_law_638 : decode cL_law 638 = .ok (.invokevirtual 93, 3) := by decide +kernel
theorem dL_law_641 : decode cL_law 641 = .ok (.pop2, 1) := by decide +kernel
theorem dL_law_642 : decode cL_law 642 = .ok (.aload_n 2, 1) := by decide +kernel
theorem dL_law_643 : decode cL_law 643 = .ok (.invokevirtual 96, 3) := by decide +kernel
theorem dL_law_646 : decode cL_law 646 = .ok (.pop2, 1) := by decide +kernel
theorem dL_law_647 : decode cL_law 647 = .ok (.goto 513, 3) := by decide +kernel
theorem dL_law_650 : decode cL_law 650 = .ok (.aload_n 1, 1) := by decide +kernel
theorem dL_law_651 : decode cL_law 651 = .ok (.aload_n 0, 1) := by decide +kernel
theorem dL_law_652 : decode cL_law 652 = .ok (.iload 4, 2) := by decide +kernel
theorem dL_law_654 : decode cL_law 654 = .ok (.iconst 1, 1) := by decide +kernel
theorem dL_law_655 : decode cL_law 655 = .ok (.iadd, 1) := by decide +kernel
theorem dL_law_656 : decode cL_law 656 = .ok (.iaload, 1) := by decide +kernel
theorem dL_law_657 : decode cL_law 657 = .ok (.invokevirtual 97, 3) := by decide +kernel
theorem dL_law_660 : decode cL_law 660 = .ok (.pop, 1) := by decide +kernel
theorem dL_law_661 : decode cL_law 661 = .ok (.aload_n 2, 1) := by decide +kernel
theorem dL_law_662 : decode cL_law 662 = .ok (.aload_n 0, 1) := by decide +kernel
theorem dL_law_663 : decode cL_law 663 = .ok (.iload 4, 2) := by decide +kernel
theorem dL_law_665 : decode cL_law 665 = .ok (.iconst 1, 1) := by decide +kernel
theorem dL_law_666 : decode cL_law 666 = .ok (.iadd, 1) := by decide +kernel
theorem dL_law_667 : decode cL_law 667 = .ok (.iaload, 1) := by decide +kernel
theorem dL_law_668 : decode cL_law 668 = .ok (.invokevirtual 100, 3) := by decide +kernel
theorem dL_law_671 : decode cL_law 671 = .ok (.pop, 1) := by decide +kernel
theorem dL_law_672 : decode cL_law 672 = .ok (.goto 488, 3) := by decide +kernel
theorem dL_law_675 : decode cL_law 675 = .ok (.aload_n 1, 1) := by decide +kernel
theorem dL_law_676 : decode cL_law 676 = .ok (.aload_n 0, 1) := by decide +kernel
theorem dL_law_677 : decode cL_law 677 = .ok (.iload 4, 2) := by decide +kernel
theorem dL_law_679 : decode cL_law 679 = .ok (.iconst 1, 1) := by decide +kernel
theorem dL_law_680 : decode cL_law 680 = .ok (.iadd, 1) := by decide +kernel
theorem dL_law_681 : decode cL_law 681 = .ok (.iaload, 1) := by decide +kernel
theorem dL_law_682 : decode cL_law 682 = .ok (.aload_n 0, 1) := by decide +kernel
theorem dL_law_683 : decode cL_law 683 = .ok (.iload 4, 2) := by decide +kernel
theorem dL_law_685 : decode cL_law 685 = .ok (.iconst 2, 1) := by decide +kernel
theorem dL_law_686 : decode cL_law 686 = .ok (.iadd, 1) := by decide +kernel
theorem dL_law_687 : decode cL_law 687 = .ok (.iaload, 1) := by decide +kernel
theorem dL_law_688 : decode cL_law 688 = .ok (.invokevirtual 101, 3) := by decide +kernel
theorem dL_law_691 : decode cL_law 691 = .ok (.pop, 1) := by decide +kernel
theorem dL_law_692 : decode cL_law 692 = .ok (.aload_n 2, 1) := by decide +kernel
theorem dL_law_693 : decode cL_law 693 = .ok (.aload_n 0, 1) := by decide +kernel
theorem dL_law_694 : decode cL_law 694 = .ok (.iload 4, 2) := by decide +kernel
theorem dL_law_696 : decode cL_law 696 = .ok (.iconst 1, 1) := by decide +kernel
theorem dL_law_697 : decode cL_law 697 = .ok (.iadd, 1) := by decide +kernel
theorem dL_law_698 : decode cL_law 698 = .ok (.iaload, 1) := by decide +kernel
theorem dL_law_699 : decode cL_law 699 = .ok (.aload_n 0, 1) := by decide +kernel
theorem dL_law_700 : decode cL_law 700 = .ok (.iload 4, 2) := by decide +kernel
theorem dL_law_702 : decode cL_law 702 = .ok (.iconst 2, 1) := by decide +kernel
theorem dL_law_703 : decode cL_law 703 = .ok (.iadd, 1) := by decide +kernel
theorem dL_law_704 : decode cL_law 704 = .ok (.iaload, 1) := by decide +kernel
theorem dL_law_705 : decode cL_law 705 = .ok (.invokevirtual 104, 3) := by decide +kernel
theorem dL_law_708 : decode cL_law 708 = .ok (.pop, 1) := by decide +kernel
theorem dL_law_709 : decode cL_law 709 = .ok (.goto 451, 3) := by decide +kernel
theorem dL_law_712 : decode cL_law 712 = .ok (.aload_n 1, 1) := by decide +kernel
theorem dL_law_713 : decode cL_law 713 = .ok (.aload_n 0, 1) := by decide +kernel
theorem dL_law_714 : decode cL_law 714 = .ok (.iload 4, 2) := by decide +kernel
theorem dL_law_716 : decode cL_law 716 = .ok (.iconst 1, 1) := by decide +kernel
theorem dL_law_717 : decode cL_law 717 = .ok (.iadd, 1) := by decide +kernel
theorem dL_law_718 : decode cL_law 718 = .ok (.iaload, 1) := by decide +kernel
theorem dL_law_719 : decode cL_law 719 = .ok (.aload_n 0, 1) := by decide +kernel
theorem dL_law_720 : decode cL_law 720 = .ok (.iload 4, 2) := by decide +kernel
theorem dL_law_722 : decode cL_law 722 = .ok (.iconst 2, 1) := by decide +kernel
theorem dL_law_723 : decode cL_law 723 = .ok (.iadd, 1) := by decide +kernel
theorem dL_law_724 : decode cL_law 724 = .ok (.iaload, 1) := by decide +kernel
theorem dL_law_725 : decode cL_law 725 = .ok (.ifCond .eq 7, 3) := by decide +kernel
theorem dL_law_728 : decode cL_law 728 = .ok (.iconst 1, 1) := by decide +kernel
theorem dL_law_729 : decode cL_law 729 = .ok (.goto 4, 3) := by decide +kernel
theorem dL_law_732 : decode cL_law 732 = .ok (.iconst 0, 1) := by decide +kernel
theorem dL_law_733 : decode cL_law 733 = .ok (.invokevirtual 105, 3) := by decide +kernel
theorem dL_law_736 : decode cL_law 736 = .ok (.pop, 1) := by decide +kernel
theorem dL_law_737 : decode cL_law 737 = .ok (.aload_n 2, 1) := by decide +kernel
theorem dL_law_738 : decode cL_law 738 = .ok (.aload_n 0, 1) := by decide +kernel
theorem dL_law_739 : decode cL_law 739 = .ok (.iload 4, 2) := by decide +kernel
theorem dL_law_741 : decode cL_law 741 = .ok (.iconst 1, 1) := by decide +kernel
theorem dL_law_742 : decode cL_law 742 = .ok (.iadd, 1) := by decide +kernel
theorem dL_law_743 : decode cL_law 743 = .ok (.iaload, 1) := by decide +kernel
theorem dL_law_744 : decode cL_law 744 = .ok (.aload_n 0, 1) := by decide +kernel
theorem dL_law_745 : decode cL_law 745 = .ok (.iload 4, 2) := by decide +kernel
theorem dL_law_747 : decode cL_law 747 = .ok (.iconst 2, 1) := by decide +kernel
theorem dL_law_748 : decode cL_law 748 = .ok (.iadd, 1) := by decide +kernel
theorem dL_law_749 : decode cL_law 749 = .ok (.iaload, 1) := by decide +kernel
theorem dL_law_750 : decode cL_law 750 = .ok (.ifCond .eq 7, 3) := by decide +kernel
theorem dL_law_753 : decode cL_law 753 = .ok (.iconst 1, 1) := by decide +kernel
theorem dL_law_754 : decode cL_law 754 = .ok (.goto 4, 3) := by decide +kernel
theorem dL_law_757 : decode cL_law 757 = .ok (.iconst 0, 1) := by decide +kernel
theorem dL_law_758 : decode cL_law 758 = .ok (.invokevirtual 109, 3) := by decide +kernel
theorem dL_law_761 : decode cL_law 761 = .ok (.pop, 1) := by decide +kernel
theorem dL_law_762 : decode cL_law 762 = .ok (.goto 398, 3) := by decide +kernel
theorem dL_law_765 : decode cL_law 765 = .ok (.aload_n 1, 1) := by decide +kernel
theorem dL_law_766 : decode cL_law 766 = .ok (.aload_n 0, 1) := by decide +kernel
theorem dL_law_767 : decode cL_law 767 = .ok (.iload 4, 2) := by decide +kernel
theorem dL_law_769 : decode cL_law 769 = .ok (.iconst 1, 1) := by decide +kernel
theorem dL_law_770 : decode cL_law 770 = .ok (.iadd, 1) := by decide +kernel
theorem dL_law_771 : decode cL_law 771 = .ok (.iaload, 1) := by decide +kernel
theorem dL_law_772 : decode cL_law 772 = .ok (.aload_n 0, 1) := by decide +kernel
theorem dL_law_773 : decode cL_law 773 = .ok (.iload 4, 2) := by decide +kernel
theorem dL_law_775 : decode cL_law 775 = .ok (.iconst 2, 1) := by decide +kernel
theorem dL_law_776 : decode cL_law 776 = .ok (.iadd, 1) := by decide +kernel
theorem dL_law_777 : decode cL_law 777 = .ok (.iaload, 1) := by decide +kernel
theorem dL_law_778 : decode cL_law 778 = .ok (.aload_n 0, 1) := by decide +kernel
theorem dL_law_779 : decode cL_law 779 = .ok (.iload 4, 2) := by decide +kernel
theorem dL_law_781 : decode cL_law 781 = .ok (.iconst 3, 1) := by decide +kernel
theorem dL_law_782 : decode cL_law 782 = .ok (.iadd, 1) := by decide +kernel
theorem dL_law_783 : decode cL_law 783 = .ok (.iaload, 1) := by decide +kernel
theorem dL_law_784 : decode cL_law 784 = .ok (.aload_n 0, 1) := by decide +kernel
theorem dL_law_785 : decode cL_law 785 = .ok (.iload 4, 2) := by decide +kernel
theorem dL_law_787 : decode cL_law 787 = .ok (.iconst 4, 1) := by decide +kernel
theorem dL_law_788 : decode cL_law 788 = .ok (.iadd, 1) := by decide +kernel
theorem dL_law_789 : decode cL_law 789 = .ok (.iaload, 1) := by decide +kernel
theorem dL_law_790 : decode cL_law 790 = .ok (.ifCond .eq 7, 3) := by decide +kernel
theorem dL_law_793 : decode cL_law 793 = .ok (.iconst 1, 1) := by decide +kernel
theorem dL_law_794 : decode cL_law 794 = .ok (.goto 4, 3) := by decide +kernel
theorem dL_law_797 : decode cL_law 797 = .ok (.iconst 0, 1) := by decide +kernel
theorem dL_law_798 : decode cL_law 798 = .ok (.invokevirtual 110, 3) := by decide +kernel
theorem dL_law_801 : decode cL_law 801 = .ok (.pop, 1) := by decide +kernel
theorem dL_law_802 : decode cL_law 802 = .ok (.aload_n 2, 1) := by decide +kernel
theorem dL_law_803 : decode cL_law 803 = .ok (.aload_n 0, 1) := by decide +kernel
theorem dL_law_804 : decode cL_law 804 = .ok (.iload 4, 2) := by decide +kernel
theorem dL_law_806 : decode cL_law 806 = .ok (.iconst 1, 1) := by decide +kernel
theorem dL_law_807 : decode cL_law 807 = .ok (.iadd, 1) := by decide +kernel
theorem dL_law_808 : decode cL_law 808 = .ok (.iaload, 1) := by decide +kernel
theorem dL_law_809 : decode cL_law 809 = .ok (.aload_n 0, 1) := by decide +kernel
theorem dL_law_810 : decode cL_law 810 = .ok (.iload 4, 2) := by decide +kernel
theorem dL_law_812 : decode cL_law 812 = .ok (.iconst 2, 1) := by decide +kernel
theorem dL_law_813 : decode cL_law 813 = .ok (.iadd, 1) := by decide +kernel
theorem dL_law_814 : decode cL_law 814 = .ok (.iaload, 1) := by decide +kernel
theorem dL_law_815 : decode cL_law 815 = .ok (.aload_n 0, 1) := by decide +kernel
theorem dL_law_816 : decode cL_law 816 = .ok (.iload 4, 2) := by decide +kernel
theorem dL_law_818 : decode cL_law 818 = .ok (.iconst 3, 1) := by decide +kernel
theorem dL_law_819 : decode cL_law 819 = .ok (.iadd, 1) := by decide +kernel
theorem dL_law_820 : decode cL_law 820 = .ok (.iaload, 1) := by decide +kernel
theorem dL_law_821 : decode cL_law 821 = .ok (.aload_n 0, 1) := by decide +kernel
theorem dL_law_822 : decode cL_law 822 = .ok (.iload 4, 2) := by decide +kernel
theorem dL_law_824 : decode cL_law 824 = .ok (.iconst 4, 1) := by decide +kernel
theorem dL_law_825 : decode cL_law 825 = .ok (.iadd, 1) := by decide +kernel
theorem dL_law_826 : decode cL_law 826 = .ok (.iaload, 1) := by decide +kernel
theorem dL_law_827 : decode cL_law 827 = .ok (.ifCond .eq 7, 3) := by decide +kernel
theorem dL_law_830 : decode cL_law 830 = .ok (.iconst 1, 1) := by decide +kernel
theorem dL_law_831 : decode cL_law 831 = .ok (.goto 4, 3) := by decide +kernel
theorem dL_law_834 : decode cL_law 834 = .ok (.iconst 0, 1) := by decide +kernel
theorem dL_law_835 : decode cL_law 835 = .ok (.invokevirtual 114, 3) := by decide +kernel
theorem dL_law_838 : decode cL_law 838 = .ok (.pop, 1) := by decide +kernel
theorem dL_law_839 : decode cL_law 839 = .ok (.goto 321, 3) := by decide +kernel
theorem dL_law_842 : decode cL_law 842 = .ok (.aload_n 1, 1) := by decide +kernel
theorem dL_law_843 : decode cL_law 843 = .ok (.aload_n 0, 1) := by decide +kernel
theorem dL_law_844 : decode cL_law 844 = .ok (.iload 4, 2) := by decide +kernel
theorem dL_law_846 : decode cL_law 846 = .ok (.iconst 1, 1) := by decide +kernel
theorem dL_law_847 : decode cL_law 847 = .ok (.iadd, 1) := by decide +kernel
theorem dL_law_848 : decode cL_law 848 = .ok (.iaload, 1) := by decide +kernel
theorem dL_law_849 : decode cL_law 849 = .ok (.aload_n 0, 1) := by decide +kernel
theorem dL_law_850 : decode cL_law 850 = .ok (.iload 4, 2) := by decide +kernel
theorem dL_law_852 : decode cL_law 852 = .ok (.iconst 2, 1) := by decide +kernel
theorem dL_law_853 : decode cL_law 853 = .ok (.iadd, 1) := by decide +kernel
theorem dL_law_854 : decode cL_law 854 = .ok (.iaload, 1) := by decide +kernel
theorem dL_law_855 : decode cL_law 855 = .ok (.invokevirtual 115, 3) := by decide +kernel
theorem dL_law_858 : decode cL_law 858 = .ok (.pop, 1) := by decide +kernel
theorem dL_law_859 : decode cL_law 859 = .ok (.aload_n 2, 1) := by decide +kernel
theorem dL_law_860 : decode cL_law 860 = .ok (.aload_n 0, 1) := by decide +kernel
theorem dL_law_861 : decode cL_law 861 = .ok (.iload 4, 2) := by decide +kernel
theorem dL_law_863 : decode cL_law 863 = .ok (.iconst 1, 1) := by decide +kernel
theorem dL_law_864 : decode cL_law 864 = .ok (.iadd, 1) := by decide +kernel
theorem dL_law_865 : decode cL_law 865 = .ok (.iaload, 1) := by decide +kernel
theorem dL_law_866 : decode cL_law 866 = .ok (.aload_n 0, 1) := by decide +kernel
theorem dL_law_867 : decode cL_law 867 = .ok (.iload 4, 2) := by decide +kernel
theorem dL_law_869 : decode cL_law 869 = .ok (.iconst 2, 1) := by decide +kernel
theorem dL_law_870 : decode cL_law 870 = .ok (.iadd, 1) := by decide +kernel
theorem dL_law_871 : decode cL_law 871 = .ok (.iaload, 1) := by decide +kernel
theorem dL_law_872 : decode cL_law 872 = .ok (.invokevirtual 118, 3) := by decide +kernel
theorem dL_law_875 : decode cL_law 875 = .ok (.pop, 1) := by decide +kernel
theorem dL_law_876 : decode cL_law 876 = .ok (.goto 284, 3) := by decide +kernel
theorem dL_law_879 : decode cL_law 879 = .ok (.aload_n 1, 1) := by decide +kernel
theorem dL_law_880 : decode cL_law 880 = .ok (.aload_n 0, 1) := by decide +kernel
theorem dL_law_881 : decode cL_law 881 = .ok (.iload 4, 2) := by decide +kernel
theorem dL_law_883 : decode cL_law 883 = .ok (.iconst 1, 1) := by decide +kernel
theorem dL_law_884 : decode cL_law 884 = .ok (.iadd, 1) := by decide +kernel
theorem dL_law_885 : decode cL_law 885 = .ok (.iaload, 1) := by decide +kernel
theorem dL_law_886 : decode cL_law 886 = .ok (.aload_n 0, 1) := by decide +kernel
theorem dL_law_887 : decode cL_law 887 = .ok (.iload 4, 2) := by decide +kernel
theorem dL_law_889 : decode cL_law 889 = .ok (.iconst 2, 1) := by decide +kernel
theorem dL_law_890 : decode cL_law 890 = .ok (.iadd, 1) := by decide +kernel
theorem dL_law_891 : decode cL_law 891 = .ok (.iaload, 1) := by decide +kernel
theorem dL_law_892 : decode cL_law 892 = .ok (.ifCond .eq 7, 3) := by decide +kernel
theorem dL_law_895 : decode cL_law 895 = .ok (.iconst 1, 1) := by decide +kernel
theorem dL_law_896 : decode cL_law 896 = .ok (.goto 4, 3) := by decide +kernel
theorem dL_law_899 : decode cL_law 899 = .ok (.iconst 0, 1) := by decide +kernel
theorem dL_law_900 : decode cL_law 900 = .ok (.invokevirtual 119, 3) := by decide +kernel
theorem dL_law_903 : decode cL_law 903 = .ok (.pop, 1) := by decide +kernel
theorem dL_law_904 : decode cL_law 904 = .ok (.aload_n 2, 1) := by decide +kernel
theorem dL_law_905 : decode cL_law 905 = .ok (.aload_n 0, 1) := by decide +kernel
theorem dL_law_906 : decode cL_law 906 = .ok (.iload 4, 2) := by decide +kernel
theorem dL_law_908 : decode cL_law 908 = .ok (.iconst 1, 1) := by decide +kernel
theorem dL_law_909 : decode cL_law 909 = .ok (.iadd, 1) := by decide +kernel
theorem dL_law_910 : decode cL_law 910 = .ok (.iaload, 1) := by decide +kernel
theorem dL_law_911 : decode cL_law 911 = .ok (.aload_n 0, 1) := by decide +kernel
theorem dL_law_912 : decode cL_law 912 = .ok (.iload 4, 2) := by decide +kernel
theorem dL_law_914 : decode cL_law 914 = .ok (.iconst 2, 1) := by decide +kernel
theorem dL_law_915 : decode cL_law 915 = .ok (.iadd, 1) := by decide +kernel
theorem dL_law_916 : decode cL_law 916 = .ok (.iaload, 1) := by decide +kernel
theorem dL_law_917 : decode cL_law 917 = .ok (.ifCond .eq 7, 3) := by decide +kernel
theorem dL_law_920 : decode cL_law 920 = .ok (.iconst 1, 1) := by decide +kernel
theorem dL_law_921 : decode cL_law 921 = .ok (.goto 4, 3) := by decide +kernel
theorem dL_law_924 : decode cL_law 924 = .ok (.iconst 0, 1) := by decide +kernel
theorem dL_law_925 : decode cL_law 925 = .ok (.invokevirtual 122, 3) := by decide +kernel
theorem dL_law_928 : decode cL_law 928 = .ok (.pop, 1) := by decide +kernel
theorem dL_law_929 : decode cL_law 929 = .ok (.goto 231, 3) := by decide +kernel
theorem dL_law_932 : decode cL_law 932 = .ok (.aload_n 1, 1) := by decide +kernel
theorem dL_law_933 : decode cL_law 933 = .ok (.aload_n 0, 1) := by decide +kernel
theorem dL_law_934 : decode cL_law 934 = .ok (.iload 4, 2) := by decide +kernel
theorem dL_law_936 : decode cL_law 936 = .ok (.iconst 1, 1) := by decide +kernel
theorem dL_law_937 : decode cL_law 937 = .ok (.iadd, 1) := by decide +kernel
theorem dL_law_938 : decode cL_law 938 = .ok (.iaload, 1) := by decide +kernel
theorem dL_law_939 : decode cL_law 939 = .ok (.aload_n 0, 1) := by decide +kernel
theorem dL_law_940 : decode cL_law 940 = .ok (.iload 4, 2) := by decide +kernel
theorem dL_law_942 : decode cL_law 942 = .ok (.iconst 2, 1) := by decide +kernel
theorem dL_law_943 : decode cL_law 943 = .ok (.iadd, 1) := by decide +kernel
theorem dL_law_944 : decode cL_law 944 = .ok (.iaload, 1) := by decide +kernel
theorem dL_law_945 : decode cL_law 945 = .ok (.invokevirtual 123, 3) := by decide +kernel
theorem dL_law_948 : decode cL_law 948 = .ok (.pop, 1) := by decide +kernel
theorem dL_law_949 : decode cL_law 949 = .ok (.aload_n 2, 1) := by decide +kernel
theorem dL_law_950 : decode cL_law 950 = .ok (.aload_n 0, 1) := by decide +kernel
theorem dL_law_951 : decode cL_law 951 = .ok (.iload 4, 2) := by decide +kernel
theorem dL_law_953 : decode cL_law 953 = .ok (.iconst 1, 1) := by decide +kernel
theorem dL_law_954 : decode cL_law 954 = .ok (.iadd, 1) := by decide +kernel
theorem dL_law_955 : decode cL_law 955 = .ok (.iaload, 1) := by decide +kernel
theorem dL_law_956 : decode cL_law 956 = .ok (.aload_n 0, 1) := by decide +kernel
theorem dL_law_957 : decode cL_law 957 = .ok (.iload 4, 2) := by decide +kernel
theorem dL_law_959 : decode cL_law 959 = .ok (.iconst 2, 1) := by decide +kernel
theorem dL_law_960 : decode cL_law 960 = .ok (.iadd, 1) := by decide +kernel
theorem dL_law_961 : decode cL_law 961 = .ok (.iaload, 1) := by decide +kernel
theorem dL_law_962 : decode cL_law 962 = .ok (.invokevirtual 126, 3) := by decide +kernel
theorem dL_law_965 : decode cL_law 965 = .ok (.pop, 1) := by decide +kernel
theorem dL_law_966 : decode cL_law 966 = .ok (.goto 194, 3) := by decide +kernel
theorem dL_law_969 : decode cL_law 969 = .ok (.aload_n 1, 1) := by decide +kernel
theorem dL_law_970 : decode cL_law 970 = .ok (.aload_n 0, 1) := by decide +kernel
theorem dL_law_971 : decode cL_law 971 = .ok (.iload 4, 2) := by decide +kernel
theorem dL_law_973 : decode cL_law 973 = .ok (.iconst 1, 1) := by decide +kernel
theorem dL_law_974 : decode cL_law 974 = .ok (.iadd, 1) := by decide +kernel
theorem dL_law_975 : decode cL_law 975 = .ok (.iaload, 1) := by decide +kernel
theorem dL_law_976 : decode cL_law 976 = .ok (.aload_n 0, 1) := by decide +kernel
theorem dL_law_977 : decode cL_law 977 = .ok (.iload 4, 2) := by decide +kernel
theorem dL_law_979 : decode cL_law 979 = .ok (.iconst 2, 1) := by decide +kernel
theorem dL_law_980 : decode cL_law 980 = .ok (.iadd, 1) := by decide +kernel
theorem dL_law_981 : decode cL_law 981 = .ok (.iaload, 1) := by decide +kernel
theorem dL_law_982 : decode cL_law 982 = .ok (.invokevirtual 127, 3) := by decide +kernel
theorem dL_law_985 : decode cL_law 985 = .ok (.pop, 1) := by decide +kernel
theorem dL_law_986 : decode cL_law 986 = .ok (.aload_n 2, 1) := by decide +kernel
theorem dL_law_987 : decode cL_law 987 = .ok (.aload_n 0, 1) := by decide +kernel
theorem dL_law_988 : decode cL_law 988 = .ok (.iload 4, 2) := by decide +kernel
theorem dL_law_990 : decode cL_law 990 = .ok (.iconst 1, 1) := by decide +kernel
theorem dL_law_991 : decode cL_law 991 = .ok (.iadd, 1) := by decide +kernel
theorem dL_law_992 : decode cL_law 992 = .ok (.iaload, 1) := by decide +kernel
theorem dL_law_993 : decode cL_law 993 = .ok (.aload_n 0, 1) := by decide +kernel
theorem dL_law_994 : decode cL_law 994 = .ok (.iload 4, 2) := by decide +kernel
theorem dL_law_996 : decode cL_law 996 = .ok (.iconst 2, 1) := by decide +kernel
theorem dL_law_997 : decode cL_law 997 = .ok (.iadd, 1) := by decide +kernel
theorem dL_law_998 : decode cL_law 998 = .ok (.iaload, 1) := by decide +kernel
theorem dL_law_999 : decode cL_law 999 = .ok (.invokevirtual 130, 3) := by decide +kernel
theorem dL_law_1002 : decode cL_law 1002 = .ok (.pop, 1) := by decide +kernel
theorem dL_law_1003 : decode cL_law 1003 = .ok (.goto 157, 3) := by decide +kernel
theorem dL_law_1006 : decode cL_law 1006 = .ok (.aload_n 1, 1) := by decide +kernel
theorem dL_law_1007 : decode cL_law 1007 = .ok (.aload_n 0, 1) := by decide +kernel
theorem dL_law_1008 : decode cL_law 1008 = .ok (.iload 4, 2) := by decide +kernel
theorem dL_law_1010 : decode cL_law 1010 = .ok (.iconst 1, 1) := by decide +kernel
theorem dL_law_1011 : decode cL_law 1011 = .ok (.iadd, 1) := by decide +kernel
theorem dL_law_1012 : decode cL_law 1012 = .ok (.iaload, 1) := by decide +kernel
theorem dL_law_1013 : decode cL_law 1013 = .ok (.invokevirtual 131, 3) := by decide +kernel
theorem dL_law_1016 : decode cL_law 1016 = .ok (.aload_n 2, 1) := by decide +kernel
theorem dL_law_1017 : decode cL_law 1017 = .ok (.aload_n 0, 1) := by decide +kernel
theorem dL_law_1018 : decode cL_law 1018 = .ok (.iload 4, 2) := by decide +kernel
theorem dL_law_1020 : decode cL_law 1020 = .ok (.iconst 1, 1) := by decide +kernel
theorem dL_law_1021 : decode cL_law 1021 = .ok (.iadd, 1) := by decide +kernel
theorem dL_law_1022 : decode cL_law 1022 = .ok (.iaload, 1) := by decide +kernel
theorem dL_law_1023 : decode cL_law 1023 = .ok (.invokevirtual 134, 3) := by decide +kernel
theorem dL_law_1026 : decode cL_law 1026 = .ok (.if_icmp .eq 134, 3) := by decide +kernel
theorem dL_law_1029 : decode cL_law 1029 = .ok (.iconst 0, 1) := by decide +kernel
theorem dL_law_1030 : decode cL_law 1030 = .ok (.ireturn, 1) := by decide +kernel
theorem dL_law_1031 : decode cL_law 1031 = .ok (.aload_n 1, 1) := by decide +kernel
theorem dL_law_1032 : decode cL_law 1032 = .ok (.invokevirtual 135, 3) := by decide +kernel
theorem dL_law_1035 : decode cL_law 1035 = .ok (.pop, 1) := by decide +kernel
theorem dL_law_1036 : decode cL_law 1036 = .ok (.aload_n 2, 1) := by decide +kernel
theorem dL_law_1037 : decode cL_law 1037 = .ok (.invokevirtual 138, 3) := by decide +kernel
theorem dL_law_1040 : decode cL_law 1040 = .ok (.pop, 1) := by decide +kernel
theorem dL_law_1041 : decode cL_law 1041 = .ok (.goto 119, 3) := by decide +kernel
theorem dL_law_1044 : decode cL_law 1044 = .ok (.aload_n 1, 1) := by decide +kernel
theorem dL_law_1045 : decode cL_law 1045 = .ok (.aload_n 0, 1) := by decide +kernel
theorem dL_law_1046 : decode cL_law 1046 = .ok (.iload 4, 2) := by decide +kernel
theorem dL_law_1048 : decode cL_law 1048 = .ok (.iconst 1, 1) := by decide +kernel
theorem dL_law_1049 : decode cL_law 1049 = .ok (.iadd, 1) := by decide +kernel
theorem dL_law_1050 : decode cL_law 1050 = .ok (.iaload, 1) := by decide +kernel
theorem dL_law_1051 : decode cL_law 1051 = .ok (.invokevirtual 139, 3) := by decide +kernel
theorem dL_law_1054 : decode cL_law 1054 = .ok (.pop, 1) := by decide +kernel
theorem dL_law_1055 : decode cL_law 1055 = .ok (.aload_n 2, 1) := by decide +kernel
theorem dL_law_1056 : decode cL_law 1056 = .ok (.aload_n 0, 1) := by decide +kernel
theorem dL_law_1057 : decode cL_law 1057 = .ok (.iload 4, 2) := by decide +kernel
theorem dL_law_1059 : decode cL_law 1059 = .ok (.iconst 1, 1) := by decide +kernel
theorem dL_law_1060 : decode cL_law 1060 = .ok (.iadd, 1) := by decide +kernel
theorem dL_law_1061 : decode cL_law 1061 = .ok (.iaload, 1) := by decide +kernel
theorem dL_law_1062 : decode cL_law 1062 = .ok (.invokevirtual 142, 3) := by decide +kernel
theorem dL_law_1065 : decode cL_law 1065 = .ok (.pop, 1) := by decide +kernel
theorem dL_law_1066 : decode cL_law 1066 = .ok (.goto 94, 3) := by decide +kernel
theorem dL_law_1069 : decode cL_law 1069 = .ok (.aload_n 1, 1) := by decide +kernel
theorem dL_law_1070 : decode cL_law 1070 = .ok (.invokevirtual 143, 3) := by decide +kernel
theorem dL_law_1073 : decode cL_law 1073 = .ok (.pop, 1) := by decide +kernel
theorem dL_law_1074 : decode cL_law 1074 = .ok (.aload_n 2, 1) := by decide +kernel
theorem dL_law_1075 : decode cL_law 1075 = .ok (.invokevirtual 146, 3) := by decide +kernel
theorem dL_law_1078 : decode cL_law 1078 = .ok (.pop, 1) := by decide +kernel
theorem dL_law_1079 : decode cL_law 1079 = .ok (.goto 81, 3) := by decide +kernel
theorem dL_law_1082 : decode cL_law 1082 = .ok (.aload_n 1, 1) := by decide +kernel
theorem dL_law_1083 : decode cL_law 1083 = .ok (.aload_n 0, 1) := by decide +kernel
theorem dL_law_1084 : decode cL_law 1084 = .ok (.iload 4, 2) := by decide +kernel
theorem dL_law_1086 : decode cL_law 1086 = .ok (.iconst 1, 1) := by decide +kernel
theorem dL_law_1087 : decode cL_law 1087 = .ok (.iadd, 1) := by decide +kernel
theorem dL_law_1088 : decode cL_law 1088 = .ok (.iaload, 1) := by decide +kernel
theorem dL_law_1089 : decode cL_law 1089 = .ok (.aload_n 0, 1) := by decide +kernel
theorem dL_law_1090 : decode cL_law 1090 = .ok (.iload 4, 2) := by decide +kernel
theorem dL_law_1092 : decode cL_law 1092 = .ok (.iconst 2, 1) := by decide +kernel
theorem dL_law_1093 : decode cL_law 1093 = .ok (.iadd, 1) := by decide +kernel
theorem dL_law_1094 : decode cL_law 1094 = .ok (.iaload, 1) := by decide +kernel
theorem dL_law_1095 : decode cL_law 1095 = .ok (.ifCond .eq 7, 3) := by decide +kernel
theorem dL_law_1098 : decode cL_law 1098 = .ok (.iconst 1, 1) := by decide +kernel
theorem dL_law_1099 : decode cL_law 1099 = .ok (.goto 4, 3) := by decide +kernel
theorem dL_law_1102 : decode cL_law 1102 = .ok (.iconst 0, 1) := by decide +kernel
theorem dL_law_1103 : decode cL_law 1103 = .ok (.invokevirtual 147, 3) := by decide +kernel
theorem dL_law_1106 : decode cL_law 1106 = .ok (.pop, 1) := by decide +kernel
theorem dL_law_1107 : decode cL_law 1107 = .ok (.aload_n 2, 1) := by decide +kernel
theorem dL_law_1108 : decode cL_law 1108 = .ok (.aload_n 0, 1) := by decide +kernel
theorem dL_law_1109 : decode cL_law 1109 = .ok (.iload 4, 2) := by decide +kernel
theorem dL_law_1111 : decode cL_law 1111 = .ok (.iconst 1, 1) := by decide +kernel
theorem dL_law_1112 : decode cL_law 1112 = .ok (.iadd, 1) := by decide +kernel
theorem dL_law_1113 : decode cL_law 1113 = .ok (.iaload, 1) := by decide +kernel
theorem dL_law_1114 : decode cL_law 1114 = .ok (.aload_n 0, 1) := by decide +kernel
theorem dL_law_1115 : decode cL_law 1115 = .ok (.iload 4, 2) := by decide +kernel
theorem dL_law_1117 : decode cL_law 1117 = .ok (.iconst 2, 1) := by decide +kernel
theorem dL_law_1118 : decode cL_law 1118 = .ok (.iadd, 1) := by decide +kernel
theorem dL_law_1119 : decode cL_law 1119 = .ok (.iaload, 1) := by decide +kernel
theorem dL_law_1120 : decode cL_law 1120 = .ok (.ifCond .eq 7, 3) := by decide +kernel
theorem dL_law_1123 : decode cL_law 1123 = .ok (.iconst 1, 1) := by decide +kernel
theorem dL_law_1124 : decode cL_law 1124 = .ok (.goto 4, 3) := by decide +kernel
theorem dL_law_1127 : decode cL_law 1127 = .ok (.iconst 0, 1) := by decide +kernel
theorem dL_law_1128 : decode cL_law 1128 = .ok (.invokevirtual 151, 3) := by decide +kernel
theorem dL_law_1131 : decode cL_law 1131 = .ok (.pop, 1) := by decide +kernel
theorem dL_law_1132 : decode cL_law 1132 = .ok (.goto 28, 3) := by decide +kernel
theorem dL_law_1135 : decode cL_law 1135 = .ok (.aload_n 1, 1) := by decide +kernel
theorem dL_law_1136 : decode cL_law 1136 = .ok (.aload_n 0, 1) := by decide +kernel
theorem dL_law_1137 : decode cL_law 1137 = .ok (.iload 4, 2) := by decide +kernel
theorem dL_law_1139 : decode cL_law 1139 = .ok (.iconst 1, 1) := by decide +kernel
theorem dL_law_1140 : decode cL_law 1140 = .ok (.iadd, 1) := by decide +kernel
theorem dL_law_1141 : decode cL_law 1141 = .ok (.iaload, 1) := by decide +kernel
theorem dL_law_1142 : decode cL_law 1142 = .ok (.invokevirtual 152, 3) := by decide +kernel
theorem dL_law_1145 : decode cL_law 1145 = .ok (.pop, 1) := by decide +kernel
theorem dL_law_1146 : decode cL_law 1146 = .ok (.aload_n 2, 1) := by decide +kernel
theorem dL_law_1147 : decode cL_law 1147 = .ok (.aload_n 0, 1) := by decide +kernel
theorem dL_law_1148 : decode cL_law 1148 = .ok (.iload 4, 2) := by decide +kernel
theorem dL_law_1150 : decode cL_law 1150 = .ok (.iconst 1, 1) := by decide +kernel
theorem dL_law_1151 : decode cL_law 1151 = .ok (.iadd, 1) := by decide +kernel
theorem dL_law_1152 : decode cL_law 1152 = .ok (.iaload, 1) := by decide +kernel
theorem dL_law_1153 : decode cL_law 1153 = .ok (.invokevirtual 155, 3) := by decide +kernel
theorem dL_law_1156 : decode cL_law 1156 = .ok (.pop, 1) := by decide +kernel
theorem dL_law_1157 : decode cL_law 1157 = .ok (.goto 3, 3) := by decide +kernel
theorem dL_law_1160 : decode cL_law 1160 = .ok (.iinc 4 6, 3) := by decide +kernel
theorem dL_law_1163 : decode cL_law 1163 = .ok (.goto (-1140), 3) := by decide +kernel
theorem dL_law_1166 : decode cL_law 1166 = .ok (.iconst 1, 1) := by decide +kernel
theorem dL_law_1167 : decode cL_law 1167 = .ok (.ireturn, 1) := by decide +kernel
