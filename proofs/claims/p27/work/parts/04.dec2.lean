theorem dX3_trace_218 : decode cX3_trace 218 = .ok (.iload 8, 2) := by decide +kernel
theorem dX3_trace_220 : decode cX3_trace 220 = .ok (.iaload, 1) := by decide +kernel
theorem dX3_trace_221 : decode cX3_trace 221 = .ok (.istore 10, 2) := by decide +kernel
theorem dX3_trace_223 : decode cX3_trace 223 = .ok (.aload_n 0, 1) := by decide +kernel
theorem dX3_trace_224 : decode cX3_trace 224 = .ok (.iload 9, 2) := by decide +kernel
theorem dX3_trace_226 : decode cX3_trace 226 = .ok (.iload 10, 2) := by decide +kernel
theorem dX3_trace_228 : decode cX3_trace 228 = .ok (.aload_n 1, 1) := by decide +kernel
theorem dX3_trace_229 : decode cX3_trace 229 = .ok (.getfield 37, 3) := by decide +kernel
theorem dX3_trace_232 : decode cX3_trace 232 = .ok (.iload 10, 2) := by decide +kernel
theorem dX3_trace_234 : decode cX3_trace 234 = .ok (.iaload, 1) := by decide +kernel
theorem dX3_trace_235 : decode cX3_trace 235 = .ok (.iload 8, 2) := by decide +kernel
theorem dX3_trace_237 : decode cX3_trace 237 = .ok (.if_icmp .ne 7, 3) := by decide +kernel
theorem dX3_trace_240 : decode cX3_trace 240 = .ok (.iconst 1, 1) := by decide +kernel
theorem dX3_trace_241 : decode cX3_trace 241 = .ok (.goto 4, 3) := by decide +kernel
theorem dX3_trace_244 : decode cX3_trace 244 = .ok (.iconst 0, 1) := by decide +kernel
theorem dX3_trace_245 : decode cX3_trace 245 = .ok (.invokevirtual 60, 3) := by decide +kernel
theorem dX3_trace_248 : decode cX3_trace 248 = .ok (.aload_n 2, 1) := by decide +kernel
theorem dX3_trace_249 : decode cX3_trace 249 = .ok (.getfield 64, 3) := by decide +kernel
theorem dX3_trace_252 : decode cX3_trace 252 = .ok (.iload 8, 2) := by decide +kernel
theorem dX3_trace_254 : decode cX3_trace 254 = .ok (.iaload, 1) := by decide +kernel
theorem dX3_trace_255 : decode cX3_trace 255 = .ok (.istore 8, 2) := by decide +kernel
theorem dX3_trace_257 : decode cX3_trace 257 = .ok (.iinc 9 1, 3) := by decide +kernel
theorem dX3_trace_260 : decode cX3_trace 260 = .ok (.goto (-69), 3) := by decide +kernel
theorem dX3_trace_263 : decode cX3_trace 263 = .ok (.aload_n 0, 1) := by decide +kernel
theorem dX3_trace_264 : decode cX3_trace 264 = .ok (.aload_n 1, 1) := by decide +kernel
theorem dX3_trace_265 : decode cX3_trace 265 = .ok (.iload_n 3, 1) := by decide +kernel
theorem dX3_trace_266 : decode cX3_trace 266 = .ok (.invokevirtual 67, 3) := by decide +kernel
theorem dX3_trace_269 : decode cX3_trace 269 = .ok (.return_, 1) := by decide +kernel
theorem dX3_put_0 : decode cX3_put 0 = .ok (.aload_n 0, 1) := by decide +kernel
theorem dX3_put_1 : decode cX3_put 1 = .ok (.getfield 21, 3) := by decide +kernel
theorem dX3_put_4 : decode cX3_put 4 = .ok (.iload_n 1, 1) := by decide +kernel
theorem dX3_put_5 : decode cX3_put 5 = .ok (.iload_n 2, 1) := by decide +kernel
theorem dX3_put_6 : decode cX3_put 6 = .ok (.iastore, 1) := by decide +kernel
theorem dX3_put_7 : decode cX3_put 7 = .ok (.aload_n 0, 1) := by decide +kernel
theorem dX3_put_8 : decode cX3_put 8 = .ok (.getfield 25, 3) := by decide +kernel
theorem dX3_put_11 : decode cX3_put 11 = .ok (.iload_n 1, 1) := by decide +kernel
theorem dX3_put_12 : decode cX3_put 12 = .ok (.iload_n 3, 1) := by decide +kernel
theorem dX3_put_13 : decode cX3_put 13 = .ok (.bastore, 1) := by decide +kernel
theorem dX3_put_14 : decode cX3_put 14 = .ok (.aload_n 0, 1) := by decide +kernel
theorem dX3_put_15 : decode cX3_put 15 = .ok (.dup, 1) := by decide +kernel
theorem dX3_put_16 : decode cX3_put 16 = .ok (.getfield 9, 3) := by decide +kernel
theorem dX3_put_19 : decode cX3_put 19 = .ok (.iconst 1, 1) := by decide +kernel
theorem dX3_put_20 : decode cX3_put 20 = .ok (.iadd, 1) := by decide +kernel
theorem dX3_put_21 : decode cX3_put 21 = .ok (.putfield 9, 3) := by decide +kernel
theorem dX3_put_24 : decode cX3_put 24 = .ok (.return_, 1) := by decide +kernel
theorem dX3_findLeaving_0 : decode cX3_findLeaving 0 = .ok (.aload_n 0, 1) := by decide +kernel
theorem dX3_findLeaving_1 : decode cX3_findLeaving 1 = .ok (.ldc 71, 2) := by decide +kernel
theorem dX3_findLeaving_3 : decode cX3_findLeaving 3 = .ok (.putfield 18, 3) := by decide +kernel
theorem dX3_findLeaving_6 : decode cX3_findLeaving 6 = .ok (.aload_n 0, 1) := by decide +kernel
theorem dX3_findLeaving_7 : decode cX3_findLeaving 7 = .ok (.iconst 0, 1) := by decide +kernel
theorem dX3_findLeaving_8 : decode cX3_findLeaving 8 = .ok (.putfield 29, 3) := by decide +kernel
theorem dX3_findLeaving_11 : decode cX3_findLeaving 11 = .ok (.iconst 0, 1) := by decide +kernel
theorem dX3_findLeaving_12 : decode cX3_findLeaving 12 = .ok (.istore_n 3, 1) := by decide +kernel
theorem dX3_findLeaving_13 : decode cX3_findLeaving 13 = .ok (.iload_n 3, 1) := by decide +kernel
theorem dX3_findLeaving_14 : decode cX3_findLeaving 14 = .ok (.aload_n 0, 1) := by decide +kernel
theorem dX3_findLeaving_15 : decode cX3_findLeaving 15 = .ok (.getfield 9, 3) := by decide +kernel
theorem dX3_findLeaving_18 : decode cX3_findLeaving 18 = .ok (.if_icmp .ge 67, 3) := by decide +kernel
theorem dX3_findLeaving_21 : decode cX3_findLeaving 21 = .ok (.aload_n 0, 1) := by decide +kernel
theorem dX3_findLeaving_22 : decode cX3_findLeaving 22 = .ok (.getfield 21, 3) := by decide +kernel
theorem dX3_findLeaving_25 : decode cX3_findLeaving 25 = .ok (.iload_n 3, 1) := by decide +kernel
theorem dX3_findLeaving_26 : decode cX3_findLeaving 26 = .ok (.iaload, 1) := by decide +kernel
theorem dX3_findLeaving_27 : decode cX3_findLeaving 27 = .ok (.istore 4, 2) := by decide +kernel
theorem dX3_findLeaving_29 : decode cX3_findLeaving 29 = .ok (.iload 4, 2) := by decide +kernel
theorem dX3_findLeaving_31 : decode cX3_findLeaving 31 = .ok (.iload_n 2, 1) := by decide +kernel
theorem dX3_findLeaving_32 : decode cX3_findLeaving 32 = .ok (.if_icmp .ne 13, 3) := by decide +kernel
theorem dX3_findLeaving_35 : decode cX3_findLeaving 35 = .ok (.aload_n 1, 1) := by decide +kernel
theorem dX3_findLeaving_36 : decode cX3_findLeaving 36 = .ok (.getfield 72, 3) := by decide +kernel
theorem dX3_findLeaving_39 : decode cX3_findLeaving 39 = .ok (.iload 4, 2) := by decide +kernel
theorem dX3_findLeaving_41 : decode cX3_findLeaving 41 = .ok (.iaload, 1) := by decide +kernel
theorem dX3_findLeaving_42 : decode cX3_findLeaving 42 = .ok (.goto 15, 3) := by decide +kernel
theorem dX3_findLeaving_45 : decode cX3_findLeaving 45 = .ok (.aload_n 1, 1) := by decide +kernel
theorem dX3_findLeaving_46 : decode cX3_findLeaving 46 = .ok (.iload 4, 2) := by decide +kernel
theorem dX3_findLeaving_48 : decode cX3_findLeaving 48 = .ok (.aload_n 0, 1) := by decide +kernel
theorem dX3_findLeaving_49 : decode cX3_findLeaving 49 = .ok (.getfield 25, 3) := by decide +kernel
theorem dX3_findLeaving_52 : decode cX3_findLeaving 52 = .ok (.iload_n 3, 1) := by decide +kernel
theorem dX3_findLeaving_53 : decode cX3_findLeaving 53 = .ok (.baload, 1) := by decide +kernel
theorem dX3_findLeaving_54 : decode cX3_findLeaving 54 = .ok (.invokevirtual 75, 3) := by decide +kernel
theorem dX3_findLeaving_57 : decode cX3_findLeaving 57 = .ok (.istore 5, 2) := by decide +kernel
theorem dX3_findLeaving_59 : decode cX3_findLeaving 59 = .ok (.iload 5, 2) := by decide +kernel
theorem dX3_findLeaving_61 : decode cX3_findLeaving 61 = .ok (.aload_n 0, 1) := by decide +kernel
theorem dX3_findLeaving_62 : decode cX3_findLeaving 62 = .ok (.getfield 18, 3) := by decide +kernel
theorem dX3_findLeaving_65 : decode cX3_findLeaving 65 = .ok (.if_icmp .gt 14, 3) := by decide +kernel
theorem dX3_findLeaving_68 : decode cX3_findLeaving 68 = .ok (.aload_n 0, 1) := by decide +kernel
theorem dX3_findLeaving_69 : decode cX3_findLeaving 69 = .ok (.iload 5, 2) := by decide +kernel
theorem dX3_findLeaving_71 : decode cX3_findLeaving 71 = .ok (.putfield 18, 3) := by decide +kernel
theorem dX3_findLeaving_74 : decode cX3_findLeaving 74 = .ok (.aload_n 0, 1) := by decide +kernel
theorem dX3_findLeaving_75 : decode cX3_findLeaving 75 = .ok (.iload_n 3, 1) := by decide +kernel
theorem dX3_findLeaving_76 : decode cX3_findLeaving 76 = .ok (.putfield 29, 3) := by decide +kernel
theorem dX3_findLeaving_79 : decode cX3_findLeaving 79 = .ok (.iinc 3 1, 3) := by decide +kernel
theorem dX3_findLeaving_82 : decode cX3_findLeaving 82 = .ok (.goto (-69), 3) := by decide +kernel
theorem dX3_findLeaving_85 : decode cX3_findLeaving 85 = .ok (.return_, 1) := by decide +kernel
theorem dX3_leavingWay_0 : decode cX3_leavingWay 0 = .ok (.aload_n 0, 1) := by decide +kernel
theorem dX3_leavingWay_1 : decode cX3_leavingWay 1 = .ok (.getfield 21, 3) := by decide +kernel
theorem dX3_leavingWay_4 : decode cX3_leavingWay 4 = .ok (.aload_n 0, 1) := by decide +kernel
theorem dX3_leavingWay_5 : decode cX3_leavingWay 5 = .ok (.getfield 29, 3) := by decide +kernel
theorem dX3_leavingWay_8 : decode cX3_leavingWay 8 = .ok (.iaload, 1) := by decide +kernel
theorem dX3_leavingWay_9 : decode cX3_leavingWay 9 = .ok (.ireturn, 1) := by decide +kernel
theorem dX3_leavesAlong_0 : decode cX3_leavesAlong 0 = .ok (.aload_n 0, 1) := by decide +kernel
theorem dX3_leavesAlong_1 : decode cX3_leavesAlong 1 = .ok (.getfield 25, 3) := by decide +kernel
theorem dX3_leavesAlong_4 : decode cX3_leavesAlong 4 = .ok (.aload_n 0, 1) := by decide +kernel
theorem dX3_leavesAlong_5 : decode cX3_leavesAlong 5 = .ok (.getfield 29, 3) := by decide +kernel
theorem dX3_leavesAlong_8 : decode cX3_leavesAlong 8 = .ok (.baload, 1) := by decide +kernel
theorem dX3_leavesAlong_9 : decode cX3_leavesAlong 9 = .ok (.ireturn, 1) := by decide +kernel
theorem dX4_init_0 : decode cX4_init 0 = .ok (.aload_n 0, 1) := by decide +kernel
theorem dX4_init_1 : decode cX4_init 1 = .ok (.invokespecial 3, 3) := by decide +kernel
theorem dX4_init_4 : decode cX4_init 4 = .ok (.aload_n 0, 1) := by decide +kernel
theorem dX4_init_5 : decode cX4_init 5 = .ok (.sipush 192, 3) := by decide +kernel
theorem dX4_init_8 : decode cX4_init 8 = .ok (.newarray .byte, 2) := by decide +kernel
theorem dX4_init_10 : decode cX4_init 10 = .ok (.putfield 9, 3) := by decide +kernel
theorem dX4_init_13 : decode cX4_init 13 = .ok (.aload_n 0, 1) := by decide +kernel
theorem dX4_init_14 : decode cX4_init 14 = .ok (.iconst 0, 1) := by decide +kernel
theorem dX4_init_15 : decode cX4_init 15 = .ok (.putfield 15, 3) := by decide +kernel
theorem dX4_init_18 : decode cX4_init 18 = .ok (.return_, 1) := by decide +kernel
theorem dX4_write_0 : decode cX4_write 0 = .ok (.aload_n 0, 1) := by decide +kernel
theorem dX4_write_1 : decode cX4_write 1 = .ok (.iconst 0, 1) := by decide +kernel
theorem dX4_write_2 : decode cX4_write 2 = .ok (.putfield 15, 3) := by decide +kernel
theorem dX4_write_5 : decode cX4_write 5 = .ok (.iconst 0, 1) := by decide +kernel
theorem dX4_write_6 : decode cX4_write 6 = .ok (.istore_n 3, 1) := by decide +kernel
theorem dX4_write_7 : decode cX4_write 7 = .ok (.iload_n 3, 1) := by decide +kernel
theorem dX4_write_8 : decode cX4_write 8 = .ok (.aload_n 1, 1) := by decide +kernel
theorem dX4_write_9 : decode cX4_write 9 = .ok (.getfield 19, 3) := by decide +kernel
theorem dX4_write_12 : decode cX4_write 12 = .ok (.if_icmp .ge 53, 3) := by decide +kernel
theorem dX4_write_15 : decode cX4_write 15 = .ok (.iload_n 3, 1) := by decide +kernel
theorem dX4_write_16 : decode cX4_write 16 = .ok (.aload_n 2, 1) := by decide +kernel
theorem dX4_write_17 : decode cX4_write 17 = .ok (.arraylength, 1) := by decide +kernel
theorem dX4_write_18 : decode cX4_write 18 = .ok (.if_icmp .ge 47, 3) := by decide +kernel
theorem dX4_write_21 : decode cX4_write 21 = .ok (.aload_n 1, 1) := by decide +kernel
theorem dX4_write_22 : decode cX4_write 22 = .ok (.getfield 24, 3) := by decide +kernel
theorem dX4_write_25 : decode cX4_write 25 = .ok (.iload_n 3, 1) := by decide +kernel
theorem dX4_write_26 : decode cX4_write 26 = .ok (.iaload, 1) := by decide +kernel
theorem dX4_write_27 : decode cX4_write 27 = .ok (.ifCond .le 32, 3) := by decide +kernel
theorem dX4_write_30 : decode cX4_write 30 = .ok (.aload_n 0, 1) := by decide +kernel
theorem dX4_write_31 : decode cX4_write 31 = .ok (.aload_n 2, 1) := by decide +kernel
theorem dX4_write_32 : decode cX4_write 32 = .ok (.iload_n 3, 1) := by decide +kernel
theorem dX4_write_33 : decode cX4_write 33 = .ok (.laload, 1) := by decide +kernel
theorem dX4_write_34 : decode cX4_write 34 = .ok (.invokevirtual 28, 3) := by decide +kernel
theorem dX4_write_37 : decode cX4_write 37 = .ok (.aload_n 0, 1) := by decide +kernel
theorem dX4_write_38 : decode cX4_write 38 = .ok (.bipush 32, 2) := by decide +kernel
theorem dX4_write_40 : decode cX4_write 40 = .ok (.invokevirtual 32, 3) := by decide +kernel
theorem dX4_write_43 : decode cX4_write 43 = .ok (.aload_n 0, 1) := by decide +kernel
theorem dX4_write_44 : decode cX4_write 44 = .ok (.aload_n 1, 1) := by decide +kernel
theorem dX4_write_45 : decode cX4_write 45 = .ok (.getfield 24, 3) := by decide +kernel
theorem dX4_write_48 : decode cX4_write 48 = .ok (.iload_n 3, 1) := by decide +kernel
theorem dX4_write_49 : decode cX4_write 49 = .ok (.iaload, 1) := by decide +kernel
theorem dX4_write_50 : decode cX4_write 50 = .ok (.invokevirtual 36, 3) := by decide +kernel
theorem dX4_write_53 : decode cX4_write 53 = .ok (.aload_n 0, 1) := by decide +kernel
theorem dX4_write_54 : decode cX4_write 54 = .ok (.bipush 59, 2) := by decide +kernel
theorem dX4_write_56 : decode cX4_write 56 = .ok (.invokevirtual 32, 3) := by decide +kernel
theorem dX4_write_59 : decode cX4_write 59 = .ok (.iinc 3 1, 3) := by decide +kernel
theorem dX4_write_62 : decode cX4_write 62 = .ok (.goto (-55), 3) := by decide +kernel
theorem dX4_write_65 : decode cX4_write 65 = .ok (.return_, 1) := by decide +kernel
theorem dX4_writeName_0 : decode cX4_writeName 0 = .ok (.bipush 40, 2) := by decide +kernel
theorem dX4_writeName_2 : decode cX4_writeName 2 = .ok (.istore_n 3, 1) := by decide +kernel
theorem dX4_writeName_3 : decode cX4_writeName 3 = .ok (.iload_n 3, 1) := by decide +kernel
theorem dX4_writeName_4 : decode cX4_writeName 4 = .ok (.ifCond .lt 30, 3) := by decide +kernel
theorem dX4_writeName_7 : decode cX4_writeName 7 = .ok (.lload_n 1, 1) := by decide +kernel
theorem dX4_writeName_8 : decode cX4_writeName 8 = .ok (.iload_n 3, 1) := by decide +kernel
theorem dX4_writeName_9 : decode cX4_writeName 9 = .ok (.lshr, 1) := by decide +kernel
theorem dX4_writeName_10 : decode cX4_writeName 10 = .ok (.l2i, 1) := by decide +kernel
theorem dX4_writeName_11 : decode cX4_writeName 11 = .ok (.sipush 255, 3) := by decide +kernel
theorem dX4_writeName_14 : decode cX4_writeName 14 = .ok (.iand, 1) := by decide +kernel
theorem dX4_writeName_15 : decode cX4_writeName 15 = .ok (.istore 4, 2) := by decide +kernel
theorem dX4_writeName_17 : decode cX4_writeName 17 = .ok (.iload 4, 2) := by decide +kernel
theorem dX4_writeName_19 : decode cX4_writeName 19 = .ok (.ifCond .eq 9, 3) := by decide +kernel
theorem dX4_writeName_22 : decode cX4_writeName 22 = .ok (.aload_n 0, 1) := by decide +kernel
theorem dX4_writeName_23 : decode cX4_writeName 23 = .ok (.iload 4, 2) := by decide +kernel
theorem dX4_writeName_25 : decode cX4_writeName 25 = .ok (.invokevirtual 32, 3) := by decide +kernel
theorem dX4_writeName_28 : decode cX4_writeName 28 = .ok (.iinc 3 (-8), 3) := by decide +kernel
theorem dX4_writeName_31 : decode cX4_writeName 31 = .ok (.goto (-28), 3) := by decide +kernel
theorem dX4_writeName_34 : decode cX4_writeName 34 = .ok (.return_, 1) := by decide +kernel
theorem dX4_writeNumber_0 : decode cX4_writeNumber 0 = .ok (.iconst 0, 1) := by decide +kernel
theorem dX4_writeNumber_1 : decode cX4_writeNumber 1 = .ok (.istore_n 2, 1) := by decide +kernel
theorem dX4_writeNumber_2 : decode cX4_writeNumber 2 = .ok (.sipush 1000, 3) := by decide +kernel
theorem dX4_writeNumber_5 : decode cX4_writeNumber 5 = .ok (.istore_n 3, 1) := by decide +kernel
theorem dX4_writeNumber_6 : decode cX4_writeNumber 6 = .ok (.iload_n 3, 1) := by decide +kernel
theorem dX4_writeNumber_7 : decode cX4_writeNumber 7 = .ok (.iconst 1, 1) := by decide +kernel
theorem dX4_writeNumber_8 : decode cX4_writeNumber 8 = .ok (.if_icmp .lt 47, 3) := by decide +kernel
theorem dX4_writeNumber_11 : decode cX4_writeNumber 11 = .ok (.iload_n 1, 1) := by decide +kernel
theorem dX4_writeNumber_12 : decode cX4_writeNumber 12 = .ok (.iload_n 3, 1) := by decide +kernel
theorem dX4_writeNumber_13 : decode cX4_writeNumber 13 = .ok (.idiv, 1) := by decide +kernel
theorem dX4_writeNumber_14 : decode cX4_writeNumber 14 = .ok (.bipush 10, 2) := by decide +kernel
theorem dX4_writeNumber_16 : decode cX4_writeNumber 16 = .ok (.irem, 1) := by decide +kernel
theorem dX4_writeNumber_17 : decode cX4_writeNumber 17 = .ok (.istore 4, 2) := by decide +kernel
theorem dX4_writeNumber_19 : decode cX4_writeNumber 19 = .ok (.iload_n 2, 1) := by decide +kernel
theorem dX4_writeNumber_20 : decode cX4_writeNumber 20 = .ok (.ifCond .ne 8, 3) := by decide +kernel
theorem dX4_writeNumber_23 : decode cX4_writeNumber 23 = .ok (.iload 4, 2) := by decide +kernel
theorem dX4_writeNumber_25 : decode cX4_writeNumber 25 = .ok (.ifCond .le 7, 3) := by decide +kernel
theorem dX4_writeNumber_28 : decode cX4_writeNumber 28 = .ok (.iconst 1, 1) := by decide +kernel
theorem dX4_writeNumber_29 : decode cX4_writeNumber 29 = .ok (.goto 4, 3) := by decide +kernel
theorem dX4_writeNumber_32 : decode cX4_writeNumber 32 = .ok (.iconst 0, 1) := by decide +kernel
theorem dX4_writeNumber_33 : decode cX4_writeNumber 33 = .ok (.istore_n 2, 1) := by decide +kernel
theorem dX4_writeNumber_34 : decode cX4_writeNumber 34 = .ok (.iload_n 2, 1) := by decide +kernel
theorem dX4_writeNumber_35 : decode cX4_writeNumber 35 = .ok (.ifCond .eq 12, 3) := by decide +kernel
theorem dX4_writeNumber_38 : decode cX4_writeNumber 38 = .ok (.aload_n 0, 1) := by decide +kernel
theorem dX4_writeNumber_39 : decode cX4_writeNumber 39 = .ok (.bipush 48, 2) := by decide +kernel
theorem dX4_writeNumber_41 : decode cX4_writeNumber 41 = .ok (.iload 4, 2) := by decide +kernel
theorem dX4_writeNumber_43 : decode cX4_writeNumber 43 = .ok (.iadd, 1) := by decide +kernel
theorem dX4_writeNumber_44 : decode cX4_writeNumber 44 = .ok (.invokevirtual 32, 3) := by decide +kernel
theorem dX4_writeNumber_47 : decode cX4_writeNumber 47 = .ok (.iload_n 3, 1) := by decide +kernel
theorem dX4_writeNumber_48 : decode cX4_writeNumber 48 = .ok (.bipush 10, 2) := by decide +kernel
theorem dX4_writeNumber_50 : decode cX4_writeNumber 50 = .ok (.idiv, 1) := by decide +kernel
theorem dX4_writeNumber_51 : decode cX4_writeNumber 51 = .ok (.istore_n 3, 1) := by decide +kernel
theorem dX4_writeNumber_52 : decode cX4_writeNumber 52 = .ok (.goto (-46), 3) := by decide +kernel
theorem dX4_writeNumber_55 : decode cX4_writeNumber 55 = .ok (.return_, 1) := by decide +kernel
theorem dX4_put_0 : decode cX4_put 0 = .ok (.aload_n 0, 1) := by decide +kernel
theorem dX4_put_1 : decode cX4_put 1 = .ok (.getfield 15, 3) := by decide +kernel
theorem dX4_put_4 : decode cX4_put 4 = .ok (.sipush 192, 3) := by decide +kernel
theorem dX4_put_7 : decode cX4_put 7 = .ok (.if_icmp .ge 24, 3) := by decide +kernel
theorem dX4_put_10 : decode cX4_put 10 = .ok (.aload_n 0, 1) := by decide +kernel
theorem dX4_put_11 : decode cX4_put 11 = .ok (.getfield 9, 3) := by decide +kernel
theorem dX4_put_14 : decode cX4_put 14 = .ok (.aload_n 0, 1) := by decide +kernel
theorem dX4_put_15 : decode cX4_put 15 = .ok (.getfield 15, 3) := by decide +kernel
theorem dX4_put_18 : decode cX4_put 18 = .ok (.iload_n 1, 1) := by decide +kernel
theorem dX4_put_19 : decode cX4_put 19 = .ok (.i2b, 1) := by decide +kernel
theorem dX4_put_20 : decode cX4_put 20 = .ok (.bastore, 1) := by decide +kernel
theorem dX4_put_21 : decode cX4_put 21 = .ok (.aload_n 0, 1) := by decide +kernel
theorem dX4_put_22 : decode cX4_put 22 = .ok (.dup, 1) := by decide +kernel
theorem dX4_put_23 : decode cX4_put 23 = .ok (.getfield 15, 3) := by decide +kernel
theorem dX4_put_26 : decode cX4_put 26 = .ok (.iconst 1, 1) := by decide +kernel
theorem dX4_put_27 : decode cX4_put 27 = .ok (.iadd, 1) := by decide +kernel
theorem dX4_put_28 : decode cX4_put 28 = .ok (.putfield 15, 3) := by decide +kernel
theorem dX4_put_31 : decode cX4_put 31 = .ok (.return_, 1) := by decide +kernel
theorem dX5_init_0 : decode cX5_init 0 = .ok (.aload_n 0, 1) := by decide +kernel
theorem dX5_init_1 : decode cX5_init 1 = .ok (.invokespecial 3, 3) := by decide +kernel
theorem dX5_init_4 : decode cX5_init 4 = .ok (.aload_n 0, 1) := by decide +kernel
theorem dX5_init_5 : decode cX5_init 5 = .ok (.bipush 9, 2) := by decide +kernel
theorem dX5_init_7 : decode cX5_init 7 = .ok (.newarray .int, 2) := by decide +kernel
theorem dX5_init_9 : decode cX5_init 9 = .ok (.putfield 9, 3) := by decide +kernel
theorem dX5_init_12 : decode cX5_init 12 = .ok (.aload_n 0, 1) := by decide +kernel
theorem dX5_init_13 : decode cX5_init 13 = .ok (.bipush 9, 2) := by decide +kernel
theorem dX5_init_15 : decode cX5_init 15 = .ok (.newarray .int, 2) := by decide +kernel
theorem dX5_init_17 : decode cX5_init 17 = .ok (.putfield 15, 3) := by decide +kernel
theorem dX5_init_20 : decode cX5_init 20 = .ok (.aload_n 0, 1) := by decide +kernel
theorem dX5_init_21 : decode cX5_init 21 = .ok (.bipush 9, 2) := by decide +kernel
theorem dX5_init_23 : decode cX5_init 23 = .ok (.newarray .int, 2) := by decide +kernel
theorem dX5_init_25 : decode cX5_init 25 = .ok (.putfield 18, 3) := by decide +kernel
theorem dX5_init_28 : decode cX5_init 28 = .ok (.aload_n 0, 1) := by decide +kernel
theorem dX5_init_29 : decode cX5_init 29 = .ok (.bipush 9, 2) := by decide +kernel
theorem dX5_init_31 : decode cX5_init 31 = .ok (.newarray .int, 2) := by decide +kernel
theorem dX5_init_33 : decode cX5_init 33 = .ok (.putfield 21, 3) := by decide +kernel
theorem dX5_init_36 : decode cX5_init 36 = .ok (.aload_n 0, 1) := by decide +kernel
theorem dX5_init_37 : decode cX5_init 37 = .ok (.bipush 9, 2) := by decide +kernel
theorem dX5_init_39 : decode cX5_init 39 = .ok (.newarray .int, 2) := by decide +kernel
theorem dX5_init_41 : decode cX5_init 41 = .ok (.putfield 24, 3) := by decide +kernel
theorem dX5_init_44 : decode cX5_init 44 = .ok (.return_, 1) := by decide +kernel
theorem dX5_grow_0 : decode cX5_grow 0 = .ok (.iconst 0, 1) := by decide +kernel
theorem dX5_grow_1 : decode cX5_grow 1 = .ok (.istore_n 2, 1) := by decide +kernel
theorem dX5_grow_2 : decode cX5_grow 2 = .ok (.iload_n 2, 1) := by decide +kernel
theorem dX5_grow_3 : decode cX5_grow 3 = .ok (.bipush 9, 2) := by decide +kernel
theorem dX5_grow_5 : decode cX5_grow 5 = .ok (.if_icmp .ge 53, 3) := by decide +kernel
theorem dX5_grow_8 : decode cX5_grow 8 = .ok (.aload_n 0, 1) := by decide +kernel
theorem dX5_grow_9 : decode cX5_grow 9 = .ok (.getfield 24, 3) := by decide +kernel
theorem dX5_grow_12 : decode cX5_grow 12 = .ok (.iload_n 2, 1) := by decide +kernel
theorem dX5_grow_13 : decode cX5_grow 13 = .ok (.aload_n 0, 1) := by decide +kernel
theorem dX5_grow_14 : decode cX5_grow 14 = .ok (.getfield 21, 3) := by decide +kernel
theorem dX5_grow_17 : decode cX5_grow 17 = .ok (.iload_n 2, 1) := by decide +kernel
theorem dX5_grow_18 : decode cX5_grow 18 = .ok (.iaload, 1) := by decide +kernel
theorem dX5_grow_19 : decode cX5_grow 19 = .ok (.iastore, 1) := by decide +kernel
theorem dX5_grow_20 : decode cX5_grow 20 = .ok (.aload_n 0, 1) := by decide +kernel
theorem dX5_grow_21 : decode cX5_grow 21 = .ok (.getfield 15, 3) := by decide +kernel
theorem dX5_grow_24 : decode cX5_grow 24 = .ok (.iload_n 2, 1) := by decide +kernel
theorem dX5_grow_25 : decode cX5_grow 25 = .ok (.bipush 8, 2) := by decide +kernel
theorem dX5_grow_27 : decode cX5_grow 27 = .ok (.iastore, 1) := by decide +kernel
theorem dX5_grow_28 : decode cX5_grow 28 = .ok (.aload_n 0, 1) := by decide +kernel
theorem dX5_grow_29 : decode cX5_grow 29 = .ok (.getfield 18, 3) := by decide +kernel
theorem dX5_grow_32 : decode cX5_grow 32 = .ok (.iload_n 2, 1) := by decide +kernel
theorem dX5_grow_33 : decode cX5_grow 33 = .ok (.iload_n 2, 1) := by decide +kernel
theorem dX5_grow_34 : decode cX5_grow 34 = .ok (.bipush 8, 2) := by decide +kernel
theorem dX5_grow_36 : decode cX5_grow 36 = .ok (.if_icmp .ne 7, 3) := by decide +kernel
theorem dX5_grow_39 : decode cX5_grow 39 = .ok (.iconst 0, 1) := by decide +kernel
theorem dX5_grow_40 : decode cX5_grow 40 = .ok (.goto 4, 3) := by decide +kernel
theorem dX5_grow_43 : decode cX5_grow 43 = .ok (.iconst (-1), 1) := by decide +kernel
theorem dX5_grow_44 : decode cX5_grow 44 = .ok (.iastore, 1) := by decide +kernel
theorem dX5_grow_45 : decode cX5_grow 45 = .ok (.aload_n 0, 1) := by decide +kernel
theorem dX5_grow_46 : decode cX5_grow 46 = .ok (.getfield 21, 3) := by decide +kernel
theorem dX5_grow_49 : decode cX5_grow 49 = .ok (.iload_n 2, 1) := by decide +kernel
theorem dX5_grow_50 : decode cX5_grow 50 = .ok (.iconst 0, 1) := by decide +kernel
theorem dX5_grow_51 : decode cX5_grow 51 = .ok (.iastore, 1) := by decide +kernel
theorem dX5_grow_52 : decode cX5_grow 52 = .ok (.iinc 2 1, 3) := by decide +kernel
theorem dX5_grow_55 : decode cX5_grow 55 = .ok (.goto (-53), 3) := by decide +kernel
theorem dX5_grow_58 : decode cX5_grow 58 = .ok (.iconst 0, 1) := by decide +kernel
theorem dX5_grow_59 : decode cX5_grow 59 = .ok (.istore_n 2, 1) := by decide +kernel
theorem dX5_grow_60 : decode cX5_grow 60 = .ok (.iconst 0, 1) := by decide +kernel
theorem dX5_grow_61 : decode cX5_grow 61 = .ok (.istore_n 3, 1) := by decide +kernel
theorem dX5_grow_62 : decode cX5_grow 62 = .ok (.iload_n 3, 1) := by decide +kernel
theorem dX5_grow_63 : decode cX5_grow 63 = .ok (.aload_n 1, 1) := by decide +kernel
theorem dX5_grow_64 : decode cX5_grow 64 = .ok (.getfield 27, 3) := by decide +kernel
theorem dX5_grow_67 : decode cX5_grow 67 = .ok (.if_icmp .ge 63, 3) := by decide +kernel
theorem dX5_grow_70 : decode cX5_grow 70 = .ok (.iload_n 2, 1) := by decide +kernel
theorem dX5_grow_71 : decode cX5_grow 71 = .ok (.aload_n 1, 1) := by decide +kernel
theorem dX5_grow_72 : decode cX5_grow 72 = .ok (.getfield 27, 3) := by decide +kernel
theorem dX5_grow_75 : decode cX5_grow 75 = .ok (.if_icmp .ge 55, 3) := by decide +kernel
theorem dX5_grow_78 : decode cX5_grow 78 = .ok (.iconst 0, 1) := by decide +kernel
theorem dX5_grow_79 : decode cX5_grow 79 = .ok (.istore 4, 2) := by decide +kernel
theorem dX5_grow_81 : decode cX5_grow 81 = .ok (.iload 4, 2) := by decide +kernel
theorem dX5_grow_83 : decode cX5_grow 83 = .ok (.aload_n 1, 1) := by decide +kernel
theorem dX5_grow_84 : decode cX5_grow 84 = .ok (.invokevirtual 33, 3) := by decide +kernel
theorem dX5_grow_87 : decode cX5_grow 87 = .ok (.if_icmp .ge 37, 3) := by decide +kernel
theorem dX5_grow_90 : decode cX5_grow 90 = .ok (.iload_n 2, 1) := by decide +kernel
theorem dX5_grow_91 : decode cX5_grow 91 = .ok (.aload_n 1, 1) := by decide +kernel
theorem dX5_grow_92 : decode cX5_grow 92 = .ok (.getfield 37, 3) := by decide +kernel
theorem dX5_grow_95 : decode cX5_grow 95 = .ok (.iload 4, 2) := by decide +kernel
theorem dX5_grow_97 : decode cX5_grow 97 = .ok (.iaload, 1) := by decide +kernel
theorem dX5_grow_98 : decode cX5_grow 98 = .ok (.ifCond .ne 17, 3) := by decide +kernel
theorem dX5_grow_101 : decode cX5_grow 101 = .ok (.aload_n 0, 1) := by decide +kernel
theorem dX5_grow_102 : decode cX5_grow 102 = .ok (.aload_n 1, 1) := by decide +kernel
theorem dX5_grow_103 : decode cX5_grow 103 = .ok (.iload 4, 2) := by decide +kernel
theorem dX5_grow_105 : decode cX5_grow 105 = .ok (.invokevirtual 40, 3) := by decide +kernel
theorem dX5_grow_108 : decode cX5_grow 108 = .ok (.ifCond .eq 7, 3) := by decide +kernel
theorem dX5_grow_111 : decode cX5_grow 111 = .ok (.iconst 1, 1) := by decide +kernel
theorem dX5_grow_112 : decode cX5_grow 112 = .ok (.goto 4, 3) := by decide +kernel
theorem dX5_grow_115 : decode cX5_grow 115 = .ok (.iconst 0, 1) := by decide +kernel
theorem dX5_grow_116 : decode cX5_grow 116 = .ok (.iadd, 1) := by decide +kernel
theorem dX5_grow_117 : decode cX5_grow 117 = .ok (.istore_n 2, 1) := by decide +kernel
theorem dX5_grow_118 : decode cX5_grow 118 = .ok (.iinc 4 1, 3) := by decide +kernel
theorem dX5_grow_121 : decode cX5_grow 121 = .ok (.goto (-40), 3) := by decide +kernel
theorem dX5_grow_124 : decode cX5_grow 124 = .ok (.iinc 3 1, 3) := by decide +kernel
theorem dX5_grow_127 : decode cX5_grow 127 = .ok (.goto (-65), 3) := by decide +kernel
theorem dX5_grow_130 : decode cX5_grow 130 = .ok (.return_, 1) := by decide +kernel
theorem dX5_hangsBy_0 : decode cX5_hangsBy 0 = .ok (.aload_n 1, 1) := by decide +kernel
theorem dX5_hangsBy_1 : decode cX5_hangsBy 1 = .ok (.getfield 44, 3) := by decide +kernel
theorem dX5_hangsBy_4 : decode cX5_hangsBy 4 = .ok (.iload_n 2, 1) := by decide +kernel
theorem dX5_hangsBy_5 : decode cX5_hangsBy 5 = .ok (.iaload, 1) := by decide +kernel
theorem dX5_hangsBy_6 : decode cX5_hangsBy 6 = .ok (.istore_n 3, 1) := by decide +kernel
theorem dX5_hangsBy_7 : decode cX5_hangsBy 7 = .ok (.aload_n 1, 1) := by decide +kernel
theorem dX5_hangsBy_8 : decode cX5_hangsBy 8 = .ok (.getfield 47, 3) := by decide +kernel
theorem dX5_hangsBy_11 : decode cX5_hangsBy 11 = .ok (.iload_n 2, 1) := by decide +kernel
theorem dX5_hangsBy_12 : decode cX5_hangsBy 12 = .ok (.iaload, 1) := by decide +kernel
theorem dX5_hangsBy_13 : decode cX5_hangsBy 13 = .ok (.istore 4, 2) := by decide +kernel
theorem dX5_hangsBy_15 : decode cX5_hangsBy 15 = .ok (.aload_n 0, 1) := by decide +kernel
theorem dX5_hangsBy_16 : decode cX5_hangsBy 16 = .ok (.getfield 18, 3) := by decide +kernel
theorem dX5_hangsBy_19 : decode cX5_hangsBy 19 = .ok (.iload_n 3, 1) := by decide +kernel
theorem dX5_hangsBy_20 : decode cX5_hangsBy 20 = .ok (.iaload, 1) := by decide +kernel
theorem dX5_hangsBy_21 : decode cX5_hangsBy 21 = .ok (.iconst (-1), 1) := by decide +kernel
theorem dX5_hangsBy_22 : decode cX5_hangsBy 22 = .ok (.if_icmp .eq 37, 3) := by decide +kernel
theorem dX5_hangsBy_25 : decode cX5_hangsBy 25 = .ok (.aload_n 0, 1) := by decide +kernel
theorem dX5_hangsBy_26 : decode cX5_hangsBy 26 = .ok (.getfield 18, 3) := by decide +kernel
theorem dX5_hangsBy_29 : decode cX5_hangsBy 29 = .ok (.iload 4, 2) := by decide +kernel
theorem dX5_hangsBy_31 : decode cX5_hangsBy 31 = .ok (.iaload, 1) := by decide +kernel
theorem dX5_hangsBy_32 : decode cX5_hangsBy 32 = .ok (.iconst (-1), 1) := by decide +kernel
theorem dX5_hangsBy_33 : decode cX5_hangsBy 33 = .ok (.if_icmp .ne 26, 3) := by decide +kernel
theorem dX5_hangsBy_36 : decode cX5_hangsBy 36 = .ok (.aload_n 0, 1) := by decide +kernel
theorem dX5_hangsBy_37 : decode cX5_hangsBy 37 = .ok (.iload 4, 2) := by decide +kernel
theorem dX5_hangsBy_39 : decode cX5_hangsBy 39 = .ok (.iload_n 3, 1) := by decide +kernel
theorem dX5_hangsBy_40 : decode cX5_hangsBy 40 = .ok (.iload_n 2, 1) := by decide +kernel
theorem dX5_hangsBy_41 : decode cX5_hangsBy 41 = .ok (.aload_n 0, 1) := by decide +kernel
theorem dX5_hangsBy_42 : decode cX5_hangsBy 42 = .ok (.getfield 21, 3) := by decide +kernel
theorem dX5_hangsBy_45 : decode cX5_hangsBy 45 = .ok (.iload_n 3, 1) := by decide +kernel
theorem dX5_hangsBy_46 : decode cX5_hangsBy 46 = .ok (.iaload, 1) := by decide +kernel
theorem dX5_hangsBy_47 : decode cX5_hangsBy 47 = .ok (.aload_n 1, 1) := by decide +kernel
theorem dX5_hangsBy_48 : decode cX5_hangsBy 48 = .ok (.getfield 50, 3) := by decide +kernel
theorem dX5_hangsBy_51 : decode cX5_hangsBy 51 = .ok (.iload_n 2, 1) := by decide +kernel
theorem dX5_hangsBy_52 : decode cX5_hangsBy 52 = .ok (.iaload, 1) := by decide +kernel
theorem dX5_hangsBy_53 : decode cX5_hangsBy 53 = .ok (.iadd, 1) := by decide +kernel
theorem dX5_hangsBy_54 : decode cX5_hangsBy 54 = .ok (.invokevirtual 53, 3) := by decide +kernel
theorem dX5_hangsBy_57 : decode cX5_hangsBy 57 = .ok (.iconst 1, 1) := by decide +kernel
theorem dX5_hangsBy_58 : decode cX5_hangsBy 58 = .ok (.ireturn, 1) := by decide +kernel
theorem dX5_hangsBy_59 : decode cX5_hangsBy 59 = .ok (.aload_n 0, 1) := by decide +kernel
theorem dX5_hangsBy_60 : decode cX5_hangsBy 60 = .ok (.getfield 18, 3) := by decide +kernel
theorem dX5_hangsBy_63 : decode cX5_hangsBy 63 = .ok (.iload_n 3, 1) := by decide +kernel
theorem dX5_hangsBy_64 : decode cX5_hangsBy 64 = .ok (.iaload, 1) := by decide +kernel
theorem dX5_hangsBy_65 : decode cX5_hangsBy 65 = .ok (.iconst (-1), 1) := by decide +kernel
theorem dX5_hangsBy_66 : decode cX5_hangsBy 66 = .ok (.if_icmp .ne 38, 3) := by decide +kernel
theorem dX5_hangsBy_69 : decode cX5_hangsBy 69 = .ok (.aload_n 0, 1) := by decide +kernel
theorem dX5_hangsBy_70 : decode cX5_hangsBy 70 = .ok (.getfield 18, 3) := by decide +kernel
theorem dX5_hangsBy_73 : decode cX5_hangsBy 73 = .ok (.iload 4, 2) := by decide +kernel
theorem dX5_hangsBy_75 : decode cX5_hangsBy 75 = .ok (.iaload, 1) := by decide +kernel
theorem dX5_hangsBy_76 : decode cX5_hangsBy 76 = .ok (.iconst (-1), 1) := by decide +kernel
theorem dX5_hangsBy_77 : decode cX5_hangsBy 77 = .ok (.if_icmp .eq 27, 3) := by decide +kernel
theorem dX5_hangsBy_80 : decode cX5_hangsBy 80 = .ok (.aload_n 0, 1) := by decide +kernel
theorem dX5_hangsBy_81 : decode cX5_hangsBy 81 = .ok (.iload_n 3, 1) := by decide +kernel
theorem dX5_hangsBy_82 : decode cX5_hangsBy 82 = .ok (.iload 4, 2) := by decide +kernel
theorem dX5_hangsBy_84 : decode cX5_hangsBy 84 = .ok (.iload_n 2, 1) := by decide +kernel
theorem dX5_hangsBy_85 : decode cX5_hangsBy 85 = .ok (.aload_n 0, 1) := by decide +kernel
theorem dX5_hangsBy_86 : decode cX5_hangsBy 86 = .ok (.getfield 21, 3) := by decide +kernel
theorem dX5_hangsBy_89 : decode cX5_hangsBy 89 = .ok (.iload 4, 2) := by decide +kernel
theorem dX5_hangsBy_91 : decode cX5_hangsBy 91 = .ok (.iaload, 1) := by decide +kernel
theorem dX5_hangsBy_92 : decode cX5_hangsBy 92 = .ok (.aload_n 1, 1) := by decide +kernel
theorem dX5_hangsBy_93 : decode cX5_hangsBy 93 = .ok (.getfield 50, 3) := by decide +kernel
theorem dX5_hangsBy_96 : decode cX5_hangsBy 96 = .ok (.iload_n 2, 1) := by decide +kernel
theorem dX5_hangsBy_97 : decode cX5_hangsBy 97 = .ok (.iaload, 1) := by decide +kernel
theorem dX5_hangsBy_98 : decode cX5_hangsBy 98 = .ok (.isub, 1) := by decide +kernel
theorem dX5_hangsBy_99 : decode cX5_hangsBy 99 = .ok (.invokevirtual 53, 3) := by decide +kernel
theorem dX5_hangsBy_102 : decode cX5_hangsBy 102 = .ok (.iconst 1, 1) := by decide +kernel
theorem dX5_hangsBy_103 : decode cX5_hangsBy 103 = .ok (.ireturn, 1) := by decide +kernel
theorem dX5_hangsBy_104 : decode cX5_hangsBy 104 = .ok (.iconst 0, 1) := by decide +kernel
theorem dX5_hangsBy_105 : decode cX5_hangsBy 105 = .ok (.ireturn, 1) := by decide +kernel
theorem dX5_hang_0 : decode cX5_hang 0 = .ok (.aload_n 0, 1) := by decide +kernel
theorem dX5_hang_1 : decode cX5_hang 1 = .ok (.getfield 9, 3) := by decide +kernel
theorem dX5_hang_4 : decode cX5_hang 4 = .ok (.iload_n 1, 1) := by decide +kernel
theorem dX5_hang_5 : decode cX5_hang 5 = .ok (.iload_n 3, 1) := by decide +kernel
theorem dX5_hang_6 : decode cX5_hang 6 = .ok (.iastore, 1) := by decide +kernel
theorem dX5_hang_7 : decode cX5_hang 7 = .ok (.aload_n 0, 1) := by decide +kernel
theorem dX5_hang_8 : decode cX5_hang 8 = .ok (.getfield 15, 3) := by decide +kernel
theorem dX5_hang_11 : decode cX5_hang 11 = .ok (.iload_n 1, 1) := by decide +kernel
theorem dX5_hang_12 : decode cX5_hang 12 = .ok (.iload_n 2, 1) := by decide +kernel
theorem dX5_hang_13 : decode cX5_hang 13 = .ok (.iastore, 1) := by decide +kernel
theorem dX5_hang_14 : decode cX5_hang 14 = .ok (.aload_n 0, 1) := by decide +kernel
theorem dX5_hang_15 : decode cX5_hang 15 = .ok (.getfield 18, 3) := by decide +kernel
theorem dX5_hang_18 : decode cX5_hang 18 = .ok (.iload_n 1, 1) := by decide +kernel
theorem dX5_hang_19 : decode cX5_hang 19 = .ok (.aload_n 0, 1) := by decide +kernel
theorem dX5_hang_20 : decode cX5_hang 20 = .ok (.getfield 18, 3) := by decide +kernel
theorem dX5_hang_23 : decode cX5_hang 23 = .ok (.iload_n 2, 1) := by decide +kernel
theorem dX5_hang_24 : decode cX5_hang 24 = .ok (.iaload, 1) := by decide +kernel
theorem dX5_hang_25 : decode cX5_hang 25 = .ok (.iconst 1, 1) := by decide +kernel
theorem dX5_hang_26 : decode cX5_hang 26 = .ok (.iadd, 1) := by decide +kernel
theorem dX5_hang_27 : decode cX5_hang 27 = .ok (.iastore, 1) := by decide +kernel
theorem dX5_hang_28 : decode cX5_hang 28 = .ok (.aload_n 0, 1) := by decide +kernel
theorem dX5_hang_29 : decode cX5_hang 29 = .ok (.getfield 21, 3) := by decide +kernel
theorem dX5_hang_32 : decode cX5_hang 32 = .ok (.iload_n 1, 1) := by decide +kernel
theorem dX5_hang_33 : decode cX5_hang 33 = .ok (.iload 4, 2) := by decide +kernel
theorem dX5_hang_35 : decode cX5_hang 35 = .ok (.iastore, 1) := by decide +kernel
theorem dX5_hang_36 : decode cX5_hang 36 = .ok (.return_, 1) := by decide +kernel
theorem dX5_countMoved_0 : decode cX5_countMoved 0 = .ok (.iconst 0, 1) := by decide +kernel
theorem dX5_countMoved_1 : decode cX5_countMoved 1 = .ok (.istore_n 2, 1) := by decide +kernel
theorem dX5_countMoved_2 : decode cX5_countMoved 2 = .ok (.iconst 0, 1) := by decide +kernel
theorem dX5_countMoved_3 : decode cX5_countMoved 3 = .ok (.istore_n 3, 1) := by decide +kernel
theorem dX5_countMoved_4 : decode cX5_countMoved 4 = .ok (.iload_n 3, 1) := by decide +kernel
theorem dX5_countMoved_5 : decode cX5_countMoved 5 = .ok (.iload_n 1, 1) := by decide +kernel
theorem dX5_countMoved_6 : decode cX5_countMoved 6 = .ok (.if_icmp .ge 32, 3) := by decide +kernel
theorem dX5_countMoved_9 : decode cX5_countMoved 9 = .ok (.iload_n 2, 1) := by decide +kernel
theorem dX5_countMoved_10 : decode cX5_countMoved 10 = .ok (.aload_n 0, 1) := by decide +kernel
theorem dX5_countMoved_11 : decode cX5_countMoved 11 = .ok (.getfield 21, 3) := by decide +kernel
theorem dX5_countMoved_14 : decode cX5_countMoved 14 = .ok (.iload_n 3, 1) := by decide +kernel
theorem dX5_countMoved_15 : decode cX5_countMoved 15 = .ok (.iaload, 1) := by decide +kernel
theorem dX5_countMoved_16 : decode cX5_countMoved 16 = .ok (.aload_n 0, 1) := by decide +kernel
theorem dX5_countMoved_17 : decode cX5_countMoved 17 = .ok (.getfield 24, 3) := by decide +kernel
theorem dX5_countMoved_20 : decode cX5_countMoved 20 = .ok (.iload_n 3, 1) := by decide +kernel
theorem dX5_countMoved_21 : decode cX5_countMoved 21 = .ok (.iaload, 1) := by decide +kernel
theorem dX5_countMoved_22 : decode cX5_countMoved 22 = .ok (.if_icmp .ne 7, 3) := by decide +kernel
theorem dX5_countMoved_25 : decode cX5_countMoved 25 = .ok (.iconst 0, 1) := by decide +kernel
theorem dX5_countMoved_26 : decode cX5_countMoved 26 = .ok (.goto 4, 3) := by decide +kernel
theorem dX5_countMoved_29 : decode cX5_countMoved 29 = .ok (.iconst 1, 1) := by decide +kernel
theorem dX5_countMoved_30 : decode cX5_countMoved 30 = .ok (.iadd, 1) := by decide +kernel
theorem dX5_countMoved_31 : decode cX5_countMoved 31 = .ok (.istore_n 2, 1) := by decide +kernel
theorem dX5_countMoved_32 : decode cX5_countMoved 32 = .ok (.iinc 3 1, 3) := by decide +kernel
theorem dX5_countMoved_35 : decode cX5_countMoved 35 = .ok (.goto (-31), 3) := by decide +kernel
theorem dX5_countMoved_38 : decode cX5_countMoved 38 = .ok (.iload_n 2, 1) := by decide +kernel
theorem dX5_countMoved_39 : decode cX5_countMoved 39 = .ok (.ireturn, 1) := by decide +kernel
theorem dX5_hangsFrom_0 : decode cX5_hangsFrom 0 = .ok (.iload_n 1, 1) := by decide +kernel
theorem dX5_hangsFrom_1 : decode cX5_hangsFrom 1 = .ok (.istore_n 3, 1) := by decide +kernel
theorem dX5_hangsFrom_2 : decode cX5_hangsFrom 2 = .ok (.iconst 0, 1) := by decide +kernel
theorem dX5_hangsFrom_3 : decode cX5_hangsFrom 3 = .ok (.istore 4, 2) := by decide +kernel
theorem dX5_hangsFrom_5 : decode cX5_hangsFrom 5 = .ok (.iload 4, 2) := by decide +kernel
theorem dX5_hangsFrom_7 : decode cX5_hangsFrom 7 = .ok (.bipush 9, 2) := by decide +kernel
theorem dX5_hangsFrom_9 : decode cX5_hangsFrom 9 = .ok (.if_icmp .ge 27, 3) := by decide +kernel
theorem dX5_hangsFrom_12 : decode cX5_hangsFrom 12 = .ok (.iload_n 3, 1) := by decide +kernel
theorem dX5_hangsFrom_13 : decode cX5_hangsFrom 13 = .ok (.iload_n 2, 1) := by decide +kernel
theorem dX5_hangsFrom_14 : decode cX5_hangsFrom 14 = .ok (.if_icmp .eq 22, 3) := by decide +kernel
theorem dX5_hangsFrom_17 : decode cX5_hangsFrom 17 = .ok (.iload_n 3, 1) := by decide +kernel
theorem dX5_hangsFrom_18 : decode cX5_hangsFrom 18 = .ok (.bipush 8, 2) := by decide +kernel
theorem dX5_hangsFrom_20 : decode cX5_hangsFrom 20 = .ok (.if_icmp .eq 16, 3) := by decide +kernel
theorem dX5_hangsFrom_23 : decode cX5_hangsFrom 23 = .ok (.aload_n 0, 1) := by decide +kernel
theorem dX5_hangsFrom_24 : decode cX5_hangsFrom 24 = .ok (.getfield 15, 3) := by decide +kernel
theorem dX5_hangsFrom_27 : decode cX5_hangsFrom 27 = .ok (.iload_n 3, 1) := by decide +kernel
theorem dX5_hangsFrom_28 : decode cX5_hangsFrom 28 = .ok (.iaload, 1) := by decide +kernel
theorem dX5_hangsFrom_29 : decode cX5_hangsFrom 29 = .ok (.istore_n 3, 1) := by decide +kernel
theorem dX5_hangsFrom_30 : decode cX5_hangsFrom 30 = .ok (.iinc 4 1, 3) := by decide +kernel
theorem dX5_hangsFrom_33 : decode cX5_hangsFrom 33 = .ok (.goto (-28), 3) := by decide +kernel
theorem dX5_hangsFrom_36 : decode cX5_hangsFrom 36 = .ok (.iload_n 3, 1) := by decide +kernel
theorem dX5_hangsFrom_37 : decode cX5_hangsFrom 37 = .ok (.iload_n 2, 1) := by decide +kernel
theorem dX5_hangsFrom_38 : decode cX5_hangsFrom 38 = .ok (.if_icmp .ne 7, 3) := by decide +kernel
theorem dX5_hangsFrom_41 : decode cX5_hangsFrom 41 = .ok (.iconst 1, 1) := by decide +kernel
theorem dX5_hangsFrom_42 : decode cX5_hangsFrom 42 = .ok (.goto 4, 3) := by decide +kernel
theorem dX5_hangsFrom_45 : decode cX5_hangsFrom 45 = .ok (.iconst 0, 1) := by decide +kernel
theorem dX5_hangsFrom_46 : decode cX5_hangsFrom 46 = .ok (.ireturn, 1) := by decide +kernel
theorem dX5_findApex_0 : decode cX5_findApex 0 = .ok (.iload_n 1, 1) := by decide +kernel
theorem dX5_findApex_1 : decode cX5_findApex 1 = .ok (.istore_n 3, 1) := by decide +kernel
theorem dX5_findApex_2 : decode cX5_findApex 2 = .ok (.iload_n 2, 1) := by decide +kernel
theorem dX5_findApex_3 : decode cX5_findApex 3 = .ok (.istore 4, 2) := by decide +kernel
theorem dX5_findApex_5 : decode cX5_findApex 5 = .ok (.iconst 0, 1) := by decide +kernel
theorem dX5_findApex_6 : decode cX5_findApex 6 = .ok (.istore 5, 2) := by decide +kernel
theorem dX5_findApex_8 : decode cX5_findApex 8 = .ok (.iload 5, 2) := by decide +kernel
theorem dX5_findApex_10 : decode cX5_findApex 10 = .ok (.bipush 18, 2) := by decide +kernel
theorem dX5_findApex_12 : decode cX5_findApex 12 = .ok (.if_icmp .ge 50, 3) := by decide +kernel
theorem dX5_findApex_15 : decode cX5_findApex 15 = .ok (.iload_n 3, 1) := by decide +kernel
theorem dX5_findApex_16 : decode cX5_findApex 16 = .ok (.iload 4, 2) := by decide +kernel
theorem dX5_findApex_18 : decode cX5_findApex 18 = .ok (.if_icmp .eq 44, 3) := by decide +kernel
theorem dX5_findApex_21 : decode cX5_findApex 21 = .ok (.aload_n 0, 1) := by decide +kernel
theorem dX5_findApex_22 : decode cX5_findApex 22 = .ok (.getfield 18, 3) := by decide +kernel
theorem dX5_findApex_25 : decode cX5_findApex 25 = .ok (.iload_n 3, 1) := by decide +kernel
theorem dX5_findApex_26 : decode cX5_findApex 26 = .ok (.iaload, 1) := by decide +kernel
theorem dX5_findApex_27 : decode cX5_findApex 27 = .ok (.aload_n 0, 1) := by decide +kernel
theorem dX5_findApex_28 : decode cX5_findApex 28 = .ok (.getfield 18, 3) := by decide +kernel
theorem dX5_findApex_31 : decode cX5_findApex 31 = .ok (.iload 4, 2) := by decide +kernel
theorem dX5_findApex_33 : decode cX5_findApex 33 = .ok (.iaload, 1) := by decide +kernel
theorem dX5_findApex_34 : decode cX5_findApex 34 = .ok (.if_icmp .le 13, 3) := by decide +kernel
theorem dX5_findApex_37 : decode cX5_findApex 37 = .ok (.aload_n 0, 1) := by decide +kernel
theorem dX5_findApex_38 : decode cX5_findApex 38 = .ok (.getfield 15, 3) := by decide +kernel
theorem dX5_findApex_41 : decode cX5_findApex 41 = .ok (.iload_n 3, 1) := by decide +kernel
theorem dX5_findApex_42 : decode cX5_findApex 42 = .ok (.iaload, 1) := by decide +kernel
theorem dX5_findApex_43 : decode cX5_findApex 43 = .ok (.istore_n 3, 1) := by decide +kernel
theorem dX5_findApex_44 : decode cX5_findApex 44 = .ok (.goto 12, 3) := by decide +kernel
theorem dX5_findApex_47 : decode cX5_findApex 47 = .ok (.aload_n 0, 1) := by decide +kernel
theorem dX5_findApex_48 : decode cX5_findApex 48 = .ok (.getfield 15, 3) := by decide +kernel
theorem dX5_findApex_51 : decode cX5_findApex 51 = .ok (.iload 4, 2) := by decide +kernel
theorem dX5_findApex_53 : decode cX5_findApex 53 = .ok (.iaload, 1) := by decide +kernel
theorem dX5_findApex_54 : decode cX5_findApex 54 = .ok (.istore 4, 2) := by decide +kernel
theorem dX5_findApex_56 : decode cX5_findApex 56 = .ok (.iinc 5 1, 3) := by decide +kernel
theorem dX5_findApex_59 : decode cX5_findApex 59 = .ok (.goto (-51), 3) := by decide +kernel
theorem dX5_findApex_62 : decode cX5_findApex 62 = .ok (.iload_n 3, 1) := by decide +kernel
theorem dX5_findApex_63 : decode cX5_findApex 63 = .ok (.ireturn, 1) := by decide +kernel
theorem dX6_init_0 : decode cX6_init 0 = .ok (.aload_n 0, 1) := by decide +kernel
theorem dX6_init_1 : decode cX6_init 1 = .ok (.invokespecial 5, 3) := by decide +kernel
theorem dX6_init_4 : decode cX6_init 4 = .ok (.aload_n 0, 1) := by decide +kernel
theorem dX6_init_5 : decode cX6_init 5 = .ok (.bipush 8, 2) := by decide +kernel
theorem dX6_init_7 : decode cX6_init 7 = .ok (.newarray .int, 2) := by decide +kernel
theorem dX6_init_9 : decode cX6_init 9 = .ok (.putfield 11, 3) := by decide +kernel
theorem dX6_init_12 : decode cX6_init 12 = .ok (.return_, 1) := by decide +kernel
theorem dX6_findLeast_0 : decode cX6_findLeast 0 = .ok (.iconst 0, 1) := by decide +kernel
theorem dX6_findLeast_1 : decode cX6_findLeast 1 = .ok (.istore 4, 2) := by decide +kernel
theorem dX6_findLeast_3 : decode cX6_findLeast 3 = .ok (.iload 4, 2) := by decide +kernel
theorem dX6_findLeast_5 : decode cX6_findLeast 5 = .ok (.bipush 8, 2) := by decide +kernel
theorem dX6_findLeast_7 : decode cX6_findLeast 7 = .ok (.if_icmp .ge 28, 3) := by decide +kernel
theorem dX6_findLeast_10 : decode cX6_findLeast 10 = .ok (.aload_n 0, 1) := by decide +kernel
theorem dX6_findLeast_11 : decode cX6_findLeast 11 = .ok (.getfield 11, 3) := by decide +kernel
theorem dX6_findLeast_14 : decode cX6_findLeast 14 = .ok (.iload 4, 2) := by decide +kernel
theorem dX6_findLeast_16 : decode cX6_findLeast 16 = .ok (.iload 4, 2) := by decide +kernel
theorem dX6_findLeast_18 : decode cX6_findLeast 18 = .ok (.iload_n 2, 1) := by decide +kernel
theorem dX6_findLeast_19 : decode cX6_findLeast 19 = .ok (.if_icmp .ne 7, 3) := by decide +kernel
theorem dX6_findLeast_22 : decode cX6_findLeast 22 = .ok (.iconst 0, 1) := by decide +kernel
theorem dX6_findLeast_23 : decode cX6_findLeast 23 = .ok (.goto 5, 3) := by decide +kernel
theorem dX6_findLeast_26 : decode cX6_findLeast 26 = .ok (.ldc 17, 2) := by decide +kernel
theorem dX6_findLeast_28 : decode cX6_findLeast 28 = .ok (.iastore, 1) := by decide +kernel
theorem dX6_findLeast_29 : decode cX6_findLeast 29 = .ok (.iinc 4 1, 3) := by decide +kernel
theorem dX6_findLeast_32 : decode cX6_findLeast 32 = .ok (.goto (-29), 3) := by decide +kernel
theorem dX6_findLeast_35 : decode cX6_findLeast 35 = .ok (.iconst 0, 1) := by decide +kernel
theorem dX6_findLeast_36 : decode cX6_findLeast 36 = .ok (.istore 4, 2) := by decide +kernel
theorem dX6_findLeast_38 : decode cX6_findLeast 38 = .ok (.iload 4, 2) := by decide +kernel
theorem dX6_findLeast_40 : decode cX6_findLeast 40 = .ok (.aload_n 1, 1) := by decide +kernel
theorem dX6_findLeast_41 : decode cX6_findLeast 41 = .ok (.getfield 18, 3) := by decide +kernel
theorem dX6_findLeast_44 : decode cX6_findLeast 44 = .ok (.if_icmp .ge 34, 3) := by decide +kernel
theorem dX6_findLeast_47 : decode cX6_findLeast 47 = .ok (.iconst 0, 1) := by decide +kernel
theorem dX6_findLeast_48 : decode cX6_findLeast 48 = .ok (.istore 5, 2) := by decide +kernel
theorem dX6_findLeast_50 : decode cX6_findLeast 50 = .ok (.iload 5, 2) := by decide +kernel
theorem dX6_findLeast_52 : decode cX6_findLeast 52 = .ok (.aload_n 1, 1) := by decide +kernel
theorem dX6_findLeast_53 : decode cX6_findLeast 53 = .ok (.getfield 24, 3) := by decide +kernel
theorem dX6_findLeast_56 : decode cX6_findLeast 56 = .ok (.if_icmp .ge 16, 3) := by decide +kernel
theorem dX6_findLeast_59 : decode cX6_findLeast 59 = .ok (.aload_n 0, 1) := by decide +kernel
theorem dX6_findLeast_60 : decode cX6_findLeast 60 = .ok (.aload_n 1, 1) := by decide +kernel
theorem dX6_findLeast_61 : decode cX6_findLeast 61 = .ok (.iload 5, 2) := by decide +kernel
theorem dX6_findLeast_63 : decode cX6_findLeast 63 = .ok (.invokevirtual 27, 3) := by decide +kernel
theorem dX6_findLeast_66 : decode cX6_findLeast 66 = .ok (.iinc 5 1, 3) := by decide +kernel
theorem dX6_findLeast_69 : decode cX6_findLeast 69 = .ok (.goto (-19), 3) := by decide +kernel
theorem dX6_findLeast_72 : decode cX6_findLeast 72 = .ok (.iinc 4 1, 3) := by decide +kernel
theorem dX6_findLeast_75 : decode cX6_findLeast 75 = .ok (.goto (-37), 3) := by decide +kernel
theorem dX6_findLeast_78 : decode cX6_findLeast 78 = .ok (.aload_n 0, 1) := by decide +kernel
theorem dX6_findLeast_79 : decode cX6_findLeast 79 = .ok (.getfield 11, 3) := by decide +kernel
theorem dX6_findLeast_82 : decode cX6_findLeast 82 = .ok (.iload_n 3, 1) := by decide +kernel
theorem dX6_findLeast_83 : decode cX6_findLeast 83 = .ok (.iaload, 1) := by decide +kernel
theorem dX6_findLeast_84 : decode cX6_findLeast 84 = .ok (.ldc 17, 2) := by decide +kernel
theorem dX6_findLeast_86 : decode cX6_findLeast 86 = .ok (.if_icmp .ne 8, 3) := by decide +kernel
theorem dX6_findLeast_89 : decode cX6_findLeast 89 = .ok (.ldc 31, 2) := by decide +kernel
theorem dX6_findLeast_91 : decode cX6_findLeast 91 = .ok (.goto 9, 3) := by decide +kernel
theorem dX6_findLeast_94 : decode cX6_findLeast 94 = .ok (.aload_n 0, 1) := by decide +kernel
theorem dX6_findLeast_95 : decode cX6_findLeast 95 = .ok (.getfield 11, 3) := by decide +kernel
theorem dX6_findLeast_98 : decode cX6_findLeast 98 = .ok (.iload_n 3, 1) := by decide +kernel
theorem dX6_findLeast_99 : decode cX6_findLeast 99 = .ok (.iaload, 1) := by decide +kernel
theorem dX6_findLeast_100 : decode cX6_findLeast 100 = .ok (.ireturn, 1) := by decide +kernel
theorem dX6_tryRoute_0 : decode cX6_tryRoute 0 = .ok (.aload_n 1, 1) := by decide +kernel
theorem dX6_tryRoute_1 : decode cX6_tryRoute 1 = .ok (.getfield 32, 3) := by decide +kernel
theorem dX6_tryRoute_4 : decode cX6_tryRoute 4 = .ok (.iload_n 2, 1) := by decide +kernel
theorem dX6_tryRoute_5 : decode cX6_tryRoute 5 = .ok (.iaload, 1) := by decide +kernel
theorem dX6_tryRoute_6 : decode cX6_tryRoute 6 = .ok (.istore_n 3, 1) := by decide +kernel
theorem dX6_tryRoute_7 : decode cX6_tryRoute 7 = .ok (.aload_n 1, 1) := by decide +kernel
theorem dX6_tryRoute_8 : decode cX6_tryRoute 8 = .ok (.getfield 35, 3) := by decide +kernel
theorem dX6_tryRoute_11 : decode cX6_tryRoute 11 = .ok (.iload_n 2, 1) := by decide +kernel
theorem dX6_tryRoute_12 : decode cX6_tryRoute 12 = .ok (.iaload, 1) := by decide +kernel
theorem dX6_tryRoute_13 : decode cX6_tryRoute 13 = .ok (.istore 4, 2) := by decide +kernel
theorem dX6_tryRoute_15 : decode cX6_tryRoute 15 = .ok (.aload_n 1, 1) := by decide +kernel
theorem dX6_tryRoute_16 : decode cX6_tryRoute 16 = .ok (.iload_n 2, 1) := by decide +kernel
theorem dX6_tryRoute_17 : decode cX6_tryRoute 17 = .ok (.iconst 1, 1) := by decide +kernel
theorem dX6_tryRoute_18 : decode cX6_tryRoute 18 = .ok (.invokevirtual 38, 3) := by decide +kernel
theorem dX6_tryRoute_21 : decode cX6_tryRoute 21 = .ok (.ifCond .le 16, 3) := by decide +kernel
theorem dX6_tryRoute_24 : decode cX6_tryRoute 24 = .ok (.aload_n 0, 1) := by decide +kernel
theorem dX6_tryRoute_25 : decode cX6_tryRoute 25 = .ok (.iload_n 3, 1) := by decide +kernel
theorem dX6_tryRoute_26 : decode cX6_tryRoute 26 = .ok (.iload 4, 2) := by decide +kernel
theorem dX6_tryRoute_28 : decode cX6_tryRoute 28 = .ok (.aload_n 1, 1) := by decide +kernel
theorem dX6_tryRoute_29 : decode cX6_tryRoute 29 = .ok (.getfield 42, 3) := by decide +kernel
theorem dX6_tryRoute_32 : decode cX6_tryRoute 32 = .ok (.iload_n 2, 1) := by decide +kernel
theorem dX6_tryRoute_33 : decode cX6_tryRoute 33 = .ok (.iaload, 1) := by decide +kernel
theorem dX6_tryRoute_34 : decode cX6_tryRoute 34 = .ok (.invokevirtual 45, 3) := by decide +kernel
theorem dX6_tryRoute_37 : decode cX6_tryRoute 37 = .ok (.aload_n 1, 1) := by decide +kernel
theorem dX6_tryRoute_38 : decode cX6_tryRoute 38 = .ok (.iload_n 2, 1) := by decide +kernel
theorem dX6_tryRoute_39 : decode cX6_tryRoute 39 = .ok (.iconst 0, 1) := by decide +kernel
theorem dX6_tryRoute_40 : decode cX6_tryRoute 40 = .ok (.invokevirtual 38, 3) := by decide +kernel
theorem dX6_tryRoute_43 : decode cX6_tryRoute 43 = .ok (.ifCond .le 17, 3) := by decide +kernel
theorem dX6_tryRoute_46 : decode cX6_tryRoute 46 = .ok (.aload_n 0, 1) := by decide +kernel
theorem dX6_tryRoute_47 : decode cX6_tryRoute 47 = .ok (.iload 4, 2) := by decide +kernel
theorem dX6_tryRoute_49 : decode cX6_tryRoute 49 = .ok (.iload_n 3, 1) := by decide +kernel
theorem dX6_tryRoute_50 : decode cX6_tryRoute 50 = .ok (.aload_n 1, 1) := by decide +kernel
theorem dX6_tryRoute_51 : decode cX6_tryRoute 51 = .ok (.getfield 42, 3) := by decide +kernel
theorem dX6_tryRoute_54 : decode cX6_tryRoute 54 = .ok (.iload_n 2, 1) := by decide +kernel
theorem dX6_tryRoute_55 : decode cX6_tryRoute 55 = .ok (.iaload, 1) := by decide +kernel
theorem dX6_tryRoute_56 : decode cX6_tryRoute 56 = .ok (.ineg, 1) := by decide +kernel
theorem dX6_tryRoute_57 : decode cX6_tryRoute 57 = .ok (.invokevirtual 45, 3) := by decide +kernel
theorem dX6_tryRoute_60 : decode cX6_tryRoute 60 = .ok (.return_, 1) := by decide +kernel
theorem dX6_reach_0 : decode cX6_reach 0 = .ok (.aload_n 0, 1) := by decide +kernel
theorem dX6_reach_1 : decode cX6_reach 1 = .ok (.getfield 11, 3) := by decide +kernel
theorem dX6_reach_4 : decode cX6_reach 4 = .ok (.iload_n 1, 1) := by decide +kernel
theorem dX6_reach_5 : decode cX6_reach 5 = .ok (.iaload, 1) := by decide +kernel
theorem dX6_reach_6 : decode cX6_reach 6 = .ok (.ldc 17, 2) := by decide +kernel
theorem dX6_reach_8 : decode cX6_reach 8 = .ok (.if_icmp .eq 34, 3) := by decide +kernel
theorem dX6_reach_11 : decode cX6_reach 11 = .ok (.aload_n 0, 1) := by decide +kernel
theorem dX6_reach_12 : decode cX6_reach 12 = .ok (.getfield 11, 3) := by decide +kernel
theorem dX6_reach_15 : decode cX6_reach 15 = .ok (.iload_n 1, 1) := by decide +kernel
theorem dX6_reach_16 : decode cX6_reach 16 = .ok (.iaload, 1) := by decide +kernel
theorem dX6_reach_17 : decode cX6_reach 17 = .ok (.iload_n 3, 1) := by decide +kernel
theorem dX6_reach_18 : decode cX6_reach 18 = .ok (.iadd, 1) := by decide +kernel
theorem dX6_reach_19 : decode cX6_reach 19 = .ok (.aload_n 0, 1) := by decide +kernel
theorem dX6_reach_20 : decode cX6_reach 20 = .ok (.getfield 11, 3) := by decide +kernel
theorem dX6_reach_23 : decode cX6_reach 23 = .ok (.iload_n 2, 1) := by decide +kernel
theorem dX6_reach_24 : decode cX6_reach 24 = .ok (.iaload, 1) := by decide +kernel
theorem dX6_reach_25 : decode cX6_reach 25 = .ok (.if_icmp .ge 17, 3) := by decide +kernel
theorem dX6_reach_28 : decode cX6_reach 28 = .ok (.aload_n 0, 1) := by decide +kernel
theorem dX6_reach_29 : decode cX6_reach 29 = .ok (.getfield 11, 3) := by decide +kernel
theorem dX6_reach_32 : decode cX6_reach 32 = .ok (.iload_n 2, 1) := by decide +kernel
theorem dX6_reach_33 : decode cX6_reach 33 = .ok (.aload_n 0, 1) := by decide +kernel
theorem dX6_reach_34 : decode cX6_reach 34 = .ok (.getfield 11, 3) := by decide +kernel
theorem dX6_reach_37 : decode cX6_reach 37 = .ok (.iload_n 1, 1) := by decide +kernel
theorem dX6_reach_38 : decode cX6_reach 38 = .ok (.iaload, 1) := by decide +kernel
theorem dX6_reach_39 : decode cX6_reach 39 = .ok (.iload_n 3, 1) := by decide +kernel
theorem dX6_reach_40 : decode cX6_reach 40 = .ok (.iadd, 1) := by decide +kernel
theorem dX6_reach_41 : decode cX6_reach 41 = .ok (.iastore, 1) := by decide +kernel
theorem dX6_reach_42 : decode cX6_reach 42 = .ok (.return_, 1) := by decide +kernel
theorem dX7_init_0 : decode cX7_init 0 = .ok (.aload_n 0, 1) := by decide +kernel
theorem dX7_init_1 : decode cX7_init 1 = .ok (.invokespecial 3, 3) := by decide +kernel
theorem dX7_init_4 : decode cX7_init 4 = .ok (.aload_n 0, 1) := by decide +kernel
theorem dX7_init_5 : decode cX7_init 5 = .ok (.new 9, 3) := by decide +kernel
theorem dX7_init_8 : decode cX7_init 8 = .ok (.dup, 1) := by decide +kernel
theorem dX7_init_9 : decode cX7_init 9 = .ok (.invokespecial 11, 3) := by decide +kernel
theorem dX7_init_12 : decode cX7_init 12 = .ok (.putfield 12, 3) := by decide +kernel
theorem dX7_init_15 : decode cX7_init 15 = .ok (.aload_n 0, 1) := by decide +kernel
theorem dX7_init_16 : decode cX7_init 16 = .ok (.new 18, 3) := by decide +kernel
theorem dX7_init_19 : decode cX7_init 19 = .ok (.dup, 1) := by decide +kernel
theorem dX7_init_20 : decode cX7_init 20 = .ok (.invokespecial 20, 3) := by decide +kernel
theorem dX7_init_23 : decode cX7_init 23 = .ok (.putfield 21, 3) := by decide +kernel
theorem dX7_init_26 : decode cX7_init 26 = .ok (.aload_n 0, 1) := by decide +kernel
theorem dX7_init_27 : decode cX7_init 27 = .ok (.new 25, 3) := by decide +kernel
theorem dX7_init_30 : decode cX7_init 30 = .ok (.dup, 1) := by decide +kernel
theorem dX7_init_31 : decode cX7_init 31 = .ok (.invokespecial 27, 3) := by decide +kernel
theorem dX7_init_34 : decode cX7_init 34 = .ok (.putfield 28, 3) := by decide +kernel
theorem dX7_init_37 : decode cX7_init 37 = .ok (.aload_n 0, 1) := by decide +kernel
theorem dX7_init_38 : decode cX7_init 38 = .ok (.iconst 0, 1) := by decide +kernel
theorem dX7_init_39 : decode cX7_init 39 = .ok (.putfield 32, 3) := by decide +kernel
theorem dX7_init_42 : decode cX7_init 42 = .ok (.return_, 1) := by decide +kernel
theorem dX7_beginAll_0 : decode cX7_beginAll 0 = .ok (.aload_n 0, 1) := by decide +kernel
theorem dX7_beginAll_1 : decode cX7_beginAll 1 = .ok (.getfield 12, 3) := by decide +kernel
theorem dX7_beginAll_4 : decode cX7_beginAll 4 = .ok (.invokevirtual 36, 3) := by decide +kernel
theorem dX7_beginAll_7 : decode cX7_beginAll 7 = .ok (.aload_n 0, 1) := by decide +kernel
theorem dX7_beginAll_8 : decode cX7_beginAll 8 = .ok (.invokevirtual 39, 3) := by decide +kernel
theorem dX7_beginAll_11 : decode cX7_beginAll 11 = .ok (.return_, 1) := by decide +kernel
theorem dX7_regrow_0 : decode cX7_regrow 0 = .ok (.aload_n 0, 1) := by decide +kernel
theorem dX7_regrow_1 : decode cX7_regrow 1 = .ok (.getfield 21, 3) := by decide +kernel
theorem dX7_regrow_4 : decode cX7_regrow 4 = .ok (.aload_n 0, 1) := by decide +kernel
theorem dX7_regrow_5 : decode cX7_regrow 5 = .ok (.getfield 12, 3) := by decide +kernel
theorem dX7_regrow_8 : decode cX7_regrow 8 = .ok (.invokevirtual 42, 3) := by decide +kernel
theorem dX7_regrow_11 : decode cX7_regrow 11 = .ok (.return_, 1) := by decide +kernel
theorem dX7_gainOf_0 : decode cX7_gainOf 0 = .ok (.aload_n 0, 1) := by decide +kernel
theorem dX7_gainOf_1 : decode cX7_gainOf 1 = .ok (.getfield 12, 3) := by decide +kernel
theorem dX7_gainOf_4 : decode cX7_gainOf 4 = .ok (.getfield 46, 3) := by decide +kernel
theorem dX7_gainOf_7 : decode cX7_gainOf 7 = .ok (.iload_n 1, 1) := by decide +kernel
theorem dX7_gainOf_8 : decode cX7_gainOf 8 = .ok (.iaload, 1) := by decide +kernel
theorem dX7_gainOf_9 : decode cX7_gainOf 9 = .ok (.aload_n 0, 1) := by decide +kernel
theorem dX7_gainOf_10 : decode cX7_gainOf 10 = .ok (.getfield 21, 3) := by decide +kernel
theorem dX7_gainOf_13 : decode cX7_gainOf 13 = .ok (.getfield 50, 3) := by decide +kernel
theorem dX7_gainOf_16 : decode cX7_gainOf 16 = .ok (.aload_n 0, 1) := by decide +kernel
theorem dX7_gainOf_17 : decode cX7_gainOf 17 = .ok (.getfield 12, 3) := by decide +kernel
theorem dX7_gainOf_20 : decode cX7_gainOf 20 = .ok (.getfield 53, 3) := by decide +kernel
theorem dX7_gainOf_23 : decode cX7_gainOf 23 = .ok (.iload_n 1, 1) := by decide +kernel
theorem dX7_gainOf_24 : decode cX7_gainOf 24 = .ok (.iaload, 1) := by decide +kernel
theorem dX7_gainOf_25 : decode cX7_gainOf 25 = .ok (.iaload, 1) := by decide +kernel
theorem dX7_gainOf_26 : decode cX7_gainOf 26 = .ok (.iadd, 1) := by decide +kernel
theorem dX7_gainOf_27 : decode cX7_gainOf 27 = .ok (.aload_n 0, 1) := by decide +kernel
theorem dX7_gainOf_28 : decode cX7_gainOf 28 = .ok (.getfield 21, 3) := by decide +kernel
theorem dX7_gainOf_31 : decode cX7_gainOf 31 = .ok (.getfield 50, 3) := by decide +kernel
theorem dX7_gainOf_34 : decode cX7_gainOf 34 = .ok (.aload_n 0, 1) := by decide +kernel
theorem dX7_gainOf_35 : decode cX7_gainOf 35 = .ok (.getfield 12, 3) := by decide +kernel
theorem dX7_gainOf_38 : decode cX7_gainOf 38 = .ok (.getfield 56, 3) := by decide +kernel
theorem dX7_gainOf_41 : decode cX7_gainOf 41 = .ok (.iload_n 1, 1) := by decide +kernel
theorem dX7_gainOf_42 : decode cX7_gainOf 42 = .ok (.iaload, 1) := by decide +kernel
theorem dX7_gainOf_43 : decode cX7_gainOf 43 = .ok (.iaload, 1) := by decide +kernel
theorem dX7_gainOf_44 : decode cX7_gainOf 44 = .ok (.isub, 1) := by decide +kernel
theorem dX7_gainOf_45 : decode cX7_gainOf 45 = .ok (.ireturn, 1) := by decide +kernel
theorem dX7_goodness_0 : decode cX7_goodness 0 = .ok (.aload_n 0, 1) := by decide +kernel
theorem dX7_goodness_1 : decode cX7_goodness 1 = .ok (.iload_n 1, 1) := by decide +kernel
theorem dX7_goodness_2 : decode cX7_goodness 2 = .ok (.invokevirtual 59, 3) := by decide +kernel
theorem dX7_goodness_5 : decode cX7_goodness 5 = .ok (.istore_n 2, 1) := by decide +kernel
theorem dX7_goodness_6 : decode cX7_goodness 6 = .ok (.aload_n 0, 1) := by decide +kernel
theorem dX7_goodness_7 : decode cX7_goodness 7 = .ok (.getfield 12, 3) := by decide +kernel
theorem dX7_goodness_10 : decode cX7_goodness 10 = .ok (.getfield 63, 3) := by decide +kernel
theorem dX7_goodness_13 : decode cX7_goodness 13 = .ok (.iload_n 1, 1) := by decide +kernel
theorem dX7_goodness_14 : decode cX7_goodness 14 = .ok (.iaload, 1) := by decide +kernel
theorem dX7_goodness_15 : decode cX7_goodness 15 = .ok (.iconst 1, 1) := by decide +kernel
theorem dX7_goodness_16 : decode cX7_goodness 16 = .ok (.if_icmp .ne 10, 3) := by decide +kernel
theorem dX7_goodness_19 : decode cX7_goodness 19 = .ok (.iload_n 2, 1) := by decide +kernel
theorem dX7_goodness_20 : decode cX7_goodness 20 = .ok (.ifCond .ge 6, 3) := by decide +kernel
theorem dX7_goodness_23 : decode cX7_goodness 23 = .ok (.iload_n 2, 1) := by decide +kernel
theorem dX7_goodness_24 : decode cX7_goodness 24 = .ok (.ineg, 1) := by decide +kernel
theorem dX7_goodness_25 : decode cX7_goodness 25 = .ok (.ireturn, 1) := by decide +kernel
theorem dX7_goodness_26 : decode cX7_goodness 26 = .ok (.aload_n 0, 1) := by decide +kernel
theorem dX7_goodness_27 : decode cX7_goodness 27 = .ok (.getfield 12, 3) := by decide +kernel
theorem dX7_goodness_30 : decode cX7_goodness 30 = .ok (.getfield 63, 3) := by decide +kernel
theorem dX7_goodness_33 : decode cX7_goodness 33 = .ok (.iload_n 1, 1) := by decide +kernel
theorem dX7_goodness_34 : decode cX7_goodness 34 = .ok (.iaload, 1) := by decide +kernel
theorem dX7_goodness_35 : decode cX7_goodness 35 = .ok (.iconst 2, 1) := by decide +kernel
theorem dX7_goodness_36 : decode cX7_goodness 36 = .ok (.if_icmp .ne 11, 3) := by decide +kernel
theorem dX7_goodness_39 : decode cX7_goodness 39 = .ok (.iload_n 2, 1) := by decide +kernel
theorem dX7_goodness_40 : decode cX7_goodness 40 = .ok (.ifCond .le 7, 3) := by decide +kernel
theorem dX7_goodness_43 : decode cX7_goodness 43 = .ok (.iload_n 2, 1) := by decide +kernel
theorem dX7_goodness_44 : decode cX7_goodness 44 = .ok (.goto 4, 3) := by decide +kernel
theorem dX7_goodness_47 : decode cX7_goodness 47 = .ok (.iconst 0, 1) := by decide +kernel
theorem dX7_goodness_48 : decode cX7_goodness 48 = .ok (.ireturn, 1) := by decide +kernel
theorem dX7_countGood_0 : decode cX7_countGood 0 = .ok (.iconst 0, 1) := by decide +kernel
theorem dX7_countGood_1 : decode cX7_countGood 1 = .ok (.istore_n 1, 1) := by decide +kernel
theorem dX7_countGood_2 : decode cX7_countGood 2 = .ok (.iconst 0, 1) := by decide +kernel
theorem dX7_countGood_3 : decode cX7_countGood 3 = .ok (.istore_n 2, 1) := by decide +kernel
theorem dX7_countGood_4 : decode cX7_countGood 4 = .ok (.iload_n 2, 1) := by decide +kernel
theorem dX7_countGood_5 : decode cX7_countGood 5 = .ok (.aload_n 0, 1) := by decide +kernel
theorem dX7_countGood_6 : decode cX7_countGood 6 = .ok (.getfield 12, 3) := by decide +kernel
theorem dX7_countGood_9 : decode cX7_countGood 9 = .ok (.invokevirtual 66, 3) := by decide +kernel
theorem dX7_countGood_12 : decode cX7_countGood 12 = .ok (.if_icmp .ge 25, 3) := by decide +kernel
theorem dX7_countGood_15 : decode cX7_countGood 15 = .ok (.iload_n 1, 1) := by decide +kernel
theorem dX7_countGood_16 : decode cX7_countGood 16 = .ok (.aload_n 0, 1) := by decide +kernel
theorem dX7_countGood_17 : decode cX7_countGood 17 = .ok (.iload_n 2, 1) := by decide +kernel
theorem dX7_countGood_18 : decode cX7_countGood 18 = .ok (.invokevirtual 70, 3) := by decide +kernel
theorem dX7_countGood_21 : decode cX7_countGood 21 = .ok (.ifCond .le 7, 3) := by decide +kernel
theorem dX7_countGood_24 : decode cX7_countGood 24 = .ok (.iconst 1, 1) := by decide +kernel
theorem dX7_countGood_25 : decode cX7_countGood 25 = .ok (.goto 4, 3) := by decide +kernel
theorem dX7_countGood_28 : decode cX7_countGood 28 = .ok (.iconst 0, 1) := by decide +kernel
theorem dX7_countGood_29 : decode cX7_countGood 29 = .ok (.iadd, 1) := by decide +kernel
theorem dX7_countGood_30 : decode cX7_countGood 30 = .ok (.istore_n 1, 1) := by decide +kernel
theorem dX7_countGood_31 : decode cX7_countGood 31 = .ok (.iinc 2 1, 3) := by decide +kernel
theorem dX7_countGood_34 : decode cX7_countGood 34 = .ok (.goto (-30), 3) := by decide +kernel
theorem dX7_countGood_37 : decode cX7_countGood 37 = .ok (.iload_n 1, 1) := by decide +kernel
theorem dX7_countGood_38 : decode cX7_countGood 38 = .ok (.ireturn, 1) := by decide +kernel
theorem dX7_isEnd_0 : decode cX7_isEnd 0 = .ok (.aload_n 0, 1) := by decide +kernel
theorem dX7_isEnd_1 : decode cX7_isEnd 1 = .ok (.invokevirtual 73, 3) := by decide +kernel
theorem dX7_isEnd_4 : decode cX7_isEnd 4 = .ok (.ifCond .ne 7, 3) := by decide +kernel
theorem dX7_isEnd_7 : decode cX7_isEnd 7 = .ok (.iconst 1, 1) := by decide +kernel
theorem dX7_isEnd_8 : decode cX7_isEnd 8 = .ok (.goto 4, 3) := by decide +kernel
theorem dX7_isEnd_11 : decode cX7_isEnd 11 = .ok (.iconst 0, 1) := by decide +kernel
theorem dX7_isEnd_12 : decode cX7_isEnd 12 = .ok (.ireturn, 1) := by decide +kernel
theorem dX7_findEntering_0 : decode cX7_findEntering 0 = .ok (.aload_n 0, 1) := by decide +kernel
theorem dX7_findEntering_1 : decode cX7_findEntering 1 = .ok (.getfield 12, 3) := by decide +kernel
theorem dX7_findEntering_4 : decode cX7_findEntering 4 = .ok (.invokevirtual 66, 3) := by decide +kernel
theorem dX7_findEntering_7 : decode cX7_findEntering 7 = .ok (.istore_n 1, 1) := by decide +kernel
theorem dX7_findEntering_8 : decode cX7_findEntering 8 = .ok (.aload_n 0, 1) := by decide +kernel
theorem dX7_findEntering_9 : decode cX7_findEntering 9 = .ok (.getfield 12, 3) := by decide +kernel
theorem dX7_findEntering_12 : decode cX7_findEntering 12 = .ok (.getfield 76, 3) := by decide +kernel
theorem dX7_findEntering_15 : decode cX7_findEntering 15 = .ok (.istore_n 2, 1) := by decide +kernel
theorem dX7_findEntering_16 : decode cX7_findEntering 16 = .ok (.iconst (-1), 1) := by decide +kernel
theorem dX7_findEntering_17 : decode cX7_findEntering 17 = .ok (.istore_n 3, 1) := by decide +kernel
theorem dX7_findEntering_18 : decode cX7_findEntering 18 = .ok (.iconst 0, 1) := by decide +kernel
theorem dX7_findEntering_19 : decode cX7_findEntering 19 = .ok (.istore 4, 2) := by decide +kernel
theorem dX7_findEntering_21 : decode cX7_findEntering 21 = .ok (.iconst 0, 1) := by decide +kernel
theorem dX7_findEntering_22 : decode cX7_findEntering 22 = .ok (.istore 5, 2) := by decide +kernel
theorem dX7_findEntering_24 : decode cX7_findEntering 24 = .ok (.iconst 0, 1) := by decide +kernel
theorem dX7_findEntering_25 : decode cX7_findEntering 25 = .ok (.istore 6, 2) := by decide +kernel
theorem dX7_findEntering_27 : decode cX7_findEntering 27 = .ok (.iload 6, 2) := by decide +kernel
theorem dX7_findEntering_29 : decode cX7_findEntering 29 = .ok (.iload_n 1, 1) := by decide +kernel
theorem dX7_findEntering_30 : decode cX7_findEntering 30 = .ok (.if_icmp .ge 83, 3) := by decide +kernel
theorem dX7_findEntering_33 : decode cX7_findEntering 33 = .ok (.iload_n 3, 1) := by decide +kernel
theorem dX7_findEntering_34 : decode cX7_findEntering 34 = .ok (.iconst (-1), 1) := by decide +kernel
theorem dX7_findEntering_35 : decode cX7_findEntering 35 = .ok (.if_icmp .eq 15, 3) := by decide +kernel
theorem dX7_findEntering_38 : decode cX7_findEntering 38 = .ok (.iload 5, 2) := by decide +kernel
theorem dX7_findEntering_40 : decode cX7_findEntering 40 = .ok (.aload_n 0, 1) := by decide +kernel
theorem dX7_findEntering_41 : decode cX7_findEntering 41 = .ok (.getfield 12, 3) := by decide +kernel
theorem dX7_findEntering_44 : decode cX7_findEntering 44 = .ok (.getfield 79, 3) := by decide +kernel
theorem dX7_findEntering_47 : decode cX7_findEntering 47 = .ok (.if_icmp .ge 66, 3) := by decide +kernel
theorem dX7_findEntering_50 : decode cX7_findEntering 50 = .ok (.iload 5, 2) := by decide +kernel
theorem dX7_findEntering_52 : decode cX7_findEntering 52 = .ok (.aload_n 0, 1) := by decide +kernel
theorem dX7_findEntering_53 : decode cX7_findEntering 53 = .ok (.getfield 12, 3) := by decide +kernel
theorem dX7_findEntering_56 : decode cX7_findEntering 56 = .ok (.getfield 79, 3) := by decide +kernel
theorem dX7_findEntering_59 : decode cX7_findEntering 59 = .ok (.if_icmp .ge 10, 3) := by decide +kernel
theorem dX7_findEntering_62 : decode cX7_findEntering 62 = .ok (.iload 5, 2) := by decide +kernel
theorem dX7_findEntering_64 : decode cX7_findEntering 64 = .ok (.iconst 1, 1) := by decide +kernel
theorem dX7_findEntering_65 : decode cX7_findEntering 65 = .ok (.iadd, 1) := by decide +kernel
theorem dX7_findEntering_66 : decode cX7_findEntering 66 = .ok (.goto 4, 3) := by decide +kernel
theorem dX7_findEntering_69 : decode cX7_findEntering 69 = .ok (.iconst 1, 1) := by decide +kernel
theorem dX7_findEntering_70 : decode cX7_findEntering 70 = .ok (.istore 5, 2) := by decide +kernel
theorem dX7_findEntering_72 : decode cX7_findEntering 72 = .ok (.aload_n 0, 1) := by decide +kernel
theorem dX7_findEntering_73 : decode cX7_findEntering 73 = .ok (.iload_n 2, 1) := by decide +kernel
theorem dX7_findEntering_74 : decode cX7_findEntering 74 = .ok (.invokevirtual 70, 3) := by decide +kernel
theorem dX7_findEntering_77 : decode cX7_findEntering 77 = .ok (.istore 7, 2) := by decide +kernel
theorem dX7_findEntering_79 : decode cX7_findEntering 79 = .ok (.iload 7, 2) := by decide +kernel
theorem dX7_findEntering_81 : decode cX7_findEntering 81 = .ok (.iload 4, 2) := by decide +kernel
theorem dX7_findEntering_83 : decode cX7_findEntering 83 = .ok (.if_icmp .le 9, 3) := by decide +kernel
theorem dX7_findEntering_86 : decode cX7_findEntering 86 = .ok (.iload_n 2, 1) := by decide +kernel
theorem dX7_findEntering_87 : decode cX7_findEntering 87 = .ok (.istore_n 3, 1) := by decide +kernel
theorem dX7_findEntering_88 : decode cX7_findEntering 88 = .ok (.iload 7, 2) := by decide +kernel
theorem dX7_findEntering_90 : decode cX7_findEntering 90 = .ok (.istore 4, 2) := by decide +kernel
theorem dX7_findEntering_92 : decode cX7_findEntering 92 = .ok (.iload_n 2, 1) := by decide +kernel
theorem dX7_findEntering_93 : decode cX7_findEntering 93 = .ok (.iconst 1, 1) := by decide +kernel
theorem dX7_findEntering_94 : decode cX7_findEntering 94 = .ok (.iadd, 1) := by decide +kernel
theorem dX7_findEntering_95 : decode cX7_findEntering 95 = .ok (.iload_n 1, 1) := by decide +kernel
theorem dX7_findEntering_96 : decode cX7_findEntering 96 = .ok (.if_icmp .ge 9, 3) := by decide +kernel
theorem dX7_findEntering_99 : decode cX7_findEntering 99 = .ok (.iload_n 2, 1) := by decide +kernel
theorem dX7_findEntering_100 : decode cX7_findEntering 100 = .ok (.iconst 1, 1) := by decide +kernel
theorem dX7_findEntering_101 : decode cX7_findEntering 101 = .ok (.iadd, 1) := by decide +kernel
theorem dX7_findEntering_102 : decode cX7_findEntering 102 = .ok (.goto 4, 3) := by decide +kernel
theorem dX7_findEntering_105 : decode cX7_findEntering 105 = .ok (.iconst 0, 1) := by decide +kernel
theorem dX7_findEntering_106 : decode cX7_findEntering 106 = .ok (.istore_n 2, 1) := by decide +kernel
theorem dX7_findEntering_107 : decode cX7_findEntering 107 = .ok (.iinc 6 1, 3) := by decide +kernel
theorem dX7_findEntering_110 : decode cX7_findEntering 110 = .ok (.goto (-83), 3) := by decide +kernel
theorem dX7_findEntering_113 : decode cX7_findEntering 113 = .ok (.aload_n 0, 1) := by decide +kernel
theorem dX7_findEntering_114 : decode cX7_findEntering 114 = .ok (.iload_n 2, 1) := by decide +kernel
theorem dX7_findEntering_115 : decode cX7_findEntering 115 = .ok (.putfield 32, 3) := by decide +kernel
theorem dX7_findEntering_118 : decode cX7_findEntering 118 = .ok (.iload_n 3, 1) := by decide +kernel
theorem dX7_findEntering_119 : decode cX7_findEntering 119 = .ok (.ireturn, 1) := by decide +kernel
theorem dX7_traceRing_0 : decode cX7_traceRing 0 = .ok (.aload_n 0, 1) := by decide +kernel
theorem dX7_traceRing_1 : decode cX7_traceRing 1 = .ok (.getfield 28, 3) := by decide +kernel
theorem dX7_traceRing_4 : decode cX7_traceRing 4 = .ok (.aload_n 0, 1) := by decide +kernel
theorem dX7_traceRing_5 : decode cX7_traceRing 5 = .ok (.getfield 12, 3) := by decide +kernel
theorem dX7_traceRing_8 : decode cX7_traceRing 8 = .ok (.aload_n 0, 1) := by decide +kernel
theorem dX7_traceRing_9 : decode cX7_traceRing 9 = .ok (.getfield 21, 3) := by decide +kernel
theorem dX7_traceRing_12 : decode cX7_traceRing 12 = .ok (.iload_n 1, 1) := by decide +kernel
theorem dX7_traceRing_13 : decode cX7_traceRing 13 = .ok (.invokevirtual 82, 3) := by decide +kernel
theorem dX7_traceRing_16 : decode cX7_traceRing 16 = .ok (.aload_n 0, 1) := by decide +kernel
theorem dX7_traceRing_17 : decode cX7_traceRing 17 = .ok (.getfield 28, 3) := by decide +kernel
theorem dX7_traceRing_20 : decode cX7_traceRing 20 = .ok (.areturn, 1) := by decide +kernel
theorem dX7_makePivot_0 : decode cX7_makePivot 0 = .ok (.aload_n 0, 1) := by decide +kernel
theorem dX7_makePivot_1 : decode cX7_makePivot 1 = .ok (.invokevirtual 86, 3) := by decide +kernel
theorem dX7_makePivot_4 : decode cX7_makePivot 4 = .ok (.istore_n 1, 1) := by decide +kernel
theorem dX7_makePivot_5 : decode cX7_makePivot 5 = .ok (.iload_n 1, 1) := by decide +kernel
theorem dX7_makePivot_6 : decode cX7_makePivot 6 = .ok (.iconst (-1), 1) := by decide +kernel
theorem dX7_makePivot_7 : decode cX7_makePivot 7 = .ok (.if_icmp .ne 5, 3) := by decide +kernel
theorem dX7_makePivot_10 : decode cX7_makePivot 10 = .ok (.iconst (-1), 1) := by decide +kernel
theorem dX7_makePivot_11 : decode cX7_makePivot 11 = .ok (.ireturn, 1) := by decide +kernel
theorem dX7_makePivot_12 : decode cX7_makePivot 12 = .ok (.aload_n 0, 1) := by decide +kernel
theorem dX7_makePivot_13 : decode cX7_makePivot 13 = .ok (.getfield 12, 3) := by decide +kernel
theorem dX7_makePivot_16 : decode cX7_makePivot 16 = .ok (.aload_n 0, 1) := by decide +kernel
theorem dX7_makePivot_17 : decode cX7_makePivot 17 = .ok (.getfield 32, 3) := by decide +kernel
theorem dX7_makePivot_20 : decode cX7_makePivot 20 = .ok (.putfield 76, 3) := by decide +kernel
theorem dX7_makePivot_23 : decode cX7_makePivot 23 = .ok (.aload_n 0, 1) := by decide +kernel
theorem dX7_makePivot_24 : decode cX7_makePivot 24 = .ok (.getfield 28, 3) := by decide +kernel
theorem dX7_makePivot_27 : decode cX7_makePivot 27 = .ok (.aload_n 0, 1) := by decide +kernel
theorem dX7_makePivot_28 : decode cX7_makePivot 28 = .ok (.getfield 12, 3) := by decide +kernel
theorem dX7_makePivot_31 : decode cX7_makePivot 31 = .ok (.aload_n 0, 1) := by decide +kernel
theorem dX7_makePivot_32 : decode cX7_makePivot 32 = .ok (.getfield 21, 3) := by decide +kernel
theorem dX7_makePivot_35 : decode cX7_makePivot 35 = .ok (.iload_n 1, 1) := by decide +kernel
theorem dX7_makePivot_36 : decode cX7_makePivot 36 = .ok (.invokevirtual 82, 3) := by decide +kernel
theorem dX7_makePivot_39 : decode cX7_makePivot 39 = .ok (.aload_n 0, 1) := by decide +kernel
theorem dX7_makePivot_40 : decode cX7_makePivot 40 = .ok (.invokevirtual 89, 3) := by decide +kernel
theorem dX7_makePivot_43 : decode cX7_makePivot 43 = .ok (.aload_n 0, 1) := by decide +kernel
theorem dX7_makePivot_44 : decode cX7_makePivot 44 = .ok (.iload_n 1, 1) := by decide +kernel
theorem dX7_makePivot_45 : decode cX7_makePivot 45 = .ok (.invokevirtual 92, 3) := by decide +kernel
theorem dX7_makePivot_48 : decode cX7_makePivot 48 = .ok (.aload_n 0, 1) := by decide +kernel
theorem dX7_makePivot_49 : decode cX7_makePivot 49 = .ok (.invokevirtual 39, 3) := by decide +kernel
theorem dX7_makePivot_52 : decode cX7_makePivot 52 = .ok (.aload_n 0, 1) := by decide +kernel
theorem dX7_makePivot_53 : decode cX7_makePivot 53 = .ok (.getfield 12, 3) := by decide +kernel
theorem dX7_makePivot_56 : decode cX7_makePivot 56 = .ok (.iload_n 1, 1) := by decide +kernel
theorem dX7_makePivot_57 : decode cX7_makePivot 57 = .ok (.aload_n 0, 1) := by decide +kernel
theorem dX7_makePivot_58 : decode cX7_makePivot 58 = .ok (.getfield 28, 3) := by decide +kernel
theorem dX7_makePivot_61 : decode cX7_makePivot 61 = .ok (.aload_n 0, 1) := by decide +kernel
theorem dX7_makePivot_62 : decode cX7_makePivot 62 = .ok (.getfield 21, 3) := by decide +kernel
theorem dX7_makePivot_65 : decode cX7_makePivot 65 = .ok (.aload_n 0, 1) := by decide +kernel
theorem dX7_makePivot_66 : decode cX7_makePivot 66 = .ok (.getfield 12, 3) := by decide +kernel
theorem dX7_makePivot_69 : decode cX7_makePivot 69 = .ok (.getfield 96, 3) := by decide +kernel
theorem dX7_makePivot_72 : decode cX7_makePivot 72 = .ok (.invokevirtual 99, 3) := by decide +kernel
theorem dX7_makePivot_75 : decode cX7_makePivot 75 = .ok (.invokevirtual 102, 3) := by decide +kernel
theorem dX7_makePivot_78 : decode cX7_makePivot 78 = .ok (.iload_n 1, 1) := by decide +kernel
theorem dX7_makePivot_79 : decode cX7_makePivot 79 = .ok (.ireturn, 1) := by decide +kernel
theorem dX7_moveFlows_0 : decode cX7_moveFlows 0 = .ok (.iconst 0, 1) := by decide +kernel
theorem dX7_moveFlows_1 : decode cX7_moveFlows 1 = .ok (.istore_n 1, 1) := by decide +kernel
theorem dX7_moveFlows_2 : decode cX7_moveFlows 2 = .ok (.iload_n 1, 1) := by decide +kernel
theorem dX7_moveFlows_3 : decode cX7_moveFlows 3 = .ok (.aload_n 0, 1) := by decide +kernel
theorem dX7_moveFlows_4 : decode cX7_moveFlows 4 = .ok (.getfield 28, 3) := by decide +kernel
theorem dX7_moveFlows_7 : decode cX7_moveFlows 7 = .ok (.getfield 106, 3) := by decide +kernel
theorem dX7_moveFlows_10 : decode cX7_moveFlows 10 = .ok (.if_icmp .ge 59, 3) := by decide +kernel
theorem dX7_moveFlows_13 : decode cX7_moveFlows 13 = .ok (.aload_n 0, 1) := by decide +kernel
theorem dX7_moveFlows_14 : decode cX7_moveFlows 14 = .ok (.getfield 12, 3) := by decide +kernel
theorem dX7_moveFlows_17 : decode cX7_moveFlows 17 = .ok (.getfield 109, 3) := by decide +kernel
theorem dX7_moveFlows_20 : decode cX7_moveFlows 20 = .ok (.aload_n 0, 1) := by decide +kernel
theorem dX7_moveFlows_21 : decode cX7_moveFlows 21 = .ok (.getfield 28, 3) := by decide +kernel
theorem dX7_moveFlows_24 : decode cX7_moveFlows 24 = .ok (.getfield 112, 3) := by decide +kernel
theorem dX7_moveFlows_27 : decode cX7_moveFlows 27 = .ok (.iload_n 1, 1) := by decide +kernel
theorem dX7_moveFlows_28 : decode cX7_moveFlows 28 = .ok (.iaload, 1) := by decide +kernel
theorem dX7_moveFlows_29 : decode cX7_moveFlows 29 = .ok (.dup2, 1) := by decide +kernel
theorem dX7_moveFlows_30 : decode cX7_moveFlows 30 = .ok (.iaload, 1) := by decide +kernel
theorem dX7_moveFlows_31 : decode cX7_moveFlows 31 = .ok (.aload_n 0, 1) := by decide +kernel
theorem dX7_moveFlows_32 : decode cX7_moveFlows 32 = .ok (.getfield 28, 3) := by decide +kernel
theorem dX7_moveFlows_35 : decode cX7_moveFlows 35 = .ok (.getfield 115, 3) := by decide +kernel
theorem dX7_moveFlows_38 : decode cX7_moveFlows 38 = .ok (.iload_n 1, 1) := by decide +kernel
theorem dX7_moveFlows_39 : decode cX7_moveFlows 39 = .ok (.baload, 1) := by decide +kernel
theorem dX7_moveFlows_40 : decode cX7_moveFlows 40 = .ok (.ifCond .eq 13, 3) := by decide +kernel
theorem dX7_moveFlows_43 : decode cX7_moveFlows 43 = .ok (.aload_n 0, 1) := by decide +kernel
theorem dX7_moveFlows_44 : decode cX7_moveFlows 44 = .ok (.getfield 28, 3) := by decide +kernel
theorem dX7_moveFlows_47 : decode cX7_moveFlows 47 = .ok (.getfield 119, 3) := by decide +kernel
theorem dX7_moveFlows_50 : decode cX7_moveFlows 50 = .ok (.goto 11, 3) := by decide +kernel
theorem dX7_moveFlows_53 : decode cX7_moveFlows 53 = .ok (.aload_n 0, 1) := by decide +kernel
theorem dX7_moveFlows_54 : decode cX7_moveFlows 54 = .ok (.getfield 28, 3) := by decide +kernel
theorem dX7_moveFlows_57 : decode cX7_moveFlows 57 = .ok (.getfield 119, 3) := by decide +kernel
theorem dX7_moveFlows_60 : decode cX7_moveFlows 60 = .ok (.ineg, 1) := by decide +kernel
theorem dX7_moveFlows_61 : decode cX7_moveFlows 61 = .ok (.iadd, 1) := by decide +kernel
theorem dX7_moveFlows_62 : decode cX7_moveFlows 62 = .ok (.iastore, 1) := by decide +kernel
theorem dX7_moveFlows_63 : decode cX7_moveFlows 63 = .ok (.iinc 1 1, 3) := by decide +kernel
theorem dX7_moveFlows_66 : decode cX7_moveFlows 66 = .ok (.goto (-64), 3) := by decide +kernel
theorem dX7_moveFlows_69 : decode cX7_moveFlows 69 = .ok (.return_, 1) := by decide +kernel
theorem dX7_exchange_0 : decode cX7_exchange 0 = .ok (.aload_n 0, 1) := by decide +kernel
theorem dX7_exchange_1 : decode cX7_exchange 1 = .ok (.getfield 28, 3) := by decide +kernel
theorem dX7_exchange_4 : decode cX7_exchange 4 = .ok (.invokevirtual 122, 3) := by decide +kernel
theorem dX7_exchange_7 : decode cX7_exchange 7 = .ok (.istore_n 2, 1) := by decide +kernel
theorem dX7_exchange_8 : decode cX7_exchange 8 = .ok (.aload_n 0, 1) := by decide +kernel
theorem dX7_exchange_9 : decode cX7_exchange 9 = .ok (.getfield 12, 3) := by decide +kernel
theorem dX7_exchange_12 : decode cX7_exchange 12 = .ok (.getfield 63, 3) := by decide +kernel
theorem dX7_exchange_15 : decode cX7_exchange 15 = .ok (.iload_n 1, 1) := by decide +kernel
theorem dX7_exchange_16 : decode cX7_exchange 16 = .ok (.iconst 0, 1) := by decide +kernel
theorem dX7_exchange_17 : decode cX7_exchange 17 = .ok (.iastore, 1) := by decide +kernel
theorem dX7_exchange_18 : decode cX7_exchange 18 = .ok (.aload_n 0, 1) := by decide +kernel
theorem dX7_exchange_19 : decode cX7_exchange 19 = .ok (.getfield 12, 3) := by decide +kernel
theorem dX7_exchange_22 : decode cX7_exchange 22 = .ok (.getfield 63, 3) := by decide +kernel
theorem dX7_exchange_25 : decode cX7_exchange 25 = .ok (.iload_n 2, 1) := by decide +kernel
theorem dX7_exchange_26 : decode cX7_exchange 26 = .ok (.aload_n 0, 1) := by decide +kernel
theorem dX7_exchange_27 : decode cX7_exchange 27 = .ok (.getfield 28, 3) := by decide +kernel
theorem dX7_exchange_30 : decode cX7_exchange 30 = .ok (.invokevirtual 125, 3) := by decide +kernel
theorem dX7_exchange_33 : decode cX7_exchange 33 = .ok (.ifCond .eq 7, 3) := by decide +kernel
theorem dX7_exchange_36 : decode cX7_exchange 36 = .ok (.iconst 2, 1) := by decide +kernel
theorem dX7_exchange_37 : decode cX7_exchange 37 = .ok (.goto 4, 3) := by decide +kernel
theorem dX7_exchange_40 : decode cX7_exchange 40 = .ok (.iconst 1, 1) := by decide +kernel
theorem dX7_exchange_41 : decode cX7_exchange 41 = .ok (.iastore, 1) := by decide +kernel
theorem dX7_exchange_42 : decode cX7_exchange 42 = .ok (.return_, 1) := by decide +kernel
theorem dX7_makePivots_0 : decode cX7_makePivots 0 = .ok (.iconst 0, 1) := by decide +kernel
theorem dX7_makePivots_1 : decode cX7_makePivots 1 = .ok (.istore_n 2, 1) := by decide +kernel
theorem dX7_makePivots_2 : decode cX7_makePivots 2 = .ok (.iload_n 2, 1) := by decide +kernel
theorem dX7_makePivots_3 : decode cX7_makePivots 3 = .ok (.iload_n 1, 1) := by decide +kernel
theorem dX7_makePivots_4 : decode cX7_makePivots 4 = .ok (.if_icmp .ge 17, 3) := by decide +kernel
theorem dX7_makePivots_7 : decode cX7_makePivots 7 = .ok (.aload_n 0, 1) := by decide +kernel
theorem dX7_makePivots_8 : decode cX7_makePivots 8 = .ok (.invokevirtual 129, 3) := by decide +kernel
theorem dX7_makePivots_11 : decode cX7_makePivots 11 = .ok (.iconst (-1), 1) := by decide +kernel
theorem dX7_makePivots_12 : decode cX7_makePivots 12 = .ok (.if_icmp .eq 9, 3) := by decide +kernel
theorem dX7_makePivots_15 : decode cX7_makePivots 15 = .ok (.iinc 2 1, 3) := by decide +kernel
theorem dX7_makePivots_18 : decode cX7_makePivots 18 = .ok (.goto (-16), 3) := by decide +kernel
theorem dX7_makePivots_21 : decode cX7_makePivots 21 = .ok (.iload_n 2, 1) := by decide +kernel
theorem dX7_makePivots_22 : decode cX7_makePivots 22 = .ok (.ireturn, 1) := by decide +kernel
theorem dX7_countHanging_0 : decode cX7_countHanging 0 = .ok (.iconst 0, 1) := by decide +kernel
theorem dX7_countHanging_1 : decode cX7_countHanging 1 = .ok (.istore_n 2, 1) := by decide +kernel
theorem dX7_countHanging_2 : decode cX7_countHanging 2 = .ok (.iconst 0, 1) := by decide +kernel
theorem dX7_countHanging_3 : decode cX7_countHanging 3 = .ok (.istore_n 3, 1) := by decide +kernel
theorem dX7_countHanging_4 : decode cX7_countHanging 4 = .ok (.iload_n 3, 1) := by decide +kernel
theorem dX7_countHanging_5 : decode cX7_countHanging 5 = .ok (.aload_n 0, 1) := by decide +kernel
theorem dX7_countHanging_6 : decode cX7_countHanging 6 = .ok (.getfield 12, 3) := by decide +kernel
theorem dX7_countHanging_9 : decode cX7_countHanging 9 = .ok (.getfield 96, 3) := by decide +kernel
theorem dX7_countHanging_12 : decode cX7_countHanging 12 = .ok (.if_icmp .ge 29, 3) := by decide +kernel
theorem dX7_countHanging_15 : decode cX7_countHanging 15 = .ok (.iload_n 2, 1) := by decide +kernel
theorem dX7_countHanging_16 : decode cX7_countHanging 16 = .ok (.aload_n 0, 1) := by decide +kernel
theorem dX7_countHanging_17 : decode cX7_countHanging 17 = .ok (.getfield 21, 3) := by decide +kernel
theorem dX7_countHanging_20 : decode cX7_countHanging 20 = .ok (.iload_n 3, 1) := by decide +kernel
theorem dX7_countHanging_21 : decode cX7_countHanging 21 = .ok (.iload_n 1, 1) := by decide +kernel
theorem dX7_countHanging_22 : decode cX7_countHanging 22 = .ok (.invokevirtual 132, 3) := by decide +kernel
theorem dX7_countHanging_25 : decode cX7_countHanging 25 = .ok (.ifCond .eq 7, 3) := by decide +kernel
theorem dX7_countHanging_28 : decode cX7_countHanging 28 = .ok (.iconst 1, 1) := by decide +kernel
theorem dX7_countHanging_29 : decode cX7_countHanging 29 = .ok (.goto 4, 3) := by decide +kernel
theorem dX7_countHanging_32 : decode cX7_countHanging 32 = .ok (.iconst 0, 1) := by decide +kernel
theorem dX7_countHanging_33 : decode cX7_countHanging 33 = .ok (.iadd, 1) := by decide +kernel
theorem dX7_countHanging_34 : decode cX7_countHanging 34 = .ok (.istore_n 2, 1) := by decide +kernel
theorem dX7_countHanging_35 : decode cX7_countHanging 35 = .ok (.iinc 3 1, 3) := by decide +kernel
theorem dX7_countHanging_38 : decode cX7_countHanging 38 = .ok (.goto (-34), 3) := by decide +kernel
theorem dX7_countHanging_41 : decode cX7_countHanging 41 = .ok (.iload_n 2, 1) := by decide +kernel
theorem dX7_countHanging_42 : decode cX7_countHanging 42 = .ok (.ireturn, 1) := by decide +kernel
theorem dX7_countAheadOf_0 : decode cX7_countAheadOf 0 = .ok (.iconst 0, 1) := by decide +kernel
theorem dX7_countAheadOf_1 : decode cX7_countAheadOf 1 = .ok (.istore_n 2, 1) := by decide +kernel
theorem dX7_countAheadOf_2 : decode cX7_countAheadOf 2 = .ok (.iconst 0, 1) := by decide +kernel
theorem dX7_countAheadOf_3 : decode cX7_countAheadOf 3 = .ok (.istore_n 3, 1) := by decide +kernel
theorem dX7_countAheadOf_4 : decode cX7_countAheadOf 4 = .ok (.iload_n 3, 1) := by decide +kernel
theorem dX7_countAheadOf_5 : decode cX7_countAheadOf 5 = .ok (.aload_n 0, 1) := by decide +kernel
theorem dX7_countAheadOf_6 : decode cX7_countAheadOf 6 = .ok (.getfield 12, 3) := by decide +kernel
theorem dX7_countAheadOf_9 : decode cX7_countAheadOf 9 = .ok (.getfield 96, 3) := by decide +kernel
theorem dX7_countAheadOf_12 : decode cX7_countAheadOf 12 = .ok (.if_icmp .ge 53, 3) := by decide +kernel
theorem dX7_countAheadOf_15 : decode cX7_countAheadOf 15 = .ok (.aload_n 0, 1) := by decide +kernel
theorem dX7_countAheadOf_16 : decode cX7_countAheadOf 16 = .ok (.getfield 21, 3) := by decide +kernel
theorem dX7_countAheadOf_19 : decode cX7_countAheadOf 19 = .ok (.getfield 50, 3) := by decide +kernel
theorem dX7_countAheadOf_22 : decode cX7_countAheadOf 22 = .ok (.iload_n 3, 1) := by decide +kernel
theorem dX7_countAheadOf_23 : decode cX7_countAheadOf 23 = .ok (.iaload, 1) := by decide +kernel
theorem dX7_countAheadOf_24 : decode cX7_countAheadOf 24 = .ok (.aload_n 0, 1) := by decide +kernel
theorem dX7_countAheadOf_25 : decode cX7_countAheadOf 25 = .ok (.getfield 21, 3) := by decide +kernel
theorem dX7_countAheadOf_28 : decode cX7_countAheadOf 28 = .ok (.getfield 50, 3) := by decide +kernel
theorem dX7_countAheadOf_31 : decode cX7_countAheadOf 31 = .ok (.iload_n 1, 1) := by decide +kernel
theorem dX7_countAheadOf_32 : decode cX7_countAheadOf 32 = .ok (.iaload, 1) := by decide +kernel
theorem dX7_countAheadOf_33 : decode cX7_countAheadOf 33 = .ok (.isub, 1) := by decide +kernel
theorem dX7_countAheadOf_34 : decode cX7_countAheadOf 34 = .ok (.istore 4, 2) := by decide +kernel
theorem dX7_countAheadOf_36 : decode cX7_countAheadOf 36 = .ok (.iload_n 2, 1) := by decide +kernel
theorem dX7_countAheadOf_37 : decode cX7_countAheadOf 37 = .ok (.iload 4, 2) := by decide +kernel
theorem dX7_countAheadOf_39 : decode cX7_countAheadOf 39 = .ok (.ifCond .lt 13, 3) := by decide +kernel
theorem dX7_countAheadOf_42 : decode cX7_countAheadOf 42 = .ok (.iload 4, 2) := by decide +kernel
theorem dX7_countAheadOf_44 : decode cX7_countAheadOf 44 = .ok (.ifCond .ne 12, 3) := by decide +kernel
theorem dX7_countAheadOf_47 : decode cX7_countAheadOf 47 = .ok (.iload_n 3, 1) := by decide +kernel
theorem dX7_countAheadOf_48 : decode cX7_countAheadOf 48 = .ok (.iload_n 1, 1) := by decide +kernel
theorem dX7_countAheadOf_49 : decode cX7_countAheadOf 49 = .ok (.if_icmp .ge 7, 3) := by decide +kernel
theorem dX7_countAheadOf_52 : decode cX7_countAheadOf 52 = .ok (.iconst 1, 1) := by decide +kernel
theorem dX7_countAheadOf_53 : decode cX7_countAheadOf 53 = .ok (.goto 4, 3) := by decide +kernel
theorem dX7_countAheadOf_56 : decode cX7_countAheadOf 56 = .ok (.iconst 0, 1) := by decide +kernel
theorem dX7_countAheadOf_57 : decode cX7_countAheadOf 57 = .ok (.iadd, 1) := by decide +kernel
theorem dX7_countAheadOf_58 : decode cX7_countAheadOf 58 = .ok (.istore_n 2, 1) := by decide +kernel
theorem dX7_countAheadOf_59 : decode cX7_countAheadOf 59 = .ok (.iinc 3 1, 3) := by decide +kernel
theorem dX7_countAheadOf_62 : decode cX7_countAheadOf 62 = .ok (.goto (-58), 3) := by decide +kernel
theorem dX7_countAheadOf_65 : decode cX7_countAheadOf 65 = .ok (.iload_n 2, 1) := by decide +kernel
theorem dX7_countAheadOf_66 : decode cX7_countAheadOf 66 = .ok (.ireturn, 1) := by decide +kernel
theorem dX7_isStrong_0 : decode cX7_isStrong 0 = .ok (.iconst 0, 1) := by decide +kernel
theorem dX7_isStrong_1 : decode cX7_isStrong 1 = .ok (.istore_n 1, 1) := by decide +kernel
theorem dX7_isStrong_2 : decode cX7_isStrong 2 = .ok (.iload_n 1, 1) := by decide +kernel
theorem dX7_isStrong_3 : decode cX7_isStrong 3 = .ok (.aload_n 0, 1) := by decide +kernel
theorem dX7_isStrong_4 : decode cX7_isStrong 4 = .ok (.getfield 12, 3) := by decide +kernel
theorem dX7_isStrong_7 : decode cX7_isStrong 7 = .ok (.getfield 96, 3) := by decide +kernel
theorem dX7_isStrong_10 : decode cX7_isStrong 10 = .ok (.if_icmp .ge 52, 3) := by decide +kernel
theorem dX7_isStrong_13 : decode cX7_isStrong 13 = .ok (.aload_n 0, 1) := by decide +kernel
theorem dX7_isStrong_14 : decode cX7_isStrong 14 = .ok (.getfield 21, 3) := by decide +kernel
theorem dX7_isStrong_17 : decode cX7_isStrong 17 = .ok (.getfield 136, 3) := by decide +kernel
theorem dX7_isStrong_20 : decode cX7_isStrong 20 = .ok (.iload_n 1, 1) := by decide +kernel
theorem dX7_isStrong_21 : decode cX7_isStrong 21 = .ok (.iaload, 1) := by decide +kernel
theorem dX7_isStrong_22 : decode cX7_isStrong 22 = .ok (.istore_n 2, 1) := by decide +kernel
theorem dX7_isStrong_23 : decode cX7_isStrong 23 = .ok (.aload_n 0, 1) := by decide +kernel
theorem dX7_isStrong_24 : decode cX7_isStrong 24 = .ok (.getfield 12, 3) := by decide +kernel
theorem dX7_isStrong_27 : decode cX7_isStrong 27 = .ok (.getfield 53, 3) := by decide +kernel
theorem dX7_isStrong_30 : decode cX7_isStrong 30 = .ok (.iload_n 2, 1) := by decide +kernel
theorem dX7_isStrong_31 : decode cX7_isStrong 31 = .ok (.iaload, 1) := by decide +kernel
theorem dX7_isStrong_32 : decode cX7_isStrong 32 = .ok (.iload_n 1, 1) := by decide +kernel
theorem dX7_isStrong_33 : decode cX7_isStrong 33 = .ok (.if_icmp .ne 7, 3) := by decide +kernel
theorem dX7_isStrong_36 : decode cX7_isStrong 36 = .ok (.iconst 1, 1) := by decide +kernel
theorem dX7_isStrong_37 : decode cX7_isStrong 37 = .ok (.goto 4, 3) := by decide +kernel
theorem dX7_isStrong_40 : decode cX7_isStrong 40 = .ok (.iconst 0, 1) := by decide +kernel
theorem dX7_isStrong_41 : decode cX7_isStrong 41 = .ok (.istore_n 3, 1) := by decide +kernel
theorem dX7_isStrong_42 : decode cX7_isStrong 42 = .ok (.aload_n 0, 1) := by decide +kernel
theorem dX7_isStrong_43 : decode cX7_isStrong 43 = .ok (.getfield 12, 3) := by decide +kernel
theorem dX7_isStrong_46 : decode cX7_isStrong 46 = .ok (.iload_n 2, 1) := by decide +kernel
theorem dX7_isStrong_47 : decode cX7_isStrong 47 = .ok (.iload_n 3, 1) := by decide +kernel
theorem dX7_isStrong_48 : decode cX7_isStrong 48 = .ok (.invokevirtual 139, 3) := by decide +kernel
theorem dX7_isStrong_51 : decode cX7_isStrong 51 = .ok (.ifCond .ne 5, 3) := by decide +kernel
theorem dX7_isStrong_54 : decode cX7_isStrong 54 = .ok (.iconst 0, 1) := by decide +kernel
theorem dX7_isStrong_55 : decode cX7_isStrong 55 = .ok (.ireturn, 1) := by decide +kernel
theorem dX7_isStrong_56 : decode cX7_isStrong 56 = .ok (.iinc 1 1, 3) := by decide +kernel
theorem dX7_isStrong_59 : decode cX7_isStrong 59 = .ok (.goto (-57), 3) := by decide +kernel
theorem dX7_isStrong_62 : decode cX7_isStrong 62 = .ok (.iconst 1, 1) := by decide +kernel
theorem dX7_isStrong_63 : decode cX7_isStrong 63 = .ok (.ireturn, 1) := by decide +kernel
theorem dX7_sumProof_0 : decode cX7_sumProof 0 = .ok (.lconst 0, 1) := by decide +kernel
theorem dX7_sumProof_1 : decode cX7_sumProof 1 = .ok (.lstore_n 1, 1) := by decide +kernel
theorem dX7_sumProof_2 : decode cX7_sumProof 2 = .ok (.iconst 0, 1) := by decide +kernel
theorem dX7_sumProof_3 : decode cX7_sumProof 3 = .ok (.istore_n 3, 1) := by decide +kernel
theorem dX7_sumProof_4 : decode cX7_sumProof 4 = .ok (.iload_n 3, 1) := by decide +kernel
theorem dX7_sumProof_5 : decode cX7_sumProof 5 = .ok (.aload_n 0, 1) := by decide +kernel
theorem dX7_sumProof_6 : decode cX7_sumProof 6 = .ok (.getfield 12, 3) := by decide +kernel
theorem dX7_sumProof_9 : decode cX7_sumProof 9 = .ok (.getfield 143, 3) := by decide +kernel
theorem dX7_sumProof_12 : decode cX7_sumProof 12 = .ok (.if_icmp .ge 33, 3) := by decide +kernel
theorem dX7_sumProof_15 : decode cX7_sumProof 15 = .ok (.lload_n 1, 1) := by decide +kernel
theorem dX7_sumProof_16 : decode cX7_sumProof 16 = .ok (.aload_n 0, 1) := by decide +kernel
theorem dX7_sumProof_17 : decode cX7_sumProof 17 = .ok (.iload_n 3, 1) := by decide +kernel
theorem dX7_sumProof_18 : decode cX7_sumProof 18 = .ok (.invokevirtual 59, 3) := by decide +kernel
theorem dX7_sumProof_21 : decode cX7_sumProof 21 = .ok (.iconst 0, 1) := by decide +kernel
theorem dX7_sumProof_22 : decode cX7_sumProof 22 = .ok (.invokestatic 146, 3) := by decide +kernel
theorem dX7_sumProof_25 : decode cX7_sumProof 25 = .ok (.i2l, 1) := by decide +kernel
theorem dX7_sumProof_26 : decode cX7_sumProof 26 = .ok (.aload_n 0, 1) := by decide +kernel
theorem dX7_sumProof_27 : decode cX7_sumProof 27 = .ok (.getfield 12, 3) := by decide +kernel
theorem dX7_sumProof_30 : decode cX7_sumProof 30 = .ok (.getfield 152, 3) := by decide +kernel
theorem dX7_sumProof_33 : decode cX7_sumProof 33 = .ok (.iload_n 3, 1) := by decide +kernel
theorem dX7_sumProof_34 : decode cX7_sumProof 34 = .ok (.iaload, 1) := by decide +kernel
theorem dX7_sumProof_35 : decode cX7_sumProof 35 = .ok (.i2l, 1) := by decide +kernel
theorem dX7_sumProof_36 : decode cX7_sumProof 36 = .ok (.lmul, 1) := by decide +kernel
theorem dX7_sumProof_37 : decode cX7_sumProof 37 = .ok (.ladd, 1) := by decide +kernel
theorem dX7_sumProof_38 : decode cX7_sumProof 38 = .ok (.lstore_n 1, 1) := by decide +kernel
theorem dX7_sumProof_39 : decode cX7_sumProof 39 = .ok (.iinc 3 1, 3) := by decide +kernel
theorem dX7_sumProof_42 : decode cX7_sumProof 42 = .ok (.goto (-38), 3) := by decide +kernel
theorem dX7_sumProof_45 : decode cX7_sumProof 45 = .ok (.iconst 0, 1) := by decide +kernel
theorem dX7_sumProof_46 : decode cX7_sumProof 46 = .ok (.istore_n 3, 1) := by decide +kernel
theorem dX7_sumProof_47 : decode cX7_sumProof 47 = .ok (.iload_n 3, 1) := by decide +kernel
theorem dX7_sumProof_48 : decode cX7_sumProof 48 = .ok (.aload_n 0, 1) := by decide +kernel
theorem dX7_sumProof_49 : decode cX7_sumProof 49 = .ok (.getfield 12, 3) := by decide +kernel
theorem dX7_sumProof_52 : decode cX7_sumProof 52 = .ok (.getfield 96, 3) := by decide +kernel
theorem dX7_sumProof_55 : decode cX7_sumProof 55 = .ok (.if_icmp .ge 33, 3) := by decide +kernel
theorem dX7_sumProof_58 : decode cX7_sumProof 58 = .ok (.lload_n 1, 1) := by decide +kernel
theorem dX7_sumProof_59 : decode cX7_sumProof 59 = .ok (.aload_n 0, 1) := by decide +kernel
theorem dX7_sumProof_60 : decode cX7_sumProof 60 = .ok (.getfield 12, 3) := by decide +kernel
theorem dX7_sumProof_63 : decode cX7_sumProof 63 = .ok (.getfield 155, 3) := by decide +kernel
theorem dX7_sumProof_66 : decode cX7_sumProof 66 = .ok (.iload_n 3, 1) := by decide +kernel
theorem dX7_sumProof_67 : decode cX7_sumProof 67 = .ok (.iaload, 1) := by decide +kernel
theorem dX7_sumProof_68 : decode cX7_sumProof 68 = .ok (.i2l, 1) := by decide +kernel
theorem dX7_sumProof_69 : decode cX7_sumProof 69 = .ok (.aload_n 0, 1) := by decide +kernel
theorem dX7_sumProof_70 : decode cX7_sumProof 70 = .ok (.getfield 21, 3) := by decide +kernel
theorem dX7_sumProof_73 : decode cX7_sumProof 73 = .ok (.getfield 50, 3) := by decide +kernel
theorem dX7_sumProof_76 : decode cX7_sumProof 76 = .ok (.iload_n 3, 1) := by decide +kernel
theorem dX7_sumProof_77 : decode cX7_sumProof 77 = .ok (.iaload, 1) := by decide +kernel
theorem dX7_sumProof_78 : decode cX7_sumProof 78 = .ok (.i2l, 1) := by decide +kernel
theorem dX7_sumProof_79 : decode cX7_sumProof 79 = .ok (.lmul, 1) := by decide +kernel
theorem dX7_sumProof_80 : decode cX7_sumProof 80 = .ok (.lsub, 1) := by decide +kernel
theorem dX7_sumProof_81 : decode cX7_sumProof 81 = .ok (.lstore_n 1, 1) := by decide +kernel
theorem dX7_sumProof_82 : decode cX7_sumProof 82 = .ok (.iinc 3 1, 3) := by decide +kernel
theorem dX7_sumProof_85 : decode cX7_sumProof 85 = .ok (.goto (-38), 3) := by decide +kernel
theorem dX7_sumProof_88 : decode cX7_sumProof 88 = .ok (.lload_n 1, 1) := by decide +kernel
theorem dX7_sumProof_89 : decode cX7_sumProof 89 = .ok (.lreturn, 1) := by decide +kernel
theorem dX7_gainMove_0 : decode cX7_gainMove 0 = .ok (.aload_n 0, 1) := by decide +kernel
theorem dX7_gainMove_1 : decode cX7_gainMove 1 = .ok (.getfield 12, 3) := by decide +kernel
theorem dX7_gainMove_4 : decode cX7_gainMove 4 = .ok (.getfield 63, 3) := by decide +kernel
theorem dX7_gainMove_7 : decode cX7_gainMove 7 = .ok (.iload_n 2, 1) := by decide +kernel
theorem dX7_gainMove_8 : decode cX7_gainMove 8 = .ok (.iaload, 1) := by decide +kernel
theorem dX7_gainMove_9 : decode cX7_gainMove 9 = .ok (.ifCond .eq 14, 3) := by decide +kernel
theorem dX7_gainMove_12 : decode cX7_gainMove 12 = .ok (.iload_n 1, 1) := by decide +kernel
theorem dX7_gainMove_13 : decode cX7_gainMove 13 = .ok (.iload_n 2, 1) := by decide +kernel
theorem dX7_gainMove_14 : decode cX7_gainMove 14 = .ok (.if_icmp .ne 7, 3) := by decide +kernel
theorem dX7_gainMove_17 : decode cX7_gainMove 17 = .ok (.iconst 1, 1) := by decide +kernel
theorem dX7_gainMove_18 : decode cX7_gainMove 18 = .ok (.goto 4, 3) := by decide +kernel
theorem dX7_gainMove_21 : decode cX7_gainMove 21 = .ok (.iconst 0, 1) := by decide +kernel
theorem dX7_gainMove_22 : decode cX7_gainMove 22 = .ok (.ireturn, 1) := by decide +kernel
theorem dX7_gainMove_23 : decode cX7_gainMove 23 = .ok (.aload_n 0, 1) := by decide +kernel
theorem dX7_gainMove_24 : decode cX7_gainMove 24 = .ok (.getfield 21, 3) := by decide +kernel
theorem dX7_gainMove_27 : decode cX7_gainMove 27 = .ok (.getfield 136, 3) := by decide +kernel
theorem dX7_gainMove_30 : decode cX7_gainMove 30 = .ok (.aload_n 0, 1) := by decide +kernel
theorem dX7_gainMove_31 : decode cX7_gainMove 31 = .ok (.getfield 12, 3) := by decide +kernel
theorem dX7_gainMove_34 : decode cX7_gainMove 34 = .ok (.getfield 56, 3) := by decide +kernel
theorem dX7_gainMove_37 : decode cX7_gainMove 37 = .ok (.iload_n 2, 1) := by decide +kernel
theorem dX7_gainMove_38 : decode cX7_gainMove 38 = .ok (.iaload, 1) := by decide +kernel
theorem dX7_gainMove_39 : decode cX7_gainMove 39 = .ok (.iaload, 1) := by decide +kernel
theorem dX7_gainMove_40 : decode cX7_gainMove 40 = .ok (.iload_n 2, 1) := by decide +kernel
theorem dX7_gainMove_41 : decode cX7_gainMove 41 = .ok (.if_icmp .ne 7, 3) := by decide +kernel
theorem dX7_gainMove_44 : decode cX7_gainMove 44 = .ok (.iconst 1, 1) := by decide +kernel
theorem dX7_gainMove_45 : decode cX7_gainMove 45 = .ok (.goto 4, 3) := by decide +kernel
theorem dX7_gainMove_48 : decode cX7_gainMove 48 = .ok (.iconst 0, 1) := by decide +kernel
theorem dX7_gainMove_49 : decode cX7_gainMove 49 = .ok (.istore_n 3, 1) := by decide +kernel
theorem dX7_gainMove_50 : decode cX7_gainMove 50 = .ok (.iload_n 3, 1) := by decide +kernel
theorem dX7_gainMove_51 : decode cX7_gainMove 51 = .ok (.ifCond .eq 15, 3) := by decide +kernel
theorem dX7_gainMove_54 : decode cX7_gainMove 54 = .ok (.aload_n 0, 1) := by decide +kernel
theorem dX7_gainMove_55 : decode cX7_gainMove 55 = .ok (.getfield 12, 3) := by decide +kernel
theorem dX7_gainMove_58 : decode cX7_gainMove 58 = .ok (.getfield 56, 3) := by decide +kernel
theorem dX7_gainMove_61 : decode cX7_gainMove 61 = .ok (.iload_n 2, 1) := by decide +kernel
theorem dX7_gainMove_62 : decode cX7_gainMove 62 = .ok (.iaload, 1) := by decide +kernel
theorem dX7_gainMove_63 : decode cX7_gainMove 63 = .ok (.goto 12, 3) := by decide +kernel
theorem dX7_gainMove_66 : decode cX7_gainMove 66 = .ok (.aload_n 0, 1) := by decide +kernel
theorem dX7_gainMove_67 : decode cX7_gainMove 67 = .ok (.getfield 12, 3) := by decide +kernel
theorem dX7_gainMove_70 : decode cX7_gainMove 70 = .ok (.getfield 53, 3) := by decide +kernel
theorem dX7_gainMove_73 : decode cX7_gainMove 73 = .ok (.iload_n 2, 1) := by decide +kernel
theorem dX7_gainMove_74 : decode cX7_gainMove 74 = .ok (.iaload, 1) := by decide +kernel
theorem dX7_gainMove_75 : decode cX7_gainMove 75 = .ok (.istore 4, 2) := by decide +kernel
theorem dX7_gainMove_77 : decode cX7_gainMove 77 = .ok (.aload_n 0, 1) := by decide +kernel
theorem dX7_gainMove_78 : decode cX7_gainMove 78 = .ok (.getfield 21, 3) := by decide +kernel
theorem dX7_gainMove_81 : decode cX7_gainMove 81 = .ok (.aload_n 0, 1) := by decide +kernel
theorem dX7_gainMove_82 : decode cX7_gainMove 82 = .ok (.getfield 12, 3) := by decide +kernel
theorem dX7_gainMove_85 : decode cX7_gainMove 85 = .ok (.getfield 53, 3) := by decide +kernel
theorem dX7_gainMove_88 : decode cX7_gainMove 88 = .ok (.iload_n 1, 1) := by decide +kernel
theorem dX7_gainMove_89 : decode cX7_gainMove 89 = .ok (.iaload, 1) := by decide +kernel
theorem dX7_gainMove_90 : decode cX7_gainMove 90 = .ok (.iload 4, 2) := by decide +kernel
theorem dX7_gainMove_92 : decode cX7_gainMove 92 = .ok (.invokevirtual 132, 3) := by decide +kernel
theorem dX7_gainMove_95 : decode cX7_gainMove 95 = .ok (.ifCond .eq 7, 3) := by decide +kernel
theorem dX7_gainMove_98 : decode cX7_gainMove 98 = .ok (.iconst 1, 1) := by decide +kernel
theorem dX7_gainMove_99 : decode cX7_gainMove 99 = .ok (.goto 4, 3) := by decide +kernel
theorem dX7_gainMove_102 : decode cX7_gainMove 102 = .ok (.iconst 0, 1) := by decide +kernel
theorem dX7_gainMove_103 : decode cX7_gainMove 103 = .ok (.istore 5, 2) := by decide +kernel
theorem dX7_gainMove_105 : decode cX7_gainMove 105 = .ok (.iload 5, 2) := by decide +kernel
theorem dX7_gainMove_107 : decode cX7_gainMove 107 = .ok (.aload_n 0, 1) := by decide +kernel
theorem dX7_gainMove_108 : decode cX7_gainMove 108 = .ok (.getfield 21, 3) := by decide +kernel
theorem dX7_gainMove_111 : decode cX7_gainMove 111 = .ok (.aload_n 0, 1) := by decide +kernel
theorem dX7_gainMove_112 : decode cX7_gainMove 112 = .ok (.getfield 12, 3) := by decide +kernel
theorem dX7_gainMove_115 : decode cX7_gainMove 115 = .ok (.getfield 56, 3) := by decide +kernel
theorem dX7_gainMove_118 : decode cX7_gainMove 118 = .ok (.iload_n 1, 1) := by decide +kernel
theorem dX7_gainMove_119 : decode cX7_gainMove 119 = .ok (.iaload, 1) := by decide +kernel
theorem dX7_gainMove_120 : decode cX7_gainMove 120 = .ok (.iload 4, 2) := by decide +kernel
theorem dX7_gainMove_122 : decode cX7_gainMove 122 = .ok (.invokevirtual 132, 3) := by decide +kernel
theorem dX7_gainMove_125 : decode cX7_gainMove 125 = .ok (.ifCond .eq 7, 3) := by decide +kernel
theorem dX7_gainMove_128 : decode cX7_gainMove 128 = .ok (.iconst 1, 1) := by decide +kernel
theorem dX7_gainMove_129 : decode cX7_gainMove 129 = .ok (.goto 4, 3) := by decide +kernel
theorem dX7_gainMove_132 : decode cX7_gainMove 132 = .ok (.iconst 0, 1) := by decide +kernel
theorem dX7_gainMove_133 : decode cX7_gainMove 133 = .ok (.isub, 1) := by decide +kernel
theorem dX7_gainMove_134 : decode cX7_gainMove 134 = .ok (.istore 5, 2) := by decide +kernel
theorem dX7_gainMove_136 : decode cX7_gainMove 136 = .ok (.iload_n 3, 1) := by decide +kernel
theorem dX7_gainMove_137 : decode cX7_gainMove 137 = .ok (.ifCond .eq 8, 3) := by decide +kernel
theorem dX7_gainMove_140 : decode cX7_gainMove 140 = .ok (.iload 5, 2) := by decide +kernel
theorem dX7_gainMove_142 : decode cX7_gainMove 142 = .ok (.goto 6, 3) := by decide +kernel
theorem dX7_gainMove_145 : decode cX7_gainMove 145 = .ok (.iload 5, 2) := by decide +kernel
theorem dX7_gainMove_147 : decode cX7_gainMove 147 = .ok (.ineg, 1) := by decide +kernel
theorem dX7_gainMove_148 : decode cX7_gainMove 148 = .ok (.ireturn, 1) := by decide +kernel
theorem dX7_limits_0 : decode cX7_limits 0 = .ok (.aload_n 0, 1) := by decide +kernel
theorem dX7_limits_1 : decode cX7_limits 1 = .ok (.getfield 12, 3) := by decide +kernel
theorem dX7_limits_4 : decode cX7_limits 4 = .ok (.getfield 63, 3) := by decide +kernel
theorem dX7_limits_7 : decode cX7_limits 7 = .ok (.iload_n 1, 1) := by decide +kernel
theorem dX7_limits_8 : decode cX7_limits 8 = .ok (.iaload, 1) := by decide +kernel
theorem dX7_limits_9 : decode cX7_limits 9 = .ok (.ifCond .ne 5, 3) := by decide +kernel
theorem dX7_limits_12 : decode cX7_limits 12 = .ok (.iconst 0, 1) := by decide +kernel
theorem dX7_limits_13 : decode cX7_limits 13 = .ok (.ireturn, 1) := by decide +kernel
theorem dX7_limits_14 : decode cX7_limits 14 = .ok (.iload_n 3, 1) := by decide +kernel
theorem dX7_limits_15 : decode cX7_limits 15 = .ok (.ifCond .eq 12, 3) := by decide +kernel
theorem dX7_limits_18 : decode cX7_limits 18 = .ok (.aload_n 0, 1) := by decide +kernel
theorem dX7_limits_19 : decode cX7_limits 19 = .ok (.iload_n 1, 1) := by decide +kernel
theorem dX7_limits_20 : decode cX7_limits 20 = .ok (.iload_n 2, 1) := by decide +kernel
theorem dX7_limits_21 : decode cX7_limits 21 = .ok (.invokevirtual 158, 3) := by decide +kernel
theorem dX7_limits_24 : decode cX7_limits 24 = .ok (.goto 10, 3) := by decide +kernel
theorem dX7_limits_27 : decode cX7_limits 27 = .ok (.aload_n 0, 1) := by decide +kernel
theorem dX7_limits_28 : decode cX7_limits 28 = .ok (.iload_n 1, 1) := by decide +kernel
theorem dX7_limits_29 : decode cX7_limits 29 = .ok (.iload_n 2, 1) := by decide +kernel
theorem dX7_limits_30 : decode cX7_limits 30 = .ok (.invokevirtual 158, 3) := by decide +kernel
theorem dX7_limits_33 : decode cX7_limits 33 = .ok (.ineg, 1) := by decide +kernel
theorem dX7_limits_34 : decode cX7_limits 34 = .ok (.istore 4, 2) := by decide +kernel
theorem dX7_limits_36 : decode cX7_limits 36 = .ok (.aload_n 0, 1) := by decide +kernel
theorem dX7_limits_37 : decode cX7_limits 37 = .ok (.getfield 12, 3) := by decide +kernel
theorem dX7_limits_40 : decode cX7_limits 40 = .ok (.getfield 63, 3) := by decide +kernel
theorem dX7_limits_43 : decode cX7_limits 43 = .ok (.iload_n 1, 1) := by decide +kernel
theorem dX7_limits_44 : decode cX7_limits 44 = .ok (.iaload, 1) := by decide +kernel
theorem dX7_limits_45 : decode cX7_limits 45 = .ok (.iconst 2, 1) := by decide +kernel
theorem dX7_limits_46 : decode cX7_limits 46 = .ok (.if_icmp .ne 16, 3) := by decide +kernel
theorem dX7_limits_49 : decode cX7_limits 49 = .ok (.iload 4, 2) := by decide +kernel
theorem dX7_limits_51 : decode cX7_limits 51 = .ok (.ifCond .le 7, 3) := by decide +kernel
theorem dX7_limits_54 : decode cX7_limits 54 = .ok (.iconst 1, 1) := by decide +kernel
theorem dX7_limits_55 : decode cX7_limits 55 = .ok (.goto 17, 3) := by decide +kernel
theorem dX7_limits_58 : decode cX7_limits 58 = .ok (.iconst 0, 1) := by decide +kernel
theorem dX7_limits_59 : decode cX7_limits 59 = .ok (.goto 13, 3) := by decide +kernel
theorem dX7_limits_62 : decode cX7_limits 62 = .ok (.iload 4, 2) := by decide +kernel
theorem dX7_limits_64 : decode cX7_limits 64 = .ok (.ifCond .ge 7, 3) := by decide +kernel
theorem dX7_limits_67 : decode cX7_limits 67 = .ok (.iconst 1, 1) := by decide +kernel
theorem dX7_limits_68 : decode cX7_limits 68 = .ok (.goto 4, 3) := by decide +kernel
theorem dX7_limits_71 : decode cX7_limits 71 = .ok (.iconst 0, 1) := by decide +kernel
theorem dX7_limits_72 : decode cX7_limits 72 = .ok (.ireturn, 1) := by decide +kernel
theorem dX7_shiftAllowed_0 : decode cX7_shiftAllowed 0 = .ok (.iload_n 3, 1) := by decide +kernel
theorem dX7_shiftAllowed_1 : decode cX7_shiftAllowed 1 = .ok (.istore 4, 2) := by decide +kernel
theorem dX7_shiftAllowed_3 : decode cX7_shiftAllowed 3 = .ok (.iconst 0, 1) := by decide +kernel
theorem dX7_shiftAllowed_4 : decode cX7_shiftAllowed 4 = .ok (.istore 5, 2) := by decide +kernel
theorem dX7_shiftAllowed_6 : decode cX7_shiftAllowed 6 = .ok (.iload 5, 2) := by decide +kernel
theorem dX7_shiftAllowed_8 : decode cX7_shiftAllowed 8 = .ok (.aload_n 0, 1) := by decide +kernel
theorem dX7_shiftAllowed_9 : decode cX7_shiftAllowed 9 = .ok (.getfield 12, 3) := by decide +kernel
theorem dX7_shiftAllowed_12 : decode cX7_shiftAllowed 12 = .ok (.invokevirtual 66, 3) := by decide +kernel
theorem dX7_shiftAllowed_15 : decode cX7_shiftAllowed 15 = .ok (.if_icmp .ge 36, 3) := by decide +kernel
theorem dX7_shiftAllowed_18 : decode cX7_shiftAllowed 18 = .ok (.aload_n 0, 1) := by decide +kernel
theorem dX7_shiftAllowed_19 : decode cX7_shiftAllowed 19 = .ok (.iload 5, 2) := by decide +kernel
theorem dX7_shiftAllowed_21 : decode cX7_shiftAllowed 21 = .ok (.iload_n 1, 1) := by decide +kernel
theorem dX7_shiftAllowed_22 : decode cX7_shiftAllowed 22 = .ok (.iload_n 2, 1) := by decide +kernel
theorem dX7_shiftAllowed_23 : decode cX7_shiftAllowed 23 = .ok (.invokevirtual 161, 3) := by decide +kernel
theorem dX7_shiftAllowed_26 : decode cX7_shiftAllowed 26 = .ok (.ifCond .eq 19, 3) := by decide +kernel
theorem dX7_shiftAllowed_29 : decode cX7_shiftAllowed 29 = .ok (.iload 4, 2) := by decide +kernel
theorem dX7_shiftAllowed_31 : decode cX7_shiftAllowed 31 = .ok (.aload_n 0, 1) := by decide +kernel
theorem dX7_shiftAllowed_32 : decode cX7_shiftAllowed 32 = .ok (.iload 5, 2) := by decide +kernel
theorem dX7_shiftAllowed_34 : decode cX7_shiftAllowed 34 = .ok (.invokevirtual 59, 3) := by decide +kernel
theorem dX7_shiftAllowed_37 : decode cX7_shiftAllowed 37 = .ok (.invokestatic 165, 3) := by decide +kernel
theorem dX7_shiftAllowed_40 : decode cX7_shiftAllowed 40 = .ok (.invokestatic 146, 3) := by decide +kernel
theorem dX7_shiftAllowed_43 : decode cX7_shiftAllowed 43 = .ok (.istore 4, 2) := by decide +kernel
theorem dX7_shiftAllowed_45 : decode cX7_shiftAllowed 45 = .ok (.iinc 5 1, 3) := by decide +kernel
theorem dX7_shiftAllowed_48 : decode cX7_shiftAllowed 48 = .ok (.goto (-42), 3) := by decide +kernel
theorem dX7_shiftAllowed_51 : decode cX7_shiftAllowed 51 = .ok (.iload 4, 2) := by decide +kernel
theorem dX7_shiftAllowed_53 : decode cX7_shiftAllowed 53 = .ok (.ireturn, 1) := by decide +kernel
theorem dX7_greatestCost_0 : decode cX7_greatestCost 0 = .ok (.aload_n 0, 1) := by decide +kernel
theorem dX7_greatestCost_1 : decode cX7_greatestCost 1 = .ok (.getfield 12, 3) := by decide +kernel
theorem dX7_greatestCost_4 : decode cX7_greatestCost 4 = .ok (.getfield 46, 3) := by decide +kernel
theorem dX7_greatestCost_7 : decode cX7_greatestCost 7 = .ok (.iload_n 1, 1) := by decide +kernel
theorem dX7_greatestCost_8 : decode cX7_greatestCost 8 = .ok (.iaload, 1) := by decide +kernel
theorem dX7_greatestCost_9 : decode cX7_greatestCost 9 = .ok (.aload_n 0, 1) := by decide +kernel
theorem dX7_greatestCost_10 : decode cX7_greatestCost 10 = .ok (.iload_n 1, 1) := by decide +kernel
theorem dX7_greatestCost_11 : decode cX7_greatestCost 11 = .ok (.iconst 1, 1) := by decide +kernel
theorem dX7_greatestCost_12 : decode cX7_greatestCost 12 = .ok (.sipush 999, 3) := by decide +kernel
theorem dX7_greatestCost_15 : decode cX7_greatestCost 15 = .ok (.aload_n 0, 1) := by decide +kernel
theorem dX7_greatestCost_16 : decode cX7_greatestCost 16 = .ok (.getfield 12, 3) := by decide +kernel
theorem dX7_greatestCost_19 : decode cX7_greatestCost 19 = .ok (.getfield 46, 3) := by decide +kernel
theorem dX7_greatestCost_22 : decode cX7_greatestCost 22 = .ok (.iload_n 1, 1) := by decide +kernel
theorem dX7_greatestCost_23 : decode cX7_greatestCost 23 = .ok (.iaload, 1) := by decide +kernel
theorem dX7_greatestCost_24 : decode cX7_greatestCost 24 = .ok (.isub, 1) := by decide +kernel
theorem dX7_greatestCost_25 : decode cX7_greatestCost 25 = .ok (.invokevirtual 168, 3) := by decide +kernel
theorem dX7_greatestCost_28 : decode cX7_greatestCost 28 = .ok (.iadd, 1) := by decide +kernel
theorem dX7_greatestCost_29 : decode cX7_greatestCost 29 = .ok (.ireturn, 1) := by decide +kernel
theorem dX7_leastCost_0 : decode cX7_leastCost 0 = .ok (.aload_n 0, 1) := by decide +kernel
theorem dX7_leastCost_1 : decode cX7_leastCost 1 = .ok (.getfield 12, 3) := by decide +kernel
theorem dX7_leastCost_4 : decode cX7_leastCost 4 = .ok (.getfield 46, 3) := by decide +kernel
theorem dX7_leastCost_7 : decode cX7_leastCost 7 = .ok (.iload_n 1, 1) := by decide +kernel
theorem dX7_leastCost_8 : decode cX7_leastCost 8 = .ok (.iaload, 1) := by decide +kernel
theorem dX7_leastCost_9 : decode cX7_leastCost 9 = .ok (.aload_n 0, 1) := by decide +kernel
theorem dX7_leastCost_10 : decode cX7_leastCost 10 = .ok (.iload_n 1, 1) := by decide +kernel
theorem dX7_leastCost_11 : decode cX7_leastCost 11 = .ok (.iconst 0, 1) := by decide +kernel
theorem dX7_leastCost_12 : decode cX7_leastCost 12 = .ok (.aload_n 0, 1) := by decide +kernel
theorem dX7_leastCost_13 : decode cX7_leastCost 13 = .ok (.getfield 12, 3) := by decide +kernel
theorem dX7_leastCost_16 : decode cX7_leastCost 16 = .ok (.getfield 46, 3) := by decide +kernel
theorem dX7_leastCost_19 : decode cX7_leastCost 19 = .ok (.iload_n 1, 1) := by decide +kernel
theorem dX7_leastCost_20 : decode cX7_leastCost 20 = .ok (.iaload, 1) := by decide +kernel
theorem dX7_leastCost_21 : decode cX7_leastCost 21 = .ok (.invokevirtual 168, 3) := by decide +kernel
theorem dX7_leastCost_24 : decode cX7_leastCost 24 = .ok (.isub, 1) := by decide +kernel
theorem dX7_leastCost_25 : decode cX7_leastCost 25 = .ok (.ireturn, 1) := by decide +kernel
theorem dX7_roomUp_0 : decode cX7_roomUp 0 = .ok (.aload_n 0, 1) := by decide +kernel
theorem dX7_roomUp_1 : decode cX7_roomUp 1 = .ok (.getfield 21, 3) := by decide +kernel
theorem dX7_roomUp_4 : decode cX7_roomUp 4 = .ok (.getfield 136, 3) := by decide +kernel
theorem dX7_roomUp_7 : decode cX7_roomUp 7 = .ok (.iload_n 1, 1) := by decide +kernel
theorem dX7_roomUp_8 : decode cX7_roomUp 8 = .ok (.iaload, 1) := by decide +kernel
theorem dX7_roomUp_9 : decode cX7_roomUp 9 = .ok (.istore_n 3, 1) := by decide +kernel
theorem dX7_roomUp_10 : decode cX7_roomUp 10 = .ok (.aload_n 0, 1) := by decide +kernel
theorem dX7_roomUp_11 : decode cX7_roomUp 11 = .ok (.getfield 12, 3) := by decide +kernel
theorem dX7_roomUp_14 : decode cX7_roomUp 14 = .ok (.iload_n 3, 1) := by decide +kernel
theorem dX7_roomUp_15 : decode cX7_roomUp 15 = .ok (.aload_n 0, 1) := by decide +kernel
theorem dX7_roomUp_16 : decode cX7_roomUp 16 = .ok (.getfield 12, 3) := by decide +kernel
theorem dX7_roomUp_19 : decode cX7_roomUp 19 = .ok (.getfield 53, 3) := by decide +kernel
theorem dX7_roomUp_22 : decode cX7_roomUp 22 = .ok (.iload_n 3, 1) := by decide +kernel
theorem dX7_roomUp_23 : decode cX7_roomUp 23 = .ok (.iaload, 1) := by decide +kernel
theorem dX7_roomUp_24 : decode cX7_roomUp 24 = .ok (.iload_n 1, 1) := by decide +kernel
theorem dX7_roomUp_25 : decode cX7_roomUp 25 = .ok (.if_icmp .ne 7, 3) := by decide +kernel
theorem dX7_roomUp_28 : decode cX7_roomUp 28 = .ok (.iconst 1, 1) := by decide +kernel
theorem dX7_roomUp_29 : decode cX7_roomUp 29 = .ok (.goto 4, 3) := by decide +kernel
theorem dX7_roomUp_32 : decode cX7_roomUp 32 = .ok (.iconst 0, 1) := by decide +kernel
theorem dX7_roomUp_33 : decode cX7_roomUp 33 = .ok (.iload_n 2, 1) := by decide +kernel
theorem dX7_roomUp_34 : decode cX7_roomUp 34 = .ok (.if_icmp .ne 7, 3) := by decide +kernel
theorem dX7_roomUp_37 : decode cX7_roomUp 37 = .ok (.iconst 1, 1) := by decide +kernel
theorem dX7_roomUp_38 : decode cX7_roomUp 38 = .ok (.goto 4, 3) := by decide +kernel
theorem dX7_roomUp_41 : decode cX7_roomUp 41 = .ok (.iconst 0, 1) := by decide +kernel
theorem dX7_roomUp_42 : decode cX7_roomUp 42 = .ok (.invokevirtual 139, 3) := by decide +kernel
theorem dX7_roomUp_45 : decode cX7_roomUp 45 = .ok (.ireturn, 1) := by decide +kernel
theorem dX7_leastRoomUp_0 : decode cX7_leastRoomUp 0 = .ok (.ldc 172, 2) := by decide +kernel
theorem dX7_leastRoomUp_2 : decode cX7_leastRoomUp 2 = .ok (.istore_n 3, 1) := by decide +kernel
theorem dX7_leastRoomUp_3 : decode cX7_leastRoomUp 3 = .ok (.iload_n 1, 1) := by decide +kernel
theorem dX7_leastRoomUp_4 : decode cX7_leastRoomUp 4 = .ok (.istore 4, 2) := by decide +kernel
theorem dX7_leastRoomUp_6 : decode cX7_leastRoomUp 6 = .ok (.iconst 0, 1) := by decide +kernel
theorem dX7_leastRoomUp_7 : decode cX7_leastRoomUp 7 = .ok (.istore 5, 2) := by decide +kernel
theorem dX7_leastRoomUp_9 : decode cX7_leastRoomUp 9 = .ok (.iload 5, 2) := by decide +kernel
theorem dX7_leastRoomUp_11 : decode cX7_leastRoomUp 11 = .ok (.bipush 9, 2) := by decide +kernel
theorem dX7_leastRoomUp_13 : decode cX7_leastRoomUp 13 = .ok (.if_icmp .ge 40, 3) := by decide +kernel
theorem dX7_leastRoomUp_16 : decode cX7_leastRoomUp 16 = .ok (.iload 4, 2) := by decide +kernel
theorem dX7_leastRoomUp_18 : decode cX7_leastRoomUp 18 = .ok (.bipush 8, 2) := by decide +kernel
theorem dX7_leastRoomUp_20 : decode cX7_leastRoomUp 20 = .ok (.if_icmp .eq 33, 3) := by decide +kernel
theorem dX7_leastRoomUp_23 : decode cX7_leastRoomUp 23 = .ok (.iload_n 3, 1) := by decide +kernel
theorem dX7_leastRoomUp_24 : decode cX7_leastRoomUp 24 = .ok (.aload_n 0, 1) := by decide +kernel
theorem dX7_leastRoomUp_25 : decode cX7_leastRoomUp 25 = .ok (.iload 4, 2) := by decide +kernel
theorem dX7_leastRoomUp_27 : decode cX7_leastRoomUp 27 = .ok (.iload_n 2, 1) := by decide +kernel
theorem dX7_leastRoomUp_28 : decode cX7_leastRoomUp 28 = .ok (.invokevirtual 173, 3) := by decide +kernel
theorem dX7_leastRoomUp_31 : decode cX7_leastRoomUp 31 = .ok (.invokestatic 146, 3) := by decide +kernel
theorem dX7_leastRoomUp_34 : decode cX7_leastRoomUp 34 = .ok (.istore_n 3, 1) := by decide +kernel
theorem dX7_leastRoomUp_35 : decode cX7_leastRoomUp 35 = .ok (.aload_n 0, 1) := by decide +kernel
theorem dX7_leastRoomUp_36 : decode cX7_leastRoomUp 36 = .ok (.getfield 21, 3) := by decide +kernel
theorem dX7_leastRoomUp_39 : decode cX7_leastRoomUp 39 = .ok (.getfield 176, 3) := by decide +kernel
theorem dX7_leastRoomUp_42 : decode cX7_leastRoomUp 42 = .ok (.iload 4, 2) := by decide +kernel
theorem dX7_leastRoomUp_44 : decode cX7_leastRoomUp 44 = .ok (.iaload, 1) := by decide +kernel
theorem dX7_leastRoomUp_45 : decode cX7_leastRoomUp 45 = .ok (.istore 4, 2) := by decide +kernel
theorem dX7_leastRoomUp_47 : decode cX7_leastRoomUp 47 = .ok (.iinc 5 1, 3) := by decide +kernel
theorem dX7_leastRoomUp_50 : decode cX7_leastRoomUp 50 = .ok (.goto (-41), 3) := by decide +kernel
theorem dX7_leastRoomUp_53 : decode cX7_leastRoomUp 53 = .ok (.iload_n 3, 1) := by decide +kernel
theorem dX7_leastRoomUp_54 : decode cX7_leastRoomUp 54 = .ok (.ireturn, 1) := by decide +kernel
theorem dX7_findRefusing_0 : decode cX7_findRefusing 0 = .ok (.iload_n 1, 1) := by decide +kernel
theorem dX7_findRefusing_1 : decode cX7_findRefusing 1 = .ok (.istore_n 3, 1) := by decide +kernel
theorem dX7_findRefusing_2 : decode cX7_findRefusing 2 = .ok (.iconst 0, 1) := by decide +kernel
theorem dX7_findRefusing_3 : decode cX7_findRefusing 3 = .ok (.istore 4, 2) := by decide +kernel
theorem dX7_findRefusing_5 : decode cX7_findRefusing 5 = .ok (.iload 4, 2) := by decide +kernel
theorem dX7_findRefusing_7 : decode cX7_findRefusing 7 = .ok (.bipush 9, 2) := by decide +kernel
theorem dX7_findRefusing_9 : decode cX7_findRefusing 9 = .ok (.if_icmp .ge 56, 3) := by decide +kernel
theorem dX7_findRefusing_12 : decode cX7_findRefusing 12 = .ok (.iload_n 3, 1) := by decide +kernel
theorem dX7_findRefusing_13 : decode cX7_findRefusing 13 = .ok (.bipush 8, 2) := by decide +kernel
theorem dX7_findRefusing_15 : decode cX7_findRefusing 15 = .ok (.if_icmp .eq 50, 3) := by decide +kernel
theorem dX7_findRefusing_18 : decode cX7_findRefusing 18 = .ok (.aload_n 0, 1) := by decide +kernel
theorem dX7_findRefusing_19 : decode cX7_findRefusing 19 = .ok (.iload_n 3, 1) := by decide +kernel
theorem dX7_findRefusing_20 : decode cX7_findRefusing 20 = .ok (.iload_n 2, 1) := by decide +kernel
theorem dX7_findRefusing_21 : decode cX7_findRefusing 21 = .ok (.ifCond .le 7, 3) := by decide +kernel
theorem dX7_findRefusing_24 : decode cX7_findRefusing 24 = .ok (.iconst 1, 1) := by decide +kernel
theorem dX7_findRefusing_25 : decode cX7_findRefusing 25 = .ok (.goto 4, 3) := by decide +kernel
theorem dX7_findRefusing_28 : decode cX7_findRefusing 28 = .ok (.iconst 0, 1) := by decide +kernel
theorem dX7_findRefusing_29 : decode cX7_findRefusing 29 = .ok (.invokevirtual 173, 3) := by decide +kernel
theorem dX7_findRefusing_32 : decode cX7_findRefusing 32 = .ok (.iload_n 2, 1) := by decide +kernel
theorem dX7_findRefusing_33 : decode cX7_findRefusing 33 = .ok (.invokestatic 165, 3) := by decide +kernel
theorem dX7_findRefusing_36 : decode cX7_findRefusing 36 = .ok (.if_icmp .ge 13, 3) := by decide +kernel
theorem dX7_findRefusing_39 : decode cX7_findRefusing 39 = .ok (.aload_n 0, 1) := by decide +kernel
theorem dX7_findRefusing_40 : decode cX7_findRefusing 40 = .ok (.getfield 21, 3) := by decide +kernel
theorem dX7_findRefusing_43 : decode cX7_findRefusing 43 = .ok (.getfield 136, 3) := by decide +kernel
theorem dX7_findRefusing_46 : decode cX7_findRefusing 46 = .ok (.iload_n 3, 1) := by decide +kernel
theorem dX7_findRefusing_47 : decode cX7_findRefusing 47 = .ok (.iaload, 1) := by decide +kernel
theorem dX7_findRefusing_48 : decode cX7_findRefusing 48 = .ok (.ireturn, 1) := by decide +kernel
theorem dX7_findRefusing_49 : decode cX7_findRefusing 49 = .ok (.aload_n 0, 1) := by decide +kernel
theorem dX7_findRefusing_50 : decode cX7_findRefusing 50 = .ok (.getfield 21, 3) := by decide +kernel
theorem dX7_findRefusing_53 : decode cX7_findRefusing 53 = .ok (.getfield 176, 3) := by decide +kernel
theorem dX7_findRefusing_56 : decode cX7_findRefusing 56 = .ok (.iload_n 3, 1) := by decide +kernel
theorem dX7_findRefusing_57 : decode cX7_findRefusing 57 = .ok (.iaload, 1) := by decide +kernel
theorem dX7_findRefusing_58 : decode cX7_findRefusing 58 = .ok (.istore_n 3, 1) := by decide +kernel
theorem dX7_findRefusing_59 : decode cX7_findRefusing 59 = .ok (.iinc 4 1, 3) := by decide +kernel
theorem dX7_findRefusing_62 : decode cX7_findRefusing 62 = .ok (.goto (-57), 3) := by decide +kernel
theorem dX7_findRefusing_65 : decode cX7_findRefusing 65 = .ok (.iconst (-1), 1) := by decide +kernel
theorem dX7_findRefusing_66 : decode cX7_findRefusing 66 = .ok (.ireturn, 1) := by decide +kernel
theorem dX7_shiftGift_0 : decode cX7_shiftGift 0 = .ok (.aload_n 0, 1) := by decide +kernel
theorem dX7_shiftGift_1 : decode cX7_shiftGift 1 = .ok (.getfield 12, 3) := by decide +kernel
theorem dX7_shiftGift_4 : decode cX7_shiftGift 4 = .ok (.getfield 155, 3) := by decide +kernel
theorem dX7_shiftGift_7 : decode cX7_shiftGift 7 = .ok (.iload_n 1, 1) := by decide +kernel
theorem dX7_shiftGift_8 : decode cX7_shiftGift 8 = .ok (.dup2, 1) := by decide +kernel
theorem dX7_shiftGift_9 : decode cX7_shiftGift 9 = .ok (.iaload, 1) := by decide +kernel
theorem dX7_shiftGift_10 : decode cX7_shiftGift 10 = .ok (.iload_n 2, 1) := by decide +kernel
theorem dX7_shiftGift_11 : decode cX7_shiftGift 11 = .ok (.iadd, 1) := by decide +kernel
theorem dX7_shiftGift_12 : decode cX7_shiftGift 12 = .ok (.iastore, 1) := by decide +kernel
theorem dX7_shiftGift_13 : decode cX7_shiftGift 13 = .ok (.iload_n 1, 1) := by decide +kernel
theorem dX7_shiftGift_14 : decode cX7_shiftGift 14 = .ok (.istore_n 3, 1) := by decide +kernel
theorem dX7_shiftGift_15 : decode cX7_shiftGift 15 = .ok (.iconst 0, 1) := by decide +kernel
theorem dX7_shiftGift_16 : decode cX7_shiftGift 16 = .ok (.istore 4, 2) := by decide +kernel
theorem dX7_shiftGift_18 : decode cX7_shiftGift 18 = .ok (.iload 4, 2) := by decide +kernel
theorem dX7_shiftGift_20 : decode cX7_shiftGift 20 = .ok (.bipush 9, 2) := by decide +kernel
theorem dX7_shiftGift_22 : decode cX7_shiftGift 22 = .ok (.if_icmp .ge 69, 3) := by decide +kernel
theorem dX7_shiftGift_25 : decode cX7_shiftGift 25 = .ok (.iload_n 3, 1) := by decide +kernel
theorem dX7_shiftGift_26 : decode cX7_shiftGift 26 = .ok (.bipush 8, 2) := by decide +kernel
theorem dX7_shiftGift_28 : decode cX7_shiftGift 28 = .ok (.if_icmp .eq 63, 3) := by decide +kernel
theorem dX7_shiftGift_31 : decode cX7_shiftGift 31 = .ok (.aload_n 0, 1) := by decide +kernel
theorem dX7_shiftGift_32 : decode cX7_shiftGift 32 = .ok (.getfield 21, 3) := by decide +kernel
theorem dX7_shiftGift_35 : decode cX7_shiftGift 35 = .ok (.getfield 136, 3) := by decide +kernel
theorem dX7_shiftGift_38 : decode cX7_shiftGift 38 = .ok (.iload_n 3, 1) := by decide +kernel
theorem dX7_shiftGift_39 : decode cX7_shiftGift 39 = .ok (.iaload, 1) := by decide +kernel
theorem dX7_shiftGift_40 : decode cX7_shiftGift 40 = .ok (.istore 5, 2) := by decide +kernel
theorem dX7_shiftGift_42 : decode cX7_shiftGift 42 = .ok (.aload_n 0, 1) := by decide +kernel
theorem dX7_shiftGift_43 : decode cX7_shiftGift 43 = .ok (.getfield 12, 3) := by decide +kernel
theorem dX7_shiftGift_46 : decode cX7_shiftGift 46 = .ok (.getfield 109, 3) := by decide +kernel
theorem dX7_shiftGift_49 : decode cX7_shiftGift 49 = .ok (.iload 5, 2) := by decide +kernel
theorem dX7_shiftGift_51 : decode cX7_shiftGift 51 = .ok (.dup2, 1) := by decide +kernel
theorem dX7_shiftGift_52 : decode cX7_shiftGift 52 = .ok (.iaload, 1) := by decide +kernel
theorem dX7_shiftGift_53 : decode cX7_shiftGift 53 = .ok (.aload_n 0, 1) := by decide +kernel
theorem dX7_shiftGift_54 : decode cX7_shiftGift 54 = .ok (.getfield 12, 3) := by decide +kernel
theorem dX7_shiftGift_57 : decode cX7_shiftGift 57 = .ok (.getfield 53, 3) := by decide +kernel
theorem dX7_shiftGift_60 : decode cX7_shiftGift 60 = .ok (.iload 5, 2) := by decide +kernel
theorem dX7_shiftGift_62 : decode cX7_shiftGift 62 = .ok (.iaload, 1) := by decide +kernel
theorem dX7_shiftGift_63 : decode cX7_shiftGift 63 = .ok (.iload_n 3, 1) := by decide +kernel
theorem dX7_shiftGift_64 : decode cX7_shiftGift 64 = .ok (.if_icmp .ne 7, 3) := by decide +kernel
theorem dX7_shiftGift_67 : decode cX7_shiftGift 67 = .ok (.iload_n 2, 1) := by decide +kernel
theorem dX7_shiftGift_68 : decode cX7_shiftGift 68 = .ok (.goto 5, 3) := by decide +kernel
theorem dX7_shiftGift_71 : decode cX7_shiftGift 71 = .ok (.iload_n 2, 1) := by decide +kernel
theorem dX7_shiftGift_72 : decode cX7_shiftGift 72 = .ok (.ineg, 1) := by decide +kernel
theorem dX7_shiftGift_73 : decode cX7_shiftGift 73 = .ok (.iadd, 1) := by decide +kernel
theorem dX7_shiftGift_74 : decode cX7_shiftGift 74 = .ok (.iastore, 1) := by decide +kernel
theorem dX7_shiftGift_75 : decode cX7_shiftGift 75 = .ok (.aload_n 0, 1) := by decide +kernel
theorem dX7_shiftGift_76 : decode cX7_shiftGift 76 = .ok (.getfield 21, 3) := by decide +kernel
theorem dX7_shiftGift_79 : decode cX7_shiftGift 79 = .ok (.getfield 176, 3) := by decide +kernel
theorem dX7_shiftGift_82 : decode cX7_shiftGift 82 = .ok (.iload_n 3, 1) := by decide +kernel
theorem dX7_shiftGift_83 : decode cX7_shiftGift 83 = .ok (.iaload, 1) := by decide +kernel
theorem dX7_shiftGift_84 : decode cX7_shiftGift 84 = .ok (.istore_n 3, 1) := by decide +kernel
theorem dX7_shiftGift_85 : decode cX7_shiftGift 85 = .ok (.iinc 4 1, 3) := by decide +kernel
theorem dX7_shiftGift_88 : decode cX7_shiftGift 88 = .ok (.goto (-70), 3) := by decide +kernel
theorem dX7_shiftGift_91 : decode cX7_shiftGift 91 = .ok (.return_, 1) := by decide +kernel
theorem dX8_init_0 : decode cX8_init 0 = .ok (.aload_n 0, 1) := by decide +kernel
theorem dX8_init_1 : decode cX8_init 1 = .ok (.invokespecial 1, 3) := by decide +kernel
theorem dX8_init_4 : decode cX8_init 4 = .ok (.aload_n 0, 1) := by decide +kernel
theorem dX8_init_5 : decode cX8_init 5 = .ok (.sipush 600, 3) := by decide +kernel
theorem dX8_init_8 : decode cX8_init 8 = .ok (.newarray .byte, 2) := by decide +kernel
theorem dX8_init_10 : decode cX8_init 10 = .ok (.putfield 9, 3) := by decide +kernel
theorem dX8_init_13 : decode cX8_init 13 = .ok (.aload_n 0, 1) := by decide +kernel
theorem dX8_init_14 : decode cX8_init 14 = .ok (.iconst 0, 1) := by decide +kernel
theorem dX8_init_15 : decode cX8_init 15 = .ok (.putfield 13, 3) := by decide +kernel
theorem dX8_init_18 : decode cX8_init 18 = .ok (.aload_n 0, 1) := by decide +kernel
theorem dX8_init_19 : decode cX8_init 19 = .ok (.new 17, 3) := by decide +kernel
theorem dX8_init_22 : decode cX8_init 22 = .ok (.dup, 1) := by decide +kernel
theorem dX8_init_23 : decode cX8_init 23 = .ok (.invokespecial 19, 3) := by decide +kernel
theorem dX8_init_26 : decode cX8_init 26 = .ok (.putfield 20, 3) := by decide +kernel
theorem dX8_init_29 : decode cX8_init 29 = .ok (.aload_n 0, 1) := by decide +kernel
theorem dX8_init_30 : decode cX8_init 30 = .ok (.bipush 16, 2) := by decide +kernel
theorem dX8_init_32 : decode cX8_init 32 = .ok (.newarray .long, 2) := by decide +kernel
theorem dX8_init_34 : decode cX8_init 34 = .ok (.putfield 24, 3) := by decide +kernel
theorem dX8_init_37 : decode cX8_init 37 = .ok (.aload_n 0, 1) := by decide +kernel
theorem dX8_init_38 : decode cX8_init 38 = .ok (.new 28, 3) := by decide +kernel
theorem dX8_init_41 : decode cX8_init 41 = .ok (.dup, 1) := by decide +kernel
theorem dX8_init_42 : decode cX8_init 42 = .ok (.invokespecial 30, 3) := by decide +kernel
theorem dX8_init_45 : decode cX8_init 45 = .ok (.putfield 31, 3) := by decide +kernel
theorem dX8_init_48 : decode cX8_init 48 = .ok (.aload_n 0, 1) := by decide +kernel
theorem dX8_init_49 : decode cX8_init 49 = .ok (.new 28, 3) := by decide +kernel
theorem dX8_init_52 : decode cX8_init 52 = .ok (.dup, 1) := by decide +kernel
theorem dX8_init_53 : decode cX8_init 53 = .ok (.invokespecial 30, 3) := by decide +kernel
theorem dX8_init_56 : decode cX8_init 56 = .ok (.putfield 35, 3) := by decide +kernel
theorem dX8_init_59 : decode cX8_init 59 = .ok (.aload_n 0, 1) := by decide +kernel
theorem dX8_init_60 : decode cX8_init 60 = .ok (.new 38, 3) := by decide +kernel
theorem dX8_init_63 : decode cX8_init 63 = .ok (.dup, 1) := by decide +kernel
theorem dX8_init_64 : decode cX8_init 64 = .ok (.invokespecial 40, 3) := by decide +kernel
theorem dX8_init_67 : decode cX8_init 67 = .ok (.putfield 41, 3) := by decide +kernel
theorem dX8_init_70 : decode cX8_init 70 = .ok (.aload_n 0, 1) := by decide +kernel
theorem dX8_init_71 : decode cX8_init 71 = .ok (.iconst 2, 1) := by decide +kernel
theorem dX8_init_72 : decode cX8_init 72 = .ok (.anewarray 45, 3) := by decide +kernel
theorem dX8_init_75 : decode cX8_init 75 = .ok (.putfield 47, 3) := by decide +kernel
theorem dX8_init_78 : decode cX8_init 78 = .ok (.aload_n 0, 1) := by decide +kernel
theorem dX8_init_79 : decode cX8_init 79 = .ok (.iconst 2, 1) := by decide +kernel
theorem dX8_init_80 : decode cX8_init 80 = .ok (.newarray .boolean, 2) := by decide +kernel
theorem dX8_init_82 : decode cX8_init 82 = .ok (.putfield 51, 3) := by decide +kernel
theorem dX8_init_85 : decode cX8_init 85 = .ok (.aload_n 0, 1) := by decide +kernel
theorem dX8_init_86 : decode cX8_init 86 = .ok (.new 55, 3) := by decide +kernel
theorem dX8_init_89 : decode cX8_init 89 = .ok (.dup, 1) := by decide +kernel
theorem dX8_init_90 : decode cX8_init 90 = .ok (.invokespecial 57, 3) := by decide +kernel
theorem dX8_init_93 : decode cX8_init 93 = .ok (.putfield 58, 3) := by decide +kernel
theorem dX8_init_96 : decode cX8_init 96 = .ok (.aload_n 0, 1) := by decide +kernel
theorem dX8_init_97 : decode cX8_init 97 = .ok (.new 62, 3) := by decide +kernel
theorem dX8_init_100 : decode cX8_init 100 = .ok (.dup, 1) := by decide +kernel
theorem dX8_init_101 : decode cX8_init 101 = .ok (.invokespecial 64, 3) := by decide +kernel
theorem dX8_init_104 : decode cX8_init 104 = .ok (.putfield 65, 3) := by decide +kernel
theorem dX8_init_107 : decode cX8_init 107 = .ok (.iconst 0, 1) := by decide +kernel
theorem dX8_init_108 : decode cX8_init 108 = .ok (.istore_n 1, 1) := by decide +kernel
theorem dX8_init_109 : decode cX8_init 109 = .ok (.iload_n 1, 1) := by decide +kernel
theorem dX8_init_110 : decode cX8_init 110 = .ok (.iconst 2, 1) := by decide +kernel
theorem dX8_init_111 : decode cX8_init 111 = .ok (.if_icmp .ge 22, 3) := by decide +kernel
theorem dX8_init_114 : decode cX8_init 114 = .ok (.aload_n 0, 1) := by decide +kernel
theorem dX8_init_115 : decode cX8_init 115 = .ok (.getfield 47, 3) := by decide +kernel
theorem dX8_init_118 : decode cX8_init 118 = .ok (.iload_n 1, 1) := by decide +kernel
theorem dX8_init_119 : decode cX8_init 119 = .ok (.new 45, 3) := by decide +kernel
theorem dX8_init_122 : decode cX8_init 122 = .ok (.dup, 1) := by decide +kernel
theorem dX8_init_123 : decode cX8_init 123 = .ok (.invokespecial 69, 3) := by decide +kernel
theorem dX8_init_126 : decode cX8_init 126 = .ok (.aastore, 1) := by decide +kernel
theorem dX8_init_127 : decode cX8_init 127 = .ok (.iinc 1 1, 3) := by decide +kernel
theorem dX8_init_130 : decode cX8_init 130 = .ok (.goto (-21), 3) := by decide +kernel
theorem dX8_init_133 : decode cX8_init 133 = .ok (.aload_n 0, 1) := by decide +kernel
theorem dX8_init_134 : decode cX8_init 134 = .ok (.getfield 31, 3) := by decide +kernel
theorem dX8_init_137 : decode cX8_init 137 = .ok (.invokevirtual 70, 3) := by decide +kernel
theorem dX8_init_140 : decode cX8_init 140 = .ok (.return_, 1) := by decide +kernel
theorem dX8_feed_0 : decode cX8_feed 0 = .ok (.aload_n 0, 1) := by decide +kernel
theorem dX8_feed_1 : decode cX8_feed 1 = .ok (.getfield 13, 3) := by decide +kernel
theorem dX8_feed_4 : decode cX8_feed 4 = .ok (.bipush 20, 2) := by decide +kernel
theorem dX8_feed_6 : decode cX8_feed 6 = .ok (.iadd, 1) := by decide +kernel
theorem dX8_feed_7 : decode cX8_feed 7 = .ok (.sipush 600, 3) := by decide +kernel
theorem dX8_feed_10 : decode cX8_feed 10 = .ok (.if_icmp .le 5, 3) := by decide +kernel
theorem dX8_feed_13 : decode cX8_feed 13 = .ok (.iconst (-1), 1) := by decide +kernel
theorem dX8_feed_14 : decode cX8_feed 14 = .ok (.ireturn, 1) := by decide +kernel
theorem dX8_feed_15 : decode cX8_feed 15 = .ok (.aload_n 0, 1) := by decide +kernel
theorem dX8_feed_16 : decode cX8_feed 16 = .ok (.iload_n 1, 1) := by decide +kernel
theorem dX8_feed_17 : decode cX8_feed 17 = .ok (.invokevirtual 73, 3) := by decide +kernel
theorem dX8_feed_20 : decode cX8_feed 20 = .ok (.aload_n 0, 1) := by decide +kernel
theorem dX8_feed_21 : decode cX8_feed 21 = .ok (.iload_n 2, 1) := by decide +kernel
theorem dX8_feed_22 : decode cX8_feed 22 = .ok (.invokevirtual 73, 3) := by decide +kernel
theorem dX8_feed_25 : decode cX8_feed 25 = .ok (.aload_n 0, 1) := by decide +kernel
theorem dX8_feed_26 : decode cX8_feed 26 = .ok (.iload_n 3, 1) := by decide +kernel
theorem dX8_feed_27 : decode cX8_feed 27 = .ok (.invokevirtual 73, 3) := by decide +kernel
theorem dX8_feed_30 : decode cX8_feed 30 = .ok (.aload_n 0, 1) := by decide +kernel
theorem dX8_feed_31 : decode cX8_feed 31 = .ok (.iload 4, 2) := by decide +kernel
