theorem dX8_feed_33 : decode cX8_feed 33 = .ok (.invokevirtual 73, 3) := by decide +kernel
theorem dX8_feed_36 : decode cX8_feed 36 = .ok (.aload_n 0, 1) := by decide +kernel
theorem dX8_feed_37 : decode cX8_feed 37 = .ok (.iload 5, 2) := by decide +kernel
theorem dX8_feed_39 : decode cX8_feed 39 = .ok (.invokevirtual 73, 3) := by decide +kernel
theorem dX8_feed_42 : decode cX8_feed 42 = .ok (.aload_n 0, 1) := by decide +kernel
theorem dX8_feed_43 : decode cX8_feed 43 = .ok (.getfield 13, 3) := by decide +kernel
theorem dX8_feed_46 : decode cX8_feed 46 = .ok (.ireturn, 1) := by decide +kernel
theorem dX8_putBytes_0 : decode cX8_putBytes 0 = .ok (.bipush 24, 2) := by decide +kernel
theorem dX8_putBytes_2 : decode cX8_putBytes 2 = .ok (.istore_n 2, 1) := by decide +kernel
theorem dX8_putBytes_3 : decode cX8_putBytes 3 = .ok (.iload_n 2, 1) := by decide +kernel
theorem dX8_putBytes_4 : decode cX8_putBytes 4 = .ok (.ifCond .lt 42, 3) := by decide +kernel
theorem dX8_putBytes_7 : decode cX8_putBytes 7 = .ok (.aload_n 0, 1) := by decide +kernel
theorem dX8_putBytes_8 : decode cX8_putBytes 8 = .ok (.getfield 13, 3) := by decide +kernel
theorem dX8_putBytes_11 : decode cX8_putBytes 11 = .ok (.sipush 600, 3) := by decide +kernel
theorem dX8_putBytes_14 : decode cX8_putBytes 14 = .ok (.if_icmp .ge 32, 3) := by decide +kernel
theorem dX8_putBytes_17 : decode cX8_putBytes 17 = .ok (.aload_n 0, 1) := by decide +kernel
theorem dX8_putBytes_18 : decode cX8_putBytes 18 = .ok (.getfield 9, 3) := by decide +kernel
theorem dX8_putBytes_21 : decode cX8_putBytes 21 = .ok (.aload_n 0, 1) := by decide +kernel
theorem dX8_putBytes_22 : decode cX8_putBytes 22 = .ok (.getfield 13, 3) := by decide +kernel
theorem dX8_putBytes_25 : decode cX8_putBytes 25 = .ok (.iload_n 1, 1) := by decide +kernel
theorem dX8_putBytes_26 : decode cX8_putBytes 26 = .ok (.iload_n 2, 1) := by decide +kernel
theorem dX8_putBytes_27 : decode cX8_putBytes 27 = .ok (.ishr, 1) := by decide +kernel
theorem dX8_putBytes_28 : decode cX8_putBytes 28 = .ok (.i2b, 1) := by decide +kernel
theorem dX8_putBytes_29 : decode cX8_putBytes 29 = .ok (.bastore, 1) := by decide +kernel
theorem dX8_putBytes_30 : decode cX8_putBytes 30 = .ok (.aload_n 0, 1) := by decide +kernel
theorem dX8_putBytes_31 : decode cX8_putBytes 31 = .ok (.dup, 1) := by decide +kernel
theorem dX8_putBytes_32 : decode cX8_putBytes 32 = .ok (.getfield 13, 3) := by decide +kernel
theorem dX8_putBytes_35 : decode cX8_putBytes 35 = .ok (.iconst 1, 1) := by decide +kernel
theorem dX8_putBytes_36 : decode cX8_putBytes 36 = .ok (.iadd, 1) := by decide +kernel
theorem dX8_putBytes_37 : decode cX8_putBytes 37 = .ok (.putfield 13, 3) := by decide +kernel
theorem dX8_putBytes_40 : decode cX8_putBytes 40 = .ok (.iinc 2 (-8), 3) := by decide +kernel
theorem dX8_putBytes_43 : decode cX8_putBytes 43 = .ok (.goto (-40), 3) := by decide +kernel
theorem dX8_putBytes_46 : decode cX8_putBytes 46 = .ok (.return_, 1) := by decide +kernel
theorem dX8_text_0 : decode cX8_text 0 = .ok (.iload_n 1, 1) := by decide +kernel
theorem dX8_text_1 : decode cX8_text 1 = .ok (.ifCond .lt 11, 3) := by decide +kernel
theorem dX8_text_4 : decode cX8_text 4 = .ok (.iload_n 1, 1) := by decide +kernel
theorem dX8_text_5 : decode cX8_text 5 = .ok (.aload_n 0, 1) := by decide +kernel
theorem dX8_text_6 : decode cX8_text 6 = .ok (.getfield 13, 3) := by decide +kernel
theorem dX8_text_9 : decode cX8_text 9 = .ok (.if_icmp .le 5, 3) := by decide +kernel
theorem dX8_text_12 : decode cX8_text 12 = .ok (.iconst (-1), 1) := by decide +kernel
theorem dX8_text_13 : decode cX8_text 13 = .ok (.ireturn, 1) := by decide +kernel
theorem dX8_text_14 : decode cX8_text 14 = .ok (.aload_n 0, 1) := by decide +kernel
theorem dX8_text_15 : decode cX8_text 15 = .ok (.getfield 20, 3) := by decide +kernel
theorem dX8_text_18 : decode cX8_text 18 = .ok (.aload_n 0, 1) := by decide +kernel
theorem dX8_text_19 : decode cX8_text 19 = .ok (.getfield 9, 3) := by decide +kernel
theorem dX8_text_22 : decode cX8_text 22 = .ok (.iload_n 1, 1) := by decide +kernel
theorem dX8_text_23 : decode cX8_text 23 = .ok (.invokevirtual 77, 3) := by decide +kernel
theorem dX8_text_26 : decode cX8_text 26 = .ok (.istore_n 2, 1) := by decide +kernel
theorem dX8_text_27 : decode cX8_text 27 = .ok (.aload_n 0, 1) := by decide +kernel
theorem dX8_text_28 : decode cX8_text 28 = .ok (.iconst 0, 1) := by decide +kernel
theorem dX8_text_29 : decode cX8_text 29 = .ok (.putfield 13, 3) := by decide +kernel
theorem dX8_text_32 : decode cX8_text 32 = .ok (.iload_n 2, 1) := by decide +kernel
theorem dX8_text_33 : decode cX8_text 33 = .ok (.iconst (-1), 1) := by decide +kernel
theorem dX8_text_34 : decode cX8_text 34 = .ok (.if_icmp .eq 8, 3) := by decide +kernel
theorem dX8_text_37 : decode cX8_text 37 = .ok (.bipush (-2), 2) := by decide +kernel
theorem dX8_text_39 : decode cX8_text 39 = .ok (.iload_n 2, 1) := by decide +kernel
theorem dX8_text_40 : decode cX8_text 40 = .ok (.isub, 1) := by decide +kernel
theorem dX8_text_41 : decode cX8_text 41 = .ok (.ireturn, 1) := by decide +kernel
theorem dX8_text_42 : decode cX8_text 42 = .ok (.aload_n 0, 1) := by decide +kernel
theorem dX8_text_43 : decode cX8_text 43 = .ok (.getfield 31, 3) := by decide +kernel
theorem dX8_text_46 : decode cX8_text 46 = .ok (.getfield 81, 3) := by decide +kernel
theorem dX8_text_49 : decode cX8_text 49 = .ok (.aload_n 0, 1) := by decide +kernel
theorem dX8_text_50 : decode cX8_text 50 = .ok (.getfield 20, 3) := by decide +kernel
theorem dX8_text_53 : decode cX8_text 53 = .ok (.getfield 85, 3) := by decide +kernel
theorem dX8_text_56 : decode cX8_text 56 = .ok (.invokevirtual 86, 3) := by decide +kernel
theorem dX8_text_59 : decode cX8_text 59 = .ok (.aload_n 0, 1) := by decide +kernel
theorem dX8_text_60 : decode cX8_text 60 = .ok (.getfield 20, 3) := by decide +kernel
theorem dX8_text_63 : decode cX8_text 63 = .ok (.getfield 90, 3) := by decide +kernel
theorem dX8_text_66 : decode cX8_text 66 = .ok (.iconst 0, 1) := by decide +kernel
theorem dX8_text_67 : decode cX8_text 67 = .ok (.aload_n 0, 1) := by decide +kernel
theorem dX8_text_68 : decode cX8_text 68 = .ok (.getfield 24, 3) := by decide +kernel
theorem dX8_text_71 : decode cX8_text 71 = .ok (.iconst 0, 1) := by decide +kernel
theorem dX8_text_72 : decode cX8_text 72 = .ok (.bipush 16, 2) := by decide +kernel
theorem dX8_text_74 : decode cX8_text 74 = .ok (.invokestatic 91, 3) := by decide +kernel
theorem dX8_text_77 : decode cX8_text 77 = .ok (.aload_n 0, 1) := by decide +kernel
theorem dX8_text_78 : decode cX8_text 78 = .ok (.getfield 31, 3) := by decide +kernel
theorem dX8_text_81 : decode cX8_text 81 = .ok (.invokevirtual 70, 3) := by decide +kernel
theorem dX8_text_84 : decode cX8_text 84 = .ok (.aload_n 0, 1) := by decide +kernel
theorem dX8_text_85 : decode cX8_text 85 = .ok (.getfield 41, 3) := by decide +kernel
theorem dX8_text_88 : decode cX8_text 88 = .ok (.invokevirtual 97, 3) := by decide +kernel
theorem dX8_text_91 : decode cX8_text 91 = .ok (.iconst 0, 1) := by decide +kernel
theorem dX8_text_92 : decode cX8_text 92 = .ok (.istore_n 3, 1) := by decide +kernel
theorem dX8_text_93 : decode cX8_text 93 = .ok (.iload_n 3, 1) := by decide +kernel
theorem dX8_text_94 : decode cX8_text 94 = .ok (.iconst 2, 1) := by decide +kernel
theorem dX8_text_95 : decode cX8_text 95 = .ok (.if_icmp .ge 16, 3) := by decide +kernel
theorem dX8_text_98 : decode cX8_text 98 = .ok (.aload_n 0, 1) := by decide +kernel
theorem dX8_text_99 : decode cX8_text 99 = .ok (.getfield 51, 3) := by decide +kernel
theorem dX8_text_102 : decode cX8_text 102 = .ok (.iload_n 3, 1) := by decide +kernel
theorem dX8_text_103 : decode cX8_text 103 = .ok (.iconst 0, 1) := by decide +kernel
theorem dX8_text_104 : decode cX8_text 104 = .ok (.bastore, 1) := by decide +kernel
theorem dX8_text_105 : decode cX8_text 105 = .ok (.iinc 3 1, 3) := by decide +kernel
theorem dX8_text_108 : decode cX8_text 108 = .ok (.goto (-15), 3) := by decide +kernel
theorem dX8_text_111 : decode cX8_text 111 = .ok (.aload_n 0, 1) := by decide +kernel
theorem dX8_text_112 : decode cX8_text 112 = .ok (.getfield 31, 3) := by decide +kernel
theorem dX8_text_115 : decode cX8_text 115 = .ok (.getfield 81, 3) := by decide +kernel
theorem dX8_text_118 : decode cX8_text 118 = .ok (.getfield 100, 3) := by decide +kernel
theorem dX8_text_121 : decode cX8_text 121 = .ok (.ireturn, 1) := by decide +kernel
theorem dX8_dock_0 : decode cX8_dock 0 = .ok (.aload_n 0, 1) := by decide +kernel
theorem dX8_dock_1 : decode cX8_dock 1 = .ok (.getfield 31, 3) := by decide +kernel
theorem dX8_dock_4 : decode cX8_dock 4 = .ok (.getfield 81, 3) := by decide +kernel
theorem dX8_dock_7 : decode cX8_dock 7 = .ok (.iload_n 1, 1) := by decide +kernel
theorem dX8_dock_8 : decode cX8_dock 8 = .ok (.invokevirtual 103, 3) := by decide +kernel
theorem dX8_dock_11 : decode cX8_dock 11 = .ok (.ifCond .ne 13, 3) := by decide +kernel
theorem dX8_dock_14 : decode cX8_dock 14 = .ok (.new 107, 3) := by decide +kernel
theorem dX8_dock_17 : decode cX8_dock 17 = .ok (.dup, 1) := by decide +kernel
theorem dX8_dock_18 : decode cX8_dock 18 = .ok (.ldc 109, 2) := by decide +kernel
theorem dX8_dock_20 : decode cX8_dock 20 = .ok (.invokespecial 111, 3) := by decide +kernel
theorem dX8_dock_23 : decode cX8_dock 23 = .ok (.athrow, 1) := by decide +kernel
theorem dX8_dock_24 : decode cX8_dock 24 = .ok (.iload_n 2, 1) := by decide +kernel
theorem dX8_dock_25 : decode cX8_dock 25 = .ok (.tableswitch 128 0 6 #[43, 56, 69, 82, 95, 104, 116], 43) := by decide +kernel
theorem dX8_dock_68 : decode cX8_dock 68 = .ok (.aload_n 0, 1) := by decide +kernel
theorem dX8_dock_69 : decode cX8_dock 69 = .ok (.getfield 31, 3) := by decide +kernel
theorem dX8_dock_72 : decode cX8_dock 72 = .ok (.getfield 81, 3) := by decide +kernel
theorem dX8_dock_75 : decode cX8_dock 75 = .ok (.getfield 114, 3) := by decide +kernel
theorem dX8_dock_78 : decode cX8_dock 78 = .ok (.iload_n 1, 1) := by decide +kernel
theorem dX8_dock_79 : decode cX8_dock 79 = .ok (.iaload, 1) := by decide +kernel
theorem dX8_dock_80 : decode cX8_dock 80 = .ok (.ireturn, 1) := by decide +kernel
theorem dX8_dock_81 : decode cX8_dock 81 = .ok (.aload_n 0, 1) := by decide +kernel
theorem dX8_dock_82 : decode cX8_dock 82 = .ok (.getfield 31, 3) := by decide +kernel
theorem dX8_dock_85 : decode cX8_dock 85 = .ok (.getfield 118, 3) := by decide +kernel
theorem dX8_dock_88 : decode cX8_dock 88 = .ok (.getfield 122, 3) := by decide +kernel
theorem dX8_dock_91 : decode cX8_dock 91 = .ok (.iload_n 1, 1) := by decide +kernel
theorem dX8_dock_92 : decode cX8_dock 92 = .ok (.iaload, 1) := by decide +kernel
theorem dX8_dock_93 : decode cX8_dock 93 = .ok (.ireturn, 1) := by decide +kernel
theorem dX8_dock_94 : decode cX8_dock 94 = .ok (.aload_n 0, 1) := by decide +kernel
theorem dX8_dock_95 : decode cX8_dock 95 = .ok (.getfield 31, 3) := by decide +kernel
theorem dX8_dock_98 : decode cX8_dock 98 = .ok (.getfield 118, 3) := by decide +kernel
theorem dX8_dock_101 : decode cX8_dock 101 = .ok (.getfield 127, 3) := by decide +kernel
theorem dX8_dock_104 : decode cX8_dock 104 = .ok (.iload_n 1, 1) := by decide +kernel
theorem dX8_dock_105 : decode cX8_dock 105 = .ok (.iaload, 1) := by decide +kernel
theorem dX8_dock_106 : decode cX8_dock 106 = .ok (.ireturn, 1) := by decide +kernel
theorem dX8_dock_107 : decode cX8_dock 107 = .ok (.aload_n 0, 1) := by decide +kernel
theorem dX8_dock_108 : decode cX8_dock 108 = .ok (.getfield 31, 3) := by decide +kernel
theorem dX8_dock_111 : decode cX8_dock 111 = .ok (.getfield 118, 3) := by decide +kernel
theorem dX8_dock_114 : decode cX8_dock 114 = .ok (.getfield 130, 3) := by decide +kernel
theorem dX8_dock_117 : decode cX8_dock 117 = .ok (.iload_n 1, 1) := by decide +kernel
theorem dX8_dock_118 : decode cX8_dock 118 = .ok (.iaload, 1) := by decide +kernel
theorem dX8_dock_119 : decode cX8_dock 119 = .ok (.ireturn, 1) := by decide +kernel
theorem dX8_dock_120 : decode cX8_dock 120 = .ok (.aload_n 0, 1) := by decide +kernel
theorem dX8_dock_121 : decode cX8_dock 121 = .ok (.getfield 31, 3) := by decide +kernel
theorem dX8_dock_124 : decode cX8_dock 124 = .ok (.iload_n 1, 1) := by decide +kernel
theorem dX8_dock_125 : decode cX8_dock 125 = .ok (.invokevirtual 133, 3) := by decide +kernel
theorem dX8_dock_128 : decode cX8_dock 128 = .ok (.ireturn, 1) := by decide +kernel
theorem dX8_dock_129 : decode cX8_dock 129 = .ok (.aload_n 0, 1) := by decide +kernel
theorem dX8_dock_130 : decode cX8_dock 130 = .ok (.getfield 31, 3) := by decide +kernel
theorem dX8_dock_133 : decode cX8_dock 133 = .ok (.getfield 81, 3) := by decide +kernel
theorem dX8_dock_136 : decode cX8_dock 136 = .ok (.iload_n 1, 1) := by decide +kernel
theorem dX8_dock_137 : decode cX8_dock 137 = .ok (.invokevirtual 137, 3) := by decide +kernel
theorem dX8_dock_140 : decode cX8_dock 140 = .ok (.ireturn, 1) := by decide +kernel
theorem dX8_dock_141 : decode cX8_dock 141 = .ok (.aload_n 0, 1) := by decide +kernel
theorem dX8_dock_142 : decode cX8_dock 142 = .ok (.getfield 31, 3) := by decide +kernel
theorem dX8_dock_145 : decode cX8_dock 145 = .ok (.getfield 81, 3) := by decide +kernel
theorem dX8_dock_148 : decode cX8_dock 148 = .ok (.iload_n 1, 1) := by decide +kernel
theorem dX8_dock_149 : decode cX8_dock 149 = .ok (.invokevirtual 140, 3) := by decide +kernel
theorem dX8_dock_152 : decode cX8_dock 152 = .ok (.ireturn, 1) := by decide +kernel
theorem dX8_dock_153 : decode cX8_dock 153 = .ok (.new 107, 3) := by decide +kernel
theorem dX8_dock_156 : decode cX8_dock 156 = .ok (.dup, 1) := by decide +kernel
theorem dX8_dock_157 : decode cX8_dock 157 = .ok (.ldc 143, 2) := by decide +kernel
theorem dX8_dock_159 : decode cX8_dock 159 = .ok (.invokespecial 111, 3) := by decide +kernel
theorem dX8_dock_162 : decode cX8_dock 162 = .ok (.athrow, 1) := by decide +kernel
theorem dX8_way_0 : decode cX8_way 0 = .ok (.aload_n 0, 1) := by decide +kernel
theorem dX8_way_1 : decode cX8_way 1 = .ok (.getfield 31, 3) := by decide +kernel
theorem dX8_way_4 : decode cX8_way 4 = .ok (.getfield 81, 3) := by decide +kernel
theorem dX8_way_7 : decode cX8_way 7 = .ok (.astore_n 3, 1) := by decide +kernel
theorem dX8_way_8 : decode cX8_way 8 = .ok (.aload_n 3, 1) := by decide +kernel
theorem dX8_way_9 : decode cX8_way 9 = .ok (.iload_n 1, 1) := by decide +kernel
theorem dX8_way_10 : decode cX8_way 10 = .ok (.invokevirtual 145, 3) := by decide +kernel
theorem dX8_way_13 : decode cX8_way 13 = .ok (.ifCond .ne 13, 3) := by decide +kernel
theorem dX8_way_16 : decode cX8_way 16 = .ok (.new 107, 3) := by decide +kernel
theorem dX8_way_19 : decode cX8_way 19 = .ok (.dup, 1) := by decide +kernel
theorem dX8_way_20 : decode cX8_way 20 = .ok (.ldc 148, 2) := by decide +kernel
theorem dX8_way_22 : decode cX8_way 22 = .ok (.invokespecial 111, 3) := by decide +kernel
theorem dX8_way_25 : decode cX8_way 25 = .ok (.athrow, 1) := by decide +kernel
theorem dX8_way_26 : decode cX8_way 26 = .ok (.iload_n 2, 1) := by decide +kernel
theorem dX8_way_27 : decode cX8_way 27 = .ok (.tableswitch 134 0 6 #[41, 63, 85, 92, 111, 118, 125], 41) := by decide +kernel
theorem dX8_way_68 : decode cX8_way 68 = .ok (.aload_n 3, 1) := by decide +kernel
theorem dX8_way_69 : decode cX8_way 69 = .ok (.getfield 150, 3) := by decide +kernel
theorem dX8_way_72 : decode cX8_way 72 = .ok (.iload_n 1, 1) := by decide +kernel
theorem dX8_way_73 : decode cX8_way 73 = .ok (.iaload, 1) := by decide +kernel
theorem dX8_way_74 : decode cX8_way 74 = .ok (.bipush 8, 2) := by decide +kernel
theorem dX8_way_76 : decode cX8_way 76 = .ok (.if_icmp .ne 7, 3) := by decide +kernel
theorem dX8_way_79 : decode cX8_way 79 = .ok (.iconst (-1), 1) := by decide +kernel
theorem dX8_way_80 : decode cX8_way 80 = .ok (.goto 9, 3) := by decide +kernel
theorem dX8_way_83 : decode cX8_way 83 = .ok (.aload_n 3, 1) := by decide +kernel
theorem dX8_way_84 : decode cX8_way 84 = .ok (.getfield 150, 3) := by decide +kernel
theorem dX8_way_87 : decode cX8_way 87 = .ok (.iload_n 1, 1) := by decide +kernel
theorem dX8_way_88 : decode cX8_way 88 = .ok (.iaload, 1) := by decide +kernel
theorem dX8_way_89 : decode cX8_way 89 = .ok (.ireturn, 1) := by decide +kernel
theorem dX8_way_90 : decode cX8_way 90 = .ok (.aload_n 3, 1) := by decide +kernel
theorem dX8_way_91 : decode cX8_way 91 = .ok (.getfield 153, 3) := by decide +kernel
theorem dX8_way_94 : decode cX8_way 94 = .ok (.iload_n 1, 1) := by decide +kernel
theorem dX8_way_95 : decode cX8_way 95 = .ok (.iaload, 1) := by decide +kernel
theorem dX8_way_96 : decode cX8_way 96 = .ok (.bipush 8, 2) := by decide +kernel
theorem dX8_way_98 : decode cX8_way 98 = .ok (.if_icmp .ne 7, 3) := by decide +kernel
theorem dX8_way_101 : decode cX8_way 101 = .ok (.iconst (-1), 1) := by decide +kernel
theorem dX8_way_102 : decode cX8_way 102 = .ok (.goto 9, 3) := by decide +kernel
theorem dX8_way_105 : decode cX8_way 105 = .ok (.aload_n 3, 1) := by decide +kernel
theorem dX8_way_106 : decode cX8_way 106 = .ok (.getfield 153, 3) := by decide +kernel
theorem dX8_way_109 : decode cX8_way 109 = .ok (.iload_n 1, 1) := by decide +kernel
theorem dX8_way_110 : decode cX8_way 110 = .ok (.iaload, 1) := by decide +kernel
theorem dX8_way_111 : decode cX8_way 111 = .ok (.ireturn, 1) := by decide +kernel
theorem dX8_way_112 : decode cX8_way 112 = .ok (.aload_n 3, 1) := by decide +kernel
theorem dX8_way_113 : decode cX8_way 113 = .ok (.getfield 156, 3) := by decide +kernel
theorem dX8_way_116 : decode cX8_way 116 = .ok (.iload_n 1, 1) := by decide +kernel
theorem dX8_way_117 : decode cX8_way 117 = .ok (.iaload, 1) := by decide +kernel
theorem dX8_way_118 : decode cX8_way 118 = .ok (.ireturn, 1) := by decide +kernel
theorem dX8_way_119 : decode cX8_way 119 = .ok (.aload_n 3, 1) := by decide +kernel
theorem dX8_way_120 : decode cX8_way 120 = .ok (.iload_n 1, 1) := by decide +kernel
theorem dX8_way_121 : decode cX8_way 121 = .ok (.invokevirtual 159, 3) := by decide +kernel
theorem dX8_way_124 : decode cX8_way 124 = .ok (.ifCond .eq 12, 3) := by decide +kernel
theorem dX8_way_127 : decode cX8_way 127 = .ok (.aload_n 3, 1) := by decide +kernel
theorem dX8_way_128 : decode cX8_way 128 = .ok (.getfield 162, 3) := by decide +kernel
theorem dX8_way_131 : decode cX8_way 131 = .ok (.iload_n 1, 1) := by decide +kernel
theorem dX8_way_132 : decode cX8_way 132 = .ok (.iaload, 1) := by decide +kernel
theorem dX8_way_133 : decode cX8_way 133 = .ok (.goto 4, 3) := by decide +kernel
theorem dX8_way_136 : decode cX8_way 136 = .ok (.iconst (-1), 1) := by decide +kernel
theorem dX8_way_137 : decode cX8_way 137 = .ok (.ireturn, 1) := by decide +kernel
theorem dX8_way_138 : decode cX8_way 138 = .ok (.aload_n 3, 1) := by decide +kernel
theorem dX8_way_139 : decode cX8_way 139 = .ok (.getfield 165, 3) := by decide +kernel
theorem dX8_way_142 : decode cX8_way 142 = .ok (.iload_n 1, 1) := by decide +kernel
theorem dX8_way_143 : decode cX8_way 143 = .ok (.iaload, 1) := by decide +kernel
theorem dX8_way_144 : decode cX8_way 144 = .ok (.ireturn, 1) := by decide +kernel
theorem dX8_way_145 : decode cX8_way 145 = .ok (.aload_n 3, 1) := by decide +kernel
theorem dX8_way_146 : decode cX8_way 146 = .ok (.getfield 168, 3) := by decide +kernel
theorem dX8_way_149 : decode cX8_way 149 = .ok (.iload_n 1, 1) := by decide +kernel
theorem dX8_way_150 : decode cX8_way 150 = .ok (.iaload, 1) := by decide +kernel
theorem dX8_way_151 : decode cX8_way 151 = .ok (.ireturn, 1) := by decide +kernel
theorem dX8_way_152 : decode cX8_way 152 = .ok (.aload_n 0, 1) := by decide +kernel
theorem dX8_way_153 : decode cX8_way 153 = .ok (.getfield 31, 3) := by decide +kernel
theorem dX8_way_156 : decode cX8_way 156 = .ok (.iload_n 1, 1) := by decide +kernel
theorem dX8_way_157 : decode cX8_way 157 = .ok (.invokevirtual 171, 3) := by decide +kernel
theorem dX8_way_160 : decode cX8_way 160 = .ok (.ireturn, 1) := by decide +kernel
theorem dX8_way_161 : decode cX8_way 161 = .ok (.new 107, 3) := by decide +kernel
theorem dX8_way_164 : decode cX8_way 164 = .ok (.dup, 1) := by decide +kernel
theorem dX8_way_165 : decode cX8_way 165 = .ok (.ldc 174, 2) := by decide +kernel
theorem dX8_way_167 : decode cX8_way 167 = .ok (.invokespecial 111, 3) := by decide +kernel
theorem dX8_way_170 : decode cX8_way 170 = .ok (.athrow, 1) := by decide +kernel
theorem dX8_ranked_0 : decode cX8_ranked 0 = .ok (.iconst 0, 1) := by decide +kernel
theorem dX8_ranked_1 : decode cX8_ranked 1 = .ok (.istore_n 2, 1) := by decide +kernel
theorem dX8_ranked_2 : decode cX8_ranked 2 = .ok (.iload_n 2, 1) := by decide +kernel
theorem dX8_ranked_3 : decode cX8_ranked 3 = .ok (.aload_n 0, 1) := by decide +kernel
theorem dX8_ranked_4 : decode cX8_ranked 4 = .ok (.getfield 31, 3) := by decide +kernel
theorem dX8_ranked_7 : decode cX8_ranked 7 = .ok (.getfield 81, 3) := by decide +kernel
theorem dX8_ranked_10 : decode cX8_ranked 10 = .ok (.getfield 100, 3) := by decide +kernel
theorem dX8_ranked_13 : decode cX8_ranked 13 = .ok (.if_icmp .ge 23, 3) := by decide +kernel
theorem dX8_ranked_16 : decode cX8_ranked 16 = .ok (.aload_n 0, 1) := by decide +kernel
theorem dX8_ranked_17 : decode cX8_ranked 17 = .ok (.getfield 31, 3) := by decide +kernel
theorem dX8_ranked_20 : decode cX8_ranked 20 = .ok (.iload_n 2, 1) := by decide +kernel
theorem dX8_ranked_21 : decode cX8_ranked 21 = .ok (.invokevirtual 176, 3) := by decide +kernel
theorem dX8_ranked_24 : decode cX8_ranked 24 = .ok (.iload_n 1, 1) := by decide +kernel
theorem dX8_ranked_25 : decode cX8_ranked 25 = .ok (.if_icmp .ne 5, 3) := by decide +kernel
theorem dX8_ranked_28 : decode cX8_ranked 28 = .ok (.iload_n 2, 1) := by decide +kernel
theorem dX8_ranked_29 : decode cX8_ranked 29 = .ok (.ireturn, 1) := by decide +kernel
theorem dX8_ranked_30 : decode cX8_ranked 30 = .ok (.iinc 2 1, 3) := by decide +kernel
theorem dX8_ranked_33 : decode cX8_ranked 33 = .ok (.goto (-31), 3) := by decide +kernel
theorem dX8_ranked_36 : decode cX8_ranked 36 = .ok (.iconst (-1), 1) := by decide +kernel
theorem dX8_ranked_37 : decode cX8_ranked 37 = .ok (.ireturn, 1) := by decide +kernel
theorem dX8_good_0 : decode cX8_good 0 = .ok (.aload_n 0, 1) := by decide +kernel
theorem dX8_good_1 : decode cX8_good 1 = .ok (.getfield 31, 3) := by decide +kernel
theorem dX8_good_4 : decode cX8_good 4 = .ok (.invokevirtual 179, 3) := by decide +kernel
theorem dX8_good_7 : decode cX8_good 7 = .ok (.ireturn, 1) := by decide +kernel
theorem dX8_enters_0 : decode cX8_enters 0 = .ok (.aload_n 0, 1) := by decide +kernel
theorem dX8_enters_1 : decode cX8_enters 1 = .ok (.getfield 31, 3) := by decide +kernel
theorem dX8_enters_4 : decode cX8_enters 4 = .ok (.invokevirtual 183, 3) := by decide +kernel
theorem dX8_enters_7 : decode cX8_enters 7 = .ok (.istore_n 1, 1) := by decide +kernel
theorem dX8_enters_8 : decode cX8_enters 8 = .ok (.iload_n 1, 1) := by decide +kernel
theorem dX8_enters_9 : decode cX8_enters 9 = .ok (.iconst (-1), 1) := by decide +kernel
theorem dX8_enters_10 : decode cX8_enters 10 = .ok (.if_icmp .ne 8, 3) := by decide +kernel
theorem dX8_enters_13 : decode cX8_enters 13 = .ok (.bipush (-2), 2) := by decide +kernel
theorem dX8_enters_15 : decode cX8_enters 15 = .ok (.goto 4, 3) := by decide +kernel
theorem dX8_enters_18 : decode cX8_enters 18 = .ok (.iload_n 1, 1) := by decide +kernel
theorem dX8_enters_19 : decode cX8_enters 19 = .ok (.ireturn, 1) := by decide +kernel
theorem dX8_ring_0 : decode cX8_ring 0 = .ok (.aload_n 0, 1) := by decide +kernel
theorem dX8_ring_1 : decode cX8_ring 1 = .ok (.getfield 31, 3) := by decide +kernel
theorem dX8_ring_4 : decode cX8_ring 4 = .ok (.getfield 81, 3) := by decide +kernel
theorem dX8_ring_7 : decode cX8_ring 7 = .ok (.iload_n 1, 1) := by decide +kernel
theorem dX8_ring_8 : decode cX8_ring 8 = .ok (.invokevirtual 145, 3) := by decide +kernel
theorem dX8_ring_11 : decode cX8_ring 11 = .ok (.ifCond .eq 8, 3) := by decide +kernel
theorem dX8_ring_14 : decode cX8_ring 14 = .ok (.iload_n 2, 1) := by decide +kernel
theorem dX8_ring_15 : decode cX8_ring 15 = .ok (.iconst (-1), 1) := by decide +kernel
theorem dX8_ring_16 : decode cX8_ring 16 = .ok (.if_icmp .ge 5, 3) := by decide +kernel
theorem dX8_ring_19 : decode cX8_ring 19 = .ok (.iconst (-1), 1) := by decide +kernel
theorem dX8_ring_20 : decode cX8_ring 20 = .ok (.ireturn, 1) := by decide +kernel
theorem dX8_ring_21 : decode cX8_ring 21 = .ok (.aload_n 0, 1) := by decide +kernel
theorem dX8_ring_22 : decode cX8_ring 22 = .ok (.getfield 31, 3) := by decide +kernel
theorem dX8_ring_25 : decode cX8_ring 25 = .ok (.getfield 81, 3) := by decide +kernel
theorem dX8_ring_28 : decode cX8_ring 28 = .ok (.getfield 168, 3) := by decide +kernel
theorem dX8_ring_31 : decode cX8_ring 31 = .ok (.iload_n 1, 1) := by decide +kernel
theorem dX8_ring_32 : decode cX8_ring 32 = .ok (.iaload, 1) := by decide +kernel
theorem dX8_ring_33 : decode cX8_ring 33 = .ok (.ifCond .ne 6, 3) := by decide +kernel
theorem dX8_ring_36 : decode cX8_ring 36 = .ok (.bipush (-2), 2) := by decide +kernel
theorem dX8_ring_38 : decode cX8_ring 38 = .ok (.ireturn, 1) := by decide +kernel
theorem dX8_ring_39 : decode cX8_ring 39 = .ok (.aload_n 0, 1) := by decide +kernel
theorem dX8_ring_40 : decode cX8_ring 40 = .ok (.getfield 31, 3) := by decide +kernel
theorem dX8_ring_43 : decode cX8_ring 43 = .ok (.iload_n 1, 1) := by decide +kernel
theorem dX8_ring_44 : decode cX8_ring 44 = .ok (.invokevirtual 186, 3) := by decide +kernel
theorem dX8_ring_47 : decode cX8_ring 47 = .ok (.astore_n 3, 1) := by decide +kernel
theorem dX8_ring_48 : decode cX8_ring 48 = .ok (.iload_n 2, 1) := by decide +kernel
theorem dX8_ring_49 : decode cX8_ring 49 = .ok (.iconst (-1), 1) := by decide +kernel
theorem dX8_ring_50 : decode cX8_ring 50 = .ok (.if_icmp .ne 8, 3) := by decide +kernel
theorem dX8_ring_53 : decode cX8_ring 53 = .ok (.aload_n 3, 1) := by decide +kernel
theorem dX8_ring_54 : decode cX8_ring 54 = .ok (.getfield 190, 3) := by decide +kernel
theorem dX8_ring_57 : decode cX8_ring 57 = .ok (.ireturn, 1) := by decide +kernel
theorem dX8_ring_58 : decode cX8_ring 58 = .ok (.iload_n 2, 1) := by decide +kernel
theorem dX8_ring_59 : decode cX8_ring 59 = .ok (.aload_n 3, 1) := by decide +kernel
theorem dX8_ring_60 : decode cX8_ring 60 = .ok (.getfield 190, 3) := by decide +kernel
theorem dX8_ring_63 : decode cX8_ring 63 = .ok (.if_icmp .ge 12, 3) := by decide +kernel
theorem dX8_ring_66 : decode cX8_ring 66 = .ok (.aload_n 3, 1) := by decide +kernel
theorem dX8_ring_67 : decode cX8_ring 67 = .ok (.getfield 195, 3) := by decide +kernel
theorem dX8_ring_70 : decode cX8_ring 70 = .ok (.iload_n 2, 1) := by decide +kernel
theorem dX8_ring_71 : decode cX8_ring 71 = .ok (.iaload, 1) := by decide +kernel
theorem dX8_ring_72 : decode cX8_ring 72 = .ok (.goto 5, 3) := by decide +kernel
theorem dX8_ring_75 : decode cX8_ring 75 = .ok (.bipush (-2), 2) := by decide +kernel
theorem dX8_ring_77 : decode cX8_ring 77 = .ok (.ireturn, 1) := by decide +kernel
theorem dX8_closes_0 : decode cX8_closes 0 = .ok (.aload_n 0, 1) := by decide +kernel
theorem dX8_closes_1 : decode cX8_closes 1 = .ok (.getfield 31, 3) := by decide +kernel
theorem dX8_closes_4 : decode cX8_closes 4 = .ok (.getfield 81, 3) := by decide +kernel
theorem dX8_closes_7 : decode cX8_closes 7 = .ok (.iload_n 1, 1) := by decide +kernel
theorem dX8_closes_8 : decode cX8_closes 8 = .ok (.invokevirtual 145, 3) := by decide +kernel
theorem dX8_closes_11 : decode cX8_closes 11 = .ok (.ifCond .eq 12, 3) := by decide +kernel
theorem dX8_closes_14 : decode cX8_closes 14 = .ok (.iload_n 2, 1) := by decide +kernel
theorem dX8_closes_15 : decode cX8_closes 15 = .ok (.ifCond .lt 8, 3) := by decide +kernel
theorem dX8_closes_18 : decode cX8_closes 18 = .ok (.iload_n 2, 1) := by decide +kernel
theorem dX8_closes_19 : decode cX8_closes 19 = .ok (.iconst 2, 1) := by decide +kernel
theorem dX8_closes_20 : decode cX8_closes 20 = .ok (.if_icmp .le 5, 3) := by decide +kernel
theorem dX8_closes_23 : decode cX8_closes 23 = .ok (.iconst (-1), 1) := by decide +kernel
theorem dX8_closes_24 : decode cX8_closes 24 = .ok (.ireturn, 1) := by decide +kernel
theorem dX8_closes_25 : decode cX8_closes 25 = .ok (.aload_n 0, 1) := by decide +kernel
theorem dX8_closes_26 : decode cX8_closes 26 = .ok (.getfield 31, 3) := by decide +kernel
theorem dX8_closes_29 : decode cX8_closes 29 = .ok (.getfield 81, 3) := by decide +kernel
theorem dX8_closes_32 : decode cX8_closes 32 = .ok (.getfield 168, 3) := by decide +kernel
theorem dX8_closes_35 : decode cX8_closes 35 = .ok (.iload_n 1, 1) := by decide +kernel
theorem dX8_closes_36 : decode cX8_closes 36 = .ok (.iaload, 1) := by decide +kernel
theorem dX8_closes_37 : decode cX8_closes 37 = .ok (.ifCond .ne 6, 3) := by decide +kernel
theorem dX8_closes_40 : decode cX8_closes 40 = .ok (.bipush (-2), 2) := by decide +kernel
theorem dX8_closes_42 : decode cX8_closes 42 = .ok (.ireturn, 1) := by decide +kernel
theorem dX8_closes_43 : decode cX8_closes 43 = .ok (.aload_n 0, 1) := by decide +kernel
theorem dX8_closes_44 : decode cX8_closes 44 = .ok (.getfield 31, 3) := by decide +kernel
theorem dX8_closes_47 : decode cX8_closes 47 = .ok (.iload_n 1, 1) := by decide +kernel
theorem dX8_closes_48 : decode cX8_closes 48 = .ok (.invokevirtual 186, 3) := by decide +kernel
theorem dX8_closes_51 : decode cX8_closes 51 = .ok (.astore_n 3, 1) := by decide +kernel
theorem dX8_closes_52 : decode cX8_closes 52 = .ok (.iload_n 2, 1) := by decide +kernel
theorem dX8_closes_53 : decode cX8_closes 53 = .ok (.ifCond .ne 8, 3) := by decide +kernel
theorem dX8_closes_56 : decode cX8_closes 56 = .ok (.aload_n 3, 1) := by decide +kernel
theorem dX8_closes_57 : decode cX8_closes 57 = .ok (.getfield 198, 3) := by decide +kernel
theorem dX8_closes_60 : decode cX8_closes 60 = .ok (.ireturn, 1) := by decide +kernel
theorem dX8_closes_61 : decode cX8_closes 61 = .ok (.iload_n 2, 1) := by decide +kernel
theorem dX8_closes_62 : decode cX8_closes 62 = .ok (.iconst 1, 1) := by decide +kernel
theorem dX8_closes_63 : decode cX8_closes 63 = .ok (.if_icmp .ne 8, 3) := by decide +kernel
theorem dX8_closes_66 : decode cX8_closes 66 = .ok (.aload_n 3, 1) := by decide +kernel
theorem dX8_closes_67 : decode cX8_closes 67 = .ok (.invokevirtual 201, 3) := by decide +kernel
theorem dX8_closes_70 : decode cX8_closes 70 = .ok (.ireturn, 1) := by decide +kernel
theorem dX8_closes_71 : decode cX8_closes 71 = .ok (.aload_n 3, 1) := by decide +kernel
theorem dX8_closes_72 : decode cX8_closes 72 = .ok (.getfield 204, 3) := by decide +kernel
theorem dX8_closes_75 : decode cX8_closes 75 = .ok (.bipush 8, 2) := by decide +kernel
theorem dX8_closes_77 : decode cX8_closes 77 = .ok (.if_icmp .ne 8, 3) := by decide +kernel
theorem dX8_closes_80 : decode cX8_closes 80 = .ok (.bipush 100, 2) := by decide +kernel
theorem dX8_closes_82 : decode cX8_closes 82 = .ok (.goto 7, 3) := by decide +kernel
theorem dX8_closes_85 : decode cX8_closes 85 = .ok (.aload_n 3, 1) := by decide +kernel
theorem dX8_closes_86 : decode cX8_closes 86 = .ok (.getfield 204, 3) := by decide +kernel
theorem dX8_closes_89 : decode cX8_closes 89 = .ok (.ireturn, 1) := by decide +kernel
theorem dX8_strong_0 : decode cX8_strong 0 = .ok (.aload_n 0, 1) := by decide +kernel
theorem dX8_strong_1 : decode cX8_strong 1 = .ok (.getfield 31, 3) := by decide +kernel
theorem dX8_strong_4 : decode cX8_strong 4 = .ok (.invokevirtual 207, 3) := by decide +kernel
theorem dX8_strong_7 : decode cX8_strong 7 = .ok (.ifCond .eq 7, 3) := by decide +kernel
theorem dX8_strong_10 : decode cX8_strong 10 = .ok (.iconst 1, 1) := by decide +kernel
theorem dX8_strong_11 : decode cX8_strong 11 = .ok (.goto 4, 3) := by decide +kernel
theorem dX8_strong_14 : decode cX8_strong 14 = .ok (.iconst 0, 1) := by decide +kernel
theorem dX8_strong_15 : decode cX8_strong 15 = .ok (.ireturn, 1) := by decide +kernel
theorem dX8_step_0 : decode cX8_step 0 = .ok (.aload_n 0, 1) := by decide +kernel
theorem dX8_step_1 : decode cX8_step 1 = .ok (.getfield 31, 3) := by decide +kernel
theorem dX8_step_4 : decode cX8_step 4 = .ok (.invokevirtual 211, 3) := by decide +kernel
theorem dX8_step_7 : decode cX8_step 7 = .ok (.ifCond .eq 6, 3) := by decide +kernel
theorem dX8_step_10 : decode cX8_step 10 = .ok (.bipush (-2), 2) := by decide +kernel
theorem dX8_step_12 : decode cX8_step 12 = .ok (.ireturn, 1) := by decide +kernel
theorem dX8_step_13 : decode cX8_step 13 = .ok (.aload_n 0, 1) := by decide +kernel
theorem dX8_step_14 : decode cX8_step 14 = .ok (.getfield 41, 3) := by decide +kernel
theorem dX8_step_17 : decode cX8_step 17 = .ok (.aload_n 0, 1) := by decide +kernel
theorem dX8_step_18 : decode cX8_step 18 = .ok (.getfield 31, 3) := by decide +kernel
theorem dX8_step_21 : decode cX8_step 21 = .ok (.getfield 81, 3) := by decide +kernel
theorem dX8_step_24 : decode cX8_step 24 = .ok (.invokevirtual 214, 3) := by decide +kernel
theorem dX8_step_27 : decode cX8_step 27 = .ok (.aload_n 0, 1) := by decide +kernel
theorem dX8_step_28 : decode cX8_step 28 = .ok (.getfield 31, 3) := by decide +kernel
theorem dX8_step_31 : decode cX8_step 31 = .ok (.invokevirtual 217, 3) := by decide +kernel
theorem dX8_step_34 : decode cX8_step 34 = .ok (.ireturn, 1) := by decide +kernel
theorem dX8_run_0 : decode cX8_run 0 = .ok (.iload_n 1, 1) := by decide +kernel
theorem dX8_run_1 : decode cX8_run 1 = .ok (.iconst 1, 1) := by decide +kernel
theorem dX8_run_2 : decode cX8_run 2 = .ok (.if_icmp .lt 9, 3) := by decide +kernel
theorem dX8_run_5 : decode cX8_run 5 = .ok (.iload_n 1, 1) := by decide +kernel
theorem dX8_run_6 : decode cX8_run 6 = .ok (.bipush 99, 2) := by decide +kernel
theorem dX8_run_8 : decode cX8_run 8 = .ok (.if_icmp .le 5, 3) := by decide +kernel
theorem dX8_run_11 : decode cX8_run 11 = .ok (.iconst (-1), 1) := by decide +kernel
theorem dX8_run_12 : decode cX8_run 12 = .ok (.ireturn, 1) := by decide +kernel
theorem dX8_run_13 : decode cX8_run 13 = .ok (.aload_n 0, 1) := by decide +kernel
theorem dX8_run_14 : decode cX8_run 14 = .ok (.getfield 31, 3) := by decide +kernel
theorem dX8_run_17 : decode cX8_run 17 = .ok (.invokevirtual 211, 3) := by decide +kernel
theorem dX8_run_20 : decode cX8_run 20 = .ok (.ifCond .eq 5, 3) := by decide +kernel
theorem dX8_run_23 : decode cX8_run 23 = .ok (.iconst 0, 1) := by decide +kernel
theorem dX8_run_24 : decode cX8_run 24 = .ok (.ireturn, 1) := by decide +kernel
theorem dX8_run_25 : decode cX8_run 25 = .ok (.aload_n 0, 1) := by decide +kernel
theorem dX8_run_26 : decode cX8_run 26 = .ok (.getfield 41, 3) := by decide +kernel
theorem dX8_run_29 : decode cX8_run 29 = .ok (.aload_n 0, 1) := by decide +kernel
theorem dX8_run_30 : decode cX8_run 30 = .ok (.getfield 31, 3) := by decide +kernel
theorem dX8_run_33 : decode cX8_run 33 = .ok (.getfield 81, 3) := by decide +kernel
theorem dX8_run_36 : decode cX8_run 36 = .ok (.invokevirtual 214, 3) := by decide +kernel
theorem dX8_run_39 : decode cX8_run 39 = .ok (.aload_n 0, 1) := by decide +kernel
theorem dX8_run_40 : decode cX8_run 40 = .ok (.getfield 31, 3) := by decide +kernel
theorem dX8_run_43 : decode cX8_run 43 = .ok (.iload_n 1, 1) := by decide +kernel
theorem dX8_run_44 : decode cX8_run 44 = .ok (.invokevirtual 220, 3) := by decide +kernel
theorem dX8_run_47 : decode cX8_run 47 = .ok (.ireturn, 1) := by decide +kernel
theorem dX8_log_0 : decode cX8_log 0 = .ok (.iload_n 1, 1) := by decide +kernel
theorem dX8_log_1 : decode cX8_log 1 = .ok (.ifCond .lt 17, 3) := by decide +kernel
theorem dX8_log_4 : decode cX8_log 4 = .ok (.iload_n 1, 1) := by decide +kernel
theorem dX8_log_5 : decode cX8_log 5 = .ok (.aload_n 0, 1) := by decide +kernel
theorem dX8_log_6 : decode cX8_log 6 = .ok (.getfield 31, 3) := by decide +kernel
theorem dX8_log_9 : decode cX8_log 9 = .ok (.getfield 81, 3) := by decide +kernel
theorem dX8_log_12 : decode cX8_log 12 = .ok (.invokevirtual 223, 3) := by decide +kernel
theorem dX8_log_15 : decode cX8_log 15 = .ok (.if_icmp .lt 13, 3) := by decide +kernel
theorem dX8_log_18 : decode cX8_log 18 = .ok (.new 107, 3) := by decide +kernel
theorem dX8_log_21 : decode cX8_log 21 = .ok (.dup, 1) := by decide +kernel
theorem dX8_log_22 : decode cX8_log 22 = .ok (.ldc 226, 2) := by decide +kernel
theorem dX8_log_24 : decode cX8_log 24 = .ok (.invokespecial 111, 3) := by decide +kernel
theorem dX8_log_27 : decode cX8_log 27 = .ok (.athrow, 1) := by decide +kernel
theorem dX8_log_28 : decode cX8_log 28 = .ok (.iload_n 2, 1) := by decide +kernel
theorem dX8_log_29 : decode cX8_log 29 = .ok (.ifCond .lt 8, 3) := by decide +kernel
theorem dX8_log_32 : decode cX8_log 32 = .ok (.iload_n 2, 1) := by decide +kernel
theorem dX8_log_33 : decode cX8_log 33 = .ok (.iconst 5, 1) := by decide +kernel
theorem dX8_log_34 : decode cX8_log 34 = .ok (.if_icmp .lt 13, 3) := by decide +kernel
theorem dX8_log_37 : decode cX8_log 37 = .ok (.new 107, 3) := by decide +kernel
theorem dX8_log_40 : decode cX8_log 40 = .ok (.dup, 1) := by decide +kernel
theorem dX8_log_41 : decode cX8_log 41 = .ok (.ldc 228, 2) := by decide +kernel
theorem dX8_log_43 : decode cX8_log 43 = .ok (.invokespecial 111, 3) := by decide +kernel
theorem dX8_log_46 : decode cX8_log 46 = .ok (.athrow, 1) := by decide +kernel
theorem dX8_log_47 : decode cX8_log 47 = .ok (.aload_n 0, 1) := by decide +kernel
theorem dX8_log_48 : decode cX8_log 48 = .ok (.getfield 31, 3) := by decide +kernel
theorem dX8_log_51 : decode cX8_log 51 = .ok (.getfield 81, 3) := by decide +kernel
theorem dX8_log_54 : decode cX8_log 54 = .ok (.iload_n 1, 1) := by decide +kernel
theorem dX8_log_55 : decode cX8_log 55 = .ok (.iload_n 2, 1) := by decide +kernel
theorem dX8_log_56 : decode cX8_log 56 = .ok (.invokevirtual 230, 3) := by decide +kernel
theorem dX8_log_59 : decode cX8_log 59 = .ok (.ireturn, 1) := by decide +kernel
theorem dX8_cost_0 : decode cX8_cost 0 = .ok (.aload_n 0, 1) := by decide +kernel
theorem dX8_cost_1 : decode cX8_cost 1 = .ok (.getfield 31, 3) := by decide +kernel
theorem dX8_cost_4 : decode cX8_cost 4 = .ok (.getfield 81, 3) := by decide +kernel
theorem dX8_cost_7 : decode cX8_cost 7 = .ok (.invokevirtual 234, 3) := by decide +kernel
theorem dX8_cost_10 : decode cX8_cost 10 = .ok (.ireturn, 1) := by decide +kernel
theorem dX8_bill_0 : decode cX8_bill 0 = .ok (.aload_n 0, 1) := by decide +kernel
theorem dX8_bill_1 : decode cX8_bill 1 = .ok (.getfield 31, 3) := by decide +kernel
theorem dX8_bill_4 : decode cX8_bill 4 = .ok (.getfield 81, 3) := by decide +kernel
theorem dX8_bill_7 : decode cX8_bill 7 = .ok (.invokevirtual 234, 3) := by decide +kernel
theorem dX8_bill_10 : decode cX8_bill 10 = .ok (.i2l, 1) := by decide +kernel
theorem dX8_bill_11 : decode cX8_bill 11 = .ok (.iload_n 1, 1) := by decide +kernel
theorem dX8_bill_12 : decode cX8_bill 12 = .ok (.i2l, 1) := by decide +kernel
theorem dX8_bill_13 : decode cX8_bill 13 = .ok (.lmul, 1) := by decide +kernel
theorem dX8_bill_14 : decode cX8_bill 14 = .ok (.iload_n 2, 1) := by decide +kernel
theorem dX8_bill_15 : decode cX8_bill 15 = .ok (.i2l, 1) := by decide +kernel
theorem dX8_bill_16 : decode cX8_bill 16 = .ok (.ladd, 1) := by decide +kernel
theorem dX8_bill_17 : decode cX8_bill 17 = .ok (.lstore_n 3, 1) := by decide +kernel
theorem dX8_bill_18 : decode cX8_bill 18 = .ok (.lload_n 3, 1) := by decide +kernel
theorem dX8_bill_19 : decode cX8_bill 19 = .ok (.ldc2_w 239, 3) := by decide +kernel
theorem dX8_bill_22 : decode cX8_bill 22 = .ok (.lcmp, 1) := by decide +kernel
theorem dX8_bill_23 : decode cX8_bill 23 = .ok (.ifCond .lt 11, 3) := by decide +kernel
theorem dX8_bill_26 : decode cX8_bill 26 = .ok (.lload_n 3, 1) := by decide +kernel
theorem dX8_bill_27 : decode cX8_bill 27 = .ok (.ldc2_w 241, 3) := by decide +kernel
theorem dX8_bill_30 : decode cX8_bill 30 = .ok (.lcmp, 1) := by decide +kernel
theorem dX8_bill_31 : decode cX8_bill 31 = .ok (.ifCond .le 6, 3) := by decide +kernel
theorem dX8_bill_34 : decode cX8_bill 34 = .ok (.ldc 243, 2) := by decide +kernel
theorem dX8_bill_36 : decode cX8_bill 36 = .ok (.ireturn, 1) := by decide +kernel
theorem dX8_bill_37 : decode cX8_bill 37 = .ok (.lload_n 3, 1) := by decide +kernel
theorem dX8_bill_38 : decode cX8_bill 38 = .ok (.l2i, 1) := by decide +kernel
theorem dX8_bill_39 : decode cX8_bill 39 = .ok (.ireturn, 1) := by decide +kernel
theorem dX8_total_0 : decode cX8_total 0 = .ok (.aload_n 0, 1) := by decide +kernel
theorem dX8_total_1 : decode cX8_total 1 = .ok (.getfield 31, 3) := by decide +kernel
theorem dX8_total_4 : decode cX8_total 4 = .ok (.getfield 81, 3) := by decide +kernel
theorem dX8_total_7 : decode cX8_total 7 = .ok (.astore_n 1, 1) := by decide +kernel
theorem dX8_total_8 : decode cX8_total 8 = .ok (.aload_n 1, 1) := by decide +kernel
theorem dX8_total_9 : decode cX8_total 9 = .ok (.invokevirtual 234, 3) := by decide +kernel
theorem dX8_total_12 : decode cX8_total 12 = .ok (.i2l, 1) := by decide +kernel
theorem dX8_total_13 : decode cX8_total 13 = .ok (.ldc2_w 244, 3) := by decide +kernel
theorem dX8_total_16 : decode cX8_total 16 = .ok (.aload_n 1, 1) := by decide +kernel
theorem dX8_total_17 : decode cX8_total 17 = .ok (.invokevirtual 246, 3) := by decide +kernel
theorem dX8_total_20 : decode cX8_total 20 = .ok (.aload_n 1, 1) := by decide +kernel
theorem dX8_total_21 : decode cX8_total 21 = .ok (.invokevirtual 249, 3) := by decide +kernel
theorem dX8_total_24 : decode cX8_total 24 = .ok (.iadd, 1) := by decide +kernel
theorem dX8_total_25 : decode cX8_total 25 = .ok (.i2l, 1) := by decide +kernel
theorem dX8_total_26 : decode cX8_total 26 = .ok (.lmul, 1) := by decide +kernel
theorem dX8_total_27 : decode cX8_total 27 = .ok (.ladd, 1) := by decide +kernel
theorem dX8_total_28 : decode cX8_total 28 = .ok (.lreturn, 1) := by decide +kernel
theorem dX8_proof_0 : decode cX8_proof 0 = .ok (.aload_n 0, 1) := by decide +kernel
theorem dX8_proof_1 : decode cX8_proof 1 = .ok (.getfield 31, 3) := by decide +kernel
theorem dX8_proof_4 : decode cX8_proof 4 = .ok (.invokevirtual 252, 3) := by decide +kernel
theorem dX8_proof_7 : decode cX8_proof 7 = .ok (.lreturn, 1) := by decide +kernel
theorem dX8_lack_0 : decode cX8_lack 0 = .ok (.iload_n 1, 1) := by decide +kernel
theorem dX8_lack_1 : decode cX8_lack 1 = .ok (.tableswitch 75 0 3 #[31, 42, 53, 64], 31) := by decide +kernel
theorem dX8_lack_32 : decode cX8_lack 32 = .ok (.aload_n 0, 1) := by decide +kernel
theorem dX8_lack_33 : decode cX8_lack 33 = .ok (.getfield 31, 3) := by decide +kernel
theorem dX8_lack_36 : decode cX8_lack 36 = .ok (.getfield 81, 3) := by decide +kernel
theorem dX8_lack_39 : decode cX8_lack 39 = .ok (.invokevirtual 246, 3) := by decide +kernel
theorem dX8_lack_42 : decode cX8_lack 42 = .ok (.ireturn, 1) := by decide +kernel
theorem dX8_lack_43 : decode cX8_lack 43 = .ok (.aload_n 0, 1) := by decide +kernel
theorem dX8_lack_44 : decode cX8_lack 44 = .ok (.getfield 31, 3) := by decide +kernel
theorem dX8_lack_47 : decode cX8_lack 47 = .ok (.getfield 81, 3) := by decide +kernel
theorem dX8_lack_50 : decode cX8_lack 50 = .ok (.invokevirtual 256, 3) := by decide +kernel
theorem dX8_lack_53 : decode cX8_lack 53 = .ok (.ireturn, 1) := by decide +kernel
theorem dX8_lack_54 : decode cX8_lack 54 = .ok (.aload_n 0, 1) := by decide +kernel
theorem dX8_lack_55 : decode cX8_lack 55 = .ok (.getfield 31, 3) := by decide +kernel
theorem dX8_lack_58 : decode cX8_lack 58 = .ok (.getfield 81, 3) := by decide +kernel
theorem dX8_lack_61 : decode cX8_lack 61 = .ok (.invokevirtual 249, 3) := by decide +kernel
theorem dX8_lack_64 : decode cX8_lack 64 = .ok (.ireturn, 1) := by decide +kernel
theorem dX8_lack_65 : decode cX8_lack 65 = .ok (.aload_n 0, 1) := by decide +kernel
theorem dX8_lack_66 : decode cX8_lack 66 = .ok (.getfield 31, 3) := by decide +kernel
theorem dX8_lack_69 : decode cX8_lack 69 = .ok (.getfield 81, 3) := by decide +kernel
theorem dX8_lack_72 : decode cX8_lack 72 = .ok (.invokevirtual 259, 3) := by decide +kernel
theorem dX8_lack_75 : decode cX8_lack 75 = .ok (.ireturn, 1) := by decide +kernel
theorem dX8_lack_76 : decode cX8_lack 76 = .ok (.iconst (-1), 1) := by decide +kernel
theorem dX8_lack_77 : decode cX8_lack 77 = .ok (.ireturn, 1) := by decide +kernel
theorem dX8_unit_0 : decode cX8_unit 0 = .ok (.aload_n 0, 1) := by decide +kernel
theorem dX8_unit_1 : decode cX8_unit 1 = .ok (.getfield 31, 3) := by decide +kernel
theorem dX8_unit_4 : decode cX8_unit 4 = .ok (.getfield 81, 3) := by decide +kernel
theorem dX8_unit_7 : decode cX8_unit 7 = .ok (.iload_n 1, 1) := by decide +kernel
theorem dX8_unit_8 : decode cX8_unit 8 = .ok (.invokevirtual 103, 3) := by decide +kernel
theorem dX8_unit_11 : decode cX8_unit 11 = .ok (.ifCond .eq 27, 3) := by decide +kernel
theorem dX8_unit_14 : decode cX8_unit 14 = .ok (.aload_n 0, 1) := by decide +kernel
theorem dX8_unit_15 : decode cX8_unit 15 = .ok (.getfield 31, 3) := by decide +kernel
theorem dX8_unit_18 : decode cX8_unit 18 = .ok (.getfield 81, 3) := by decide +kernel
theorem dX8_unit_21 : decode cX8_unit 21 = .ok (.iload_n 2, 1) := by decide +kernel
theorem dX8_unit_22 : decode cX8_unit 22 = .ok (.invokevirtual 103, 3) := by decide +kernel
theorem dX8_unit_25 : decode cX8_unit 25 = .ok (.ifCond .eq 13, 3) := by decide +kernel
theorem dX8_unit_28 : decode cX8_unit 28 = .ok (.aload_n 0, 1) := by decide +kernel
theorem dX8_unit_29 : decode cX8_unit 29 = .ok (.getfield 31, 3) := by decide +kernel
theorem dX8_unit_32 : decode cX8_unit 32 = .ok (.invokevirtual 211, 3) := by decide +kernel
theorem dX8_unit_35 : decode cX8_unit 35 = .ok (.ifCond .ne 6, 3) := by decide +kernel
theorem dX8_unit_38 : decode cX8_unit 38 = .ok (.ldc 243, 2) := by decide +kernel
theorem dX8_unit_40 : decode cX8_unit 40 = .ok (.ireturn, 1) := by decide +kernel
theorem dX8_unit_41 : decode cX8_unit 41 = .ok (.iload_n 1, 1) := by decide +kernel
theorem dX8_unit_42 : decode cX8_unit 42 = .ok (.iload_n 2, 1) := by decide +kernel
theorem dX8_unit_43 : decode cX8_unit 43 = .ok (.if_icmp .ne 7, 3) := by decide +kernel
theorem dX8_unit_46 : decode cX8_unit 46 = .ok (.iconst 0, 1) := by decide +kernel
theorem dX8_unit_47 : decode cX8_unit 47 = .ok (.goto 19, 3) := by decide +kernel
theorem dX8_unit_50 : decode cX8_unit 50 = .ok (.aload_n 0, 1) := by decide +kernel
theorem dX8_unit_51 : decode cX8_unit 51 = .ok (.getfield 58, 3) := by decide +kernel
theorem dX8_unit_54 : decode cX8_unit 54 = .ok (.aload_n 0, 1) := by decide +kernel
theorem dX8_unit_55 : decode cX8_unit 55 = .ok (.getfield 31, 3) := by decide +kernel
theorem dX8_unit_58 : decode cX8_unit 58 = .ok (.getfield 81, 3) := by decide +kernel
theorem dX8_unit_61 : decode cX8_unit 61 = .ok (.iload_n 1, 1) := by decide +kernel
theorem dX8_unit_62 : decode cX8_unit 62 = .ok (.iload_n 2, 1) := by decide +kernel
theorem dX8_unit_63 : decode cX8_unit 63 = .ok (.invokevirtual 262, 3) := by decide +kernel
theorem dX8_unit_66 : decode cX8_unit 66 = .ok (.ireturn, 1) := by decide +kernel
theorem dX8_range_0 : decode cX8_range 0 = .ok (.aload_n 0, 1) := by decide +kernel
theorem dX8_range_1 : decode cX8_range 1 = .ok (.getfield 31, 3) := by decide +kernel
theorem dX8_range_4 : decode cX8_range 4 = .ok (.getfield 81, 3) := by decide +kernel
theorem dX8_range_7 : decode cX8_range 7 = .ok (.iload_n 1, 1) := by decide +kernel
theorem dX8_range_8 : decode cX8_range 8 = .ok (.invokevirtual 159, 3) := by decide +kernel
theorem dX8_range_11 : decode cX8_range 11 = .ok (.ifCond .ne 5, 3) := by decide +kernel
theorem dX8_range_14 : decode cX8_range 14 = .ok (.iconst (-1), 1) := by decide +kernel
theorem dX8_range_15 : decode cX8_range 15 = .ok (.ireturn, 1) := by decide +kernel
theorem dX8_range_16 : decode cX8_range 16 = .ok (.aload_n 0, 1) := by decide +kernel
theorem dX8_range_17 : decode cX8_range 17 = .ok (.getfield 31, 3) := by decide +kernel
theorem dX8_range_20 : decode cX8_range 20 = .ok (.invokevirtual 211, 3) := by decide +kernel
theorem dX8_range_23 : decode cX8_range 23 = .ok (.ifCond .ne 6, 3) := by decide +kernel
theorem dX8_range_26 : decode cX8_range 26 = .ok (.bipush (-2), 2) := by decide +kernel
theorem dX8_range_28 : decode cX8_range 28 = .ok (.ireturn, 1) := by decide +kernel
theorem dX8_range_29 : decode cX8_range 29 = .ok (.iload_n 2, 1) := by decide +kernel
theorem dX8_range_30 : decode cX8_range 30 = .ok (.ifCond .eq 14, 3) := by decide +kernel
theorem dX8_range_33 : decode cX8_range 33 = .ok (.aload_n 0, 1) := by decide +kernel
theorem dX8_range_34 : decode cX8_range 34 = .ok (.getfield 31, 3) := by decide +kernel
theorem dX8_range_37 : decode cX8_range 37 = .ok (.iload_n 1, 1) := by decide +kernel
theorem dX8_range_38 : decode cX8_range 38 = .ok (.invokevirtual 266, 3) := by decide +kernel
theorem dX8_range_41 : decode cX8_range 41 = .ok (.goto 11, 3) := by decide +kernel
theorem dX8_range_44 : decode cX8_range 44 = .ok (.aload_n 0, 1) := by decide +kernel
theorem dX8_range_45 : decode cX8_range 45 = .ok (.getfield 31, 3) := by decide +kernel
theorem dX8_range_48 : decode cX8_range 48 = .ok (.iload_n 1, 1) := by decide +kernel
theorem dX8_range_49 : decode cX8_range 49 = .ok (.invokevirtual 269, 3) := by decide +kernel
theorem dX8_range_52 : decode cX8_range 52 = .ok (.ireturn, 1) := by decide +kernel
theorem dX8_tried_0 : decode cX8_tried 0 = .ok (.aload_n 0, 1) := by decide +kernel
theorem dX8_tried_1 : decode cX8_tried 1 = .ok (.iload_n 1, 1) := by decide +kernel
theorem dX8_tried_2 : decode cX8_tried 2 = .ok (.iload_n 2, 1) := by decide +kernel
theorem dX8_tried_3 : decode cX8_tried 3 = .ok (.iload_n 3, 1) := by decide +kernel
theorem dX8_tried_4 : decode cX8_tried 4 = .ok (.invokevirtual 272, 3) := by decide +kernel
theorem dX8_tried_7 : decode cX8_tried 7 = .ok (.ifCond .ne 5, 3) := by decide +kernel
theorem dX8_tried_10 : decode cX8_tried 10 = .ok (.iconst (-1), 1) := by decide +kernel
theorem dX8_tried_11 : decode cX8_tried 11 = .ok (.ireturn, 1) := by decide +kernel
theorem dX8_tried_12 : decode cX8_tried 12 = .ok (.aload_n 0, 1) := by decide +kernel
theorem dX8_tried_13 : decode cX8_tried 13 = .ok (.getfield 35, 3) := by decide +kernel
theorem dX8_tried_16 : decode cX8_tried 16 = .ok (.getfield 81, 3) := by decide +kernel
theorem dX8_tried_19 : decode cX8_tried 19 = .ok (.astore 5, 2) := by decide +kernel
theorem dX8_tried_21 : decode cX8_tried 21 = .ok (.aload 5, 2) := by decide +kernel
theorem dX8_tried_23 : decode cX8_tried 23 = .ok (.aload_n 0, 1) := by decide +kernel
theorem dX8_tried_24 : decode cX8_tried 24 = .ok (.getfield 31, 3) := by decide +kernel
theorem dX8_tried_27 : decode cX8_tried 27 = .ok (.getfield 81, 3) := by decide +kernel
theorem dX8_tried_30 : decode cX8_tried 30 = .ok (.invokevirtual 86, 3) := by decide +kernel
theorem dX8_tried_33 : decode cX8_tried 33 = .ok (.iload_n 1, 1) := by decide +kernel
theorem dX8_tried_34 : decode cX8_tried 34 = .ok (.ifCond .ne 14, 3) := by decide +kernel
theorem dX8_tried_37 : decode cX8_tried 37 = .ok (.aload 5, 2) := by decide +kernel
theorem dX8_tried_39 : decode cX8_tried 39 = .ok (.getfield 156, 3) := by decide +kernel
theorem dX8_tried_42 : decode cX8_tried 42 = .ok (.iload_n 2, 1) := by decide +kernel
theorem dX8_tried_43 : decode cX8_tried 43 = .ok (.iload_n 3, 1) := by decide +kernel
theorem dX8_tried_44 : decode cX8_tried 44 = .ok (.iastore, 1) := by decide +kernel
theorem dX8_tried_45 : decode cX8_tried 45 = .ok (.goto 27, 3) := by decide +kernel
theorem dX8_tried_48 : decode cX8_tried 48 = .ok (.iload_n 1, 1) := by decide +kernel
theorem dX8_tried_49 : decode cX8_tried 49 = .ok (.iconst 1, 1) := by decide +kernel
theorem dX8_tried_50 : decode cX8_tried 50 = .ok (.if_icmp .ne 14, 3) := by decide +kernel
theorem dX8_tried_53 : decode cX8_tried 53 = .ok (.aload 5, 2) := by decide +kernel
theorem dX8_tried_55 : decode cX8_tried 55 = .ok (.getfield 162, 3) := by decide +kernel
theorem dX8_tried_58 : decode cX8_tried 58 = .ok (.iload_n 2, 1) := by decide +kernel
theorem dX8_tried_59 : decode cX8_tried 59 = .ok (.iload_n 3, 1) := by decide +kernel
theorem dX8_tried_60 : decode cX8_tried 60 = .ok (.iastore, 1) := by decide +kernel
theorem dX8_tried_61 : decode cX8_tried 61 = .ok (.goto 11, 3) := by decide +kernel
theorem dX8_tried_64 : decode cX8_tried 64 = .ok (.aload 5, 2) := by decide +kernel
theorem dX8_tried_66 : decode cX8_tried 66 = .ok (.getfield 114, 3) := by decide +kernel
theorem dX8_tried_69 : decode cX8_tried 69 = .ok (.iload_n 2, 1) := by decide +kernel
theorem dX8_tried_70 : decode cX8_tried 70 = .ok (.iload_n 3, 1) := by decide +kernel
theorem dX8_tried_71 : decode cX8_tried 71 = .ok (.iastore, 1) := by decide +kernel
theorem dX8_tried_72 : decode cX8_tried 72 = .ok (.aload_n 0, 1) := by decide +kernel
theorem dX8_tried_73 : decode cX8_tried 73 = .ok (.getfield 35, 3) := by decide +kernel
theorem dX8_tried_76 : decode cX8_tried 76 = .ok (.invokevirtual 70, 3) := by decide +kernel
theorem dX8_tried_79 : decode cX8_tried 79 = .ok (.aload_n 0, 1) := by decide +kernel
theorem dX8_tried_80 : decode cX8_tried 80 = .ok (.getfield 35, 3) := by decide +kernel
theorem dX8_tried_83 : decode cX8_tried 83 = .ok (.ldc_w 276, 3) := by decide +kernel
theorem dX8_tried_86 : decode cX8_tried 86 = .ok (.invokevirtual 220, 3) := by decide +kernel
theorem dX8_tried_89 : decode cX8_tried 89 = .ok (.pop, 1) := by decide +kernel
theorem dX8_tried_90 : decode cX8_tried 90 = .ok (.iload 4, 2) := by decide +kernel
theorem dX8_tried_92 : decode cX8_tried 92 = .ok (.ifCond .eq 11, 3) := by decide +kernel
theorem dX8_tried_95 : decode cX8_tried 95 = .ok (.aload 5, 2) := by decide +kernel
theorem dX8_tried_97 : decode cX8_tried 97 = .ok (.invokevirtual 246, 3) := by decide +kernel
theorem dX8_tried_100 : decode cX8_tried 100 = .ok (.goto 8, 3) := by decide +kernel
theorem dX8_tried_103 : decode cX8_tried 103 = .ok (.aload 5, 2) := by decide +kernel
theorem dX8_tried_105 : decode cX8_tried 105 = .ok (.invokevirtual 234, 3) := by decide +kernel
theorem dX8_tried_108 : decode cX8_tried 108 = .ok (.ireturn, 1) := by decide +kernel
theorem dX8_canBeTried_0 : decode cX8_canBeTried 0 = .ok (.iload_n 1, 1) := by decide +kernel
theorem dX8_canBeTried_1 : decode cX8_canBeTried 1 = .ok (.ifCond .eq 8, 3) := by decide +kernel
theorem dX8_canBeTried_4 : decode cX8_canBeTried 4 = .ok (.iload_n 1, 1) := by decide +kernel
theorem dX8_canBeTried_5 : decode cX8_canBeTried 5 = .ok (.iconst 1, 1) := by decide +kernel
theorem dX8_canBeTried_6 : decode cX8_canBeTried 6 = .ok (.if_icmp .ne 34, 3) := by decide +kernel
theorem dX8_canBeTried_9 : decode cX8_canBeTried 9 = .ok (.aload_n 0, 1) := by decide +kernel
theorem dX8_canBeTried_10 : decode cX8_canBeTried 10 = .ok (.getfield 31, 3) := by decide +kernel
theorem dX8_canBeTried_13 : decode cX8_canBeTried 13 = .ok (.getfield 81, 3) := by decide +kernel
theorem dX8_canBeTried_16 : decode cX8_canBeTried 16 = .ok (.iload_n 2, 1) := by decide +kernel
theorem dX8_canBeTried_17 : decode cX8_canBeTried 17 = .ok (.invokevirtual 159, 3) := by decide +kernel
theorem dX8_canBeTried_20 : decode cX8_canBeTried 20 = .ok (.ifCond .eq 18, 3) := by decide +kernel
theorem dX8_canBeTried_23 : decode cX8_canBeTried 23 = .ok (.iload_n 3, 1) := by decide +kernel
theorem dX8_canBeTried_24 : decode cX8_canBeTried 24 = .ok (.ifCond .lt 14, 3) := by decide +kernel
theorem dX8_canBeTried_27 : decode cX8_canBeTried 27 = .ok (.iload_n 3, 1) := by decide +kernel
theorem dX8_canBeTried_28 : decode cX8_canBeTried 28 = .ok (.sipush 999, 3) := by decide +kernel
theorem dX8_canBeTried_31 : decode cX8_canBeTried 31 = .ok (.if_icmp .gt 7, 3) := by decide +kernel
theorem dX8_canBeTried_34 : decode cX8_canBeTried 34 = .ok (.iconst 1, 1) := by decide +kernel
theorem dX8_canBeTried_35 : decode cX8_canBeTried 35 = .ok (.goto 4, 3) := by decide +kernel
theorem dX8_canBeTried_38 : decode cX8_canBeTried 38 = .ok (.iconst 0, 1) := by decide +kernel
theorem dX8_canBeTried_39 : decode cX8_canBeTried 39 = .ok (.ireturn, 1) := by decide +kernel
theorem dX8_canBeTried_40 : decode cX8_canBeTried 40 = .ok (.iload_n 1, 1) := by decide +kernel
theorem dX8_canBeTried_41 : decode cX8_canBeTried 41 = .ok (.iconst 2, 1) := by decide +kernel
theorem dX8_canBeTried_42 : decode cX8_canBeTried 42 = .ok (.if_icmp .ne 29, 3) := by decide +kernel
theorem dX8_canBeTried_45 : decode cX8_canBeTried 45 = .ok (.aload_n 0, 1) := by decide +kernel
theorem dX8_canBeTried_46 : decode cX8_canBeTried 46 = .ok (.getfield 31, 3) := by decide +kernel
theorem dX8_canBeTried_49 : decode cX8_canBeTried 49 = .ok (.getfield 81, 3) := by decide +kernel
theorem dX8_canBeTried_52 : decode cX8_canBeTried 52 = .ok (.iload_n 2, 1) := by decide +kernel
theorem dX8_canBeTried_53 : decode cX8_canBeTried 53 = .ok (.invokevirtual 103, 3) := by decide +kernel
theorem dX8_canBeTried_56 : decode cX8_canBeTried 56 = .ok (.ifCond .eq 15, 3) := by decide +kernel
theorem dX8_canBeTried_59 : decode cX8_canBeTried 59 = .ok (.iload_n 3, 1) := by decide +kernel
theorem dX8_canBeTried_60 : decode cX8_canBeTried 60 = .ok (.i2l, 1) := by decide +kernel
theorem dX8_canBeTried_61 : decode cX8_canBeTried 61 = .ok (.invokestatic 277, 3) := by decide +kernel
theorem dX8_canBeTried_64 : decode cX8_canBeTried 64 = .ok (.ifCond .eq 7, 3) := by decide +kernel
theorem dX8_canBeTried_67 : decode cX8_canBeTried 67 = .ok (.iconst 1, 1) := by decide +kernel
theorem dX8_canBeTried_68 : decode cX8_canBeTried 68 = .ok (.goto 4, 3) := by decide +kernel
theorem dX8_canBeTried_71 : decode cX8_canBeTried 71 = .ok (.iconst 0, 1) := by decide +kernel
theorem dX8_canBeTried_72 : decode cX8_canBeTried 72 = .ok (.ireturn, 1) := by decide +kernel
theorem dX8_isGift_0 : decode cX8_isGift 0 = .ok (.lload_n 0, 1) := by decide +kernel
theorem dX8_isGift_1 : decode cX8_isGift 1 = .ok (.ldc2_w 281, 3) := by decide +kernel
theorem dX8_isGift_4 : decode cX8_isGift 4 = .ok (.lcmp, 1) := by decide +kernel
theorem dX8_isGift_5 : decode cX8_isGift 5 = .ok (.ifCond .lt 15, 3) := by decide +kernel
theorem dX8_isGift_8 : decode cX8_isGift 8 = .ok (.lload_n 0, 1) := by decide +kernel
theorem dX8_isGift_9 : decode cX8_isGift 9 = .ok (.ldc2_w 283, 3) := by decide +kernel
theorem dX8_isGift_12 : decode cX8_isGift 12 = .ok (.lcmp, 1) := by decide +kernel
theorem dX8_isGift_13 : decode cX8_isGift 13 = .ok (.ifCond .gt 7, 3) := by decide +kernel
theorem dX8_isGift_16 : decode cX8_isGift 16 = .ok (.iconst 1, 1) := by decide +kernel
theorem dX8_isGift_17 : decode cX8_isGift 17 = .ok (.goto 4, 3) := by decide +kernel
theorem dX8_isGift_20 : decode cX8_isGift 20 = .ok (.iconst 0, 1) := by decide +kernel
theorem dX8_isGift_21 : decode cX8_isGift 21 = .ok (.ireturn, 1) := by decide +kernel
theorem dX8_load_0 : decode cX8_load 0 = .ok (.aload_n 0, 1) := by decide +kernel
theorem dX8_load_1 : decode cX8_load 1 = .ok (.getfield 31, 3) := by decide +kernel
theorem dX8_load_4 : decode cX8_load 4 = .ok (.getfield 81, 3) := by decide +kernel
theorem dX8_load_7 : decode cX8_load 7 = .ok (.iload_n 1, 1) := by decide +kernel
theorem dX8_load_8 : decode cX8_load 8 = .ok (.invokevirtual 103, 3) := by decide +kernel
theorem dX8_load_11 : decode cX8_load 11 = .ok (.ifCond .eq 29, 3) := by decide +kernel
theorem dX8_load_14 : decode cX8_load 14 = .ok (.iload_n 2, 1) := by decide +kernel
theorem dX8_load_15 : decode cX8_load 15 = .ok (.ifCond .eq 25, 3) := by decide +kernel
theorem dX8_load_18 : decode cX8_load 18 = .ok (.aload_n 0, 1) := by decide +kernel
theorem dX8_load_19 : decode cX8_load 19 = .ok (.getfield 31, 3) := by decide +kernel
theorem dX8_load_22 : decode cX8_load 22 = .ok (.getfield 81, 3) := by decide +kernel
theorem dX8_load_25 : decode cX8_load 25 = .ok (.getfield 114, 3) := by decide +kernel
theorem dX8_load_28 : decode cX8_load 28 = .ok (.iload_n 1, 1) := by decide +kernel
theorem dX8_load_29 : decode cX8_load 29 = .ok (.iaload, 1) := by decide +kernel
theorem dX8_load_30 : decode cX8_load 30 = .ok (.i2l, 1) := by decide +kernel
theorem dX8_load_31 : decode cX8_load 31 = .ok (.iload_n 2, 1) := by decide +kernel
theorem dX8_load_32 : decode cX8_load 32 = .ok (.i2l, 1) := by decide +kernel
theorem dX8_load_33 : decode cX8_load 33 = .ok (.ladd, 1) := by decide +kernel
theorem dX8_load_34 : decode cX8_load 34 = .ok (.invokestatic 277, 3) := by decide +kernel
theorem dX8_load_37 : decode cX8_load 37 = .ok (.ifCond .ne 5, 3) := by decide +kernel
theorem dX8_load_40 : decode cX8_load 40 = .ok (.iconst (-1), 1) := by decide +kernel
theorem dX8_load_41 : decode cX8_load 41 = .ok (.ireturn, 1) := by decide +kernel
theorem dX8_load_42 : decode cX8_load 42 = .ok (.aload_n 0, 1) := by decide +kernel
theorem dX8_load_43 : decode cX8_load 43 = .ok (.getfield 31, 3) := by decide +kernel
theorem dX8_load_46 : decode cX8_load 46 = .ok (.iload_n 1, 1) := by decide +kernel
theorem dX8_load_47 : decode cX8_load 47 = .ok (.iload_n 2, 1) := by decide +kernel
theorem dX8_load_48 : decode cX8_load 48 = .ok (.invokevirtual 285, 3) := by decide +kernel
theorem dX8_load_51 : decode cX8_load 51 = .ok (.istore_n 3, 1) := by decide +kernel
theorem dX8_load_52 : decode cX8_load 52 = .ok (.iload_n 3, 1) := by decide +kernel
theorem dX8_load_53 : decode cX8_load 53 = .ok (.iconst (-1), 1) := by decide +kernel
theorem dX8_load_54 : decode cX8_load 54 = .ok (.if_icmp .eq 8, 3) := by decide +kernel
theorem dX8_load_57 : decode cX8_load 57 = .ok (.bipush (-2), 2) := by decide +kernel
theorem dX8_load_59 : decode cX8_load 59 = .ok (.iload_n 3, 1) := by decide +kernel
theorem dX8_load_60 : decode cX8_load 60 = .ok (.isub, 1) := by decide +kernel
theorem dX8_load_61 : decode cX8_load 61 = .ok (.ireturn, 1) := by decide +kernel
theorem dX8_load_62 : decode cX8_load 62 = .ok (.aload_n 0, 1) := by decide +kernel
theorem dX8_load_63 : decode cX8_load 63 = .ok (.getfield 41, 3) := by decide +kernel
theorem dX8_load_66 : decode cX8_load 66 = .ok (.aload_n 0, 1) := by decide +kernel
theorem dX8_load_67 : decode cX8_load 67 = .ok (.getfield 31, 3) := by decide +kernel
theorem dX8_load_70 : decode cX8_load 70 = .ok (.getfield 81, 3) := by decide +kernel
theorem dX8_load_73 : decode cX8_load 73 = .ok (.invokevirtual 214, 3) := by decide +kernel
theorem dX8_load_76 : decode cX8_load 76 = .ok (.aload_n 0, 1) := by decide +kernel
theorem dX8_load_77 : decode cX8_load 77 = .ok (.getfield 31, 3) := by decide +kernel
theorem dX8_load_80 : decode cX8_load 80 = .ok (.iload_n 1, 1) := by decide +kernel
theorem dX8_load_81 : decode cX8_load 81 = .ok (.iload_n 2, 1) := by decide +kernel
theorem dX8_load_82 : decode cX8_load 82 = .ok (.invokevirtual 288, 3) := by decide +kernel
theorem dX8_load_85 : decode cX8_load 85 = .ok (.aload_n 0, 1) := by decide +kernel
theorem dX8_load_86 : decode cX8_load 86 = .ok (.getfield 31, 3) := by decide +kernel
theorem dX8_load_89 : decode cX8_load 89 = .ok (.getfield 118, 3) := by decide +kernel
theorem dX8_load_92 : decode cX8_load 92 = .ok (.getfield 127, 3) := by decide +kernel
theorem dX8_load_95 : decode cX8_load 95 = .ok (.iload_n 1, 1) := by decide +kernel
theorem dX8_load_96 : decode cX8_load 96 = .ok (.iaload, 1) := by decide +kernel
theorem dX8_load_97 : decode cX8_load 97 = .ok (.ireturn, 1) := by decide +kernel
theorem dX8_spare_0 : decode cX8_spare 0 = .ok (.aload_n 0, 1) := by decide +kernel
theorem dX8_spare_1 : decode cX8_spare 1 = .ok (.getfield 31, 3) := by decide +kernel
theorem dX8_spare_4 : decode cX8_spare 4 = .ok (.getfield 81, 3) := by decide +kernel
theorem dX8_spare_7 : decode cX8_spare 7 = .ok (.iload_n 1, 1) := by decide +kernel
theorem dX8_spare_8 : decode cX8_spare 8 = .ok (.invokevirtual 103, 3) := by decide +kernel
theorem dX8_spare_11 : decode cX8_spare 11 = .ok (.ifCond .ne 5, 3) := by decide +kernel
theorem dX8_spare_14 : decode cX8_spare 14 = .ok (.iconst (-1), 1) := by decide +kernel
theorem dX8_spare_15 : decode cX8_spare 15 = .ok (.ireturn, 1) := by decide +kernel
theorem dX8_spare_16 : decode cX8_spare 16 = .ok (.aload_n 0, 1) := by decide +kernel
theorem dX8_spare_17 : decode cX8_spare 17 = .ok (.getfield 31, 3) := by decide +kernel
theorem dX8_spare_20 : decode cX8_spare 20 = .ok (.iload_n 1, 1) := by decide +kernel
theorem dX8_spare_21 : decode cX8_spare 21 = .ok (.iload_n 2, 1) := by decide +kernel
theorem dX8_spare_22 : decode cX8_spare 22 = .ok (.ifCond .ne 7, 3) := by decide +kernel
theorem dX8_spare_25 : decode cX8_spare 25 = .ok (.iconst 1, 1) := by decide +kernel
theorem dX8_spare_26 : decode cX8_spare 26 = .ok (.goto 4, 3) := by decide +kernel
theorem dX8_spare_29 : decode cX8_spare 29 = .ok (.iconst 0, 1) := by decide +kernel
theorem dX8_spare_30 : decode cX8_spare 30 = .ok (.invokevirtual 292, 3) := by decide +kernel
theorem dX8_spare_33 : decode cX8_spare 33 = .ok (.ireturn, 1) := by decide +kernel
theorem dX8_toll_0 : decode cX8_toll 0 = .ok (.aload_n 0, 1) := by decide +kernel
theorem dX8_toll_1 : decode cX8_toll 1 = .ok (.getfield 31, 3) := by decide +kernel
theorem dX8_toll_4 : decode cX8_toll 4 = .ok (.getfield 81, 3) := by decide +kernel
theorem dX8_toll_7 : decode cX8_toll 7 = .ok (.astore_n 3, 1) := by decide +kernel
theorem dX8_toll_8 : decode cX8_toll 8 = .ok (.aload_n 3, 1) := by decide +kernel
theorem dX8_toll_9 : decode cX8_toll 9 = .ok (.iload_n 1, 1) := by decide +kernel
theorem dX8_toll_10 : decode cX8_toll 10 = .ok (.invokevirtual 159, 3) := by decide +kernel
theorem dX8_toll_13 : decode cX8_toll 13 = .ok (.ifCond .eq 24, 3) := by decide +kernel
theorem dX8_toll_16 : decode cX8_toll 16 = .ok (.iload_n 2, 1) := by decide +kernel
theorem dX8_toll_17 : decode cX8_toll 17 = .ok (.ifCond .lt 20, 3) := by decide +kernel
theorem dX8_toll_20 : decode cX8_toll 20 = .ok (.iload_n 2, 1) := by decide +kernel
theorem dX8_toll_21 : decode cX8_toll 21 = .ok (.sipush 999, 3) := by decide +kernel
theorem dX8_toll_24 : decode cX8_toll 24 = .ok (.if_icmp .gt 13, 3) := by decide +kernel
theorem dX8_toll_27 : decode cX8_toll 27 = .ok (.iload_n 2, 1) := by decide +kernel
theorem dX8_toll_28 : decode cX8_toll 28 = .ok (.aload_n 3, 1) := by decide +kernel
theorem dX8_toll_29 : decode cX8_toll 29 = .ok (.getfield 156, 3) := by decide +kernel
theorem dX8_toll_32 : decode cX8_toll 32 = .ok (.iload_n 1, 1) := by decide +kernel
theorem dX8_toll_33 : decode cX8_toll 33 = .ok (.iaload, 1) := by decide +kernel
theorem dX8_toll_34 : decode cX8_toll 34 = .ok (.if_icmp .ne 5, 3) := by decide +kernel
theorem dX8_toll_37 : decode cX8_toll 37 = .ok (.iconst (-1), 1) := by decide +kernel
theorem dX8_toll_38 : decode cX8_toll 38 = .ok (.ireturn, 1) := by decide +kernel
theorem dX8_toll_39 : decode cX8_toll 39 = .ok (.aload_n 0, 1) := by decide +kernel
theorem dX8_toll_40 : decode cX8_toll 40 = .ok (.getfield 41, 3) := by decide +kernel
theorem dX8_toll_43 : decode cX8_toll 43 = .ok (.aload_n 3, 1) := by decide +kernel
theorem dX8_toll_44 : decode cX8_toll 44 = .ok (.invokevirtual 214, 3) := by decide +kernel
theorem dX8_toll_47 : decode cX8_toll 47 = .ok (.aload_n 3, 1) := by decide +kernel
theorem dX8_toll_48 : decode cX8_toll 48 = .ok (.getfield 156, 3) := by decide +kernel
theorem dX8_toll_51 : decode cX8_toll 51 = .ok (.iload_n 1, 1) := by decide +kernel
theorem dX8_toll_52 : decode cX8_toll 52 = .ok (.iaload, 1) := by decide +kernel
theorem dX8_toll_53 : decode cX8_toll 53 = .ok (.istore 4, 2) := by decide +kernel
theorem dX8_toll_55 : decode cX8_toll 55 = .ok (.aload_n 3, 1) := by decide +kernel
theorem dX8_toll_56 : decode cX8_toll 56 = .ok (.getfield 156, 3) := by decide +kernel
theorem dX8_toll_59 : decode cX8_toll 59 = .ok (.iload_n 1, 1) := by decide +kernel
theorem dX8_toll_60 : decode cX8_toll 60 = .ok (.iload_n 2, 1) := by decide +kernel
theorem dX8_toll_61 : decode cX8_toll 61 = .ok (.iastore, 1) := by decide +kernel
theorem dX8_toll_62 : decode cX8_toll 62 = .ok (.aload_n 0, 1) := by decide +kernel
theorem dX8_toll_63 : decode cX8_toll 63 = .ok (.getfield 31, 3) := by decide +kernel
theorem dX8_toll_66 : decode cX8_toll 66 = .ok (.invokevirtual 296, 3) := by decide +kernel
theorem dX8_toll_69 : decode cX8_toll 69 = .ok (.iload 4, 2) := by decide +kernel
theorem dX8_toll_71 : decode cX8_toll 71 = .ok (.ireturn, 1) := by decide +kernel
theorem dX8_hold_0 : decode cX8_hold 0 = .ok (.aload_n 0, 1) := by decide +kernel
theorem dX8_hold_1 : decode cX8_hold 1 = .ok (.getfield 31, 3) := by decide +kernel
theorem dX8_hold_4 : decode cX8_hold 4 = .ok (.getfield 81, 3) := by decide +kernel
theorem dX8_hold_7 : decode cX8_hold 7 = .ok (.astore_n 3, 1) := by decide +kernel
theorem dX8_hold_8 : decode cX8_hold 8 = .ok (.aload_n 3, 1) := by decide +kernel
theorem dX8_hold_9 : decode cX8_hold 9 = .ok (.iload_n 1, 1) := by decide +kernel
theorem dX8_hold_10 : decode cX8_hold 10 = .ok (.invokevirtual 159, 3) := by decide +kernel
theorem dX8_hold_13 : decode cX8_hold 13 = .ok (.ifCond .eq 25, 3) := by decide +kernel
theorem dX8_hold_16 : decode cX8_hold 16 = .ok (.iload_n 2, 1) := by decide +kernel
theorem dX8_hold_17 : decode cX8_hold 17 = .ok (.iconst 1, 1) := by decide +kernel
theorem dX8_hold_18 : decode cX8_hold 18 = .ok (.if_icmp .lt 20, 3) := by decide +kernel
theorem dX8_hold_21 : decode cX8_hold 21 = .ok (.iload_n 2, 1) := by decide +kernel
theorem dX8_hold_22 : decode cX8_hold 22 = .ok (.sipush 999, 3) := by decide +kernel
theorem dX8_hold_25 : decode cX8_hold 25 = .ok (.if_icmp .gt 13, 3) := by decide +kernel
theorem dX8_hold_28 : decode cX8_hold 28 = .ok (.iload_n 2, 1) := by decide +kernel
theorem dX8_hold_29 : decode cX8_hold 29 = .ok (.aload_n 3, 1) := by decide +kernel
theorem dX8_hold_30 : decode cX8_hold 30 = .ok (.getfield 162, 3) := by decide +kernel
theorem dX8_hold_33 : decode cX8_hold 33 = .ok (.iload_n 1, 1) := by decide +kernel
theorem dX8_hold_34 : decode cX8_hold 34 = .ok (.iaload, 1) := by decide +kernel
theorem dX8_hold_35 : decode cX8_hold 35 = .ok (.if_icmp .ne 5, 3) := by decide +kernel
theorem dX8_hold_38 : decode cX8_hold 38 = .ok (.iconst (-1), 1) := by decide +kernel
theorem dX8_hold_39 : decode cX8_hold 39 = .ok (.ireturn, 1) := by decide +kernel
theorem dX8_hold_40 : decode cX8_hold 40 = .ok (.aload_n 3, 1) := by decide +kernel
theorem dX8_hold_41 : decode cX8_hold 41 = .ok (.getfield 168, 3) := by decide +kernel
theorem dX8_hold_44 : decode cX8_hold 44 = .ok (.iload_n 1, 1) := by decide +kernel
theorem dX8_hold_45 : decode cX8_hold 45 = .ok (.iaload, 1) := by decide +kernel
theorem dX8_hold_46 : decode cX8_hold 46 = .ok (.iconst 2, 1) := by decide +kernel
theorem dX8_hold_47 : decode cX8_hold 47 = .ok (.if_icmp .eq 13, 3) := by decide +kernel
theorem dX8_hold_50 : decode cX8_hold 50 = .ok (.aload_n 3, 1) := by decide +kernel
theorem dX8_hold_51 : decode cX8_hold 51 = .ok (.getfield 165, 3) := by decide +kernel
theorem dX8_hold_54 : decode cX8_hold 54 = .ok (.iload_n 1, 1) := by decide +kernel
theorem dX8_hold_55 : decode cX8_hold 55 = .ok (.iaload, 1) := by decide +kernel
theorem dX8_hold_56 : decode cX8_hold 56 = .ok (.iload_n 2, 1) := by decide +kernel
theorem dX8_hold_57 : decode cX8_hold 57 = .ok (.if_icmp .le 6, 3) := by decide +kernel
theorem dX8_hold_60 : decode cX8_hold 60 = .ok (.bipush (-2), 2) := by decide +kernel
theorem dX8_hold_62 : decode cX8_hold 62 = .ok (.ireturn, 1) := by decide +kernel
theorem dX8_hold_63 : decode cX8_hold 63 = .ok (.aload_n 0, 1) := by decide +kernel
theorem dX8_hold_64 : decode cX8_hold 64 = .ok (.getfield 41, 3) := by decide +kernel
theorem dX8_hold_67 : decode cX8_hold 67 = .ok (.aload_n 3, 1) := by decide +kernel
theorem dX8_hold_68 : decode cX8_hold 68 = .ok (.invokevirtual 214, 3) := by decide +kernel
theorem dX8_hold_71 : decode cX8_hold 71 = .ok (.aload_n 3, 1) := by decide +kernel
theorem dX8_hold_72 : decode cX8_hold 72 = .ok (.getfield 162, 3) := by decide +kernel
theorem dX8_hold_75 : decode cX8_hold 75 = .ok (.iload_n 1, 1) := by decide +kernel
theorem dX8_hold_76 : decode cX8_hold 76 = .ok (.iaload, 1) := by decide +kernel
theorem dX8_hold_77 : decode cX8_hold 77 = .ok (.istore 4, 2) := by decide +kernel
theorem dX8_hold_79 : decode cX8_hold 79 = .ok (.aload_n 3, 1) := by decide +kernel
theorem dX8_hold_80 : decode cX8_hold 80 = .ok (.getfield 162, 3) := by decide +kernel
theorem dX8_hold_83 : decode cX8_hold 83 = .ok (.iload_n 1, 1) := by decide +kernel
theorem dX8_hold_84 : decode cX8_hold 84 = .ok (.iload_n 2, 1) := by decide +kernel
theorem dX8_hold_85 : decode cX8_hold 85 = .ok (.iastore, 1) := by decide +kernel
theorem dX8_hold_86 : decode cX8_hold 86 = .ok (.iload 4, 2) := by decide +kernel
theorem dX8_hold_88 : decode cX8_hold 88 = .ok (.ireturn, 1) := by decide +kernel
theorem dX8_block_0 : decode cX8_block 0 = .ok (.aload_n 0, 1) := by decide +kernel
theorem dX8_block_1 : decode cX8_block 1 = .ok (.getfield 31, 3) := by decide +kernel
theorem dX8_block_4 : decode cX8_block 4 = .ok (.getfield 81, 3) := by decide +kernel
theorem dX8_block_7 : decode cX8_block 7 = .ok (.astore_n 2, 1) := by decide +kernel
theorem dX8_block_8 : decode cX8_block 8 = .ok (.iload_n 1, 1) := by decide +kernel
theorem dX8_block_9 : decode cX8_block 9 = .ok (.iconst 1, 1) := by decide +kernel
theorem dX8_block_10 : decode cX8_block 10 = .ok (.if_icmp .lt 17, 3) := by decide +kernel
theorem dX8_block_13 : decode cX8_block 13 = .ok (.iload_n 1, 1) := by decide +kernel
theorem dX8_block_14 : decode cX8_block 14 = .ok (.bipush 24, 2) := by decide +kernel
theorem dX8_block_16 : decode cX8_block 16 = .ok (.if_icmp .gt 11, 3) := by decide +kernel
theorem dX8_block_19 : decode cX8_block 19 = .ok (.iload_n 1, 1) := by decide +kernel
theorem dX8_block_20 : decode cX8_block 20 = .ok (.aload_n 2, 1) := by decide +kernel
theorem dX8_block_21 : decode cX8_block 21 = .ok (.getfield 299, 3) := by decide +kernel
theorem dX8_block_24 : decode cX8_block 24 = .ok (.if_icmp .ne 5, 3) := by decide +kernel
theorem dX8_block_27 : decode cX8_block 27 = .ok (.iconst (-1), 1) := by decide +kernel
theorem dX8_block_28 : decode cX8_block 28 = .ok (.ireturn, 1) := by decide +kernel
theorem dX8_block_29 : decode cX8_block 29 = .ok (.aload_n 0, 1) := by decide +kernel
theorem dX8_block_30 : decode cX8_block 30 = .ok (.getfield 41, 3) := by decide +kernel
theorem dX8_block_33 : decode cX8_block 33 = .ok (.aload_n 2, 1) := by decide +kernel
theorem dX8_block_34 : decode cX8_block 34 = .ok (.invokevirtual 214, 3) := by decide +kernel
theorem dX8_block_37 : decode cX8_block 37 = .ok (.aload_n 2, 1) := by decide +kernel
theorem dX8_block_38 : decode cX8_block 38 = .ok (.getfield 299, 3) := by decide +kernel
theorem dX8_block_41 : decode cX8_block 41 = .ok (.istore_n 3, 1) := by decide +kernel
theorem dX8_block_42 : decode cX8_block 42 = .ok (.aload_n 2, 1) := by decide +kernel
theorem dX8_block_43 : decode cX8_block 43 = .ok (.iload_n 1, 1) := by decide +kernel
theorem dX8_block_44 : decode cX8_block 44 = .ok (.putfield 299, 3) := by decide +kernel
theorem dX8_block_47 : decode cX8_block 47 = .ok (.iload_n 3, 1) := by decide +kernel
theorem dX8_block_48 : decode cX8_block 48 = .ok (.ireturn, 1) := by decide +kernel
theorem dX8_anew_0 : decode cX8_anew 0 = .ok (.aload_n 0, 1) := by decide +kernel
theorem dX8_anew_1 : decode cX8_anew 1 = .ok (.getfield 41, 3) := by decide +kernel
theorem dX8_anew_4 : decode cX8_anew 4 = .ok (.aload_n 0, 1) := by decide +kernel
theorem dX8_anew_5 : decode cX8_anew 5 = .ok (.getfield 31, 3) := by decide +kernel
theorem dX8_anew_8 : decode cX8_anew 8 = .ok (.getfield 81, 3) := by decide +kernel
theorem dX8_anew_11 : decode cX8_anew 11 = .ok (.invokevirtual 214, 3) := by decide +kernel
theorem dX8_anew_14 : decode cX8_anew 14 = .ok (.aload_n 0, 1) := by decide +kernel
theorem dX8_anew_15 : decode cX8_anew 15 = .ok (.getfield 31, 3) := by decide +kernel
theorem dX8_anew_18 : decode cX8_anew 18 = .ok (.getfield 81, 3) := by decide +kernel
theorem dX8_anew_21 : decode cX8_anew 21 = .ok (.getfield 302, 3) := by decide +kernel
theorem dX8_anew_24 : decode cX8_anew 24 = .ok (.istore_n 1, 1) := by decide +kernel
theorem dX8_anew_25 : decode cX8_anew 25 = .ok (.aload_n 0, 1) := by decide +kernel
theorem dX8_anew_26 : decode cX8_anew 26 = .ok (.getfield 31, 3) := by decide +kernel
theorem dX8_anew_29 : decode cX8_anew 29 = .ok (.invokevirtual 70, 3) := by decide +kernel
theorem dX8_anew_32 : decode cX8_anew 32 = .ok (.iload_n 1, 1) := by decide +kernel
theorem dX8_anew_33 : decode cX8_anew 33 = .ok (.ireturn, 1) := by decide +kernel
theorem dX8_sheet_0 : decode cX8_sheet 0 = .ok (.iload_n 1, 1) := by decide +kernel
theorem dX8_sheet_1 : decode cX8_sheet 1 = .ok (.iconst (-1), 1) := by decide +kernel
theorem dX8_sheet_2 : decode cX8_sheet 2 = .ok (.if_icmp .ge 5, 3) := by decide +kernel
theorem dX8_sheet_5 : decode cX8_sheet 5 = .ok (.iconst (-1), 1) := by decide +kernel
theorem dX8_sheet_6 : decode cX8_sheet 6 = .ok (.ireturn, 1) := by decide +kernel
theorem dX8_sheet_7 : decode cX8_sheet 7 = .ok (.aload_n 0, 1) := by decide +kernel
theorem dX8_sheet_8 : decode cX8_sheet 8 = .ok (.getfield 65, 3) := by decide +kernel
theorem dX8_sheet_11 : decode cX8_sheet 11 = .ok (.aload_n 0, 1) := by decide +kernel
theorem dX8_sheet_12 : decode cX8_sheet 12 = .ok (.getfield 31, 3) := by decide +kernel
theorem dX8_sheet_15 : decode cX8_sheet 15 = .ok (.getfield 81, 3) := by decide +kernel
theorem dX8_sheet_18 : decode cX8_sheet 18 = .ok (.aload_n 0, 1) := by decide +kernel
theorem dX8_sheet_19 : decode cX8_sheet 19 = .ok (.getfield 24, 3) := by decide +kernel
theorem dX8_sheet_22 : decode cX8_sheet 22 = .ok (.invokevirtual 305, 3) := by decide +kernel
theorem dX8_sheet_25 : decode cX8_sheet 25 = .ok (.iload_n 1, 1) := by decide +kernel
theorem dX8_sheet_26 : decode cX8_sheet 26 = .ok (.iconst (-1), 1) := by decide +kernel
theorem dX8_sheet_27 : decode cX8_sheet 27 = .ok (.if_icmp .ne 11, 3) := by decide +kernel
theorem dX8_sheet_30 : decode cX8_sheet 30 = .ok (.aload_n 0, 1) := by decide +kernel
theorem dX8_sheet_31 : decode cX8_sheet 31 = .ok (.getfield 65, 3) := by decide +kernel
theorem dX8_sheet_34 : decode cX8_sheet 34 = .ok (.getfield 309, 3) := by decide +kernel
theorem dX8_sheet_37 : decode cX8_sheet 37 = .ok (.ireturn, 1) := by decide +kernel
theorem dX8_sheet_38 : decode cX8_sheet 38 = .ok (.iload_n 1, 1) := by decide +kernel
theorem dX8_sheet_39 : decode cX8_sheet 39 = .ok (.aload_n 0, 1) := by decide +kernel
theorem dX8_sheet_40 : decode cX8_sheet 40 = .ok (.getfield 65, 3) := by decide +kernel
theorem dX8_sheet_43 : decode cX8_sheet 43 = .ok (.getfield 309, 3) := by decide +kernel
theorem dX8_sheet_46 : decode cX8_sheet 46 = .ok (.if_icmp .ge 15, 3) := by decide +kernel
theorem dX8_sheet_49 : decode cX8_sheet 49 = .ok (.aload_n 0, 1) := by decide +kernel
theorem dX8_sheet_50 : decode cX8_sheet 50 = .ok (.getfield 65, 3) := by decide +kernel
theorem dX8_sheet_53 : decode cX8_sheet 53 = .ok (.getfield 312, 3) := by decide +kernel
theorem dX8_sheet_56 : decode cX8_sheet 56 = .ok (.iload_n 1, 1) := by decide +kernel
theorem dX8_sheet_57 : decode cX8_sheet 57 = .ok (.baload, 1) := by decide +kernel
theorem dX8_sheet_58 : decode cX8_sheet 58 = .ok (.goto 5, 3) := by decide +kernel
theorem dX8_sheet_61 : decode cX8_sheet 61 = .ok (.bipush (-2), 2) := by decide +kernel
theorem dX8_sheet_63 : decode cX8_sheet 63 = .ok (.ireturn, 1) := by decide +kernel
theorem dX8_undo_0 : decode cX8_undo 0 = .ok (.aload_n 0, 1) := by decide +kernel
theorem dX8_undo_1 : decode cX8_undo 1 = .ok (.getfield 41, 3) := by decide +kernel
theorem dX8_undo_4 : decode cX8_undo 4 = .ok (.getfield 315, 3) := by decide +kernel
theorem dX8_undo_7 : decode cX8_undo 7 = .ok (.ifCond .ne 5, 3) := by decide +kernel
theorem dX8_undo_10 : decode cX8_undo 10 = .ok (.iconst (-1), 1) := by decide +kernel
theorem dX8_undo_11 : decode cX8_undo 11 = .ok (.ireturn, 1) := by decide +kernel
theorem dX8_undo_12 : decode cX8_undo 12 = .ok (.aload_n 0, 1) := by decide +kernel
theorem dX8_undo_13 : decode cX8_undo 13 = .ok (.getfield 41, 3) := by decide +kernel
theorem dX8_undo_16 : decode cX8_undo 16 = .ok (.aload_n 0, 1) := by decide +kernel
theorem dX8_undo_17 : decode cX8_undo 17 = .ok (.getfield 31, 3) := by decide +kernel
theorem dX8_undo_20 : decode cX8_undo 20 = .ok (.getfield 81, 3) := by decide +kernel
theorem dX8_undo_23 : decode cX8_undo 23 = .ok (.invokevirtual 318, 3) := by decide +kernel
theorem dX8_undo_26 : decode cX8_undo 26 = .ok (.aload_n 0, 1) := by decide +kernel
theorem dX8_undo_27 : decode cX8_undo 27 = .ok (.getfield 31, 3) := by decide +kernel
theorem dX8_undo_30 : decode cX8_undo 30 = .ok (.invokevirtual 296, 3) := by decide +kernel
theorem dX8_undo_33 : decode cX8_undo 33 = .ok (.aload_n 0, 1) := by decide +kernel
theorem dX8_undo_34 : decode cX8_undo 34 = .ok (.getfield 41, 3) := by decide +kernel
theorem dX8_undo_37 : decode cX8_undo 37 = .ok (.getfield 315, 3) := by decide +kernel
theorem dX8_undo_40 : decode cX8_undo 40 = .ok (.ireturn, 1) := by decide +kernel
theorem dX8_keep_0 : decode cX8_keep 0 = .ok (.iload_n 1, 1) := by decide +kernel
theorem dX8_keep_1 : decode cX8_keep 1 = .ok (.ifCond .lt 21, 3) := by decide +kernel
theorem dX8_keep_4 : decode cX8_keep 4 = .ok (.iload_n 1, 1) := by decide +kernel
theorem dX8_keep_5 : decode cX8_keep 5 = .ok (.iconst 2, 1) := by decide +kernel
theorem dX8_keep_6 : decode cX8_keep 6 = .ok (.if_icmp .ge 16, 3) := by decide +kernel
theorem dX8_keep_9 : decode cX8_keep 9 = .ok (.iload_n 2, 1) := by decide +kernel
theorem dX8_keep_10 : decode cX8_keep 10 = .ok (.ifCond .eq 14, 3) := by decide +kernel
theorem dX8_keep_13 : decode cX8_keep 13 = .ok (.aload_n 0, 1) := by decide +kernel
theorem dX8_keep_14 : decode cX8_keep 14 = .ok (.getfield 51, 3) := by decide +kernel
theorem dX8_keep_17 : decode cX8_keep 17 = .ok (.iload_n 1, 1) := by decide +kernel
theorem dX8_keep_18 : decode cX8_keep 18 = .ok (.baload, 1) := by decide +kernel
theorem dX8_keep_19 : decode cX8_keep 19 = .ok (.ifCond .ne 5, 3) := by decide +kernel
theorem dX8_keep_22 : decode cX8_keep 22 = .ok (.iconst 0, 1) := by decide +kernel
theorem dX8_keep_23 : decode cX8_keep 23 = .ok (.ireturn, 1) := by decide +kernel
theorem dX8_keep_24 : decode cX8_keep 24 = .ok (.iload_n 2, 1) := by decide +kernel
theorem dX8_keep_25 : decode cX8_keep 25 = .ok (.ifCond .eq 36, 3) := by decide +kernel
theorem dX8_keep_28 : decode cX8_keep 28 = .ok (.aload_n 0, 1) := by decide +kernel
theorem dX8_keep_29 : decode cX8_keep 29 = .ok (.getfield 31, 3) := by decide +kernel
theorem dX8_keep_32 : decode cX8_keep 32 = .ok (.getfield 81, 3) := by decide +kernel
theorem dX8_keep_35 : decode cX8_keep 35 = .ok (.aload_n 0, 1) := by decide +kernel
theorem dX8_keep_36 : decode cX8_keep 36 = .ok (.getfield 47, 3) := by decide +kernel
theorem dX8_keep_39 : decode cX8_keep 39 = .ok (.iload_n 1, 1) := by decide +kernel
theorem dX8_keep_40 : decode cX8_keep 40 = .ok (.aaload, 1) := by decide +kernel
theorem dX8_keep_41 : decode cX8_keep 41 = .ok (.invokevirtual 86, 3) := by decide +kernel
theorem dX8_keep_44 : decode cX8_keep 44 = .ok (.aload_n 0, 1) := by decide +kernel
theorem dX8_keep_45 : decode cX8_keep 45 = .ok (.getfield 31, 3) := by decide +kernel
theorem dX8_keep_48 : decode cX8_keep 48 = .ok (.invokevirtual 296, 3) := by decide +kernel
theorem dX8_keep_51 : decode cX8_keep 51 = .ok (.aload_n 0, 1) := by decide +kernel
theorem dX8_keep_52 : decode cX8_keep 52 = .ok (.getfield 41, 3) := by decide +kernel
theorem dX8_keep_55 : decode cX8_keep 55 = .ok (.invokevirtual 97, 3) := by decide +kernel
theorem dX8_keep_58 : decode cX8_keep 58 = .ok (.goto 26, 3) := by decide +kernel
theorem dX8_keep_61 : decode cX8_keep 61 = .ok (.aload_n 0, 1) := by decide +kernel
theorem dX8_keep_62 : decode cX8_keep 62 = .ok (.getfield 47, 3) := by decide +kernel
theorem dX8_keep_65 : decode cX8_keep 65 = .ok (.iload_n 1, 1) := by decide +kernel
theorem dX8_keep_66 : decode cX8_keep 66 = .ok (.aaload, 1) := by decide +kernel
theorem dX8_keep_67 : decode cX8_keep 67 = .ok (.aload_n 0, 1) := by decide +kernel
theorem dX8_keep_68 : decode cX8_keep 68 = .ok (.getfield 31, 3) := by decide +kernel
theorem dX8_keep_71 : decode cX8_keep 71 = .ok (.getfield 81, 3) := by decide +kernel
theorem dX8_keep_74 : decode cX8_keep 74 = .ok (.invokevirtual 86, 3) := by decide +kernel
theorem dX8_keep_77 : decode cX8_keep 77 = .ok (.aload_n 0, 1) := by decide +kernel
theorem dX8_keep_78 : decode cX8_keep 78 = .ok (.getfield 51, 3) := by decide +kernel
theorem dX8_keep_81 : decode cX8_keep 81 = .ok (.iload_n 1, 1) := by decide +kernel
theorem dX8_keep_82 : decode cX8_keep 82 = .ok (.iconst 1, 1) := by decide +kernel
theorem dX8_keep_83 : decode cX8_keep 83 = .ok (.bastore, 1) := by decide +kernel
theorem dX8_keep_84 : decode cX8_keep 84 = .ok (.iconst 1, 1) := by decide +kernel
theorem dX8_keep_85 : decode cX8_keep 85 = .ok (.ireturn, 1) := by decide +kernel
theorem dX8_count_0 : decode cX8_count 0 = .ok (.aload_n 0, 1) := by decide +kernel
theorem dX8_count_1 : decode cX8_count 1 = .ok (.getfield 31, 3) := by decide +kernel
theorem dX8_count_4 : decode cX8_count 4 = .ok (.getfield 81, 3) := by decide +kernel
theorem dX8_count_7 : decode cX8_count 7 = .ok (.astore_n 2, 1) := by decide +kernel
theorem dX8_count_8 : decode cX8_count 8 = .ok (.iload_n 1, 1) := by decide +kernel
theorem dX8_count_9 : decode cX8_count 9 = .ok (.tableswitch 128 0 10 #[59, 64, 69, 74, 79, 84, 89, 97, 102, 118, 123], 59) := by decide +kernel
theorem dX8_count_68 : decode cX8_count 68 = .ok (.aload_n 2, 1) := by decide +kernel
theorem dX8_count_69 : decode cX8_count 69 = .ok (.getfield 100, 3) := by decide +kernel
theorem dX8_count_72 : decode cX8_count 72 = .ok (.ireturn, 1) := by decide +kernel
theorem dX8_count_73 : decode cX8_count 73 = .ok (.aload_n 2, 1) := by decide +kernel
theorem dX8_count_74 : decode cX8_count 74 = .ok (.getfield 321, 3) := by decide +kernel
theorem dX8_count_77 : decode cX8_count 77 = .ok (.ireturn, 1) := by decide +kernel
theorem dX8_count_78 : decode cX8_count 78 = .ok (.aload_n 2, 1) := by decide +kernel
theorem dX8_count_79 : decode cX8_count 79 = .ok (.getfield 299, 3) := by decide +kernel
theorem dX8_count_82 : decode cX8_count 82 = .ok (.ireturn, 1) := by decide +kernel
theorem dX8_count_83 : decode cX8_count 83 = .ok (.aload_n 2, 1) := by decide +kernel
theorem dX8_count_84 : decode cX8_count 84 = .ok (.getfield 324, 3) := by decide +kernel
theorem dX8_count_87 : decode cX8_count 87 = .ok (.ireturn, 1) := by decide +kernel
theorem dX8_count_88 : decode cX8_count 88 = .ok (.aload_n 2, 1) := by decide +kernel
theorem dX8_count_89 : decode cX8_count 89 = .ok (.invokevirtual 223, 3) := by decide +kernel
theorem dX8_count_92 : decode cX8_count 92 = .ok (.ireturn, 1) := by decide +kernel
theorem dX8_count_93 : decode cX8_count 93 = .ok (.aload_n 2, 1) := by decide +kernel
theorem dX8_count_94 : decode cX8_count 94 = .ok (.getfield 302, 3) := by decide +kernel
theorem dX8_count_97 : decode cX8_count 97 = .ok (.ireturn, 1) := by decide +kernel
theorem dX8_count_98 : decode cX8_count 98 = .ok (.aload_n 0, 1) := by decide +kernel
theorem dX8_count_99 : decode cX8_count 99 = .ok (.getfield 41, 3) := by decide +kernel
theorem dX8_count_102 : decode cX8_count 102 = .ok (.getfield 315, 3) := by decide +kernel
theorem dX8_count_105 : decode cX8_count 105 = .ok (.ireturn, 1) := by decide +kernel
theorem dX8_count_106 : decode cX8_count 106 = .ok (.aload_n 0, 1) := by decide +kernel
theorem dX8_count_107 : decode cX8_count 107 = .ok (.getfield 13, 3) := by decide +kernel
theorem dX8_count_110 : decode cX8_count 110 = .ok (.ireturn, 1) := by decide +kernel
theorem dX8_count_111 : decode cX8_count 111 = .ok (.aload_n 0, 1) := by decide +kernel
theorem dX8_count_112 : decode cX8_count 112 = .ok (.getfield 31, 3) := by decide +kernel
theorem dX8_count_115 : decode cX8_count 115 = .ok (.invokevirtual 211, 3) := by decide +kernel
theorem dX8_count_118 : decode cX8_count 118 = .ok (.ifCond .eq 7, 3) := by decide +kernel
theorem dX8_count_121 : decode cX8_count 121 = .ok (.iconst 1, 1) := by decide +kernel
theorem dX8_count_122 : decode cX8_count 122 = .ok (.goto 4, 3) := by decide +kernel
theorem dX8_count_125 : decode cX8_count 125 = .ok (.iconst 0, 1) := by decide +kernel
theorem dX8_count_126 : decode cX8_count 126 = .ok (.ireturn, 1) := by decide +kernel
theorem dX8_count_127 : decode cX8_count 127 = .ok (.aload_n 2, 1) := by decide +kernel
theorem dX8_count_128 : decode cX8_count 128 = .ok (.invokevirtual 327, 3) := by decide +kernel
theorem dX8_count_131 : decode cX8_count 131 = .ok (.ireturn, 1) := by decide +kernel
theorem dX8_count_132 : decode cX8_count 132 = .ok (.aload_n 2, 1) := by decide +kernel
theorem dX8_count_133 : decode cX8_count 133 = .ok (.invokevirtual 330, 3) := by decide +kernel
theorem dX8_count_136 : decode cX8_count 136 = .ok (.ireturn, 1) := by decide +kernel
theorem dX8_count_137 : decode cX8_count 137 = .ok (.iconst (-1), 1) := by decide +kernel
theorem dX8_count_138 : decode cX8_count 138 = .ok (.ireturn, 1) := by decide +kernel
theorem dX9_init_0 : decode cX9_init 0 = .ok (.aload_n 0, 1) := by decide +kernel
theorem dX9_init_1 : decode cX9_init 1 = .ok (.invokespecial 1, 3) := by decide +kernel
theorem dX9_init_4 : decode cX9_init 4 = .ok (.aload_n 0, 1) := by decide +kernel
theorem dX9_init_5 : decode cX9_init 5 = .ok (.sipush 600, 3) := by decide +kernel
theorem dX9_init_8 : decode cX9_init 8 = .ok (.newarray .byte, 2) := by decide +kernel
theorem dX9_init_10 : decode cX9_init 10 = .ok (.putfield 7, 3) := by decide +kernel
theorem dX9_init_13 : decode cX9_init 13 = .ok (.aload_n 0, 1) := by decide +kernel
theorem dX9_init_14 : decode cX9_init 14 = .ok (.iconst 2, 1) := by decide +kernel
theorem dX9_init_15 : decode cX9_init 15 = .ok (.newarray .int, 2) := by decide +kernel
theorem dX9_init_17 : decode cX9_init 17 = .ok (.putfield 13, 3) := by decide +kernel
theorem dX9_init_20 : decode cX9_init 20 = .ok (.aload_n 0, 1) := by decide +kernel
theorem dX9_init_21 : decode cX9_init 21 = .ok (.iconst 2, 1) := by decide +kernel
theorem dX9_init_22 : decode cX9_init 22 = .ok (.newarray .int, 2) := by decide +kernel
theorem dX9_init_24 : decode cX9_init 24 = .ok (.putfield 17, 3) := by decide +kernel
theorem dX9_init_27 : decode cX9_init 27 = .ok (.aload_n 0, 1) := by decide +kernel
theorem dX9_init_28 : decode cX9_init 28 = .ok (.bipush 48, 2) := by decide +kernel
theorem dX9_init_30 : decode cX9_init 30 = .ok (.newarray .long, 2) := by decide +kernel
theorem dX9_init_32 : decode cX9_init 32 = .ok (.putfield 20, 3) := by decide +kernel
theorem dX9_init_35 : decode cX9_init 35 = .ok (.aload_n 0, 1) := by decide +kernel
theorem dX9_init_36 : decode cX9_init 36 = .ok (.bipush 16, 2) := by decide +kernel
theorem dX9_init_38 : decode cX9_init 38 = .ok (.newarray .int, 2) := by decide +kernel
theorem dX9_init_40 : decode cX9_init 40 = .ok (.putfield 24, 3) := by decide +kernel
theorem dX9_init_43 : decode cX9_init 43 = .ok (.aload_n 0, 1) := by decide +kernel
theorem dX9_init_44 : decode cX9_init 44 = .ok (.bipush 32, 2) := by decide +kernel
theorem dX9_init_46 : decode cX9_init 46 = .ok (.newarray .int, 2) := by decide +kernel
theorem dX9_init_48 : decode cX9_init 48 = .ok (.putfield 27, 3) := by decide +kernel
theorem dX9_init_51 : decode cX9_init 51 = .ok (.aload_n 0, 1) := by decide +kernel
theorem dX9_init_52 : decode cX9_init 52 = .ok (.bipush 32, 2) := by decide +kernel
theorem dX9_init_54 : decode cX9_init 54 = .ok (.newarray .int, 2) := by decide +kernel
theorem dX9_init_56 : decode cX9_init 56 = .ok (.putfield 30, 3) := by decide +kernel
theorem dX9_init_59 : decode cX9_init 59 = .ok (.aload_n 0, 1) := by decide +kernel
theorem dX9_init_60 : decode cX9_init 60 = .ok (.bipush 32, 2) := by decide +kernel
theorem dX9_init_62 : decode cX9_init 62 = .ok (.newarray .int, 2) := by decide +kernel
theorem dX9_init_64 : decode cX9_init 64 = .ok (.putfield 33, 3) := by decide +kernel
theorem dX9_init_67 : decode cX9_init 67 = .ok (.aload_n 0, 1) := by decide +kernel
theorem dX9_init_68 : decode cX9_init 68 = .ok (.bipush 32, 2) := by decide +kernel
theorem dX9_init_70 : decode cX9_init 70 = .ok (.newarray .int, 2) := by decide +kernel
theorem dX9_init_72 : decode cX9_init 72 = .ok (.putfield 36, 3) := by decide +kernel
theorem dX9_init_75 : decode cX9_init 75 = .ok (.aload_n 0, 1) := by decide +kernel
theorem dX9_init_76 : decode cX9_init 76 = .ok (.sipush 180, 3) := by decide +kernel
theorem dX9_init_79 : decode cX9_init 79 = .ok (.newarray .int, 2) := by decide +kernel
theorem dX9_init_81 : decode cX9_init 81 = .ok (.putfield 39, 3) := by decide +kernel
theorem dX9_init_84 : decode cX9_init 84 = .ok (.aload_n 0, 1) := by decide +kernel
theorem dX9_init_85 : decode cX9_init 85 = .ok (.sipush 2160, 3) := by decide +kernel
theorem dX9_init_88 : decode cX9_init 88 = .ok (.newarray .int, 2) := by decide +kernel
theorem dX9_init_90 : decode cX9_init 90 = .ok (.putfield 42, 3) := by decide +kernel
theorem dX9_init_93 : decode cX9_init 93 = .ok (.aload_n 0, 1) := by decide +kernel
theorem dX9_init_94 : decode cX9_init 94 = .ok (.sipush 360, 3) := by decide +kernel
theorem dX9_init_97 : decode cX9_init 97 = .ok (.newarray .int, 2) := by decide +kernel
theorem dX9_init_99 : decode cX9_init 99 = .ok (.putfield 45, 3) := by decide +kernel
theorem dX9_init_102 : decode cX9_init 102 = .ok (.aload_n 0, 1) := by decide +kernel
theorem dX9_init_103 : decode cX9_init 103 = .ok (.iconst 2, 1) := by decide +kernel
theorem dX9_init_104 : decode cX9_init 104 = .ok (.newarray .boolean, 2) := by decide +kernel
theorem dX9_init_106 : decode cX9_init 106 = .ok (.putfield 48, 3) := by decide +kernel
theorem dX9_init_109 : decode cX9_init 109 = .ok (.aload_n 0, 1) := by decide +kernel
theorem dX9_init_110 : decode cX9_init 110 = .ok (.sipush 180, 3) := by decide +kernel
theorem dX9_init_113 : decode cX9_init 113 = .ok (.newarray .int, 2) := by decide +kernel
theorem dX9_init_115 : decode cX9_init 115 = .ok (.putfield 52, 3) := by decide +kernel
theorem dX9_init_118 : decode cX9_init 118 = .ok (.aload_n 0, 1) := by decide +kernel
theorem dX9_init_119 : decode cX9_init 119 = .ok (.bipush 9, 2) := by decide +kernel
theorem dX9_init_121 : decode cX9_init 121 = .ok (.newarray .int, 2) := by decide +kernel
theorem dX9_init_123 : decode cX9_init 123 = .ok (.putfield 55, 3) := by decide +kernel
theorem dX9_init_126 : decode cX9_init 126 = .ok (.aload_n 0, 1) := by decide +kernel
theorem dX9_init_127 : decode cX9_init 127 = .ok (.bipush 9, 2) := by decide +kernel
theorem dX9_init_129 : decode cX9_init 129 = .ok (.newarray .int, 2) := by decide +kernel
theorem dX9_init_131 : decode cX9_init 131 = .ok (.putfield 58, 3) := by decide +kernel
theorem dX9_init_134 : decode cX9_init 134 = .ok (.aload_n 0, 1) := by decide +kernel
theorem dX9_init_135 : decode cX9_init 135 = .ok (.bipush 9, 2) := by decide +kernel
theorem dX9_init_137 : decode cX9_init 137 = .ok (.newarray .int, 2) := by decide +kernel
theorem dX9_init_139 : decode cX9_init 139 = .ok (.putfield 61, 3) := by decide +kernel
theorem dX9_init_142 : decode cX9_init 142 = .ok (.aload_n 0, 1) := by decide +kernel
theorem dX9_init_143 : decode cX9_init 143 = .ok (.bipush 24, 2) := by decide +kernel
theorem dX9_init_145 : decode cX9_init 145 = .ok (.newarray .int, 2) := by decide +kernel
theorem dX9_init_147 : decode cX9_init 147 = .ok (.putfield 64, 3) := by decide +kernel
theorem dX9_init_150 : decode cX9_init 150 = .ok (.aload_n 0, 1) := by decide +kernel
theorem dX9_init_151 : decode cX9_init 151 = .ok (.bipush 24, 2) := by decide +kernel
theorem dX9_init_153 : decode cX9_init 153 = .ok (.newarray .boolean, 2) := by decide +kernel
theorem dX9_init_155 : decode cX9_init 155 = .ok (.putfield 67, 3) := by decide +kernel
theorem dX9_init_158 : decode cX9_init 158 = .ok (.aload_n 0, 1) := by decide +kernel
theorem dX9_init_159 : decode cX9_init 159 = .ok (.bipush 9, 2) := by decide +kernel
theorem dX9_init_161 : decode cX9_init 161 = .ok (.newarray .int, 2) := by decide +kernel
theorem dX9_init_163 : decode cX9_init 163 = .ok (.putfield 70, 3) := by decide +kernel
theorem dX9_init_166 : decode cX9_init 166 = .ok (.aload_n 0, 1) := by decide +kernel
theorem dX9_init_167 : decode cX9_init 167 = .ok (.bipush 8, 2) := by decide +kernel
theorem dX9_init_169 : decode cX9_init 169 = .ok (.newarray .int, 2) := by decide +kernel
theorem dX9_init_171 : decode cX9_init 171 = .ok (.putfield 73, 3) := by decide +kernel
theorem dX9_init_174 : decode cX9_init 174 = .ok (.aload_n 0, 1) := by decide +kernel
theorem dX9_init_175 : decode cX9_init 175 = .ok (.sipush 240, 3) := by decide +kernel
theorem dX9_init_178 : decode cX9_init 178 = .ok (.newarray .int, 2) := by decide +kernel
theorem dX9_init_180 : decode cX9_init 180 = .ok (.putfield 76, 3) := by decide +kernel
theorem dX9_init_183 : decode cX9_init 183 = .ok (.aload_n 0, 1) := by decide +kernel
theorem dX9_init_184 : decode cX9_init 184 = .ok (.getfield 39, 3) := by decide +kernel
theorem dX9_init_187 : decode cX9_init 187 = .ok (.bipush 40, 2) := by decide +kernel
theorem dX9_init_189 : decode cX9_init 189 = .ok (.iconst 4, 1) := by decide +kernel
theorem dX9_init_190 : decode cX9_init 190 = .ok (.iastore, 1) := by decide +kernel
theorem dX9_init_191 : decode cX9_init 191 = .ok (.aload_n 0, 1) := by decide +kernel
theorem dX9_init_192 : decode cX9_init 192 = .ok (.invokevirtual 79, 3) := by decide +kernel
theorem dX9_init_195 : decode cX9_init 195 = .ok (.return_, 1) := by decide +kernel
theorem dX9_within_0 : decode cX9_within 0 = .ok (.lload_n 0, 1) := by decide +kernel
theorem dX9_within_1 : decode cX9_within 1 = .ok (.lload_n 2, 1) := by decide +kernel
theorem dX9_within_2 : decode cX9_within 2 = .ok (.lcmp, 1) := by decide +kernel
theorem dX9_within_3 : decode cX9_within 3 = .ok (.ifCond .lt 14, 3) := by decide +kernel
theorem dX9_within_6 : decode cX9_within 6 = .ok (.lload_n 0, 1) := by decide +kernel
theorem dX9_within_7 : decode cX9_within 7 = .ok (.lload 4, 2) := by decide +kernel
theorem dX9_within_9 : decode cX9_within 9 = .ok (.lcmp, 1) := by decide +kernel
theorem dX9_within_10 : decode cX9_within 10 = .ok (.ifCond .gt 7, 3) := by decide +kernel
theorem dX9_within_13 : decode cX9_within 13 = .ok (.iconst 1, 1) := by decide +kernel
theorem dX9_within_14 : decode cX9_within 14 = .ok (.goto 4, 3) := by decide +kernel
theorem dX9_within_17 : decode cX9_within 17 = .ok (.iconst 0, 1) := by decide +kernel
theorem dX9_within_18 : decode cX9_within 18 = .ok (.ireturn, 1) := by decide +kernel
theorem dX9_puts_0 : decode cX9_puts 0 = .ok (.bipush 24, 2) := by decide +kernel
theorem dX9_puts_2 : decode cX9_puts 2 = .ok (.istore_n 2, 1) := by decide +kernel
theorem dX9_puts_3 : decode cX9_puts 3 = .ok (.iload_n 2, 1) := by decide +kernel
theorem dX9_puts_4 : decode cX9_puts 4 = .ok (.ifCond .lt 32, 3) := by decide +kernel
theorem dX9_puts_7 : decode cX9_puts 7 = .ok (.aload_n 0, 1) := by decide +kernel
theorem dX9_puts_8 : decode cX9_puts 8 = .ok (.getfield 7, 3) := by decide +kernel
theorem dX9_puts_11 : decode cX9_puts 11 = .ok (.aload_n 0, 1) := by decide +kernel
theorem dX9_puts_12 : decode cX9_puts 12 = .ok (.getfield 86, 3) := by decide +kernel
theorem dX9_puts_15 : decode cX9_puts 15 = .ok (.iload_n 1, 1) := by decide +kernel
theorem dX9_puts_16 : decode cX9_puts 16 = .ok (.iload_n 2, 1) := by decide +kernel
theorem dX9_puts_17 : decode cX9_puts 17 = .ok (.ishr, 1) := by decide +kernel
theorem dX9_puts_18 : decode cX9_puts 18 = .ok (.i2b, 1) := by decide +kernel
theorem dX9_puts_19 : decode cX9_puts 19 = .ok (.bastore, 1) := by decide +kernel
theorem dX9_puts_20 : decode cX9_puts 20 = .ok (.aload_n 0, 1) := by decide +kernel
theorem dX9_puts_21 : decode cX9_puts 21 = .ok (.dup, 1) := by decide +kernel
theorem dX9_puts_22 : decode cX9_puts 22 = .ok (.getfield 86, 3) := by decide +kernel
theorem dX9_puts_25 : decode cX9_puts 25 = .ok (.iconst 1, 1) := by decide +kernel
theorem dX9_puts_26 : decode cX9_puts 26 = .ok (.iadd, 1) := by decide +kernel
theorem dX9_puts_27 : decode cX9_puts 27 = .ok (.putfield 86, 3) := by decide +kernel
theorem dX9_puts_30 : decode cX9_puts 30 = .ok (.iinc 2 (-8), 3) := by decide +kernel
theorem dX9_puts_33 : decode cX9_puts 33 = .ok (.goto (-30), 3) := by decide +kernel
theorem dX9_puts_36 : decode cX9_puts 36 = .ok (.return_, 1) := by decide +kernel
theorem dX9_feed_0 : decode cX9_feed 0 = .ok (.aload_n 0, 1) := by decide +kernel
theorem dX9_feed_1 : decode cX9_feed 1 = .ok (.iconst 0, 1) := by decide +kernel
theorem dX9_feed_2 : decode cX9_feed 2 = .ok (.putfield 82, 3) := by decide +kernel
theorem dX9_feed_5 : decode cX9_feed 5 = .ok (.aload_n 0, 1) := by decide +kernel
theorem dX9_feed_6 : decode cX9_feed 6 = .ok (.getfield 86, 3) := by decide +kernel
theorem dX9_feed_9 : decode cX9_feed 9 = .ok (.bipush 20, 2) := by decide +kernel
theorem dX9_feed_11 : decode cX9_feed 11 = .ok (.iadd, 1) := by decide +kernel
theorem dX9_feed_12 : decode cX9_feed 12 = .ok (.sipush 600, 3) := by decide +kernel
theorem dX9_feed_15 : decode cX9_feed 15 = .ok (.if_icmp .le 5, 3) := by decide +kernel
theorem dX9_feed_18 : decode cX9_feed 18 = .ok (.iconst (-1), 1) := by decide +kernel
theorem dX9_feed_19 : decode cX9_feed 19 = .ok (.ireturn, 1) := by decide +kernel
theorem dX9_feed_20 : decode cX9_feed 20 = .ok (.aload_n 0, 1) := by decide +kernel
theorem dX9_feed_21 : decode cX9_feed 21 = .ok (.iload_n 1, 1) := by decide +kernel
theorem dX9_feed_22 : decode cX9_feed 22 = .ok (.invokevirtual 89, 3) := by decide +kernel
theorem dX9_feed_25 : decode cX9_feed 25 = .ok (.aload_n 0, 1) := by decide +kernel
theorem dX9_feed_26 : decode cX9_feed 26 = .ok (.iload_n 2, 1) := by decide +kernel
theorem dX9_feed_27 : decode cX9_feed 27 = .ok (.invokevirtual 89, 3) := by decide +kernel
theorem dX9_feed_30 : decode cX9_feed 30 = .ok (.aload_n 0, 1) := by decide +kernel
theorem dX9_feed_31 : decode cX9_feed 31 = .ok (.iload_n 3, 1) := by decide +kernel
theorem dX9_feed_32 : decode cX9_feed 32 = .ok (.invokevirtual 89, 3) := by decide +kernel
theorem dX9_feed_35 : decode cX9_feed 35 = .ok (.aload_n 0, 1) := by decide +kernel
theorem dX9_feed_36 : decode cX9_feed 36 = .ok (.iload 4, 2) := by decide +kernel
theorem dX9_feed_38 : decode cX9_feed 38 = .ok (.invokevirtual 89, 3) := by decide +kernel
theorem dX9_feed_41 : decode cX9_feed 41 = .ok (.aload_n 0, 1) := by decide +kernel
theorem dX9_feed_42 : decode cX9_feed 42 = .ok (.iload 5, 2) := by decide +kernel
theorem dX9_feed_44 : decode cX9_feed 44 = .ok (.invokevirtual 89, 3) := by decide +kernel
theorem dX9_feed_47 : decode cX9_feed 47 = .ok (.aload_n 0, 1) := by decide +kernel
theorem dX9_feed_48 : decode cX9_feed 48 = .ok (.getfield 86, 3) := by decide +kernel
theorem dX9_feed_51 : decode cX9_feed 51 = .ok (.ireturn, 1) := by decide +kernel
theorem dX9_see_0 : decode cX9_see 0 = .ok (.iload_n 1, 1) := by decide +kernel
theorem dX9_see_1 : decode cX9_see 1 = .ok (.aload_n 0, 1) := by decide +kernel
theorem dX9_see_2 : decode cX9_see 2 = .ok (.getfield 93, 3) := by decide +kernel
theorem dX9_see_5 : decode cX9_see 5 = .ok (.if_icmp .ge 16, 3) := by decide +kernel
theorem dX9_see_8 : decode cX9_see 8 = .ok (.aload_n 0, 1) := by decide +kernel
theorem dX9_see_9 : decode cX9_see 9 = .ok (.getfield 7, 3) := by decide +kernel
theorem dX9_see_12 : decode cX9_see 12 = .ok (.iload_n 1, 1) := by decide +kernel
theorem dX9_see_13 : decode cX9_see 13 = .ok (.baload, 1) := by decide +kernel
theorem dX9_see_14 : decode cX9_see 14 = .ok (.sipush 255, 3) := by decide +kernel
theorem dX9_see_17 : decode cX9_see 17 = .ok (.iand, 1) := by decide +kernel
theorem dX9_see_18 : decode cX9_see 18 = .ok (.goto 4, 3) := by decide +kernel
theorem dX9_see_21 : decode cX9_see 21 = .ok (.iconst (-1), 1) := by decide +kernel
theorem dX9_see_22 : decode cX9_see 22 = .ok (.ireturn, 1) := by decide +kernel
theorem dX9_goesOn_0 : decode cX9_goesOn 0 = .ok (.aload_n 0, 1) := by decide +kernel
theorem dX9_goesOn_1 : decode cX9_goesOn 1 = .ok (.aload_n 0, 1) := by decide +kernel
theorem dX9_goesOn_2 : decode cX9_goesOn 2 = .ok (.getfield 96, 3) := by decide +kernel
theorem dX9_goesOn_5 : decode cX9_goesOn 5 = .ok (.putfield 99, 3) := by decide +kernel
theorem dX9_goesOn_8 : decode cX9_goesOn 8 = .ok (.aload_n 0, 1) := by decide +kernel
theorem dX9_goesOn_9 : decode cX9_goesOn 9 = .ok (.aload_n 0, 1) := by decide +kernel
theorem dX9_goesOn_10 : decode cX9_goesOn 10 = .ok (.getfield 99, 3) := by decide +kernel
theorem dX9_goesOn_13 : decode cX9_goesOn 13 = .ok (.invokevirtual 102, 3) := by decide +kernel
theorem dX9_goesOn_16 : decode cX9_goesOn 16 = .ok (.bipush 32, 2) := by decide +kernel
theorem dX9_goesOn_18 : decode cX9_goesOn 18 = .ok (.if_icmp .eq 16, 3) := by decide +kernel
theorem dX9_goesOn_21 : decode cX9_goesOn 21 = .ok (.aload_n 0, 1) := by decide +kernel
theorem dX9_goesOn_22 : decode cX9_goesOn 22 = .ok (.aload_n 0, 1) := by decide +kernel
theorem dX9_goesOn_23 : decode cX9_goesOn 23 = .ok (.getfield 99, 3) := by decide +kernel
theorem dX9_goesOn_26 : decode cX9_goesOn 26 = .ok (.invokevirtual 102, 3) := by decide +kernel
theorem dX9_goesOn_29 : decode cX9_goesOn 29 = .ok (.bipush 10, 2) := by decide +kernel
theorem dX9_goesOn_31 : decode cX9_goesOn 31 = .ok (.if_icmp .ne 16, 3) := by decide +kernel
theorem dX9_goesOn_34 : decode cX9_goesOn 34 = .ok (.aload_n 0, 1) := by decide +kernel
theorem dX9_goesOn_35 : decode cX9_goesOn 35 = .ok (.dup, 1) := by decide +kernel
theorem dX9_goesOn_36 : decode cX9_goesOn 36 = .ok (.getfield 99, 3) := by decide +kernel
theorem dX9_goesOn_39 : decode cX9_goesOn 39 = .ok (.iconst 1, 1) := by decide +kernel
theorem dX9_goesOn_40 : decode cX9_goesOn 40 = .ok (.iadd, 1) := by decide +kernel
theorem dX9_goesOn_41 : decode cX9_goesOn 41 = .ok (.putfield 99, 3) := by decide +kernel
theorem dX9_goesOn_44 : decode cX9_goesOn 44 = .ok (.goto (-36), 3) := by decide +kernel
theorem dX9_goesOn_47 : decode cX9_goesOn 47 = .ok (.aload_n 0, 1) := by decide +kernel
theorem dX9_goesOn_48 : decode cX9_goesOn 48 = .ok (.aload_n 0, 1) := by decide +kernel
theorem dX9_goesOn_49 : decode cX9_goesOn 49 = .ok (.getfield 99, 3) := by decide +kernel
theorem dX9_goesOn_52 : decode cX9_goesOn 52 = .ok (.invokevirtual 102, 3) := by decide +kernel
theorem dX9_goesOn_55 : decode cX9_goesOn 55 = .ok (.istore_n 1, 1) := by decide +kernel
theorem dX9_goesOn_56 : decode cX9_goesOn 56 = .ok (.aload_n 0, 1) := by decide +kernel
theorem dX9_goesOn_57 : decode cX9_goesOn 57 = .ok (.aload_n 0, 1) := by decide +kernel
theorem dX9_goesOn_58 : decode cX9_goesOn 58 = .ok (.getfield 99, 3) := by decide +kernel
theorem dX9_goesOn_61 : decode cX9_goesOn 61 = .ok (.iconst 1, 1) := by decide +kernel
theorem dX9_goesOn_62 : decode cX9_goesOn 62 = .ok (.iadd, 1) := by decide +kernel
theorem dX9_goesOn_63 : decode cX9_goesOn 63 = .ok (.putfield 96, 3) := by decide +kernel
theorem dX9_goesOn_66 : decode cX9_goesOn 66 = .ok (.aload_n 0, 1) := by decide +kernel
theorem dX9_goesOn_67 : decode cX9_goesOn 67 = .ok (.iconst 3, 1) := by decide +kernel
theorem dX9_goesOn_68 : decode cX9_goesOn 68 = .ok (.putfield 106, 3) := by decide +kernel
theorem dX9_goesOn_71 : decode cX9_goesOn 71 = .ok (.aload_n 0, 1) := by decide +kernel
theorem dX9_goesOn_72 : decode cX9_goesOn 72 = .ok (.iconst 0, 1) := by decide +kernel
theorem dX9_goesOn_73 : decode cX9_goesOn 73 = .ok (.putfield 109, 3) := by decide +kernel
theorem dX9_goesOn_76 : decode cX9_goesOn 76 = .ok (.aload_n 0, 1) := by decide +kernel
theorem dX9_goesOn_77 : decode cX9_goesOn 77 = .ok (.lconst 0, 1) := by decide +kernel
theorem dX9_goesOn_78 : decode cX9_goesOn 78 = .ok (.putfield 112, 3) := by decide +kernel
theorem dX9_goesOn_81 : decode cX9_goesOn 81 = .ok (.iload_n 1, 1) := by decide +kernel
theorem dX9_goesOn_82 : decode cX9_goesOn 82 = .ok (.iconst (-1), 1) := by decide +kernel
theorem dX9_goesOn_83 : decode cX9_goesOn 83 = .ok (.if_icmp .ne 19, 3) := by decide +kernel
theorem dX9_goesOn_86 : decode cX9_goesOn 86 = .ok (.aload_n 0, 1) := by decide +kernel
theorem dX9_goesOn_87 : decode cX9_goesOn 87 = .ok (.aload_n 0, 1) := by decide +kernel
theorem dX9_goesOn_88 : decode cX9_goesOn 88 = .ok (.getfield 99, 3) := by decide +kernel
theorem dX9_goesOn_91 : decode cX9_goesOn 91 = .ok (.putfield 96, 3) := by decide +kernel
theorem dX9_goesOn_94 : decode cX9_goesOn 94 = .ok (.aload_n 0, 1) := by decide +kernel
theorem dX9_goesOn_95 : decode cX9_goesOn 95 = .ok (.iconst 0, 1) := by decide +kernel
theorem dX9_goesOn_96 : decode cX9_goesOn 96 = .ok (.putfield 106, 3) := by decide +kernel
theorem dX9_goesOn_99 : decode cX9_goesOn 99 = .ok (.goto 265, 3) := by decide +kernel
theorem dX9_goesOn_102 : decode cX9_goesOn 102 = .ok (.iload_n 1, 1) := by decide +kernel
theorem dX9_goesOn_103 : decode cX9_goesOn 103 = .ok (.bipush 59, 2) := by decide +kernel
theorem dX9_goesOn_105 : decode cX9_goesOn 105 = .ok (.if_icmp .ne 11, 3) := by decide +kernel
theorem dX9_goesOn_108 : decode cX9_goesOn 108 = .ok (.aload_n 0, 1) := by decide +kernel
theorem dX9_goesOn_109 : decode cX9_goesOn 109 = .ok (.iload_n 1, 1) := by decide +kernel
theorem dX9_goesOn_110 : decode cX9_goesOn 110 = .ok (.putfield 106, 3) := by decide +kernel
theorem dX9_goesOn_113 : decode cX9_goesOn 113 = .ok (.goto 251, 3) := by decide +kernel
theorem dX9_goesOn_116 : decode cX9_goesOn 116 = .ok (.iload_n 1, 1) := by decide +kernel
theorem dX9_goesOn_117 : decode cX9_goesOn 117 = .ok (.i2l, 1) := by decide +kernel
theorem dX9_goesOn_118 : decode cX9_goesOn 118 = .ok (.ldc2_w 116, 3) := by decide +kernel
theorem dX9_goesOn_121 : decode cX9_goesOn 121 = .ok (.ldc2_w 118, 3) := by decide +kernel
theorem dX9_goesOn_124 : decode cX9_goesOn 124 = .ok (.invokestatic 120, 3) := by decide +kernel
theorem dX9_goesOn_127 : decode cX9_goesOn 127 = .ok (.ifCond .eq 116, 3) := by decide +kernel
theorem dX9_goesOn_130 : decode cX9_goesOn 130 = .ok (.aload_n 0, 1) := by decide +kernel
theorem dX9_goesOn_131 : decode cX9_goesOn 131 = .ok (.aload_n 0, 1) := by decide +kernel
theorem dX9_goesOn_132 : decode cX9_goesOn 132 = .ok (.getfield 99, 3) := by decide +kernel
theorem dX9_goesOn_135 : decode cX9_goesOn 135 = .ok (.putfield 96, 3) := by decide +kernel
theorem dX9_goesOn_138 : decode cX9_goesOn 138 = .ok (.aload_n 0, 1) := by decide +kernel
theorem dX9_goesOn_139 : decode cX9_goesOn 139 = .ok (.aload_n 0, 1) := by decide +kernel
theorem dX9_goesOn_140 : decode cX9_goesOn 140 = .ok (.getfield 96, 3) := by decide +kernel
theorem dX9_goesOn_143 : decode cX9_goesOn 143 = .ok (.invokevirtual 102, 3) := by decide +kernel
theorem dX9_goesOn_146 : decode cX9_goesOn 146 = .ok (.i2l, 1) := by decide +kernel
theorem dX9_goesOn_147 : decode cX9_goesOn 147 = .ok (.ldc2_w 116, 3) := by decide +kernel
theorem dX9_goesOn_150 : decode cX9_goesOn 150 = .ok (.ldc2_w 118, 3) := by decide +kernel
theorem dX9_goesOn_153 : decode cX9_goesOn 153 = .ok (.invokestatic 120, 3) := by decide +kernel
theorem dX9_goesOn_156 : decode cX9_goesOn 156 = .ok (.ifCond .eq 61, 3) := by decide +kernel
theorem dX9_goesOn_159 : decode cX9_goesOn 159 = .ok (.aload_n 0, 1) := by decide +kernel
theorem dX9_goesOn_160 : decode cX9_goesOn 160 = .ok (.aload_n 0, 1) := by decide +kernel
theorem dX9_goesOn_161 : decode cX9_goesOn 161 = .ok (.getfield 96, 3) := by decide +kernel
theorem dX9_goesOn_164 : decode cX9_goesOn 164 = .ok (.aload_n 0, 1) := by decide +kernel
theorem dX9_goesOn_165 : decode cX9_goesOn 165 = .ok (.getfield 99, 3) := by decide +kernel
theorem dX9_goesOn_168 : decode cX9_goesOn 168 = .ok (.isub, 1) := by decide +kernel
theorem dX9_goesOn_169 : decode cX9_goesOn 169 = .ok (.bipush 6, 2) := by decide +kernel
theorem dX9_goesOn_171 : decode cX9_goesOn 171 = .ok (.if_icmp .ge 26, 3) := by decide +kernel
theorem dX9_goesOn_174 : decode cX9_goesOn 174 = .ok (.aload_n 0, 1) := by decide +kernel
theorem dX9_goesOn_175 : decode cX9_goesOn 175 = .ok (.getfield 112, 3) := by decide +kernel
theorem dX9_goesOn_178 : decode cX9_goesOn 178 = .ok (.iconst 5, 1) := by decide +kernel
theorem dX9_goesOn_179 : decode cX9_goesOn 179 = .ok (.lshl, 1) := by decide +kernel
theorem dX9_goesOn_180 : decode cX9_goesOn 180 = .ok (.aload_n 0, 1) := by decide +kernel
theorem dX9_goesOn_181 : decode cX9_goesOn 181 = .ok (.aload_n 0, 1) := by decide +kernel
theorem dX9_goesOn_182 : decode cX9_goesOn 182 = .ok (.getfield 96, 3) := by decide +kernel
theorem dX9_goesOn_185 : decode cX9_goesOn 185 = .ok (.invokevirtual 102, 3) := by decide +kernel
theorem dX9_goesOn_188 : decode cX9_goesOn 188 = .ok (.i2l, 1) := by decide +kernel
theorem dX9_goesOn_189 : decode cX9_goesOn 189 = .ok (.ldc2_w 124, 3) := by decide +kernel
theorem dX9_goesOn_192 : decode cX9_goesOn 192 = .ok (.lsub, 1) := by decide +kernel
theorem dX9_goesOn_193 : decode cX9_goesOn 193 = .ok (.lor, 1) := by decide +kernel
theorem dX9_goesOn_194 : decode cX9_goesOn 194 = .ok (.goto 7, 3) := by decide +kernel
theorem dX9_goesOn_197 : decode cX9_goesOn 197 = .ok (.aload_n 0, 1) := by decide +kernel
theorem dX9_goesOn_198 : decode cX9_goesOn 198 = .ok (.getfield 112, 3) := by decide +kernel
theorem dX9_goesOn_201 : decode cX9_goesOn 201 = .ok (.putfield 112, 3) := by decide +kernel
theorem dX9_goesOn_204 : decode cX9_goesOn 204 = .ok (.aload_n 0, 1) := by decide +kernel
theorem dX9_goesOn_205 : decode cX9_goesOn 205 = .ok (.dup, 1) := by decide +kernel
theorem dX9_goesOn_206 : decode cX9_goesOn 206 = .ok (.getfield 96, 3) := by decide +kernel
theorem dX9_goesOn_209 : decode cX9_goesOn 209 = .ok (.iconst 1, 1) := by decide +kernel
theorem dX9_goesOn_210 : decode cX9_goesOn 210 = .ok (.iadd, 1) := by decide +kernel
theorem dX9_goesOn_211 : decode cX9_goesOn 211 = .ok (.putfield 96, 3) := by decide +kernel
theorem dX9_goesOn_214 : decode cX9_goesOn 214 = .ok (.goto (-76), 3) := by decide +kernel
theorem dX9_goesOn_217 : decode cX9_goesOn 217 = .ok (.aload_n 0, 1) := by decide +kernel
theorem dX9_goesOn_218 : decode cX9_goesOn 218 = .ok (.aload_n 0, 1) := by decide +kernel
theorem dX9_goesOn_219 : decode cX9_goesOn 219 = .ok (.getfield 96, 3) := by decide +kernel
theorem dX9_goesOn_222 : decode cX9_goesOn 222 = .ok (.aload_n 0, 1) := by decide +kernel
theorem dX9_goesOn_223 : decode cX9_goesOn 223 = .ok (.getfield 99, 3) := by decide +kernel
theorem dX9_goesOn_226 : decode cX9_goesOn 226 = .ok (.isub, 1) := by decide +kernel
theorem dX9_goesOn_227 : decode cX9_goesOn 227 = .ok (.bipush 7, 2) := by decide +kernel
theorem dX9_goesOn_229 : decode cX9_goesOn 229 = .ok (.if_icmp .ge 7, 3) := by decide +kernel
theorem dX9_goesOn_232 : decode cX9_goesOn 232 = .ok (.iconst 1, 1) := by decide +kernel
theorem dX9_goesOn_233 : decode cX9_goesOn 233 = .ok (.goto 4, 3) := by decide +kernel
theorem dX9_goesOn_236 : decode cX9_goesOn 236 = .ok (.iconst 3, 1) := by decide +kernel
theorem dX9_goesOn_237 : decode cX9_goesOn 237 = .ok (.putfield 106, 3) := by decide +kernel
theorem dX9_goesOn_240 : decode cX9_goesOn 240 = .ok (.goto 124, 3) := by decide +kernel
theorem dX9_goesOn_243 : decode cX9_goesOn 243 = .ok (.iload_n 1, 1) := by decide +kernel
theorem dX9_goesOn_244 : decode cX9_goesOn 244 = .ok (.i2l, 1) := by decide +kernel
theorem dX9_goesOn_245 : decode cX9_goesOn 245 = .ok (.ldc2_w 126, 3) := by decide +kernel
theorem dX9_goesOn_248 : decode cX9_goesOn 248 = .ok (.ldc2_w 128, 3) := by decide +kernel
theorem dX9_goesOn_251 : decode cX9_goesOn 251 = .ok (.invokestatic 120, 3) := by decide +kernel
theorem dX9_goesOn_254 : decode cX9_goesOn 254 = .ok (.ifCond .eq 110, 3) := by decide +kernel
theorem dX9_goesOn_257 : decode cX9_goesOn 257 = .ok (.aload_n 0, 1) := by decide +kernel
theorem dX9_goesOn_258 : decode cX9_goesOn 258 = .ok (.aload_n 0, 1) := by decide +kernel
theorem dX9_goesOn_259 : decode cX9_goesOn 259 = .ok (.getfield 99, 3) := by decide +kernel
theorem dX9_goesOn_262 : decode cX9_goesOn 262 = .ok (.putfield 96, 3) := by decide +kernel
theorem dX9_goesOn_265 : decode cX9_goesOn 265 = .ok (.aload_n 0, 1) := by decide +kernel
theorem dX9_goesOn_266 : decode cX9_goesOn 266 = .ok (.aload_n 0, 1) := by decide +kernel
theorem dX9_goesOn_267 : decode cX9_goesOn 267 = .ok (.getfield 96, 3) := by decide +kernel
theorem dX9_goesOn_270 : decode cX9_goesOn 270 = .ok (.invokevirtual 102, 3) := by decide +kernel
theorem dX9_goesOn_273 : decode cX9_goesOn 273 = .ok (.i2l, 1) := by decide +kernel
theorem dX9_goesOn_274 : decode cX9_goesOn 274 = .ok (.ldc2_w 126, 3) := by decide +kernel
theorem dX9_goesOn_277 : decode cX9_goesOn 277 = .ok (.ldc2_w 128, 3) := by decide +kernel
theorem dX9_goesOn_280 : decode cX9_goesOn 280 = .ok (.invokestatic 120, 3) := by decide +kernel
theorem dX9_goesOn_283 : decode cX9_goesOn 283 = .ok (.ifCond .eq 59, 3) := by decide +kernel
theorem dX9_goesOn_286 : decode cX9_goesOn 286 = .ok (.aload_n 0, 1) := by decide +kernel
theorem dX9_goesOn_287 : decode cX9_goesOn 287 = .ok (.aload_n 0, 1) := by decide +kernel
theorem dX9_goesOn_288 : decode cX9_goesOn 288 = .ok (.getfield 96, 3) := by decide +kernel
theorem dX9_goesOn_291 : decode cX9_goesOn 291 = .ok (.aload_n 0, 1) := by decide +kernel
theorem dX9_goesOn_292 : decode cX9_goesOn 292 = .ok (.getfield 99, 3) := by decide +kernel
theorem dX9_goesOn_295 : decode cX9_goesOn 295 = .ok (.isub, 1) := by decide +kernel
theorem dX9_goesOn_296 : decode cX9_goesOn 296 = .ok (.iconst 4, 1) := by decide +kernel
theorem dX9_goesOn_297 : decode cX9_goesOn 297 = .ok (.if_icmp .ge 25, 3) := by decide +kernel
theorem dX9_goesOn_300 : decode cX9_goesOn 300 = .ok (.bipush 10, 2) := by decide +kernel
theorem dX9_goesOn_302 : decode cX9_goesOn 302 = .ok (.aload_n 0, 1) := by decide +kernel
theorem dX9_goesOn_303 : decode cX9_goesOn 303 = .ok (.getfield 109, 3) := by decide +kernel
theorem dX9_goesOn_306 : decode cX9_goesOn 306 = .ok (.imul, 1) := by decide +kernel
theorem dX9_goesOn_307 : decode cX9_goesOn 307 = .ok (.aload_n 0, 1) := by decide +kernel
theorem dX9_goesOn_308 : decode cX9_goesOn 308 = .ok (.aload_n 0, 1) := by decide +kernel
theorem dX9_goesOn_309 : decode cX9_goesOn 309 = .ok (.getfield 96, 3) := by decide +kernel
theorem dX9_goesOn_312 : decode cX9_goesOn 312 = .ok (.invokevirtual 102, 3) := by decide +kernel
theorem dX9_goesOn_315 : decode cX9_goesOn 315 = .ok (.iadd, 1) := by decide +kernel
theorem dX9_goesOn_316 : decode cX9_goesOn 316 = .ok (.bipush 48, 2) := by decide +kernel
theorem dX9_goesOn_318 : decode cX9_goesOn 318 = .ok (.isub, 1) := by decide +kernel
theorem dX9_goesOn_319 : decode cX9_goesOn 319 = .ok (.goto 7, 3) := by decide +kernel
theorem dX9_goesOn_322 : decode cX9_goesOn 322 = .ok (.aload_n 0, 1) := by decide +kernel
theorem dX9_goesOn_323 : decode cX9_goesOn 323 = .ok (.getfield 109, 3) := by decide +kernel
theorem dX9_goesOn_326 : decode cX9_goesOn 326 = .ok (.putfield 109, 3) := by decide +kernel
theorem dX9_goesOn_329 : decode cX9_goesOn 329 = .ok (.aload_n 0, 1) := by decide +kernel
theorem dX9_goesOn_330 : decode cX9_goesOn 330 = .ok (.dup, 1) := by decide +kernel
theorem dX9_goesOn_331 : decode cX9_goesOn 331 = .ok (.getfield 96, 3) := by decide +kernel
theorem dX9_goesOn_334 : decode cX9_goesOn 334 = .ok (.iconst 1, 1) := by decide +kernel
theorem dX9_goesOn_335 : decode cX9_goesOn 335 = .ok (.iadd, 1) := by decide +kernel
theorem dX9_goesOn_336 : decode cX9_goesOn 336 = .ok (.putfield 96, 3) := by decide +kernel
theorem dX9_goesOn_339 : decode cX9_goesOn 339 = .ok (.goto (-74), 3) := by decide +kernel
theorem dX9_goesOn_342 : decode cX9_goesOn 342 = .ok (.aload_n 0, 1) := by decide +kernel
theorem dX9_goesOn_343 : decode cX9_goesOn 343 = .ok (.aload_n 0, 1) := by decide +kernel
theorem dX9_goesOn_344 : decode cX9_goesOn 344 = .ok (.getfield 96, 3) := by decide +kernel
theorem dX9_goesOn_347 : decode cX9_goesOn 347 = .ok (.aload_n 0, 1) := by decide +kernel
theorem dX9_goesOn_348 : decode cX9_goesOn 348 = .ok (.getfield 99, 3) := by decide +kernel
theorem dX9_goesOn_351 : decode cX9_goesOn 351 = .ok (.isub, 1) := by decide +kernel
theorem dX9_goesOn_352 : decode cX9_goesOn 352 = .ok (.iconst 5, 1) := by decide +kernel
theorem dX9_goesOn_353 : decode cX9_goesOn 353 = .ok (.if_icmp .ge 7, 3) := by decide +kernel
theorem dX9_goesOn_356 : decode cX9_goesOn 356 = .ok (.iconst 2, 1) := by decide +kernel
theorem dX9_goesOn_357 : decode cX9_goesOn 357 = .ok (.goto 4, 3) := by decide +kernel
theorem dX9_goesOn_360 : decode cX9_goesOn 360 = .ok (.iconst 3, 1) := by decide +kernel
theorem dX9_goesOn_361 : decode cX9_goesOn 361 = .ok (.putfield 106, 3) := by decide +kernel
theorem dX9_goesOn_364 : decode cX9_goesOn 364 = .ok (.return_, 1) := by decide +kernel
theorem dX9_must_0 : decode cX9_must 0 = .ok (.aload_n 0, 1) := by decide +kernel
theorem dX9_must_1 : decode cX9_must 1 = .ok (.getfield 130, 3) := by decide +kernel
theorem dX9_must_4 : decode cX9_must 4 = .ok (.ifCond .ne 20, 3) := by decide +kernel
theorem dX9_must_7 : decode cX9_must 7 = .ok (.iload_n 1, 1) := by decide +kernel
theorem dX9_must_8 : decode cX9_must 8 = .ok (.ifCond .ne 16, 3) := by decide +kernel
theorem dX9_must_11 : decode cX9_must 11 = .ok (.aload_n 0, 1) := by decide +kernel
theorem dX9_must_12 : decode cX9_must 12 = .ok (.iload_n 2, 1) := by decide +kernel
theorem dX9_must_13 : decode cX9_must 13 = .ok (.putfield 130, 3) := by decide +kernel
theorem dX9_must_16 : decode cX9_must 16 = .ok (.aload_n 0, 1) := by decide +kernel
theorem dX9_must_17 : decode cX9_must 17 = .ok (.aload_n 0, 1) := by decide +kernel
theorem dX9_must_18 : decode cX9_must 18 = .ok (.getfield 99, 3) := by decide +kernel
theorem dX9_must_21 : decode cX9_must 21 = .ok (.putfield 133, 3) := by decide +kernel
theorem dX9_must_24 : decode cX9_must 24 = .ok (.aload_n 0, 1) := by decide +kernel
theorem dX9_must_25 : decode cX9_must 25 = .ok (.getfield 130, 3) := by decide +kernel
theorem dX9_must_28 : decode cX9_must 28 = .ok (.ifCond .ne 7, 3) := by decide +kernel
theorem dX9_must_31 : decode cX9_must 31 = .ok (.iconst 1, 1) := by decide +kernel
theorem dX9_must_32 : decode cX9_must 32 = .ok (.goto 4, 3) := by decide +kernel
theorem dX9_must_35 : decode cX9_must 35 = .ok (.iconst 0, 1) := by decide +kernel
theorem dX9_must_36 : decode cX9_must 36 = .ok (.ireturn, 1) := by decide +kernel
theorem dX9_spelled_0 : decode cX9_spelled 0 = .ok (.lconst 0, 1) := by decide +kernel
theorem dX9_spelled_1 : decode cX9_spelled 1 = .ok (.lstore_n 1, 1) := by decide +kernel
theorem dX9_spelled_2 : decode cX9_spelled 2 = .ok (.iconst 0, 1) := by decide +kernel
theorem dX9_spelled_3 : decode cX9_spelled 3 = .ok (.istore_n 3, 1) := by decide +kernel
theorem dX9_spelled_4 : decode cX9_spelled 4 = .ok (.iload_n 3, 1) := by decide +kernel
theorem dX9_spelled_5 : decode cX9_spelled 5 = .ok (.aload_n 0, 1) := by decide +kernel
theorem dX9_spelled_6 : decode cX9_spelled 6 = .ok (.invokevirtual 136, 3) := by decide +kernel
theorem dX9_spelled_9 : decode cX9_spelled 9 = .ok (.if_icmp .ge 24, 3) := by decide +kernel
theorem dX9_spelled_12 : decode cX9_spelled 12 = .ok (.lload_n 1, 1) := by decide +kernel
theorem dX9_spelled_13 : decode cX9_spelled 13 = .ok (.iconst 5, 1) := by decide +kernel
theorem dX9_spelled_14 : decode cX9_spelled 14 = .ok (.lshl, 1) := by decide +kernel
theorem dX9_spelled_15 : decode cX9_spelled 15 = .ok (.aload_n 0, 1) := by decide +kernel
theorem dX9_spelled_16 : decode cX9_spelled 16 = .ok (.iload_n 3, 1) := by decide +kernel
theorem dX9_spelled_17 : decode cX9_spelled 17 = .ok (.invokevirtual 142, 3) := by decide +kernel
theorem dX9_spelled_20 : decode cX9_spelled 20 = .ok (.i2l, 1) := by decide +kernel
theorem dX9_spelled_21 : decode cX9_spelled 21 = .ok (.ldc2_w 124, 3) := by decide +kernel
theorem dX9_spelled_24 : decode cX9_spelled 24 = .ok (.lsub, 1) := by decide +kernel
theorem dX9_spelled_25 : decode cX9_spelled 25 = .ok (.lor, 1) := by decide +kernel
theorem dX9_spelled_26 : decode cX9_spelled 26 = .ok (.lstore_n 1, 1) := by decide +kernel
theorem dX9_spelled_27 : decode cX9_spelled 27 = .ok (.iinc 3 1, 3) := by decide +kernel
theorem dX9_spelled_30 : decode cX9_spelled 30 = .ok (.goto (-26), 3) := by decide +kernel
theorem dX9_spelled_33 : decode cX9_spelled 33 = .ok (.lload_n 1, 1) := by decide +kernel
theorem dX9_spelled_34 : decode cX9_spelled 34 = .ok (.lreturn, 1) := by decide +kernel
theorem dX9_is_0 : decode cX9_is 0 = .ok (.aload_n 0, 1) := by decide +kernel
theorem dX9_is_1 : decode cX9_is 1 = .ok (.getfield 130, 3) := by decide +kernel
theorem dX9_is_4 : decode cX9_is 4 = .ok (.ifCond .ne 27, 3) := by decide +kernel
theorem dX9_is_7 : decode cX9_is 7 = .ok (.aload_n 0, 1) := by decide +kernel
theorem dX9_is_8 : decode cX9_is 8 = .ok (.getfield 106, 3) := by decide +kernel
theorem dX9_is_11 : decode cX9_is 11 = .ok (.iconst 1, 1) := by decide +kernel
theorem dX9_is_12 : decode cX9_is 12 = .ok (.if_icmp .ne 19, 3) := by decide +kernel
theorem dX9_is_15 : decode cX9_is 15 = .ok (.aload_n 0, 1) := by decide +kernel
theorem dX9_is_16 : decode cX9_is 16 = .ok (.getfield 112, 3) := by decide +kernel
theorem dX9_is_19 : decode cX9_is 19 = .ok (.aload_n 1, 1) := by decide +kernel
theorem dX9_is_20 : decode cX9_is 20 = .ok (.invokestatic 146, 3) := by decide +kernel
theorem dX9_is_23 : decode cX9_is 23 = .ok (.lcmp, 1) := by decide +kernel
theorem dX9_is_24 : decode cX9_is 24 = .ok (.ifCond .ne 7, 3) := by decide +kernel
theorem dX9_is_27 : decode cX9_is 27 = .ok (.iconst 1, 1) := by decide +kernel
theorem dX9_is_28 : decode cX9_is 28 = .ok (.goto 4, 3) := by decide +kernel
theorem dX9_is_31 : decode cX9_is 31 = .ok (.iconst 0, 1) := by decide +kernel
theorem dX9_is_32 : decode cX9_is 32 = .ok (.ireturn, 1) := by decide +kernel
theorem dX9_isOwn_0 : decode cX9_isOwn 0 = .ok (.aload_n 0, 1) := by decide +kernel
theorem dX9_isOwn_1 : decode cX9_isOwn 1 = .ok (.ldc 150, 2) := by decide +kernel
theorem dX9_isOwn_3 : decode cX9_isOwn 3 = .ok (.invokevirtual 152, 3) := by decide +kernel
theorem dX9_isOwn_6 : decode cX9_isOwn 6 = .ok (.ifCond .ne 57, 3) := by decide +kernel
theorem dX9_isOwn_9 : decode cX9_isOwn 9 = .ok (.aload_n 0, 1) := by decide +kernel
theorem dX9_isOwn_10 : decode cX9_isOwn 10 = .ok (.ldc 156, 2) := by decide +kernel
theorem dX9_isOwn_12 : decode cX9_isOwn 12 = .ok (.invokevirtual 152, 3) := by decide +kernel
theorem dX9_isOwn_15 : decode cX9_isOwn 15 = .ok (.ifCond .ne 48, 3) := by decide +kernel
theorem dX9_isOwn_18 : decode cX9_isOwn 18 = .ok (.aload_n 0, 1) := by decide +kernel
theorem dX9_isOwn_19 : decode cX9_isOwn 19 = .ok (.ldc 157, 2) := by decide +kernel
theorem dX9_isOwn_21 : decode cX9_isOwn 21 = .ok (.invokevirtual 152, 3) := by decide +kernel
theorem dX9_isOwn_24 : decode cX9_isOwn 24 = .ok (.ifCond .ne 39, 3) := by decide +kernel
theorem dX9_isOwn_27 : decode cX9_isOwn 27 = .ok (.aload_n 0, 1) := by decide +kernel
theorem dX9_isOwn_28 : decode cX9_isOwn 28 = .ok (.ldc 159, 2) := by decide +kernel
theorem dX9_isOwn_30 : decode cX9_isOwn 30 = .ok (.invokevirtual 152, 3) := by decide +kernel
theorem dX9_isOwn_33 : decode cX9_isOwn 33 = .ok (.ifCond .ne 30, 3) := by decide +kernel
theorem dX9_isOwn_36 : decode cX9_isOwn 36 = .ok (.aload_n 0, 1) := by decide +kernel
theorem dX9_isOwn_37 : decode cX9_isOwn 37 = .ok (.ldc 161, 2) := by decide +kernel
theorem dX9_isOwn_39 : decode cX9_isOwn 39 = .ok (.invokevirtual 152, 3) := by decide +kernel
theorem dX9_isOwn_42 : decode cX9_isOwn 42 = .ok (.ifCond .ne 21, 3) := by decide +kernel
theorem dX9_isOwn_45 : decode cX9_isOwn 45 = .ok (.aload_n 0, 1) := by decide +kernel
theorem dX9_isOwn_46 : decode cX9_isOwn 46 = .ok (.ldc 162, 2) := by decide +kernel
theorem dX9_isOwn_48 : decode cX9_isOwn 48 = .ok (.invokevirtual 152, 3) := by decide +kernel
theorem dX9_isOwn_51 : decode cX9_isOwn 51 = .ok (.ifCond .ne 12, 3) := by decide +kernel
theorem dX9_isOwn_54 : decode cX9_isOwn 54 = .ok (.aload_n 0, 1) := by decide +kernel
theorem dX9_isOwn_55 : decode cX9_isOwn 55 = .ok (.ldc 163, 2) := by decide +kernel
theorem dX9_isOwn_57 : decode cX9_isOwn 57 = .ok (.invokevirtual 152, 3) := by decide +kernel
theorem dX9_isOwn_60 : decode cX9_isOwn 60 = .ok (.ifCond .eq 7, 3) := by decide +kernel
theorem dX9_isOwn_63 : decode cX9_isOwn 63 = .ok (.iconst 1, 1) := by decide +kernel
theorem dX9_isOwn_64 : decode cX9_isOwn 64 = .ok (.goto 4, 3) := by decide +kernel
theorem dX9_isOwn_67 : decode cX9_isOwn 67 = .ok (.iconst 0, 1) := by decide +kernel
theorem dX9_isOwn_68 : decode cX9_isOwn 68 = .ok (.ireturn, 1) := by decide +kernel
theorem dX9_isName_0 : decode cX9_isName 0 = .ok (.aload_n 0, 1) := by decide +kernel
theorem dX9_isName_1 : decode cX9_isName 1 = .ok (.getfield 106, 3) := by decide +kernel
theorem dX9_isName_4 : decode cX9_isName 4 = .ok (.iconst 1, 1) := by decide +kernel
theorem dX9_isName_5 : decode cX9_isName 5 = .ok (.if_icmp .ne 14, 3) := by decide +kernel
theorem dX9_isName_8 : decode cX9_isName 8 = .ok (.aload_n 0, 1) := by decide +kernel
theorem dX9_isName_9 : decode cX9_isName 9 = .ok (.invokevirtual 165, 3) := by decide +kernel
theorem dX9_isName_12 : decode cX9_isName 12 = .ok (.ifCond .ne 7, 3) := by decide +kernel
theorem dX9_isName_15 : decode cX9_isName 15 = .ok (.iconst 1, 1) := by decide +kernel
theorem dX9_isName_16 : decode cX9_isName 16 = .ok (.goto 4, 3) := by decide +kernel
theorem dX9_isName_19 : decode cX9_isName 19 = .ok (.iconst 0, 1) := by decide +kernel
theorem dX9_isName_20 : decode cX9_isName 20 = .ok (.ireturn, 1) := by decide +kernel
theorem dX9_number_0 : decode cX9_number 0 = .ok (.aload_n 0, 1) := by decide +kernel
theorem dX9_number_1 : decode cX9_number 1 = .ok (.aload_n 0, 1) := by decide +kernel
theorem dX9_number_2 : decode cX9_number 2 = .ok (.getfield 106, 3) := by decide +kernel
theorem dX9_number_5 : decode cX9_number 5 = .ok (.iconst 2, 1) := by decide +kernel
theorem dX9_number_6 : decode cX9_number 6 = .ok (.if_icmp .ne 7, 3) := by decide +kernel
theorem dX9_number_9 : decode cX9_number 9 = .ok (.iconst 1, 1) := by decide +kernel
theorem dX9_number_10 : decode cX9_number 10 = .ok (.goto 4, 3) := by decide +kernel
theorem dX9_number_13 : decode cX9_number 13 = .ok (.iconst 0, 1) := by decide +kernel
theorem dX9_number_14 : decode cX9_number 14 = .ok (.iconst 1, 1) := by decide +kernel
