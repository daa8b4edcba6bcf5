theorem dX6_init_0 : decode cX6_init 0 = .ok (.aload_n 0, 1) := by decide +kernel
theorem dX6_init_1 : decode cX6_init 1 = .ok (.invokespecial 1, 3) := by decide +kernel
theorem dX6_init_4 : decode cX6_init 4 = .ok (.aload_n 0, 1) := by decide +kernel
theorem dX6_init_5 : decode cX6_init 5 = .ok (.new 7, 3) := by decide +kernel
theorem dX6_init_8 : decode cX6_init 8 = .ok (.dup, 1) := by decide +kernel
theorem dX6_init_9 : decode cX6_init 9 = .ok (.sipush 520, 3) := by decide +kernel
theorem dX6_init_12 : decode cX6_init 12 = .ok (.invokespecial 11, 3) := by decide +kernel
theorem dX6_init_15 : decode cX6_init 15 = .ok (.putfield 14, 3) := by decide +kernel
theorem dX6_init_18 : decode cX6_init 18 = .ok (.aload_n 0, 1) := by decide +kernel
theorem dX6_init_19 : decode cX6_init 19 = .ok (.new 7, 3) := by decide +kernel
theorem dX6_init_22 : decode cX6_init 22 = .ok (.dup, 1) := by decide +kernel
theorem dX6_init_23 : decode cX6_init 23 = .ok (.sipush 513, 3) := by decide +kernel
theorem dX6_init_26 : decode cX6_init 26 = .ok (.invokespecial 11, 3) := by decide +kernel
theorem dX6_init_29 : decode cX6_init 29 = .ok (.putfield 18, 3) := by decide +kernel
theorem dX6_init_32 : decode cX6_init 32 = .ok (.aload_n 0, 1) := by decide +kernel
theorem dX6_init_33 : decode cX6_init 33 = .ok (.new 7, 3) := by decide +kernel
theorem dX6_init_36 : decode cX6_init 36 = .ok (.dup, 1) := by decide +kernel
theorem dX6_init_37 : decode cX6_init 37 = .ok (.sipush 257, 3) := by decide +kernel
theorem dX6_init_40 : decode cX6_init 40 = .ok (.invokespecial 11, 3) := by decide +kernel
theorem dX6_init_43 : decode cX6_init 43 = .ok (.putfield 23, 3) := by decide +kernel
theorem dX6_init_46 : decode cX6_init 46 = .ok (.aload_n 0, 1) := by decide +kernel
theorem dX6_init_47 : decode cX6_init 47 = .ok (.new 7, 3) := by decide +kernel
theorem dX6_init_50 : decode cX6_init 50 = .ok (.dup, 1) := by decide +kernel
theorem dX6_init_51 : decode cX6_init 51 = .ok (.sipush 257, 3) := by decide +kernel
theorem dX6_init_54 : decode cX6_init 54 = .ok (.invokespecial 11, 3) := by decide +kernel
theorem dX6_init_57 : decode cX6_init 57 = .ok (.putfield 26, 3) := by decide +kernel
theorem dX6_init_60 : decode cX6_init 60 = .ok (.aload_n 0, 1) := by decide +kernel
theorem dX6_init_61 : decode cX6_init 61 = .ok (.new 21, 3) := by decide +kernel
theorem dX6_init_64 : decode cX6_init 64 = .ok (.dup, 1) := by decide +kernel
theorem dX6_init_65 : decode cX6_init 65 = .ok (.invokespecial 29, 3) := by decide +kernel
theorem dX6_init_68 : decode cX6_init 68 = .ok (.putfield 30, 3) := by decide +kernel
theorem dX6_init_71 : decode cX6_init 71 = .ok (.aload_n 0, 1) := by decide +kernel
theorem dX6_init_72 : decode cX6_init 72 = .ok (.new 21, 3) := by decide +kernel
theorem dX6_init_75 : decode cX6_init 75 = .ok (.dup, 1) := by decide +kernel
theorem dX6_init_76 : decode cX6_init 76 = .ok (.invokespecial 29, 3) := by decide +kernel
theorem dX6_init_79 : decode cX6_init 79 = .ok (.putfield 34, 3) := by decide +kernel
theorem dX6_init_82 : decode cX6_init 82 = .ok (.aload_n 0, 1) := by decide +kernel
theorem dX6_init_83 : decode cX6_init 83 = .ok (.new 21, 3) := by decide +kernel
theorem dX6_init_86 : decode cX6_init 86 = .ok (.dup, 1) := by decide +kernel
theorem dX6_init_87 : decode cX6_init 87 = .ok (.invokespecial 29, 3) := by decide +kernel
theorem dX6_init_90 : decode cX6_init 90 = .ok (.putfield 37, 3) := by decide +kernel
theorem dX6_init_93 : decode cX6_init 93 = .ok (.aload_n 0, 1) := by decide +kernel
theorem dX6_init_94 : decode cX6_init 94 = .ok (.new 40, 3) := by decide +kernel
theorem dX6_init_97 : decode cX6_init 97 = .ok (.dup, 1) := by decide +kernel
theorem dX6_init_98 : decode cX6_init 98 = .ok (.invokespecial 42, 3) := by decide +kernel
theorem dX6_init_101 : decode cX6_init 101 = .ok (.putfield 43, 3) := by decide +kernel
theorem dX6_init_104 : decode cX6_init 104 = .ok (.aload_n 0, 1) := by decide +kernel
theorem dX6_init_105 : decode cX6_init 105 = .ok (.new 47, 3) := by decide +kernel
theorem dX6_init_108 : decode cX6_init 108 = .ok (.dup, 1) := by decide +kernel
theorem dX6_init_109 : decode cX6_init 109 = .ok (.invokespecial 49, 3) := by decide +kernel
theorem dX6_init_112 : decode cX6_init 112 = .ok (.putfield 50, 3) := by decide +kernel
theorem dX6_init_115 : decode cX6_init 115 = .ok (.aload_n 0, 1) := by decide +kernel
theorem dX6_init_116 : decode cX6_init 116 = .ok (.bipush 24, 2) := by decide +kernel
theorem dX6_init_118 : decode cX6_init 118 = .ok (.anewarray 54, 3) := by decide +kernel
theorem dX6_init_121 : decode cX6_init 121 = .ok (.putfield 56, 3) := by decide +kernel
theorem dX6_init_124 : decode cX6_init 124 = .ok (.return_, 1) := by decide +kernel
theorem dX6_lamp_0 : decode cX6_lamp 0 = .ok (.iload_n 1, 1) := by decide +kernel
theorem dX6_lamp_1 : decode cX6_lamp 1 = .ok (.iconst 1, 1) := by decide +kernel
theorem dX6_lamp_2 : decode cX6_lamp 2 = .ok (.if_icmp .lt 24, 3) := by decide +kernel
theorem dX6_lamp_5 : decode cX6_lamp 5 = .ok (.iload_n 1, 1) := by decide +kernel
theorem dX6_lamp_6 : decode cX6_lamp 6 = .ok (.sipush 32767, 3) := by decide +kernel
theorem dX6_lamp_9 : decode cX6_lamp 9 = .ok (.if_icmp .gt 17, 3) := by decide +kernel
theorem dX6_lamp_12 : decode cX6_lamp 12 = .ok (.lload_n 2, 1) := by decide +kernel
theorem dX6_lamp_13 : decode cX6_lamp 13 = .ok (.lconst 0, 1) := by decide +kernel
theorem dX6_lamp_14 : decode cX6_lamp 14 = .ok (.lcmp, 1) := by decide +kernel
theorem dX6_lamp_15 : decode cX6_lamp 15 = .ok (.ifCond .lt 11, 3) := by decide +kernel
theorem dX6_lamp_18 : decode cX6_lamp 18 = .ok (.lload_n 2, 1) := by decide +kernel
theorem dX6_lamp_19 : decode cX6_lamp 19 = .ok (.ldc2_w 60, 3) := by decide +kernel
theorem dX6_lamp_22 : decode cX6_lamp 22 = .ok (.lcmp, 1) := by decide +kernel
theorem dX6_lamp_23 : decode cX6_lamp 23 = .ok (.ifCond .lt 13, 3) := by decide +kernel
theorem dX6_lamp_26 : decode cX6_lamp 26 = .ok (.new 62, 3) := by decide +kernel
theorem dX6_lamp_29 : decode cX6_lamp 29 = .ok (.dup, 1) := by decide +kernel
theorem dX6_lamp_30 : decode cX6_lamp 30 = .ok (.ldc 64, 2) := by decide +kernel
theorem dX6_lamp_32 : decode cX6_lamp 32 = .ok (.invokespecial 66, 3) := by decide +kernel
theorem dX6_lamp_35 : decode cX6_lamp 35 = .ok (.athrow, 1) := by decide +kernel
theorem dX6_lamp_36 : decode cX6_lamp 36 = .ok (.iload 4, 2) := by decide +kernel
theorem dX6_lamp_38 : decode cX6_lamp 38 = .ok (.iconst 1, 1) := by decide +kernel
theorem dX6_lamp_39 : decode cX6_lamp 39 = .ok (.if_icmp .lt 23, 3) := by decide +kernel
theorem dX6_lamp_42 : decode cX6_lamp 42 = .ok (.iload 4, 2) := by decide +kernel
theorem dX6_lamp_44 : decode cX6_lamp 44 = .ok (.bipush 64, 2) := by decide +kernel
theorem dX6_lamp_46 : decode cX6_lamp 46 = .ok (.if_icmp .gt 16, 3) := by decide +kernel
theorem dX6_lamp_49 : decode cX6_lamp 49 = .ok (.iload 5, 2) := by decide +kernel
theorem dX6_lamp_51 : decode cX6_lamp 51 = .ok (.iconst 1, 1) := by decide +kernel
theorem dX6_lamp_52 : decode cX6_lamp 52 = .ok (.if_icmp .lt 10, 3) := by decide +kernel
theorem dX6_lamp_55 : decode cX6_lamp 55 = .ok (.iload 5, 2) := by decide +kernel
theorem dX6_lamp_57 : decode cX6_lamp 57 = .ok (.bipush 8, 2) := by decide +kernel
theorem dX6_lamp_59 : decode cX6_lamp 59 = .ok (.if_icmp .le 13, 3) := by decide +kernel
theorem dX6_lamp_62 : decode cX6_lamp 62 = .ok (.new 62, 3) := by decide +kernel
theorem dX6_lamp_65 : decode cX6_lamp 65 = .ok (.dup, 1) := by decide +kernel
theorem dX6_lamp_66 : decode cX6_lamp 66 = .ok (.ldc 69, 2) := by decide +kernel
theorem dX6_lamp_68 : decode cX6_lamp 68 = .ok (.invokespecial 66, 3) := by decide +kernel
theorem dX6_lamp_71 : decode cX6_lamp 71 = .ok (.athrow, 1) := by decide +kernel
theorem dX6_lamp_72 : decode cX6_lamp 72 = .ok (.iload 6, 2) := by decide +kernel
theorem dX6_lamp_74 : decode cX6_lamp 74 = .ok (.iload 4, 2) := by decide +kernel
theorem dX6_lamp_76 : decode cX6_lamp 76 = .ok (.invokestatic 71, 3) := by decide +kernel
theorem dX6_lamp_79 : decode cX6_lamp 79 = .ok (.ifCond .ne 13, 3) := by decide +kernel
theorem dX6_lamp_82 : decode cX6_lamp 82 = .ok (.new 62, 3) := by decide +kernel
theorem dX6_lamp_85 : decode cX6_lamp 85 = .ok (.dup, 1) := by decide +kernel
theorem dX6_lamp_86 : decode cX6_lamp 86 = .ok (.ldc 75, 2) := by decide +kernel
theorem dX6_lamp_88 : decode cX6_lamp 88 = .ok (.invokespecial 66, 3) := by decide +kernel
theorem dX6_lamp_91 : decode cX6_lamp 91 = .ok (.athrow, 1) := by decide +kernel
theorem dX6_lamp_92 : decode cX6_lamp 92 = .ok (.iload_n 1, 1) := by decide +kernel
theorem dX6_lamp_93 : decode cX6_lamp 93 = .ok (.lload_n 2, 1) := by decide +kernel
theorem dX6_lamp_94 : decode cX6_lamp 94 = .ok (.invokestatic 77, 3) := by decide +kernel
theorem dX6_lamp_97 : decode cX6_lamp 97 = .ok (.lstore 7, 2) := by decide +kernel
theorem dX6_lamp_99 : decode cX6_lamp 99 = .ok (.aload_n 0, 1) := by decide +kernel
theorem dX6_lamp_100 : decode cX6_lamp 100 = .ok (.lload 7, 2) := by decide +kernel
theorem dX6_lamp_102 : decode cX6_lamp 102 = .ok (.invokevirtual 81, 3) := by decide +kernel
theorem dX6_lamp_105 : decode cX6_lamp 105 = .ok (.ifCond .eq 13, 3) := by decide +kernel
theorem dX6_lamp_108 : decode cX6_lamp 108 = .ok (.new 62, 3) := by decide +kernel
theorem dX6_lamp_111 : decode cX6_lamp 111 = .ok (.dup, 1) := by decide +kernel
theorem dX6_lamp_112 : decode cX6_lamp 112 = .ok (.ldc 85, 2) := by decide +kernel
theorem dX6_lamp_114 : decode cX6_lamp 114 = .ok (.invokespecial 66, 3) := by decide +kernel
theorem dX6_lamp_117 : decode cX6_lamp 117 = .ok (.athrow, 1) := by decide +kernel
theorem dX6_lamp_118 : decode cX6_lamp 118 = .ok (.aload_n 0, 1) := by decide +kernel
theorem dX6_lamp_119 : decode cX6_lamp 119 = .ok (.getfield 87, 3) := by decide +kernel
theorem dX6_lamp_122 : decode cX6_lamp 122 = .ok (.bipush 24, 2) := by decide +kernel
theorem dX6_lamp_124 : decode cX6_lamp 124 = .ok (.if_icmp .lt 13, 3) := by decide +kernel
theorem dX6_lamp_127 : decode cX6_lamp 127 = .ok (.new 91, 3) := by decide +kernel
theorem dX6_lamp_130 : decode cX6_lamp 130 = .ok (.dup, 1) := by decide +kernel
theorem dX6_lamp_131 : decode cX6_lamp 131 = .ok (.ldc 93, 2) := by decide +kernel
theorem dX6_lamp_133 : decode cX6_lamp 133 = .ok (.invokespecial 95, 3) := by decide +kernel
theorem dX6_lamp_136 : decode cX6_lamp 136 = .ok (.athrow, 1) := by decide +kernel
theorem dX6_lamp_137 : decode cX6_lamp 137 = .ok (.aload_n 0, 1) := by decide +kernel
theorem dX6_lamp_138 : decode cX6_lamp 138 = .ok (.getfield 56, 3) := by decide +kernel
theorem dX6_lamp_141 : decode cX6_lamp 141 = .ok (.aload_n 0, 1) := by decide +kernel
theorem dX6_lamp_142 : decode cX6_lamp 142 = .ok (.getfield 87, 3) := by decide +kernel
theorem dX6_lamp_145 : decode cX6_lamp 145 = .ok (.new 54, 3) := by decide +kernel
theorem dX6_lamp_148 : decode cX6_lamp 148 = .ok (.dup, 1) := by decide +kernel
theorem dX6_lamp_149 : decode cX6_lamp 149 = .ok (.lload 7, 2) := by decide +kernel
theorem dX6_lamp_151 : decode cX6_lamp 151 = .ok (.iload 4, 2) := by decide +kernel
theorem dX6_lamp_153 : decode cX6_lamp 153 = .ok (.iload 5, 2) := by decide +kernel
theorem dX6_lamp_155 : decode cX6_lamp 155 = .ok (.iload 6, 2) := by decide +kernel
theorem dX6_lamp_157 : decode cX6_lamp 157 = .ok (.invokespecial 96, 3) := by decide +kernel
theorem dX6_lamp_160 : decode cX6_lamp 160 = .ok (.aastore, 1) := by decide +kernel
theorem dX6_lamp_161 : decode cX6_lamp 161 = .ok (.aload_n 0, 1) := by decide +kernel
theorem dX6_lamp_162 : decode cX6_lamp 162 = .ok (.dup, 1) := by decide +kernel
theorem dX6_lamp_163 : decode cX6_lamp 163 = .ok (.getfield 87, 3) := by decide +kernel
theorem dX6_lamp_166 : decode cX6_lamp 166 = .ok (.iconst 1, 1) := by decide +kernel
theorem dX6_lamp_167 : decode cX6_lamp 167 = .ok (.iadd, 1) := by decide +kernel
theorem dX6_lamp_168 : decode cX6_lamp 168 = .ok (.putfield 87, 3) := by decide +kernel
theorem dX6_lamp_171 : decode cX6_lamp 171 = .ok (.aload_n 0, 1) := by decide +kernel
theorem dX6_lamp_172 : decode cX6_lamp 172 = .ok (.getfield 87, 3) := by decide +kernel
theorem dX6_lamp_175 : decode cX6_lamp 175 = .ok (.iconst 1, 1) := by decide +kernel
theorem dX6_lamp_176 : decode cX6_lamp 176 = .ok (.isub, 1) := by decide +kernel
theorem dX6_lamp_177 : decode cX6_lamp 177 = .ok (.ireturn, 1) := by decide +kernel
theorem dX6_feed_0 : decode cX6_feed 0 = .ok (.aload_n 0, 1) := by decide +kernel
theorem dX6_feed_1 : decode cX6_feed 1 = .ok (.getfield 14, 3) := by decide +kernel
theorem dX6_feed_4 : decode cX6_feed 4 = .ok (.invokevirtual 99, 3) := by decide +kernel
theorem dX6_feed_7 : decode cX6_feed 7 = .ok (.bipush 20, 2) := by decide +kernel
theorem dX6_feed_9 : decode cX6_feed 9 = .ok (.iadd, 1) := by decide +kernel
theorem dX6_feed_10 : decode cX6_feed 10 = .ok (.sipush 520, 3) := by decide +kernel
theorem dX6_feed_13 : decode cX6_feed 13 = .ok (.if_icmp .le 13, 3) := by decide +kernel
theorem dX6_feed_16 : decode cX6_feed 16 = .ok (.new 91, 3) := by decide +kernel
theorem dX6_feed_19 : decode cX6_feed 19 = .ok (.dup, 1) := by decide +kernel
theorem dX6_feed_20 : decode cX6_feed 20 = .ok (.ldc 103, 2) := by decide +kernel
theorem dX6_feed_22 : decode cX6_feed 22 = .ok (.invokespecial 95, 3) := by decide +kernel
theorem dX6_feed_25 : decode cX6_feed 25 = .ok (.athrow, 1) := by decide +kernel
theorem dX6_feed_26 : decode cX6_feed 26 = .ok (.aload_n 0, 1) := by decide +kernel
theorem dX6_feed_27 : decode cX6_feed 27 = .ok (.getfield 14, 3) := by decide +kernel
theorem dX6_feed_30 : decode cX6_feed 30 = .ok (.iload_n 1, 1) := by decide +kernel
theorem dX6_feed_31 : decode cX6_feed 31 = .ok (.i2l, 1) := by decide +kernel
theorem dX6_feed_32 : decode cX6_feed 32 = .ok (.iconst 4, 1) := by decide +kernel
theorem dX6_feed_33 : decode cX6_feed 33 = .ok (.invokevirtual 105, 3) := by decide +kernel
theorem dX6_feed_36 : decode cX6_feed 36 = .ok (.aload_n 0, 1) := by decide +kernel
theorem dX6_feed_37 : decode cX6_feed 37 = .ok (.getfield 14, 3) := by decide +kernel
theorem dX6_feed_40 : decode cX6_feed 40 = .ok (.iload_n 2, 1) := by decide +kernel
theorem dX6_feed_41 : decode cX6_feed 41 = .ok (.i2l, 1) := by decide +kernel
theorem dX6_feed_42 : decode cX6_feed 42 = .ok (.iconst 4, 1) := by decide +kernel
theorem dX6_feed_43 : decode cX6_feed 43 = .ok (.invokevirtual 105, 3) := by decide +kernel
theorem dX6_feed_46 : decode cX6_feed 46 = .ok (.aload_n 0, 1) := by decide +kernel
theorem dX6_feed_47 : decode cX6_feed 47 = .ok (.getfield 14, 3) := by decide +kernel
theorem dX6_feed_50 : decode cX6_feed 50 = .ok (.iload_n 3, 1) := by decide +kernel
theorem dX6_feed_51 : decode cX6_feed 51 = .ok (.i2l, 1) := by decide +kernel
theorem dX6_feed_52 : decode cX6_feed 52 = .ok (.iconst 4, 1) := by decide +kernel
theorem dX6_feed_53 : decode cX6_feed 53 = .ok (.invokevirtual 105, 3) := by decide +kernel
theorem dX6_feed_56 : decode cX6_feed 56 = .ok (.aload_n 0, 1) := by decide +kernel
theorem dX6_feed_57 : decode cX6_feed 57 = .ok (.getfield 14, 3) := by decide +kernel
theorem dX6_feed_60 : decode cX6_feed 60 = .ok (.iload 4, 2) := by decide +kernel
theorem dX6_feed_62 : decode cX6_feed 62 = .ok (.i2l, 1) := by decide +kernel
theorem dX6_feed_63 : decode cX6_feed 63 = .ok (.iconst 4, 1) := by decide +kernel
theorem dX6_feed_64 : decode cX6_feed 64 = .ok (.invokevirtual 105, 3) := by decide +kernel
theorem dX6_feed_67 : decode cX6_feed 67 = .ok (.aload_n 0, 1) := by decide +kernel
theorem dX6_feed_68 : decode cX6_feed 68 = .ok (.getfield 14, 3) := by decide +kernel
theorem dX6_feed_71 : decode cX6_feed 71 = .ok (.iload 5, 2) := by decide +kernel
theorem dX6_feed_73 : decode cX6_feed 73 = .ok (.i2l, 1) := by decide +kernel
theorem dX6_feed_74 : decode cX6_feed 74 = .ok (.iconst 4, 1) := by decide +kernel
theorem dX6_feed_75 : decode cX6_feed 75 = .ok (.invokevirtual 105, 3) := by decide +kernel
theorem dX6_feed_78 : decode cX6_feed 78 = .ok (.aload_n 0, 1) := by decide +kernel
theorem dX6_feed_79 : decode cX6_feed 79 = .ok (.getfield 14, 3) := by decide +kernel
theorem dX6_feed_82 : decode cX6_feed 82 = .ok (.invokevirtual 99, 3) := by decide +kernel
theorem dX6_feed_85 : decode cX6_feed 85 = .ok (.ireturn, 1) := by decide +kernel
theorem dX6_end_0 : decode cX6_end 0 = .ok (.iload_n 1, 1) := by decide +kernel
theorem dX6_end_1 : decode cX6_end 1 = .ok (.ifCond .lt 14, 3) := by decide +kernel
theorem dX6_end_4 : decode cX6_end 4 = .ok (.iload_n 1, 1) := by decide +kernel
theorem dX6_end_5 : decode cX6_end 5 = .ok (.aload_n 0, 1) := by decide +kernel
theorem dX6_end_6 : decode cX6_end 6 = .ok (.getfield 14, 3) := by decide +kernel
theorem dX6_end_9 : decode cX6_end 9 = .ok (.invokevirtual 99, 3) := by decide +kernel
theorem dX6_end_12 : decode cX6_end 12 = .ok (.if_icmp .le 13, 3) := by decide +kernel
theorem dX6_end_15 : decode cX6_end 15 = .ok (.new 62, 3) := by decide +kernel
theorem dX6_end_18 : decode cX6_end 18 = .ok (.dup, 1) := by decide +kernel
theorem dX6_end_19 : decode cX6_end 19 = .ok (.ldc 109, 2) := by decide +kernel
theorem dX6_end_21 : decode cX6_end 21 = .ok (.invokespecial 66, 3) := by decide +kernel
theorem dX6_end_24 : decode cX6_end 24 = .ok (.athrow, 1) := by decide +kernel
theorem dX6_end_25 : decode cX6_end 25 = .ok (.aload_n 0, 1) := by decide +kernel
theorem dX6_end_26 : decode cX6_end 26 = .ok (.getfield 14, 3) := by decide +kernel
theorem dX6_end_29 : decode cX6_end 29 = .ok (.iload_n 1, 1) := by decide +kernel
theorem dX6_end_30 : decode cX6_end 30 = .ok (.invokevirtual 111, 3) := by decide +kernel
theorem dX6_end_33 : decode cX6_end 33 = .ok (.return_, 1) := by decide +kernel
theorem dX6_send_0 : decode cX6_send 0 = .ok (.aload_n 0, 1) := by decide +kernel
theorem dX6_send_1 : decode cX6_send 1 = .ok (.getfield 18, 3) := by decide +kernel
theorem dX6_send_4 : decode cX6_send 4 = .ok (.aload_n 0, 1) := by decide +kernel
theorem dX6_send_5 : decode cX6_send 5 = .ok (.getfield 14, 3) := by decide +kernel
theorem dX6_send_8 : decode cX6_send 8 = .ok (.invokevirtual 114, 3) := by decide +kernel
theorem dX6_send_11 : decode cX6_send 11 = .ok (.aload_n 0, 1) := by decide +kernel
theorem dX6_send_12 : decode cX6_send 12 = .ok (.getfield 14, 3) := by decide +kernel
theorem dX6_send_15 : decode cX6_send 15 = .ok (.iconst 0, 1) := by decide +kernel
theorem dX6_send_16 : decode cX6_send 16 = .ok (.invokevirtual 111, 3) := by decide +kernel
theorem dX6_send_19 : decode cX6_send 19 = .ok (.aload_n 0, 1) := by decide +kernel
theorem dX6_send_20 : decode cX6_send 20 = .ok (.invokevirtual 118, 3) := by decide +kernel
theorem dX6_send_23 : decode cX6_send 23 = .ok (.aload_n 0, 1) := by decide +kernel
theorem dX6_send_24 : decode cX6_send 24 = .ok (.getfield 26, 3) := by decide +kernel
theorem dX6_send_27 : decode cX6_send 27 = .ok (.invokevirtual 99, 3) := by decide +kernel
theorem dX6_send_30 : decode cX6_send 30 = .ok (.ireturn, 1) := by decide +kernel
theorem dX6_answer_0 : decode cX6_answer 0 = .ok (.iload_n 1, 1) := by decide +kernel
theorem dX6_answer_1 : decode cX6_answer 1 = .ok (.ifCond .lt 14, 3) := by decide +kernel
theorem dX6_answer_4 : decode cX6_answer 4 = .ok (.iload_n 1, 1) := by decide +kernel
theorem dX6_answer_5 : decode cX6_answer 5 = .ok (.aload_n 0, 1) := by decide +kernel
theorem dX6_answer_6 : decode cX6_answer 6 = .ok (.getfield 26, 3) := by decide +kernel
theorem dX6_answer_9 : decode cX6_answer 9 = .ok (.invokevirtual 99, 3) := by decide +kernel
theorem dX6_answer_12 : decode cX6_answer 12 = .ok (.if_icmp .lt 13, 3) := by decide +kernel
theorem dX6_answer_15 : decode cX6_answer 15 = .ok (.new 121, 3) := by decide +kernel
theorem dX6_answer_18 : decode cX6_answer 18 = .ok (.dup, 1) := by decide +kernel
theorem dX6_answer_19 : decode cX6_answer 19 = .ok (.ldc 123, 2) := by decide +kernel
theorem dX6_answer_21 : decode cX6_answer 21 = .ok (.invokespecial 125, 3) := by decide +kernel
theorem dX6_answer_24 : decode cX6_answer 24 = .ok (.athrow, 1) := by decide +kernel
theorem dX6_answer_25 : decode cX6_answer 25 = .ok (.aload_n 0, 1) := by decide +kernel
theorem dX6_answer_26 : decode cX6_answer 26 = .ok (.getfield 26, 3) := by decide +kernel
theorem dX6_answer_29 : decode cX6_answer 29 = .ok (.iload_n 1, 1) := by decide +kernel
theorem dX6_answer_30 : decode cX6_answer 30 = .ok (.invokevirtual 126, 3) := by decide +kernel
theorem dX6_answer_33 : decode cX6_answer 33 = .ok (.ireturn, 1) := by decide +kernel
theorem dX6_ask_0 : decode cX6_ask 0 = .ok (.iload_n 1, 1) := by decide +kernel
theorem dX6_ask_1 : decode cX6_ask 1 = .ok (.ifCond .lt 23, 3) := by decide +kernel
theorem dX6_ask_4 : decode cX6_ask 4 = .ok (.iload_n 1, 1) := by decide +kernel
theorem dX6_ask_5 : decode cX6_ask 5 = .ok (.ldc 130, 2) := by decide +kernel
theorem dX6_ask_7 : decode cX6_ask 7 = .ok (.if_icmp .gt 17, 3) := by decide +kernel
theorem dX6_ask_10 : decode cX6_ask 10 = .ok (.lload_n 2, 1) := by decide +kernel
theorem dX6_ask_11 : decode cX6_ask 11 = .ok (.lconst 0, 1) := by decide +kernel
theorem dX6_ask_12 : decode cX6_ask 12 = .ok (.lcmp, 1) := by decide +kernel
theorem dX6_ask_13 : decode cX6_ask 13 = .ok (.ifCond .lt 11, 3) := by decide +kernel
theorem dX6_ask_16 : decode cX6_ask 16 = .ok (.lload_n 2, 1) := by decide +kernel
theorem dX6_ask_17 : decode cX6_ask 17 = .ok (.ldc2_w 60, 3) := by decide +kernel
theorem dX6_ask_20 : decode cX6_ask 20 = .ok (.lcmp, 1) := by decide +kernel
theorem dX6_ask_21 : decode cX6_ask 21 = .ok (.ifCond .le 13, 3) := by decide +kernel
theorem dX6_ask_24 : decode cX6_ask 24 = .ok (.new 62, 3) := by decide +kernel
theorem dX6_ask_27 : decode cX6_ask 27 = .ok (.dup, 1) := by decide +kernel
theorem dX6_ask_28 : decode cX6_ask 28 = .ok (.ldc 131, 2) := by decide +kernel
theorem dX6_ask_30 : decode cX6_ask 30 = .ok (.invokespecial 66, 3) := by decide +kernel
theorem dX6_ask_33 : decode cX6_ask 33 = .ok (.athrow, 1) := by decide +kernel
theorem dX6_ask_34 : decode cX6_ask 34 = .ok (.iload 4, 2) := by decide +kernel
theorem dX6_ask_36 : decode cX6_ask 36 = .ok (.ifCond .lt 35, 3) := by decide +kernel
theorem dX6_ask_39 : decode cX6_ask 39 = .ok (.iload 4, 2) := by decide +kernel
theorem dX6_ask_41 : decode cX6_ask 41 = .ok (.ldc 130, 2) := by decide +kernel
theorem dX6_ask_43 : decode cX6_ask 43 = .ok (.if_icmp .gt 28, 3) := by decide +kernel
theorem dX6_ask_46 : decode cX6_ask 46 = .ok (.iload 5, 2) := by decide +kernel
theorem dX6_ask_48 : decode cX6_ask 48 = .ok (.ifCond .lt 23, 3) := by decide +kernel
theorem dX6_ask_51 : decode cX6_ask 51 = .ok (.iload 5, 2) := by decide +kernel
theorem dX6_ask_53 : decode cX6_ask 53 = .ok (.sipush 255, 3) := by decide +kernel
theorem dX6_ask_56 : decode cX6_ask 56 = .ok (.if_icmp .gt 15, 3) := by decide +kernel
theorem dX6_ask_59 : decode cX6_ask 59 = .ok (.iload 6, 2) := by decide +kernel
theorem dX6_ask_61 : decode cX6_ask 61 = .ok (.ifCond .lt 10, 3) := by decide +kernel
theorem dX6_ask_64 : decode cX6_ask 64 = .ok (.iload 6, 2) := by decide +kernel
theorem dX6_ask_66 : decode cX6_ask 66 = .ok (.ldc 130, 2) := by decide +kernel
theorem dX6_ask_68 : decode cX6_ask 68 = .ok (.if_icmp .le 13, 3) := by decide +kernel
theorem dX6_ask_71 : decode cX6_ask 71 = .ok (.new 62, 3) := by decide +kernel
theorem dX6_ask_74 : decode cX6_ask 74 = .ok (.dup, 1) := by decide +kernel
theorem dX6_ask_75 : decode cX6_ask 75 = .ok (.ldc 133, 2) := by decide +kernel
theorem dX6_ask_77 : decode cX6_ask 77 = .ok (.invokespecial 66, 3) := by decide +kernel
theorem dX6_ask_80 : decode cX6_ask 80 = .ok (.athrow, 1) := by decide +kernel
theorem dX6_ask_81 : decode cX6_ask 81 = .ok (.iload_n 1, 1) := by decide +kernel
theorem dX6_ask_82 : decode cX6_ask 82 = .ok (.lload_n 2, 1) := by decide +kernel
theorem dX6_ask_83 : decode cX6_ask 83 = .ok (.invokestatic 77, 3) := by decide +kernel
theorem dX6_ask_86 : decode cX6_ask 86 = .ok (.lstore 7, 2) := by decide +kernel
theorem dX6_ask_88 : decode cX6_ask 88 = .ok (.aload_n 0, 1) := by decide +kernel
theorem dX6_ask_89 : decode cX6_ask 89 = .ok (.lload 7, 2) := by decide +kernel
theorem dX6_ask_91 : decode cX6_ask 91 = .ok (.iload 5, 2) := by decide +kernel
theorem dX6_ask_93 : decode cX6_ask 93 = .ok (.iload 6, 2) := by decide +kernel
theorem dX6_ask_95 : decode cX6_ask 95 = .ok (.invokevirtual 135, 3) := by decide +kernel
theorem dX6_ask_98 : decode cX6_ask 98 = .ok (.aload_n 0, 1) := by decide +kernel
theorem dX6_ask_99 : decode cX6_ask 99 = .ok (.getfield 30, 3) := by decide +kernel
theorem dX6_ask_102 : decode cX6_ask 102 = .ok (.iload 4, 2) := by decide +kernel
theorem dX6_ask_104 : decode cX6_ask 104 = .ok (.putfield 139, 3) := by decide +kernel
theorem dX6_ask_107 : decode cX6_ask 107 = .ok (.aload_n 0, 1) := by decide +kernel
theorem dX6_ask_108 : decode cX6_ask 108 = .ok (.getfield 30, 3) := by decide +kernel
theorem dX6_ask_111 : decode cX6_ask 111 = .ok (.getfield 142, 3) := by decide +kernel
theorem dX6_ask_114 : decode cX6_ask 114 = .ok (.aload_n 0, 1) := by decide +kernel
theorem dX6_ask_115 : decode cX6_ask 115 = .ok (.getfield 14, 3) := by decide +kernel
theorem dX6_ask_118 : decode cX6_ask 118 = .ok (.invokevirtual 114, 3) := by decide +kernel
theorem dX6_ask_121 : decode cX6_ask 121 = .ok (.aload_n 0, 1) := by decide +kernel
theorem dX6_ask_122 : decode cX6_ask 122 = .ok (.getfield 14, 3) := by decide +kernel
theorem dX6_ask_125 : decode cX6_ask 125 = .ok (.iconst 0, 1) := by decide +kernel
theorem dX6_ask_126 : decode cX6_ask 126 = .ok (.invokevirtual 111, 3) := by decide +kernel
theorem dX6_ask_129 : decode cX6_ask 129 = .ok (.aload_n 0, 1) := by decide +kernel
theorem dX6_ask_130 : decode cX6_ask 130 = .ok (.getfield 30, 3) := by decide +kernel
theorem dX6_ask_133 : decode cX6_ask 133 = .ok (.aload_n 0, 1) := by decide +kernel
theorem dX6_ask_134 : decode cX6_ask 134 = .ok (.getfield 18, 3) := by decide +kernel
theorem dX6_ask_137 : decode cX6_ask 137 = .ok (.invokevirtual 145, 3) := by decide +kernel
theorem dX6_ask_140 : decode cX6_ask 140 = .ok (.aload_n 0, 1) := by decide +kernel
theorem dX6_ask_141 : decode cX6_ask 141 = .ok (.invokevirtual 118, 3) := by decide +kernel
theorem dX6_ask_144 : decode cX6_ask 144 = .ok (.aload_n 0, 1) := by decide +kernel
theorem dX6_ask_145 : decode cX6_ask 145 = .ok (.getfield 26, 3) := by decide +kernel
theorem dX6_ask_148 : decode cX6_ask 148 = .ok (.invokevirtual 99, 3) := by decide +kernel
theorem dX6_ask_151 : decode cX6_ask 151 = .ok (.ifCond .ne 5, 3) := by decide +kernel
theorem dX6_ask_154 : decode cX6_ask 154 = .ok (.iconst (-1), 1) := by decide +kernel
theorem dX6_ask_155 : decode cX6_ask 155 = .ok (.ireturn, 1) := by decide +kernel
theorem dX6_ask_156 : decode cX6_ask 156 = .ok (.aload_n 0, 1) := by decide +kernel
theorem dX6_ask_157 : decode cX6_ask 157 = .ok (.lload 7, 2) := by decide +kernel
theorem dX6_ask_159 : decode cX6_ask 159 = .ok (.invokevirtual 148, 3) := by decide +kernel
theorem dX6_ask_162 : decode cX6_ask 162 = .ok (.ifCond .eq 13, 3) := by decide +kernel
theorem dX6_ask_165 : decode cX6_ask 165 = .ok (.aload_n 0, 1) := by decide +kernel
theorem dX6_ask_166 : decode cX6_ask 166 = .ok (.getfield 34, 3) := by decide +kernel
theorem dX6_ask_169 : decode cX6_ask 169 = .ok (.getfield 151, 3) := by decide +kernel
theorem dX6_ask_172 : decode cX6_ask 172 = .ok (.goto 5, 3) := by decide +kernel
theorem dX6_ask_175 : decode cX6_ask 175 = .ok (.bipush (-2), 2) := by decide +kernel
theorem dX6_ask_177 : decode cX6_ask 177 = .ok (.ireturn, 1) := by decide +kernel
theorem dX6_spoil_0 : decode cX6_spoil 0 = .ok (.iload_n 1, 1) := by decide +kernel
theorem dX6_spoil_1 : decode cX6_spoil 1 = .ok (.ifCond .lt 10, 3) := by decide +kernel
theorem dX6_spoil_4 : decode cX6_spoil 4 = .ok (.iload_n 1, 1) := by decide +kernel
theorem dX6_spoil_5 : decode cX6_spoil 5 = .ok (.sipush 300, 3) := by decide +kernel
theorem dX6_spoil_8 : decode cX6_spoil 8 = .ok (.if_icmp .le 13, 3) := by decide +kernel
theorem dX6_spoil_11 : decode cX6_spoil 11 = .ok (.new 62, 3) := by decide +kernel
theorem dX6_spoil_14 : decode cX6_spoil 14 = .ok (.dup, 1) := by decide +kernel
theorem dX6_spoil_15 : decode cX6_spoil 15 = .ok (.ldc 154, 2) := by decide +kernel
theorem dX6_spoil_17 : decode cX6_spoil 17 = .ok (.invokespecial 66, 3) := by decide +kernel
theorem dX6_spoil_20 : decode cX6_spoil 20 = .ok (.athrow, 1) := by decide +kernel
theorem dX6_spoil_21 : decode cX6_spoil 21 = .ok (.aload_n 0, 1) := by decide +kernel
theorem dX6_spoil_22 : decode cX6_spoil 22 = .ok (.getfield 43, 3) := by decide +kernel
theorem dX6_spoil_25 : decode cX6_spoil 25 = .ok (.iload_n 1, 1) := by decide +kernel
theorem dX6_spoil_26 : decode cX6_spoil 26 = .ok (.iload_n 2, 1) := by decide +kernel
theorem dX6_spoil_27 : decode cX6_spoil 27 = .ok (.invokevirtual 156, 3) := by decide +kernel
theorem dX6_spoil_30 : decode cX6_spoil 30 = .ok (.return_, 1) := by decide +kernel
theorem dX6_frames_0 : decode cX6_frames 0 = .ok (.aload_n 0, 1) := by decide +kernel
theorem dX6_frames_1 : decode cX6_frames 1 = .ok (.getfield 160, 3) := by decide +kernel
theorem dX6_frames_4 : decode cX6_frames 4 = .ok (.ireturn, 1) := by decide +kernel
theorem dX6_about_0 : decode cX6_about 0 = .ok (.aload_n 0, 1) := by decide +kernel
theorem dX6_about_1 : decode cX6_about 1 = .ok (.iload_n 1, 1) := by decide +kernel
theorem dX6_about_2 : decode cX6_about 2 = .ok (.invokevirtual 163, 3) := by decide +kernel
theorem dX6_about_5 : decode cX6_about 5 = .ok (.astore_n 3, 1) := by decide +kernel
theorem dX6_about_6 : decode cX6_about 6 = .ok (.iload_n 2, 1) := by decide +kernel
theorem dX6_about_7 : decode cX6_about 7 = .ok (.ifCond .lt 9, 3) := by decide +kernel
theorem dX6_about_10 : decode cX6_about 10 = .ok (.iload_n 2, 1) := by decide +kernel
theorem dX6_about_11 : decode cX6_about 11 = .ok (.bipush 10, 2) := by decide +kernel
theorem dX6_about_13 : decode cX6_about 13 = .ok (.if_icmp .le 13, 3) := by decide +kernel
theorem dX6_about_16 : decode cX6_about 16 = .ok (.new 121, 3) := by decide +kernel
theorem dX6_about_19 : decode cX6_about 19 = .ok (.dup, 1) := by decide +kernel
theorem dX6_about_20 : decode cX6_about 20 = .ok (.ldc 167, 2) := by decide +kernel
theorem dX6_about_22 : decode cX6_about 22 = .ok (.invokespecial 125, 3) := by decide +kernel
theorem dX6_about_25 : decode cX6_about 25 = .ok (.athrow, 1) := by decide +kernel
theorem dX6_about_26 : decode cX6_about 26 = .ok (.aload_n 3, 1) := by decide +kernel
theorem dX6_about_27 : decode cX6_about 27 = .ok (.iload_n 2, 1) := by decide +kernel
theorem dX6_about_28 : decode cX6_about 28 = .ok (.aload_n 0, 1) := by decide +kernel
theorem dX6_about_29 : decode cX6_about 29 = .ok (.getfield 160, 3) := by decide +kernel
theorem dX6_about_32 : decode cX6_about 32 = .ok (.invokevirtual 169, 3) := by decide +kernel
theorem dX6_about_35 : decode cX6_about 35 = .ok (.ireturn, 1) := by decide +kernel
theorem dX6_rest_0 : decode cX6_rest 0 = .ok (.aload_n 0, 1) := by decide +kernel
theorem dX6_rest_1 : decode cX6_rest 1 = .ok (.iload_n 1, 1) := by decide +kernel
theorem dX6_rest_2 : decode cX6_rest 2 = .ok (.invokevirtual 163, 3) := by decide +kernel
theorem dX6_rest_5 : decode cX6_rest 5 = .ok (.getfield 173, 3) := by decide +kernel
theorem dX6_rest_8 : decode cX6_rest 8 = .ok (.invokestatic 177, 3) := by decide +kernel
theorem dX6_rest_11 : decode cX6_rest 11 = .ok (.lreturn, 1) := by decide +kernel
theorem dX6_level_0 : decode cX6_level 0 = .ok (.aload_n 0, 1) := by decide +kernel
theorem dX6_level_1 : decode cX6_level 1 = .ok (.iload_n 1, 1) := by decide +kernel
theorem dX6_level_2 : decode cX6_level 2 = .ok (.invokevirtual 163, 3) := by decide +kernel
theorem dX6_level_5 : decode cX6_level 5 = .ok (.astore_n 3, 1) := by decide +kernel
theorem dX6_level_6 : decode cX6_level 6 = .ok (.iload_n 2, 1) := by decide +kernel
theorem dX6_level_7 : decode cX6_level 7 = .ok (.ifCond .lt 11, 3) := by decide +kernel
theorem dX6_level_10 : decode cX6_level 10 = .ok (.iload_n 2, 1) := by decide +kernel
theorem dX6_level_11 : decode cX6_level 11 = .ok (.aload_n 3, 1) := by decide +kernel
theorem dX6_level_12 : decode cX6_level 12 = .ok (.invokevirtual 181, 3) := by decide +kernel
theorem dX6_level_15 : decode cX6_level 15 = .ok (.if_icmp .lt 13, 3) := by decide +kernel
theorem dX6_level_18 : decode cX6_level 18 = .ok (.new 121, 3) := by decide +kernel
theorem dX6_level_21 : decode cX6_level 21 = .ok (.dup, 1) := by decide +kernel
theorem dX6_level_22 : decode cX6_level 22 = .ok (.ldc 184, 2) := by decide +kernel
theorem dX6_level_24 : decode cX6_level 24 = .ok (.invokespecial 125, 3) := by decide +kernel
theorem dX6_level_27 : decode cX6_level 27 = .ok (.athrow, 1) := by decide +kernel
theorem dX6_level_28 : decode cX6_level 28 = .ok (.aload_n 3, 1) := by decide +kernel
theorem dX6_level_29 : decode cX6_level 29 = .ok (.iload_n 2, 1) := by decide +kernel
theorem dX6_level_30 : decode cX6_level 30 = .ok (.invokevirtual 186, 3) := by decide +kernel
theorem dX6_level_33 : decode cX6_level 33 = .ok (.ireturn, 1) := by decide +kernel
theorem dX6_label_0 : decode cX6_label 0 = .ok (.aload_n 0, 1) := by decide +kernel
theorem dX6_label_1 : decode cX6_label 1 = .ok (.iload_n 1, 1) := by decide +kernel
theorem dX6_label_2 : decode cX6_label 2 = .ok (.invokevirtual 163, 3) := by decide +kernel
theorem dX6_label_5 : decode cX6_label 5 = .ok (.astore_n 3, 1) := by decide +kernel
theorem dX6_label_6 : decode cX6_label 6 = .ok (.iload_n 2, 1) := by decide +kernel
theorem dX6_label_7 : decode cX6_label 7 = .ok (.ifCond .lt 14, 3) := by decide +kernel
theorem dX6_label_10 : decode cX6_label 10 = .ok (.iload_n 2, 1) := by decide +kernel
theorem dX6_label_11 : decode cX6_label 11 = .ok (.aload_n 3, 1) := by decide +kernel
theorem dX6_label_12 : decode cX6_label 12 = .ok (.getfield 189, 3) := by decide +kernel
theorem dX6_label_15 : decode cX6_label 15 = .ok (.invokevirtual 99, 3) := by decide +kernel
theorem dX6_label_18 : decode cX6_label 18 = .ok (.if_icmp .lt 13, 3) := by decide +kernel
theorem dX6_label_21 : decode cX6_label 21 = .ok (.new 121, 3) := by decide +kernel
theorem dX6_label_24 : decode cX6_label 24 = .ok (.dup, 1) := by decide +kernel
theorem dX6_label_25 : decode cX6_label 25 = .ok (.ldc 192, 2) := by decide +kernel
theorem dX6_label_27 : decode cX6_label 27 = .ok (.invokespecial 125, 3) := by decide +kernel
theorem dX6_label_30 : decode cX6_label 30 = .ok (.athrow, 1) := by decide +kernel
theorem dX6_label_31 : decode cX6_label 31 = .ok (.aload_n 3, 1) := by decide +kernel
theorem dX6_label_32 : decode cX6_label 32 = .ok (.getfield 189, 3) := by decide +kernel
theorem dX6_label_35 : decode cX6_label 35 = .ok (.iload_n 2, 1) := by decide +kernel
theorem dX6_label_36 : decode cX6_label 36 = .ok (.invokevirtual 126, 3) := by decide +kernel
theorem dX6_label_39 : decode cX6_label 39 = .ok (.ireturn, 1) := by decide +kernel
theorem dX6_silence_0 : decode cX6_silence 0 = .ok (.aload_n 0, 1) := by decide +kernel
theorem dX6_silence_1 : decode cX6_silence 1 = .ok (.iload_n 1, 1) := by decide +kernel
theorem dX6_silence_2 : decode cX6_silence 2 = .ok (.invokevirtual 163, 3) := by decide +kernel
theorem dX6_silence_5 : decode cX6_silence 5 = .ok (.astore_n 3, 1) := by decide +kernel
theorem dX6_silence_6 : decode cX6_silence 6 = .ok (.aload_n 3, 1) := by decide +kernel
theorem dX6_silence_7 : decode cX6_silence 7 = .ok (.getfield 194, 3) := by decide +kernel
theorem dX6_silence_10 : decode cX6_silence 10 = .ok (.invokestatic 198, 3) := by decide +kernel
theorem dX6_silence_13 : decode cX6_silence 13 = .ok (.istore 4, 2) := by decide +kernel
theorem dX6_silence_15 : decode cX6_silence 15 = .ok (.aload_n 3, 1) := by decide +kernel
theorem dX6_silence_16 : decode cX6_silence 16 = .ok (.iload_n 2, 1) := by decide +kernel
theorem dX6_silence_17 : decode cX6_silence 17 = .ok (.putfield 194, 3) := by decide +kernel
theorem dX6_silence_20 : decode cX6_silence 20 = .ok (.iload 4, 2) := by decide +kernel
theorem dX6_silence_22 : decode cX6_silence 22 = .ok (.ireturn, 1) := by decide +kernel
theorem dX6_search_0 : decode cX6_search 0 = .ok (.aload_n 0, 1) := by decide +kernel
theorem dX6_search_1 : decode cX6_search 1 = .ok (.getfield 50, 3) := by decide +kernel
theorem dX6_search_4 : decode cX6_search 4 = .ok (.invokevirtual 202, 3) := by decide +kernel
theorem dX6_search_7 : decode cX6_search 7 = .ok (.aload_n 0, 1) := by decide +kernel
theorem dX6_search_8 : decode cX6_search 8 = .ok (.ldc2_w 205, 3) := by decide +kernel
theorem dX6_search_11 : decode cX6_search 11 = .ok (.iconst 3, 1) := by decide +kernel
theorem dX6_search_12 : decode cX6_search 12 = .ok (.invokevirtual 207, 3) := by decide +kernel
theorem dX6_search_15 : decode cX6_search 15 = .ok (.aload_n 0, 1) := by decide +kernel
theorem dX6_search_16 : decode cX6_search 16 = .ok (.invokevirtual 118, 3) := by decide +kernel
theorem dX6_search_19 : decode cX6_search 19 = .ok (.aload_n 0, 1) := by decide +kernel
theorem dX6_search_20 : decode cX6_search 20 = .ok (.getfield 50, 3) := by decide +kernel
theorem dX6_search_23 : decode cX6_search 23 = .ok (.getfield 210, 3) := by decide +kernel
theorem dX6_search_26 : decode cX6_search 26 = .ok (.ireturn, 1) := by decide +kernel
theorem dX6_step_0 : decode cX6_step 0 = .ok (.aload_n 0, 1) := by decide +kernel
theorem dX6_step_1 : decode cX6_step 1 = .ok (.getfield 50, 3) := by decide +kernel
theorem dX6_step_4 : decode cX6_step 4 = .ok (.getfield 213, 3) := by decide +kernel
theorem dX6_step_7 : decode cX6_step 7 = .ok (.ifCond .ne 13, 3) := by decide +kernel
theorem dX6_step_10 : decode cX6_step 10 = .ok (.new 91, 3) := by decide +kernel
theorem dX6_step_13 : decode cX6_step 13 = .ok (.dup, 1) := by decide +kernel
theorem dX6_step_14 : decode cX6_step 14 = .ok (.ldc 216, 2) := by decide +kernel
theorem dX6_step_16 : decode cX6_step 16 = .ok (.invokespecial 95, 3) := by decide +kernel
theorem dX6_step_19 : decode cX6_step 19 = .ok (.athrow, 1) := by decide +kernel
theorem dX6_step_20 : decode cX6_step 20 = .ok (.iload_n 1, 1) := by decide +kernel
theorem dX6_step_21 : decode cX6_step 21 = .ok (.iconst 1, 1) := by decide +kernel
theorem dX6_step_22 : decode cX6_step 22 = .ok (.if_icmp .lt 10, 3) := by decide +kernel
theorem dX6_step_25 : decode cX6_step 25 = .ok (.iload_n 1, 1) := by decide +kernel
theorem dX6_step_26 : decode cX6_step 26 = .ok (.sipush 1000, 3) := by decide +kernel
theorem dX6_step_29 : decode cX6_step 29 = .ok (.if_icmp .le 13, 3) := by decide +kernel
theorem dX6_step_32 : decode cX6_step 32 = .ok (.new 62, 3) := by decide +kernel
theorem dX6_step_35 : decode cX6_step 35 = .ok (.dup, 1) := by decide +kernel
theorem dX6_step_36 : decode cX6_step 36 = .ok (.ldc 218, 2) := by decide +kernel
theorem dX6_step_38 : decode cX6_step 38 = .ok (.invokespecial 66, 3) := by decide +kernel
theorem dX6_step_41 : decode cX6_step 41 = .ok (.athrow, 1) := by decide +kernel
theorem dX6_step_42 : decode cX6_step 42 = .ok (.iconst 0, 1) := by decide +kernel
theorem dX6_step_43 : decode cX6_step 43 = .ok (.istore_n 2, 1) := by decide +kernel
theorem dX6_step_44 : decode cX6_step 44 = .ok (.iload_n 2, 1) := by decide +kernel
theorem dX6_step_45 : decode cX6_step 45 = .ok (.iload_n 1, 1) := by decide +kernel
theorem dX6_step_46 : decode cX6_step 46 = .ok (.if_icmp .ge 23, 3) := by decide +kernel
theorem dX6_step_49 : decode cX6_step 49 = .ok (.aload_n 0, 1) := by decide +kernel
theorem dX6_step_50 : decode cX6_step 50 = .ok (.getfield 50, 3) := by decide +kernel
theorem dX6_step_53 : decode cX6_step 53 = .ok (.getfield 210, 3) := by decide +kernel
theorem dX6_step_56 : decode cX6_step 56 = .ok (.ifCond .le 13, 3) := by decide +kernel
theorem dX6_step_59 : decode cX6_step 59 = .ok (.aload_n 0, 1) := by decide +kernel
theorem dX6_step_60 : decode cX6_step 60 = .ok (.invokevirtual 220, 3) := by decide +kernel
theorem dX6_step_63 : decode cX6_step 63 = .ok (.iinc 2 1, 3) := by decide +kernel
theorem dX6_step_66 : decode cX6_step 66 = .ok (.goto (-22), 3) := by decide +kernel
theorem dX6_step_69 : decode cX6_step 69 = .ok (.aload_n 0, 1) := by decide +kernel
theorem dX6_step_70 : decode cX6_step 70 = .ok (.getfield 50, 3) := by decide +kernel
theorem dX6_step_73 : decode cX6_step 73 = .ok (.getfield 210, 3) := by decide +kernel
theorem dX6_step_76 : decode cX6_step 76 = .ok (.ireturn, 1) := by decide +kernel
theorem dX6_found_0 : decode cX6_found 0 = .ok (.aload_n 0, 1) := by decide +kernel
theorem dX6_found_1 : decode cX6_found 1 = .ok (.getfield 50, 3) := by decide +kernel
theorem dX6_found_4 : decode cX6_found 4 = .ok (.getfield 223, 3) := by decide +kernel
theorem dX6_found_7 : decode cX6_found 7 = .ok (.ireturn, 1) := by decide +kernel
theorem dX6_id_0 : decode cX6_id 0 = .ok (.iload_n 1, 1) := by decide +kernel
theorem dX6_id_1 : decode cX6_id 1 = .ok (.ifCond .lt 14, 3) := by decide +kernel
theorem dX6_id_4 : decode cX6_id 4 = .ok (.iload_n 1, 1) := by decide +kernel
theorem dX6_id_5 : decode cX6_id 5 = .ok (.aload_n 0, 1) := by decide +kernel
theorem dX6_id_6 : decode cX6_id 6 = .ok (.getfield 50, 3) := by decide +kernel
theorem dX6_id_9 : decode cX6_id 9 = .ok (.getfield 223, 3) := by decide +kernel
theorem dX6_id_12 : decode cX6_id 12 = .ok (.if_icmp .lt 13, 3) := by decide +kernel
theorem dX6_id_15 : decode cX6_id 15 = .ok (.new 121, 3) := by decide +kernel
theorem dX6_id_18 : decode cX6_id 18 = .ok (.dup, 1) := by decide +kernel
theorem dX6_id_19 : decode cX6_id 19 = .ok (.ldc 226, 2) := by decide +kernel
theorem dX6_id_21 : decode cX6_id 21 = .ok (.invokespecial 125, 3) := by decide +kernel
theorem dX6_id_24 : decode cX6_id 24 = .ok (.athrow, 1) := by decide +kernel
theorem dX6_id_25 : decode cX6_id 25 = .ok (.aload_n 0, 1) := by decide +kernel
theorem dX6_id_26 : decode cX6_id 26 = .ok (.getfield 50, 3) := by decide +kernel
theorem dX6_id_29 : decode cX6_id 29 = .ok (.getfield 228, 3) := by decide +kernel
theorem dX6_id_32 : decode cX6_id 32 = .ok (.iload_n 1, 1) := by decide +kernel
theorem dX6_id_33 : decode cX6_id 33 = .ok (.laload, 1) := by decide +kernel
theorem dX6_id_34 : decode cX6_id 34 = .ok (.lreturn, 1) := by decide +kernel
theorem dX6_branch_0 : decode cX6_branch 0 = .ok (.iload_n 1, 1) := by decide +kernel
theorem dX6_branch_1 : decode cX6_branch 1 = .ok (.ifCond .lt 8, 3) := by decide +kernel
theorem dX6_branch_4 : decode cX6_branch 4 = .ok (.iload_n 1, 1) := by decide +kernel
theorem dX6_branch_5 : decode cX6_branch 5 = .ok (.iconst 2, 1) := by decide +kernel
theorem dX6_branch_6 : decode cX6_branch 6 = .ok (.if_icmp .le 13, 3) := by decide +kernel
theorem dX6_branch_9 : decode cX6_branch 9 = .ok (.new 121, 3) := by decide +kernel
theorem dX6_branch_12 : decode cX6_branch 12 = .ok (.dup, 1) := by decide +kernel
theorem dX6_branch_13 : decode cX6_branch 13 = .ok (.ldc 167, 2) := by decide +kernel
theorem dX6_branch_15 : decode cX6_branch 15 = .ok (.invokespecial 125, 3) := by decide +kernel
theorem dX6_branch_18 : decode cX6_branch 18 = .ok (.athrow, 1) := by decide +kernel
theorem dX6_branch_19 : decode cX6_branch 19 = .ok (.iload_n 1, 1) := by decide +kernel
theorem dX6_branch_20 : decode cX6_branch 20 = .ok (.iconst 2, 1) := by decide +kernel
theorem dX6_branch_21 : decode cX6_branch 21 = .ok (.if_icmp .ne 12, 3) := by decide +kernel
theorem dX6_branch_24 : decode cX6_branch 24 = .ok (.aload_n 0, 1) := by decide +kernel
theorem dX6_branch_25 : decode cX6_branch 25 = .ok (.getfield 50, 3) := by decide +kernel
theorem dX6_branch_28 : decode cX6_branch 28 = .ok (.getfield 232, 3) := by decide +kernel
theorem dX6_branch_31 : decode cX6_branch 31 = .ok (.i2l, 1) := by decide +kernel
theorem dX6_branch_32 : decode cX6_branch 32 = .ok (.lreturn, 1) := by decide +kernel
theorem dX6_branch_33 : decode cX6_branch 33 = .ok (.aload_n 0, 1) := by decide +kernel
theorem dX6_branch_34 : decode cX6_branch 34 = .ok (.getfield 50, 3) := by decide +kernel
theorem dX6_branch_37 : decode cX6_branch 37 = .ok (.getfield 210, 3) := by decide +kernel
theorem dX6_branch_40 : decode cX6_branch 40 = .ok (.ifCond .ne 13, 3) := by decide +kernel
theorem dX6_branch_43 : decode cX6_branch 43 = .ok (.new 121, 3) := by decide +kernel
theorem dX6_branch_46 : decode cX6_branch 46 = .ok (.dup, 1) := by decide +kernel
theorem dX6_branch_47 : decode cX6_branch 47 = .ok (.ldc 235, 2) := by decide +kernel
theorem dX6_branch_49 : decode cX6_branch 49 = .ok (.invokespecial 125, 3) := by decide +kernel
theorem dX6_branch_52 : decode cX6_branch 52 = .ok (.athrow, 1) := by decide +kernel
theorem dX6_branch_53 : decode cX6_branch 53 = .ok (.iload_n 1, 1) := by decide +kernel
theorem dX6_branch_54 : decode cX6_branch 54 = .ok (.ifCond .ne 13, 3) := by decide +kernel
theorem dX6_branch_57 : decode cX6_branch 57 = .ok (.aload_n 0, 1) := by decide +kernel
theorem dX6_branch_58 : decode cX6_branch 58 = .ok (.getfield 50, 3) := by decide +kernel
theorem dX6_branch_61 : decode cX6_branch 61 = .ok (.invokevirtual 237, 3) := by decide +kernel
theorem dX6_branch_64 : decode cX6_branch 64 = .ok (.goto 10, 3) := by decide +kernel
theorem dX6_branch_67 : decode cX6_branch 67 = .ok (.aload_n 0, 1) := by decide +kernel
theorem dX6_branch_68 : decode cX6_branch 68 = .ok (.getfield 50, 3) := by decide +kernel
theorem dX6_branch_71 : decode cX6_branch 71 = .ok (.invokevirtual 241, 3) := by decide +kernel
theorem dX6_branch_74 : decode cX6_branch 74 = .ok (.lreturn, 1) := by decide +kernel
theorem dX6_joinedId_0 : decode cX6_joinedId 0 = .ok (.iload_n 0, 1) := by decide +kernel
theorem dX6_joinedId_1 : decode cX6_joinedId 1 = .ok (.i2l, 1) := by decide +kernel
theorem dX6_joinedId_2 : decode cX6_joinedId 2 = .ok (.bipush 32, 2) := by decide +kernel
theorem dX6_joinedId_4 : decode cX6_joinedId 4 = .ok (.lshl, 1) := by decide +kernel
theorem dX6_joinedId_5 : decode cX6_joinedId 5 = .ok (.lload_n 1, 1) := by decide +kernel
theorem dX6_joinedId_6 : decode cX6_joinedId 6 = .ok (.lor, 1) := by decide +kernel
theorem dX6_joinedId_7 : decode cX6_joinedId 7 = .ok (.lreturn, 1) := by decide +kernel
theorem dX6_makerOf_0 : decode cX6_makerOf 0 = .ok (.lload_n 0, 1) := by decide +kernel
theorem dX6_makerOf_1 : decode cX6_makerOf 1 = .ok (.bipush 32, 2) := by decide +kernel
theorem dX6_makerOf_3 : decode cX6_makerOf 3 = .ok (.lushr, 1) := by decide +kernel
theorem dX6_makerOf_4 : decode cX6_makerOf 4 = .ok (.l2i, 1) := by decide +kernel
theorem dX6_makerOf_5 : decode cX6_makerOf 5 = .ok (.ireturn, 1) := by decide +kernel
theorem dX6_restOf_0 : decode cX6_restOf 0 = .ok (.lload_n 0, 1) := by decide +kernel
theorem dX6_restOf_1 : decode cX6_restOf 1 = .ok (.ldc2_w 60, 3) := by decide +kernel
theorem dX6_restOf_4 : decode cX6_restOf 4 = .ok (.land, 1) := by decide +kernel
theorem dX6_restOf_5 : decode cX6_restOf 5 = .ok (.lreturn, 1) := by decide +kernel
theorem dX6_flag_0 : decode cX6_flag 0 = .ok (.iload_n 0, 1) := by decide +kernel
theorem dX6_flag_1 : decode cX6_flag 1 = .ok (.ifCond .eq 7, 3) := by decide +kernel
theorem dX6_flag_4 : decode cX6_flag 4 = .ok (.iconst 1, 1) := by decide +kernel
theorem dX6_flag_5 : decode cX6_flag 5 = .ok (.goto 4, 3) := by decide +kernel
theorem dX6_flag_8 : decode cX6_flag 8 = .ok (.iconst 0, 1) := by decide +kernel
theorem dX6_flag_9 : decode cX6_flag 9 = .ok (.ireturn, 1) := by decide +kernel
theorem dX6_fits_0 : decode cX6_fits 0 = .ok (.iload_n 0, 1) := by decide +kernel
theorem dX6_fits_1 : decode cX6_fits 1 = .ok (.iconst 1, 1) := by decide +kernel
theorem dX6_fits_2 : decode cX6_fits 2 = .ok (.if_icmp .lt 25, 3) := by decide +kernel
theorem dX6_fits_5 : decode cX6_fits 5 = .ok (.iload_n 0, 1) := by decide +kernel
theorem dX6_fits_6 : decode cX6_fits 6 = .ok (.sipush 512, 3) := by decide +kernel
theorem dX6_fits_9 : decode cX6_fits 9 = .ok (.if_icmp .gt 18, 3) := by decide +kernel
theorem dX6_fits_12 : decode cX6_fits 12 = .ok (.iload_n 0, 1) := by decide +kernel
theorem dX6_fits_13 : decode cX6_fits 13 = .ok (.iload_n 1, 1) := by decide +kernel
theorem dX6_fits_14 : decode cX6_fits 14 = .ok (.iadd, 1) := by decide +kernel
theorem dX6_fits_15 : decode cX6_fits 15 = .ok (.iconst 1, 1) := by decide +kernel
theorem dX6_fits_16 : decode cX6_fits 16 = .ok (.isub, 1) := by decide +kernel
theorem dX6_fits_17 : decode cX6_fits 17 = .ok (.sipush 512, 3) := by decide +kernel
theorem dX6_fits_20 : decode cX6_fits 20 = .ok (.if_icmp .gt 7, 3) := by decide +kernel
theorem dX6_fits_23 : decode cX6_fits 23 = .ok (.iconst 1, 1) := by decide +kernel
theorem dX6_fits_24 : decode cX6_fits 24 = .ok (.goto 4, 3) := by decide +kernel
theorem dX6_fits_27 : decode cX6_fits 27 = .ok (.iconst 0, 1) := by decide +kernel
theorem dX6_fits_28 : decode cX6_fits 28 = .ok (.ireturn, 1) := by decide +kernel
theorem dX6_isThere_0 : decode cX6_isThere 0 = .ok (.iconst 0, 1) := by decide +kernel
theorem dX6_isThere_1 : decode cX6_isThere 1 = .ok (.istore_n 3, 1) := by decide +kernel
theorem dX6_isThere_2 : decode cX6_isThere 2 = .ok (.iload_n 3, 1) := by decide +kernel
theorem dX6_isThere_3 : decode cX6_isThere 3 = .ok (.aload_n 0, 1) := by decide +kernel
theorem dX6_isThere_4 : decode cX6_isThere 4 = .ok (.getfield 87, 3) := by decide +kernel
theorem dX6_isThere_7 : decode cX6_isThere 7 = .ok (.if_icmp .ge 25, 3) := by decide +kernel
theorem dX6_isThere_10 : decode cX6_isThere 10 = .ok (.aload_n 0, 1) := by decide +kernel
theorem dX6_isThere_11 : decode cX6_isThere 11 = .ok (.getfield 56, 3) := by decide +kernel
theorem dX6_isThere_14 : decode cX6_isThere 14 = .ok (.iload_n 3, 1) := by decide +kernel
theorem dX6_isThere_15 : decode cX6_isThere 15 = .ok (.aaload, 1) := by decide +kernel
theorem dX6_isThere_16 : decode cX6_isThere 16 = .ok (.getfield 173, 3) := by decide +kernel
theorem dX6_isThere_19 : decode cX6_isThere 19 = .ok (.lload_n 1, 1) := by decide +kernel
theorem dX6_isThere_20 : decode cX6_isThere 20 = .ok (.lcmp, 1) := by decide +kernel
theorem dX6_isThere_21 : decode cX6_isThere 21 = .ok (.ifCond .ne 5, 3) := by decide +kernel
theorem dX6_isThere_24 : decode cX6_isThere 24 = .ok (.iconst 1, 1) := by decide +kernel
theorem dX6_isThere_25 : decode cX6_isThere 25 = .ok (.ireturn, 1) := by decide +kernel
theorem dX6_isThere_26 : decode cX6_isThere 26 = .ok (.iinc 3 1, 3) := by decide +kernel
theorem dX6_isThere_29 : decode cX6_isThere 29 = .ok (.goto (-27), 3) := by decide +kernel
theorem dX6_isThere_32 : decode cX6_isThere 32 = .ok (.iconst 0, 1) := by decide +kernel
theorem dX6_isThere_33 : decode cX6_isThere 33 = .ok (.ireturn, 1) := by decide +kernel
theorem dX6_lampAt_0 : decode cX6_lampAt 0 = .ok (.iload_n 1, 1) := by decide +kernel
theorem dX6_lampAt_1 : decode cX6_lampAt 1 = .ok (.ifCond .lt 11, 3) := by decide +kernel
theorem dX6_lampAt_4 : decode cX6_lampAt 4 = .ok (.iload_n 1, 1) := by decide +kernel
theorem dX6_lampAt_5 : decode cX6_lampAt 5 = .ok (.aload_n 0, 1) := by decide +kernel
theorem dX6_lampAt_6 : decode cX6_lampAt 6 = .ok (.getfield 87, 3) := by decide +kernel
theorem dX6_lampAt_9 : decode cX6_lampAt 9 = .ok (.if_icmp .lt 13, 3) := by decide +kernel
theorem dX6_lampAt_12 : decode cX6_lampAt 12 = .ok (.new 121, 3) := by decide +kernel
theorem dX6_lampAt_15 : decode cX6_lampAt 15 = .ok (.dup, 1) := by decide +kernel
theorem dX6_lampAt_16 : decode cX6_lampAt 16 = .ok (.ldc 244, 2) := by decide +kernel
theorem dX6_lampAt_18 : decode cX6_lampAt 18 = .ok (.invokespecial 125, 3) := by decide +kernel
theorem dX6_lampAt_21 : decode cX6_lampAt 21 = .ok (.athrow, 1) := by decide +kernel
theorem dX6_lampAt_22 : decode cX6_lampAt 22 = .ok (.aload_n 0, 1) := by decide +kernel
theorem dX6_lampAt_23 : decode cX6_lampAt 23 = .ok (.getfield 56, 3) := by decide +kernel
theorem dX6_lampAt_26 : decode cX6_lampAt 26 = .ok (.iload_n 1, 1) := by decide +kernel
theorem dX6_lampAt_27 : decode cX6_lampAt 27 = .ok (.aaload, 1) := by decide +kernel
theorem dX6_lampAt_28 : decode cX6_lampAt 28 = .ok (.areturn, 1) := by decide +kernel
theorem dX6_runFrame_0 : decode cX6_runFrame 0 = .ok (.aload_n 0, 1) := by decide +kernel
theorem dX6_runFrame_1 : decode cX6_runFrame 1 = .ok (.dup, 1) := by decide +kernel
theorem dX6_runFrame_2 : decode cX6_runFrame 2 = .ok (.getfield 160, 3) := by decide +kernel
theorem dX6_runFrame_5 : decode cX6_runFrame 5 = .ok (.iconst 1, 1) := by decide +kernel
theorem dX6_runFrame_6 : decode cX6_runFrame 6 = .ok (.iadd, 1) := by decide +kernel
theorem dX6_runFrame_7 : decode cX6_runFrame 7 = .ok (.putfield 160, 3) := by decide +kernel
theorem dX6_runFrame_10 : decode cX6_runFrame 10 = .ok (.aload_n 0, 1) := by decide +kernel
theorem dX6_runFrame_11 : decode cX6_runFrame 11 = .ok (.getfield 26, 3) := by decide +kernel
theorem dX6_runFrame_14 : decode cX6_runFrame 14 = .ok (.iconst 0, 1) := by decide +kernel
theorem dX6_runFrame_15 : decode cX6_runFrame 15 = .ok (.invokevirtual 111, 3) := by decide +kernel
theorem dX6_runFrame_18 : decode cX6_runFrame 18 = .ok (.aload_n 0, 1) := by decide +kernel
theorem dX6_runFrame_19 : decode cX6_runFrame 19 = .ok (.getfield 18, 3) := by decide +kernel
theorem dX6_runFrame_22 : decode cX6_runFrame 22 = .ok (.invokevirtual 99, 3) := by decide +kernel
theorem dX6_runFrame_25 : decode cX6_runFrame 25 = .ok (.ifCond .le 18, 3) := by decide +kernel
theorem dX6_runFrame_28 : decode cX6_runFrame 28 = .ok (.aload_n 0, 1) := by decide +kernel
theorem dX6_runFrame_29 : decode cX6_runFrame 29 = .ok (.getfield 18, 3) := by decide +kernel
theorem dX6_runFrame_32 : decode cX6_runFrame 32 = .ok (.iconst 0, 1) := by decide +kernel
theorem dX6_runFrame_33 : decode cX6_runFrame 33 = .ok (.invokevirtual 126, 3) := by decide +kernel
theorem dX6_runFrame_36 : decode cX6_runFrame 36 = .ok (.ifCond .ne 7, 3) := by decide +kernel
theorem dX6_runFrame_39 : decode cX6_runFrame 39 = .ok (.iconst 1, 1) := by decide +kernel
theorem dX6_runFrame_40 : decode cX6_runFrame 40 = .ok (.goto 4, 3) := by decide +kernel
theorem dX6_runFrame_43 : decode cX6_runFrame 43 = .ok (.iconst 0, 1) := by decide +kernel
theorem dX6_runFrame_44 : decode cX6_runFrame 44 = .ok (.istore_n 1, 1) := by decide +kernel
theorem dX6_runFrame_45 : decode cX6_runFrame 45 = .ok (.aload_n 0, 1) := by decide +kernel
theorem dX6_runFrame_46 : decode cX6_runFrame 46 = .ok (.getfield 34, 3) := by decide +kernel
theorem dX6_runFrame_49 : decode cX6_runFrame 49 = .ok (.aload_n 0, 1) := by decide +kernel
theorem dX6_runFrame_50 : decode cX6_runFrame 50 = .ok (.getfield 18, 3) := by decide +kernel
theorem dX6_runFrame_53 : decode cX6_runFrame 53 = .ok (.invokevirtual 246, 3) := by decide +kernel
theorem dX6_runFrame_56 : decode cX6_runFrame 56 = .ok (.istore_n 2, 1) := by decide +kernel
theorem dX6_runFrame_57 : decode cX6_runFrame 57 = .ok (.iconst 0, 1) := by decide +kernel
theorem dX6_runFrame_58 : decode cX6_runFrame 58 = .ok (.istore_n 3, 1) := by decide +kernel
theorem dX6_runFrame_59 : decode cX6_runFrame 59 = .ok (.iload_n 3, 1) := by decide +kernel
theorem dX6_runFrame_60 : decode cX6_runFrame 60 = .ok (.aload_n 0, 1) := by decide +kernel
theorem dX6_runFrame_61 : decode cX6_runFrame 61 = .ok (.getfield 87, 3) := by decide +kernel
theorem dX6_runFrame_64 : decode cX6_runFrame 64 = .ok (.if_icmp .ge 97, 3) := by decide +kernel
theorem dX6_runFrame_67 : decode cX6_runFrame 67 = .ok (.aload_n 0, 1) := by decide +kernel
theorem dX6_runFrame_68 : decode cX6_runFrame 68 = .ok (.getfield 56, 3) := by decide +kernel
theorem dX6_runFrame_71 : decode cX6_runFrame 71 = .ok (.iload_n 3, 1) := by decide +kernel
theorem dX6_runFrame_72 : decode cX6_runFrame 72 = .ok (.aaload, 1) := by decide +kernel
theorem dX6_runFrame_73 : decode cX6_runFrame 73 = .ok (.astore 4, 2) := by decide +kernel
theorem dX6_runFrame_75 : decode cX6_runFrame 75 = .ok (.aload 4, 2) := by decide +kernel
theorem dX6_runFrame_77 : decode cX6_runFrame 77 = .ok (.aload_n 0, 1) := by decide +kernel
theorem dX6_runFrame_78 : decode cX6_runFrame 78 = .ok (.getfield 160, 3) := by decide +kernel
theorem dX6_runFrame_81 : decode cX6_runFrame 81 = .ok (.invokevirtual 250, 3) := by decide +kernel
theorem dX6_runFrame_84 : decode cX6_runFrame 84 = .ok (.iload_n 1, 1) := by decide +kernel
theorem dX6_runFrame_85 : decode cX6_runFrame 85 = .ok (.ifCond .eq 16, 3) := by decide +kernel
theorem dX6_runFrame_88 : decode cX6_runFrame 88 = .ok (.aload 4, 2) := by decide +kernel
theorem dX6_runFrame_90 : decode cX6_runFrame 90 = .ok (.aload_n 0, 1) := by decide +kernel
theorem dX6_runFrame_91 : decode cX6_runFrame 91 = .ok (.getfield 18, 3) := by decide +kernel
theorem dX6_runFrame_94 : decode cX6_runFrame 94 = .ok (.aload_n 0, 1) := by decide +kernel
theorem dX6_runFrame_95 : decode cX6_runFrame 95 = .ok (.getfield 160, 3) := by decide +kernel
theorem dX6_runFrame_98 : decode cX6_runFrame 98 = .ok (.invokevirtual 253, 3) := by decide +kernel
theorem dX6_runFrame_101 : decode cX6_runFrame 101 = .ok (.iload_n 2, 1) := by decide +kernel
theorem dX6_runFrame_102 : decode cX6_runFrame 102 = .ok (.ifCond .eq 53, 3) := by decide +kernel
theorem dX6_runFrame_105 : decode cX6_runFrame 105 = .ok (.aload 4, 2) := by decide +kernel
theorem dX6_runFrame_107 : decode cX6_runFrame 107 = .ok (.aload_n 0, 1) := by decide +kernel
theorem dX6_runFrame_108 : decode cX6_runFrame 108 = .ok (.getfield 34, 3) := by decide +kernel
theorem dX6_runFrame_111 : decode cX6_runFrame 111 = .ok (.getfield 257, 3) := by decide +kernel
theorem dX6_runFrame_114 : decode cX6_runFrame 114 = .ok (.invokevirtual 260, 3) := by decide +kernel
theorem dX6_runFrame_117 : decode cX6_runFrame 117 = .ok (.ifCond .eq 38, 3) := by decide +kernel
theorem dX6_runFrame_120 : decode cX6_runFrame 120 = .ok (.aload 4, 2) := by decide +kernel
theorem dX6_runFrame_122 : decode cX6_runFrame 122 = .ok (.aload_n 0, 1) := by decide +kernel
theorem dX6_runFrame_123 : decode cX6_runFrame 123 = .ok (.getfield 34, 3) := by decide +kernel
theorem dX6_runFrame_126 : decode cX6_runFrame 126 = .ok (.aload_n 0, 1) := by decide +kernel
theorem dX6_runFrame_127 : decode cX6_runFrame 127 = .ok (.getfield 37, 3) := by decide +kernel
theorem dX6_runFrame_130 : decode cX6_runFrame 130 = .ok (.aload_n 0, 1) := by decide +kernel
theorem dX6_runFrame_131 : decode cX6_runFrame 131 = .ok (.getfield 23, 3) := by decide +kernel
theorem dX6_runFrame_134 : decode cX6_runFrame 134 = .ok (.aload_n 0, 1) := by decide +kernel
theorem dX6_runFrame_135 : decode cX6_runFrame 135 = .ok (.getfield 160, 3) := by decide +kernel
theorem dX6_runFrame_138 : decode cX6_runFrame 138 = .ok (.invokevirtual 263, 3) := by decide +kernel
theorem dX6_runFrame_141 : decode cX6_runFrame 141 = .ok (.ifCond .eq 14, 3) := by decide +kernel
theorem dX6_runFrame_144 : decode cX6_runFrame 144 = .ok (.aload_n 0, 1) := by decide +kernel
theorem dX6_runFrame_145 : decode cX6_runFrame 145 = .ok (.getfield 26, 3) := by decide +kernel
theorem dX6_runFrame_148 : decode cX6_runFrame 148 = .ok (.aload_n 0, 1) := by decide +kernel
theorem dX6_runFrame_149 : decode cX6_runFrame 149 = .ok (.getfield 23, 3) := by decide +kernel
theorem dX6_runFrame_152 : decode cX6_runFrame 152 = .ok (.invokevirtual 267, 3) := by decide +kernel
theorem dX6_runFrame_155 : decode cX6_runFrame 155 = .ok (.iinc 3 1, 3) := by decide +kernel
theorem dX6_runFrame_158 : decode cX6_runFrame 158 = .ok (.goto (-99), 3) := by decide +kernel
theorem dX6_runFrame_161 : decode cX6_runFrame 161 = .ok (.aload_n 0, 1) := by decide +kernel
theorem dX6_runFrame_162 : decode cX6_runFrame 162 = .ok (.getfield 26, 3) := by decide +kernel
theorem dX6_runFrame_165 : decode cX6_runFrame 165 = .ok (.invokevirtual 99, 3) := by decide +kernel
theorem dX6_runFrame_168 : decode cX6_runFrame 168 = .ok (.ifCond .le 14, 3) := by decide +kernel
theorem dX6_runFrame_171 : decode cX6_runFrame 171 = .ok (.aload_n 0, 1) := by decide +kernel
theorem dX6_runFrame_172 : decode cX6_runFrame 172 = .ok (.getfield 43, 3) := by decide +kernel
theorem dX6_runFrame_175 : decode cX6_runFrame 175 = .ok (.aload_n 0, 1) := by decide +kernel
theorem dX6_runFrame_176 : decode cX6_runFrame 176 = .ok (.getfield 26, 3) := by decide +kernel
theorem dX6_runFrame_179 : decode cX6_runFrame 179 = .ok (.invokevirtual 270, 3) := by decide +kernel
theorem dX6_runFrame_182 : decode cX6_runFrame 182 = .ok (.return_, 1) := by decide +kernel
theorem dX6_beginQuestion_0 : decode cX6_beginQuestion 0 = .ok (.aload_n 0, 1) := by decide +kernel
theorem dX6_beginQuestion_1 : decode cX6_beginQuestion 1 = .ok (.aload_n 0, 1) := by decide +kernel
theorem dX6_beginQuestion_2 : decode cX6_beginQuestion 2 = .ok (.getfield 273, 3) := by decide +kernel
theorem dX6_beginQuestion_5 : decode cX6_beginQuestion 5 = .ok (.iconst 1, 1) := by decide +kernel
theorem dX6_beginQuestion_6 : decode cX6_beginQuestion 6 = .ok (.iadd, 1) := by decide +kernel
theorem dX6_beginQuestion_7 : decode cX6_beginQuestion 7 = .ok (.sipush 255, 3) := by decide +kernel
theorem dX6_beginQuestion_10 : decode cX6_beginQuestion 10 = .ok (.iand, 1) := by decide +kernel
theorem dX6_beginQuestion_11 : decode cX6_beginQuestion 11 = .ok (.putfield 273, 3) := by decide +kernel
theorem dX6_beginQuestion_14 : decode cX6_beginQuestion 14 = .ok (.aload_n 0, 1) := by decide +kernel
theorem dX6_beginQuestion_15 : decode cX6_beginQuestion 15 = .ok (.getfield 30, 3) := by decide +kernel
theorem dX6_beginQuestion_18 : decode cX6_beginQuestion 18 = .ok (.lload_n 1, 1) := by decide +kernel
theorem dX6_beginQuestion_19 : decode cX6_beginQuestion 19 = .ok (.putfield 257, 3) := by decide +kernel
theorem dX6_beginQuestion_22 : decode cX6_beginQuestion 22 = .ok (.aload_n 0, 1) := by decide +kernel
theorem dX6_beginQuestion_23 : decode cX6_beginQuestion 23 = .ok (.getfield 30, 3) := by decide +kernel
theorem dX6_beginQuestion_26 : decode cX6_beginQuestion 26 = .ok (.ldc2_w 276, 3) := by decide +kernel
theorem dX6_beginQuestion_29 : decode cX6_beginQuestion 29 = .ok (.putfield 278, 3) := by decide +kernel
theorem dX6_beginQuestion_32 : decode cX6_beginQuestion 32 = .ok (.aload_n 0, 1) := by decide +kernel
theorem dX6_beginQuestion_33 : decode cX6_beginQuestion 33 = .ok (.getfield 30, 3) := by decide +kernel
theorem dX6_beginQuestion_36 : decode cX6_beginQuestion 36 = .ok (.aload_n 0, 1) := by decide +kernel
theorem dX6_beginQuestion_37 : decode cX6_beginQuestion 37 = .ok (.getfield 273, 3) := by decide +kernel
theorem dX6_beginQuestion_40 : decode cX6_beginQuestion 40 = .ok (.putfield 281, 3) := by decide +kernel
theorem dX6_beginQuestion_43 : decode cX6_beginQuestion 43 = .ok (.aload_n 0, 1) := by decide +kernel
theorem dX6_beginQuestion_44 : decode cX6_beginQuestion 44 = .ok (.getfield 30, 3) := by decide +kernel
theorem dX6_beginQuestion_47 : decode cX6_beginQuestion 47 = .ok (.iconst 1, 1) := by decide +kernel
theorem dX6_beginQuestion_48 : decode cX6_beginQuestion 48 = .ok (.putfield 151, 3) := by decide +kernel
theorem dX6_beginQuestion_51 : decode cX6_beginQuestion 51 = .ok (.aload_n 0, 1) := by decide +kernel
theorem dX6_beginQuestion_52 : decode cX6_beginQuestion 52 = .ok (.getfield 30, 3) := by decide +kernel
theorem dX6_beginQuestion_55 : decode cX6_beginQuestion 55 = .ok (.iconst 0, 1) := by decide +kernel
theorem dX6_beginQuestion_56 : decode cX6_beginQuestion 56 = .ok (.putfield 284, 3) := by decide +kernel
theorem dX6_beginQuestion_59 : decode cX6_beginQuestion 59 = .ok (.aload_n 0, 1) := by decide +kernel
theorem dX6_beginQuestion_60 : decode cX6_beginQuestion 60 = .ok (.getfield 30, 3) := by decide +kernel
theorem dX6_beginQuestion_63 : decode cX6_beginQuestion 63 = .ok (.iconst 0, 1) := by decide +kernel
theorem dX6_beginQuestion_64 : decode cX6_beginQuestion 64 = .ok (.putfield 139, 3) := by decide +kernel
theorem dX6_beginQuestion_67 : decode cX6_beginQuestion 67 = .ok (.aload_n 0, 1) := by decide +kernel
theorem dX6_beginQuestion_68 : decode cX6_beginQuestion 68 = .ok (.getfield 30, 3) := by decide +kernel
theorem dX6_beginQuestion_71 : decode cX6_beginQuestion 71 = .ok (.iload_n 3, 1) := by decide +kernel
theorem dX6_beginQuestion_72 : decode cX6_beginQuestion 72 = .ok (.putfield 287, 3) := by decide +kernel
theorem dX6_beginQuestion_75 : decode cX6_beginQuestion 75 = .ok (.aload_n 0, 1) := by decide +kernel
theorem dX6_beginQuestion_76 : decode cX6_beginQuestion 76 = .ok (.getfield 30, 3) := by decide +kernel
theorem dX6_beginQuestion_79 : decode cX6_beginQuestion 79 = .ok (.iload 4, 2) := by decide +kernel
theorem dX6_beginQuestion_81 : decode cX6_beginQuestion 81 = .ok (.putfield 290, 3) := by decide +kernel
theorem dX6_beginQuestion_84 : decode cX6_beginQuestion 84 = .ok (.aload_n 0, 1) := by decide +kernel
theorem dX6_beginQuestion_85 : decode cX6_beginQuestion 85 = .ok (.getfield 30, 3) := by decide +kernel
theorem dX6_beginQuestion_88 : decode cX6_beginQuestion 88 = .ok (.getfield 142, 3) := by decide +kernel
theorem dX6_beginQuestion_91 : decode cX6_beginQuestion 91 = .ok (.iconst 0, 1) := by decide +kernel
theorem dX6_beginQuestion_92 : decode cX6_beginQuestion 92 = .ok (.invokevirtual 111, 3) := by decide +kernel
theorem dX6_beginQuestion_95 : decode cX6_beginQuestion 95 = .ok (.return_, 1) := by decide +kernel
theorem dX6_writeSearch_0 : decode cX6_writeSearch 0 = .ok (.aload_n 0, 1) := by decide +kernel
theorem dX6_writeSearch_1 : decode cX6_writeSearch 1 = .ok (.lload_n 1, 1) := by decide +kernel
theorem dX6_writeSearch_2 : decode cX6_writeSearch 2 = .ok (.bipush 16, 2) := by decide +kernel
theorem dX6_writeSearch_4 : decode cX6_writeSearch 4 = .ok (.iload_n 3, 1) := by decide +kernel
theorem dX6_writeSearch_5 : decode cX6_writeSearch 5 = .ok (.invokevirtual 135, 3) := by decide +kernel
theorem dX6_writeSearch_8 : decode cX6_writeSearch 8 = .ok (.aload_n 0, 1) := by decide +kernel
theorem dX6_writeSearch_9 : decode cX6_writeSearch 9 = .ok (.getfield 30, 3) := by decide +kernel
theorem dX6_writeSearch_12 : decode cX6_writeSearch 12 = .ok (.aload_n 0, 1) := by decide +kernel
theorem dX6_writeSearch_13 : decode cX6_writeSearch 13 = .ok (.getfield 18, 3) := by decide +kernel
theorem dX6_writeSearch_16 : decode cX6_writeSearch 16 = .ok (.invokevirtual 145, 3) := by decide +kernel
theorem dX6_writeSearch_19 : decode cX6_writeSearch 19 = .ok (.return_, 1) := by decide +kernel
theorem dX6_writeBranchSearch_0 : decode cX6_writeBranchSearch 0 = .ok (.aload_n 0, 1) := by decide +kernel
theorem dX6_writeBranchSearch_1 : decode cX6_writeBranchSearch 1 = .ok (.ldc2_w 205, 3) := by decide +kernel
theorem dX6_writeBranchSearch_4 : decode cX6_writeBranchSearch 4 = .ok (.bipush 16, 2) := by decide +kernel
theorem dX6_writeBranchSearch_6 : decode cX6_writeBranchSearch 6 = .ok (.iconst 1, 1) := by decide +kernel
theorem dX6_writeBranchSearch_7 : decode cX6_writeBranchSearch 7 = .ok (.invokevirtual 135, 3) := by decide +kernel
theorem dX6_writeBranchSearch_10 : decode cX6_writeBranchSearch 10 = .ok (.aload_n 0, 1) := by decide +kernel
theorem dX6_writeBranchSearch_11 : decode cX6_writeBranchSearch 11 = .ok (.getfield 30, 3) := by decide +kernel
theorem dX6_writeBranchSearch_14 : decode cX6_writeBranchSearch 14 = .ok (.getfield 142, 3) := by decide +kernel
theorem dX6_writeBranchSearch_17 : decode cX6_writeBranchSearch 17 = .ok (.lload_n 1, 1) := by decide +kernel
theorem dX6_writeBranchSearch_18 : decode cX6_writeBranchSearch 18 = .ok (.bipush 6, 2) := by decide +kernel
theorem dX6_writeBranchSearch_20 : decode cX6_writeBranchSearch 20 = .ok (.invokevirtual 105, 3) := by decide +kernel
theorem dX6_writeBranchSearch_23 : decode cX6_writeBranchSearch 23 = .ok (.aload_n 0, 1) := by decide +kernel
theorem dX6_writeBranchSearch_24 : decode cX6_writeBranchSearch 24 = .ok (.getfield 30, 3) := by decide +kernel
theorem dX6_writeBranchSearch_27 : decode cX6_writeBranchSearch 27 = .ok (.getfield 142, 3) := by decide +kernel
theorem dX6_writeBranchSearch_30 : decode cX6_writeBranchSearch 30 = .ok (.lload_n 3, 1) := by decide +kernel
theorem dX6_writeBranchSearch_31 : decode cX6_writeBranchSearch 31 = .ok (.bipush 6, 2) := by decide +kernel
theorem dX6_writeBranchSearch_33 : decode cX6_writeBranchSearch 33 = .ok (.invokevirtual 105, 3) := by decide +kernel
theorem dX6_writeBranchSearch_36 : decode cX6_writeBranchSearch 36 = .ok (.aload_n 0, 1) := by decide +kernel
theorem dX6_writeBranchSearch_37 : decode cX6_writeBranchSearch 37 = .ok (.getfield 30, 3) := by decide +kernel
theorem dX6_writeBranchSearch_40 : decode cX6_writeBranchSearch 40 = .ok (.aload_n 0, 1) := by decide +kernel
theorem dX6_writeBranchSearch_41 : decode cX6_writeBranchSearch 41 = .ok (.getfield 18, 3) := by decide +kernel
theorem dX6_writeBranchSearch_44 : decode cX6_writeBranchSearch 44 = .ok (.invokevirtual 145, 3) := by decide +kernel
theorem dX6_writeBranchSearch_47 : decode cX6_writeBranchSearch 47 = .ok (.return_, 1) := by decide +kernel
theorem dX6_isReplyFrom_0 : decode cX6_isReplyFrom 0 = .ok (.aload_n 0, 1) := by decide +kernel
theorem dX6_isReplyFrom_1 : decode cX6_isReplyFrom 1 = .ok (.getfield 34, 3) := by decide +kernel
theorem dX6_isReplyFrom_4 : decode cX6_isReplyFrom 4 = .ok (.aload_n 0, 1) := by decide +kernel
theorem dX6_isReplyFrom_5 : decode cX6_isReplyFrom 5 = .ok (.getfield 26, 3) := by decide +kernel
theorem dX6_isReplyFrom_8 : decode cX6_isReplyFrom 8 = .ok (.invokevirtual 246, 3) := by decide +kernel
theorem dX6_isReplyFrom_11 : decode cX6_isReplyFrom 11 = .ok (.ifCond .eq 47, 3) := by decide +kernel
theorem dX6_isReplyFrom_14 : decode cX6_isReplyFrom 14 = .ok (.aload_n 0, 1) := by decide +kernel
theorem dX6_isReplyFrom_15 : decode cX6_isReplyFrom 15 = .ok (.getfield 34, 3) := by decide +kernel
theorem dX6_isReplyFrom_18 : decode cX6_isReplyFrom 18 = .ok (.getfield 278, 3) := by decide +kernel
theorem dX6_isReplyFrom_21 : decode cX6_isReplyFrom 21 = .ok (.lload_n 1, 1) := by decide +kernel
theorem dX6_isReplyFrom_22 : decode cX6_isReplyFrom 22 = .ok (.lcmp, 1) := by decide +kernel
theorem dX6_isReplyFrom_23 : decode cX6_isReplyFrom 23 = .ok (.ifCond .ne 35, 3) := by decide +kernel
theorem dX6_isReplyFrom_26 : decode cX6_isReplyFrom 26 = .ok (.aload_n 0, 1) := by decide +kernel
theorem dX6_isReplyFrom_27 : decode cX6_isReplyFrom 27 = .ok (.getfield 34, 3) := by decide +kernel
theorem dX6_isReplyFrom_30 : decode cX6_isReplyFrom 30 = .ok (.getfield 257, 3) := by decide +kernel
theorem dX6_isReplyFrom_33 : decode cX6_isReplyFrom 33 = .ok (.ldc2_w 276, 3) := by decide +kernel
theorem dX6_isReplyFrom_36 : decode cX6_isReplyFrom 36 = .ok (.lcmp, 1) := by decide +kernel
theorem dX6_isReplyFrom_37 : decode cX6_isReplyFrom 37 = .ok (.ifCond .ne 21, 3) := by decide +kernel
theorem dX6_isReplyFrom_40 : decode cX6_isReplyFrom 40 = .ok (.aload_n 0, 1) := by decide +kernel
theorem dX6_isReplyFrom_41 : decode cX6_isReplyFrom 41 = .ok (.getfield 34, 3) := by decide +kernel
theorem dX6_isReplyFrom_44 : decode cX6_isReplyFrom 44 = .ok (.getfield 281, 3) := by decide +kernel
theorem dX6_isReplyFrom_47 : decode cX6_isReplyFrom 47 = .ok (.aload_n 0, 1) := by decide +kernel
theorem dX6_isReplyFrom_48 : decode cX6_isReplyFrom 48 = .ok (.getfield 273, 3) := by decide +kernel
theorem dX6_isReplyFrom_51 : decode cX6_isReplyFrom 51 = .ok (.if_icmp .ne 7, 3) := by decide +kernel
theorem dX6_isReplyFrom_54 : decode cX6_isReplyFrom 54 = .ok (.iconst 1, 1) := by decide +kernel
theorem dX6_isReplyFrom_55 : decode cX6_isReplyFrom 55 = .ok (.goto 4, 3) := by decide +kernel
theorem dX6_isReplyFrom_58 : decode cX6_isReplyFrom 58 = .ok (.iconst 0, 1) := by decide +kernel
theorem dX6_isReplyFrom_59 : decode cX6_isReplyFrom 59 = .ok (.ireturn, 1) := by decide +kernel
theorem dX6_takeStep_0 : decode cX6_takeStep 0 = .ok (.aload_n 0, 1) := by decide +kernel
theorem dX6_takeStep_1 : decode cX6_takeStep 1 = .ok (.getfield 50, 3) := by decide +kernel
theorem dX6_takeStep_4 : decode cX6_takeStep 4 = .ok (.invokevirtual 237, 3) := by decide +kernel
theorem dX6_takeStep_7 : decode cX6_takeStep 7 = .ok (.lstore_n 1, 1) := by decide +kernel
theorem dX6_takeStep_8 : decode cX6_takeStep 8 = .ok (.aload_n 0, 1) := by decide +kernel
theorem dX6_takeStep_9 : decode cX6_takeStep 9 = .ok (.getfield 50, 3) := by decide +kernel
theorem dX6_takeStep_12 : decode cX6_takeStep 12 = .ok (.invokevirtual 241, 3) := by decide +kernel
theorem dX6_takeStep_15 : decode cX6_takeStep 15 = .ok (.lstore_n 3, 1) := by decide +kernel
theorem dX6_takeStep_16 : decode cX6_takeStep 16 = .ok (.aload_n 0, 1) := by decide +kernel
theorem dX6_takeStep_17 : decode cX6_takeStep 17 = .ok (.getfield 50, 3) := by decide +kernel
theorem dX6_takeStep_20 : decode cX6_takeStep 20 = .ok (.invokevirtual 293, 3) := by decide +kernel
theorem dX6_takeStep_23 : decode cX6_takeStep 23 = .ok (.lload_n 1, 1) := by decide +kernel
theorem dX6_takeStep_24 : decode cX6_takeStep 24 = .ok (.lload_n 3, 1) := by decide +kernel
theorem dX6_takeStep_25 : decode cX6_takeStep 25 = .ok (.lcmp, 1) := by decide +kernel
theorem dX6_takeStep_26 : decode cX6_takeStep 26 = .ok (.ifCond .ne 33, 3) := by decide +kernel
theorem dX6_takeStep_29 : decode cX6_takeStep 29 = .ok (.lload_n 1, 1) := by decide +kernel
theorem dX6_takeStep_30 : decode cX6_takeStep 30 = .ok (.invokestatic 177, 3) := by decide +kernel
theorem dX6_takeStep_33 : decode cX6_takeStep 33 = .ok (.ldc2_w 60, 3) := by decide +kernel
theorem dX6_takeStep_36 : decode cX6_takeStep 36 = .ok (.lcmp, 1) := by decide +kernel
theorem dX6_takeStep_37 : decode cX6_takeStep 37 = .ok (.ifCond .eq 21, 3) := by decide +kernel
theorem dX6_takeStep_40 : decode cX6_takeStep 40 = .ok (.aload_n 0, 1) := by decide +kernel
theorem dX6_takeStep_41 : decode cX6_takeStep 41 = .ok (.lload_n 1, 1) := by decide +kernel
theorem dX6_takeStep_42 : decode cX6_takeStep 42 = .ok (.invokevirtual 296, 3) := by decide +kernel
theorem dX6_takeStep_45 : decode cX6_takeStep 45 = .ok (.iconst 2, 1) := by decide +kernel
theorem dX6_takeStep_46 : decode cX6_takeStep 46 = .ok (.if_icmp .ne 12, 3) := by decide +kernel
theorem dX6_takeStep_49 : decode cX6_takeStep 49 = .ok (.aload_n 0, 1) := by decide +kernel
theorem dX6_takeStep_50 : decode cX6_takeStep 50 = .ok (.getfield 50, 3) := by decide +kernel
theorem dX6_takeStep_53 : decode cX6_takeStep 53 = .ok (.lload_n 1, 1) := by decide +kernel
theorem dX6_takeStep_54 : decode cX6_takeStep 54 = .ok (.lload_n 3, 1) := by decide +kernel
theorem dX6_takeStep_55 : decode cX6_takeStep 55 = .ok (.invokevirtual 300, 3) := by decide +kernel
theorem dX6_takeStep_58 : decode cX6_takeStep 58 = .ok (.return_, 1) := by decide +kernel
theorem dX6_takeStep_59 : decode cX6_takeStep 59 = .ok (.aload_n 0, 1) := by decide +kernel
theorem dX6_takeStep_60 : decode cX6_takeStep 60 = .ok (.lload_n 1, 1) := by decide +kernel
theorem dX6_takeStep_61 : decode cX6_takeStep 61 = .ok (.lload_n 3, 1) := by decide +kernel
theorem dX6_takeStep_62 : decode cX6_takeStep 62 = .ok (.invokevirtual 304, 3) := by decide +kernel
theorem dX6_takeStep_65 : decode cX6_takeStep 65 = .ok (.aload_n 0, 1) := by decide +kernel
theorem dX6_takeStep_66 : decode cX6_takeStep 66 = .ok (.invokevirtual 118, 3) := by decide +kernel
theorem dX6_takeStep_69 : decode cX6_takeStep 69 = .ok (.aload_n 0, 1) := by decide +kernel
theorem dX6_takeStep_70 : decode cX6_takeStep 70 = .ok (.getfield 26, 3) := by decide +kernel
theorem dX6_takeStep_73 : decode cX6_takeStep 73 = .ok (.invokevirtual 99, 3) := by decide +kernel
theorem dX6_takeStep_76 : decode cX6_takeStep 76 = .ok (.ifCond .ne 4, 3) := by decide +kernel
theorem dX6_takeStep_79 : decode cX6_takeStep 79 = .ok (.return_, 1) := by decide +kernel
theorem dX6_takeStep_80 : decode cX6_takeStep 80 = .ok (.aload_n 0, 1) := by decide +kernel
theorem dX6_takeStep_81 : decode cX6_takeStep 81 = .ok (.getfield 26, 3) := by decide +kernel
theorem dX6_takeStep_84 : decode cX6_takeStep 84 = .ok (.invokestatic 307, 3) := by decide +kernel
theorem dX6_takeStep_87 : decode cX6_takeStep 87 = .ok (.lstore 5, 2) := by decide +kernel
theorem dX6_takeStep_89 : decode cX6_takeStep 89 = .ok (.lload 5, 2) := by decide +kernel
theorem dX6_takeStep_91 : decode cX6_takeStep 91 = .ok (.lload_n 1, 1) := by decide +kernel
theorem dX6_takeStep_92 : decode cX6_takeStep 92 = .ok (.lcmp, 1) := by decide +kernel
theorem dX6_takeStep_93 : decode cX6_takeStep 93 = .ok (.ifCond .lt 38, 3) := by decide +kernel
theorem dX6_takeStep_96 : decode cX6_takeStep 96 = .ok (.lload 5, 2) := by decide +kernel
theorem dX6_takeStep_98 : decode cX6_takeStep 98 = .ok (.lload_n 3, 1) := by decide +kernel
theorem dX6_takeStep_99 : decode cX6_takeStep 99 = .ok (.lcmp, 1) := by decide +kernel
theorem dX6_takeStep_100 : decode cX6_takeStep 100 = .ok (.ifCond .gt 31, 3) := by decide +kernel
theorem dX6_takeStep_103 : decode cX6_takeStep 103 = .ok (.lload 5, 2) := by decide +kernel
theorem dX6_takeStep_105 : decode cX6_takeStep 105 = .ok (.invokestatic 177, 3) := by decide +kernel
theorem dX6_takeStep_108 : decode cX6_takeStep 108 = .ok (.ldc2_w 60, 3) := by decide +kernel
theorem dX6_takeStep_111 : decode cX6_takeStep 111 = .ok (.lcmp, 1) := by decide +kernel
theorem dX6_takeStep_112 : decode cX6_takeStep 112 = .ok (.ifCond .eq 19, 3) := by decide +kernel
theorem dX6_takeStep_115 : decode cX6_takeStep 115 = .ok (.aload_n 0, 1) := by decide +kernel
theorem dX6_takeStep_116 : decode cX6_takeStep 116 = .ok (.getfield 50, 3) := by decide +kernel
theorem dX6_takeStep_119 : decode cX6_takeStep 119 = .ok (.lload 5, 2) := by decide +kernel
theorem dX6_takeStep_121 : decode cX6_takeStep 121 = .ok (.invokevirtual 313, 3) := by decide +kernel
theorem dX6_takeStep_124 : decode cX6_takeStep 124 = .ok (.ifCond .ne 7, 3) := by decide +kernel
theorem dX6_takeStep_127 : decode cX6_takeStep 127 = .ok (.iconst 1, 1) := by decide +kernel
theorem dX6_takeStep_128 : decode cX6_takeStep 128 = .ok (.goto 4, 3) := by decide +kernel
theorem dX6_takeStep_131 : decode cX6_takeStep 131 = .ok (.iconst 0, 1) := by decide +kernel
theorem dX6_takeStep_132 : decode cX6_takeStep 132 = .ok (.istore 7, 2) := by decide +kernel
theorem dX6_takeStep_134 : decode cX6_takeStep 134 = .ok (.iload 7, 2) := by decide +kernel
theorem dX6_takeStep_136 : decode cX6_takeStep 136 = .ok (.ifCond .eq 22, 3) := by decide +kernel
theorem dX6_takeStep_139 : decode cX6_takeStep 139 = .ok (.aload_n 0, 1) := by decide +kernel
theorem dX6_takeStep_140 : decode cX6_takeStep 140 = .ok (.lload 5, 2) := by decide +kernel
theorem dX6_takeStep_142 : decode cX6_takeStep 142 = .ok (.invokevirtual 296, 3) := by decide +kernel
theorem dX6_takeStep_145 : decode cX6_takeStep 145 = .ok (.ifCond .eq 13, 3) := by decide +kernel
theorem dX6_takeStep_148 : decode cX6_takeStep 148 = .ok (.aload_n 0, 1) := by decide +kernel
theorem dX6_takeStep_149 : decode cX6_takeStep 149 = .ok (.getfield 50, 3) := by decide +kernel
theorem dX6_takeStep_152 : decode cX6_takeStep 152 = .ok (.lload_n 1, 1) := by decide +kernel
theorem dX6_takeStep_153 : decode cX6_takeStep 153 = .ok (.lload_n 3, 1) := by decide +kernel
theorem dX6_takeStep_154 : decode cX6_takeStep 154 = .ok (.invokevirtual 300, 3) := by decide +kernel
theorem dX6_takeStep_157 : decode cX6_takeStep 157 = .ok (.return_, 1) := by decide +kernel
theorem dX6_takeStep_158 : decode cX6_takeStep 158 = .ok (.lload_n 1, 1) := by decide +kernel
theorem dX6_takeStep_159 : decode cX6_takeStep 159 = .ok (.lload_n 3, 1) := by decide +kernel
theorem dX6_takeStep_160 : decode cX6_takeStep 160 = .ok (.ladd, 1) := by decide +kernel
theorem dX6_takeStep_161 : decode cX6_takeStep 161 = .ok (.iconst 1, 1) := by decide +kernel
theorem dX6_takeStep_162 : decode cX6_takeStep 162 = .ok (.lushr, 1) := by decide +kernel
theorem dX6_takeStep_163 : decode cX6_takeStep 163 = .ok (.lstore 8, 2) := by decide +kernel
theorem dX6_takeStep_165 : decode cX6_takeStep 165 = .ok (.aload_n 0, 1) := by decide +kernel
theorem dX6_takeStep_166 : decode cX6_takeStep 166 = .ok (.getfield 50, 3) := by decide +kernel
theorem dX6_takeStep_169 : decode cX6_takeStep 169 = .ok (.lload 8, 2) := by decide +kernel
theorem dX6_takeStep_171 : decode cX6_takeStep 171 = .ok (.lconst 1, 1) := by decide +kernel
theorem dX6_takeStep_172 : decode cX6_takeStep 172 = .ok (.ladd, 1) := by decide +kernel
theorem dX6_takeStep_173 : decode cX6_takeStep 173 = .ok (.lload_n 3, 1) := by decide +kernel
theorem dX6_takeStep_174 : decode cX6_takeStep 174 = .ok (.invokevirtual 300, 3) := by decide +kernel
theorem dX6_takeStep_177 : decode cX6_takeStep 177 = .ok (.aload_n 0, 1) := by decide +kernel
theorem dX6_takeStep_178 : decode cX6_takeStep 178 = .ok (.getfield 50, 3) := by decide +kernel
theorem dX6_takeStep_181 : decode cX6_takeStep 181 = .ok (.lload_n 1, 1) := by decide +kernel
theorem dX6_takeStep_182 : decode cX6_takeStep 182 = .ok (.lload 8, 2) := by decide +kernel
theorem dX6_takeStep_184 : decode cX6_takeStep 184 = .ok (.invokevirtual 300, 3) := by decide +kernel
theorem dX6_takeStep_187 : decode cX6_takeStep 187 = .ok (.return_, 1) := by decide +kernel
theorem dX6_tryId_0 : decode cX6_tryId 0 = .ok (.aload_n 0, 1) := by decide +kernel
theorem dX6_tryId_1 : decode cX6_tryId 1 = .ok (.lload_n 1, 1) := by decide +kernel
theorem dX6_tryId_2 : decode cX6_tryId 2 = .ok (.iconst 2, 1) := by decide +kernel
theorem dX6_tryId_3 : decode cX6_tryId 3 = .ok (.invokevirtual 207, 3) := by decide +kernel
theorem dX6_tryId_6 : decode cX6_tryId 6 = .ok (.aload_n 0, 1) := by decide +kernel
theorem dX6_tryId_7 : decode cX6_tryId 7 = .ok (.invokevirtual 118, 3) := by decide +kernel
theorem dX6_tryId_10 : decode cX6_tryId 10 = .ok (.aload_n 0, 1) := by decide +kernel
theorem dX6_tryId_11 : decode cX6_tryId 11 = .ok (.getfield 26, 3) := by decide +kernel
theorem dX6_tryId_14 : decode cX6_tryId 14 = .ok (.invokevirtual 99, 3) := by decide +kernel
theorem dX6_tryId_17 : decode cX6_tryId 17 = .ok (.ifCond .ne 5, 3) := by decide +kernel
theorem dX6_tryId_20 : decode cX6_tryId 20 = .ok (.iconst 0, 1) := by decide +kernel
theorem dX6_tryId_21 : decode cX6_tryId 21 = .ok (.ireturn, 1) := by decide +kernel
theorem dX6_tryId_22 : decode cX6_tryId 22 = .ok (.aload_n 0, 1) := by decide +kernel
theorem dX6_tryId_23 : decode cX6_tryId 23 = .ok (.lload_n 1, 1) := by decide +kernel
theorem dX6_tryId_24 : decode cX6_tryId 24 = .ok (.invokevirtual 148, 3) := by decide +kernel
theorem dX6_tryId_27 : decode cX6_tryId 27 = .ok (.ifCond .eq 46, 3) := by decide +kernel
theorem dX6_tryId_30 : decode cX6_tryId 30 = .ok (.aload_n 0, 1) := by decide +kernel
theorem dX6_tryId_31 : decode cX6_tryId 31 = .ok (.getfield 34, 3) := by decide +kernel
theorem dX6_tryId_34 : decode cX6_tryId 34 = .ok (.getfield 287, 3) := by decide +kernel
theorem dX6_tryId_37 : decode cX6_tryId 37 = .ok (.bipush 17, 2) := by decide +kernel
theorem dX6_tryId_39 : decode cX6_tryId 39 = .ok (.if_icmp .ne 34, 3) := by decide +kernel
theorem dX6_tryId_42 : decode cX6_tryId 42 = .ok (.aload_n 0, 1) := by decide +kernel
theorem dX6_tryId_43 : decode cX6_tryId 43 = .ok (.getfield 34, 3) := by decide +kernel
theorem dX6_tryId_46 : decode cX6_tryId 46 = .ok (.getfield 290, 3) := by decide +kernel
theorem dX6_tryId_49 : decode cX6_tryId 49 = .ok (.iconst 2, 1) := by decide +kernel
theorem dX6_tryId_50 : decode cX6_tryId 50 = .ok (.if_icmp .ne 23, 3) := by decide +kernel
theorem dX6_tryId_53 : decode cX6_tryId 53 = .ok (.aload_n 0, 1) := by decide +kernel
theorem dX6_tryId_54 : decode cX6_tryId 54 = .ok (.getfield 34, 3) := by decide +kernel
theorem dX6_tryId_57 : decode cX6_tryId 57 = .ok (.getfield 151, 3) := by decide +kernel
theorem dX6_tryId_60 : decode cX6_tryId 60 = .ok (.ifCond .ne 13, 3) := by decide +kernel
theorem dX6_tryId_63 : decode cX6_tryId 63 = .ok (.aload_n 0, 1) := by decide +kernel
theorem dX6_tryId_64 : decode cX6_tryId 64 = .ok (.getfield 50, 3) := by decide +kernel
theorem dX6_tryId_67 : decode cX6_tryId 67 = .ok (.lload_n 1, 1) := by decide +kernel
theorem dX6_tryId_68 : decode cX6_tryId 68 = .ok (.invokevirtual 316, 3) := by decide +kernel
theorem dX6_tryId_71 : decode cX6_tryId 71 = .ok (.iconst 1, 1) := by decide +kernel
theorem dX6_tryId_72 : decode cX6_tryId 72 = .ok (.ireturn, 1) := by decide +kernel
theorem dX6_tryId_73 : decode cX6_tryId 73 = .ok (.aload_n 0, 1) := by decide +kernel
theorem dX6_tryId_74 : decode cX6_tryId 74 = .ok (.lload_n 1, 1) := by decide +kernel
theorem dX6_tryId_75 : decode cX6_tryId 75 = .ok (.iconst 3, 1) := by decide +kernel
theorem dX6_tryId_76 : decode cX6_tryId 76 = .ok (.invokevirtual 207, 3) := by decide +kernel
theorem dX6_tryId_79 : decode cX6_tryId 79 = .ok (.aload_n 0, 1) := by decide +kernel
theorem dX6_tryId_80 : decode cX6_tryId 80 = .ok (.invokevirtual 118, 3) := by decide +kernel
theorem dX6_tryId_83 : decode cX6_tryId 83 = .ok (.iconst 2, 1) := by decide +kernel
theorem dX6_tryId_84 : decode cX6_tryId 84 = .ok (.ireturn, 1) := by decide +kernel
