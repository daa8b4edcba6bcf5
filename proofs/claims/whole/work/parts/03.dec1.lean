theorem dX0_write_0 : decode cX0_write 0 = .ok (.aload_n 2, 1) := by decide +kernel
theorem dX0_write_1 : decode cX0_write 1 = .ok (.iconst 0, 1) := by decide +kernel
theorem dX0_write_2 : decode cX0_write 2 = .ok (.invokevirtual 9, 3) := by decide +kernel
theorem dX0_write_5 : decode cX0_write 5 = .ok (.iconst 0, 1) := by decide +kernel
theorem dX0_write_6 : decode cX0_write 6 = .ok (.istore_n 3, 1) := by decide +kernel
theorem dX0_write_7 : decode cX0_write 7 = .ok (.iload_n 3, 1) := by decide +kernel
theorem dX0_write_8 : decode cX0_write 8 = .ok (.bipush 7, 2) := by decide +kernel
theorem dX0_write_10 : decode cX0_write 10 = .ok (.if_icmp .ge 16, 3) := by decide +kernel
theorem dX0_write_13 : decode cX0_write 13 = .ok (.aload_n 2, 1) := by decide +kernel
theorem dX0_write_14 : decode cX0_write 14 = .ok (.sipush 254, 3) := by decide +kernel
theorem dX0_write_17 : decode cX0_write 17 = .ok (.invokevirtual 17, 3) := by decide +kernel
theorem dX0_write_20 : decode cX0_write 20 = .ok (.iinc 3 1, 3) := by decide +kernel
theorem dX0_write_23 : decode cX0_write 23 = .ok (.goto (-16), 3) := by decide +kernel
theorem dX0_write_26 : decode cX0_write 26 = .ok (.aload_n 2, 1) := by decide +kernel
theorem dX0_write_27 : decode cX0_write 27 = .ok (.sipush 170, 3) := by decide +kernel
theorem dX0_write_30 : decode cX0_write 30 = .ok (.invokevirtual 17, 3) := by decide +kernel
theorem dX0_write_33 : decode cX0_write 33 = .ok (.bipush 40, 2) := by decide +kernel
theorem dX0_write_35 : decode cX0_write 35 = .ok (.istore_n 3, 1) := by decide +kernel
theorem dX0_write_36 : decode cX0_write 36 = .ok (.iload_n 3, 1) := by decide +kernel
theorem dX0_write_37 : decode cX0_write 37 = .ok (.ifCond .lt 38, 3) := by decide +kernel
theorem dX0_write_40 : decode cX0_write 40 = .ok (.lload_n 0, 1) := by decide +kernel
theorem dX0_write_41 : decode cX0_write 41 = .ok (.iload_n 3, 1) := by decide +kernel
theorem dX0_write_42 : decode cX0_write 42 = .ok (.lushr, 1) := by decide +kernel
theorem dX0_write_43 : decode cX0_write 43 = .ok (.l2i, 1) := by decide +kernel
theorem dX0_write_44 : decode cX0_write 44 = .ok (.sipush 255, 3) := by decide +kernel
theorem dX0_write_47 : decode cX0_write 47 = .ok (.iand, 1) := by decide +kernel
theorem dX0_write_48 : decode cX0_write 48 = .ok (.istore 4, 2) := by decide +kernel
theorem dX0_write_50 : decode cX0_write 50 = .ok (.aload_n 2, 1) := by decide +kernel
theorem dX0_write_51 : decode cX0_write 51 = .ok (.iload 4, 2) := by decide +kernel
theorem dX0_write_53 : decode cX0_write 53 = .ok (.sipush 170, 3) := by decide +kernel
theorem dX0_write_56 : decode cX0_write 56 = .ok (.ior, 1) := by decide +kernel
theorem dX0_write_57 : decode cX0_write 57 = .ok (.invokevirtual 17, 3) := by decide +kernel
theorem dX0_write_60 : decode cX0_write 60 = .ok (.aload_n 2, 1) := by decide +kernel
theorem dX0_write_61 : decode cX0_write 61 = .ok (.iload 4, 2) := by decide +kernel
theorem dX0_write_63 : decode cX0_write 63 = .ok (.bipush 85, 2) := by decide +kernel
theorem dX0_write_65 : decode cX0_write 65 = .ok (.ior, 1) := by decide +kernel
theorem dX0_write_66 : decode cX0_write 66 = .ok (.invokevirtual 17, 3) := by decide +kernel
theorem dX0_write_69 : decode cX0_write 69 = .ok (.iinc 3 (-8), 3) := by decide +kernel
theorem dX0_write_72 : decode cX0_write 72 = .ok (.goto (-36), 3) := by decide +kernel
theorem dX0_write_75 : decode cX0_write 75 = .ok (.aload_n 2, 1) := by decide +kernel
theorem dX0_write_76 : decode cX0_write 76 = .ok (.bipush 8, 2) := by decide +kernel
theorem dX0_write_78 : decode cX0_write 78 = .ok (.bipush 20, 2) := by decide +kernel
theorem dX0_write_80 : decode cX0_write 80 = .ok (.invokevirtual 20, 3) := by decide +kernel
theorem dX0_write_83 : decode cX0_write 83 = .ok (.istore_n 3, 1) := by decide +kernel
theorem dX0_write_84 : decode cX0_write 84 = .ok (.aload_n 2, 1) := by decide +kernel
theorem dX0_write_85 : decode cX0_write 85 = .ok (.iload_n 3, 1) := by decide +kernel
theorem dX0_write_86 : decode cX0_write 86 = .ok (.bipush 8, 2) := by decide +kernel
theorem dX0_write_88 : decode cX0_write 88 = .ok (.iushr, 1) := by decide +kernel
theorem dX0_write_89 : decode cX0_write 89 = .ok (.sipush 170, 3) := by decide +kernel
theorem dX0_write_92 : decode cX0_write 92 = .ok (.ior, 1) := by decide +kernel
theorem dX0_write_93 : decode cX0_write 93 = .ok (.invokevirtual 17, 3) := by decide +kernel
theorem dX0_write_96 : decode cX0_write 96 = .ok (.aload_n 2, 1) := by decide +kernel
theorem dX0_write_97 : decode cX0_write 97 = .ok (.iload_n 3, 1) := by decide +kernel
theorem dX0_write_98 : decode cX0_write 98 = .ok (.bipush 8, 2) := by decide +kernel
theorem dX0_write_100 : decode cX0_write 100 = .ok (.iushr, 1) := by decide +kernel
theorem dX0_write_101 : decode cX0_write 101 = .ok (.bipush 85, 2) := by decide +kernel
theorem dX0_write_103 : decode cX0_write 103 = .ok (.ior, 1) := by decide +kernel
theorem dX0_write_104 : decode cX0_write 104 = .ok (.invokevirtual 17, 3) := by decide +kernel
theorem dX0_write_107 : decode cX0_write 107 = .ok (.aload_n 2, 1) := by decide +kernel
theorem dX0_write_108 : decode cX0_write 108 = .ok (.iload_n 3, 1) := by decide +kernel
theorem dX0_write_109 : decode cX0_write 109 = .ok (.sipush 170, 3) := by decide +kernel
theorem dX0_write_112 : decode cX0_write 112 = .ok (.ior, 1) := by decide +kernel
theorem dX0_write_113 : decode cX0_write 113 = .ok (.invokevirtual 17, 3) := by decide +kernel
theorem dX0_write_116 : decode cX0_write 116 = .ok (.aload_n 2, 1) := by decide +kernel
theorem dX0_write_117 : decode cX0_write 117 = .ok (.iload_n 3, 1) := by decide +kernel
theorem dX0_write_118 : decode cX0_write 118 = .ok (.bipush 85, 2) := by decide +kernel
theorem dX0_write_120 : decode cX0_write 120 = .ok (.ior, 1) := by decide +kernel
theorem dX0_write_121 : decode cX0_write 121 = .ok (.invokevirtual 17, 3) := by decide +kernel
theorem dX0_write_124 : decode cX0_write 124 = .ok (.return_, 1) := by decide +kernel
theorem dX0_read_0 : decode cX0_read 0 = .ok (.aload_n 0, 1) := by decide +kernel
theorem dX0_read_1 : decode cX0_read 1 = .ok (.invokevirtual 24, 3) := by decide +kernel
theorem dX0_read_4 : decode cX0_read 4 = .ok (.bipush 24, 2) := by decide +kernel
theorem dX0_read_6 : decode cX0_read 6 = .ok (.if_icmp .eq 7, 3) := by decide +kernel
theorem dX0_read_9 : decode cX0_read 9 = .ok (.ldc2_w 28, 3) := by decide +kernel
theorem dX0_read_12 : decode cX0_read 12 = .ok (.lreturn, 1) := by decide +kernel
theorem dX0_read_13 : decode cX0_read 13 = .ok (.iconst 0, 1) := by decide +kernel
theorem dX0_read_14 : decode cX0_read 14 = .ok (.istore_n 1, 1) := by decide +kernel
theorem dX0_read_15 : decode cX0_read 15 = .ok (.iload_n 1, 1) := by decide +kernel
theorem dX0_read_16 : decode cX0_read 16 = .ok (.bipush 8, 2) := by decide +kernel
theorem dX0_read_18 : decode cX0_read 18 = .ok (.if_icmp .ge 36, 3) := by decide +kernel
theorem dX0_read_21 : decode cX0_read 21 = .ok (.aload_n 0, 1) := by decide +kernel
theorem dX0_read_22 : decode cX0_read 22 = .ok (.iload_n 1, 1) := by decide +kernel
theorem dX0_read_23 : decode cX0_read 23 = .ok (.invokevirtual 30, 3) := by decide +kernel
theorem dX0_read_26 : decode cX0_read 26 = .ok (.iload_n 1, 1) := by decide +kernel
theorem dX0_read_27 : decode cX0_read 27 = .ok (.bipush 7, 2) := by decide +kernel
theorem dX0_read_29 : decode cX0_read 29 = .ok (.if_icmp .ge 9, 3) := by decide +kernel
theorem dX0_read_32 : decode cX0_read 32 = .ok (.sipush 254, 3) := by decide +kernel
theorem dX0_read_35 : decode cX0_read 35 = .ok (.goto 6, 3) := by decide +kernel
theorem dX0_read_38 : decode cX0_read 38 = .ok (.sipush 170, 3) := by decide +kernel
theorem dX0_read_41 : decode cX0_read 41 = .ok (.if_icmp .eq 7, 3) := by decide +kernel
theorem dX0_read_44 : decode cX0_read 44 = .ok (.ldc2_w 28, 3) := by decide +kernel
theorem dX0_read_47 : decode cX0_read 47 = .ok (.lreturn, 1) := by decide +kernel
theorem dX0_read_48 : decode cX0_read 48 = .ok (.iinc 1 1, 3) := by decide +kernel
theorem dX0_read_51 : decode cX0_read 51 = .ok (.goto (-36), 3) := by decide +kernel
theorem dX0_read_54 : decode cX0_read 54 = .ok (.lconst 0, 1) := by decide +kernel
theorem dX0_read_55 : decode cX0_read 55 = .ok (.lstore_n 1, 1) := by decide +kernel
theorem dX0_read_56 : decode cX0_read 56 = .ok (.bipush 8, 2) := by decide +kernel
theorem dX0_read_58 : decode cX0_read 58 = .ok (.istore_n 3, 1) := by decide +kernel
theorem dX0_read_59 : decode cX0_read 59 = .ok (.iload_n 3, 1) := by decide +kernel
theorem dX0_read_60 : decode cX0_read 60 = .ok (.bipush 24, 2) := by decide +kernel
theorem dX0_read_62 : decode cX0_read 62 = .ok (.if_icmp .ge 63, 3) := by decide +kernel
theorem dX0_read_65 : decode cX0_read 65 = .ok (.aload_n 0, 1) := by decide +kernel
theorem dX0_read_66 : decode cX0_read 66 = .ok (.iload_n 3, 1) := by decide +kernel
theorem dX0_read_67 : decode cX0_read 67 = .ok (.invokevirtual 30, 3) := by decide +kernel
theorem dX0_read_70 : decode cX0_read 70 = .ok (.istore 4, 2) := by decide +kernel
theorem dX0_read_72 : decode cX0_read 72 = .ok (.aload_n 0, 1) := by decide +kernel
theorem dX0_read_73 : decode cX0_read 73 = .ok (.iload_n 3, 1) := by decide +kernel
theorem dX0_read_74 : decode cX0_read 74 = .ok (.iconst 1, 1) := by decide +kernel
theorem dX0_read_75 : decode cX0_read 75 = .ok (.iadd, 1) := by decide +kernel
theorem dX0_read_76 : decode cX0_read 76 = .ok (.invokevirtual 30, 3) := by decide +kernel
theorem dX0_read_79 : decode cX0_read 79 = .ok (.istore 5, 2) := by decide +kernel
theorem dX0_read_81 : decode cX0_read 81 = .ok (.iload 4, 2) := by decide +kernel
theorem dX0_read_83 : decode cX0_read 83 = .ok (.sipush 170, 3) := by decide +kernel
theorem dX0_read_86 : decode cX0_read 86 = .ok (.iand, 1) := by decide +kernel
theorem dX0_read_87 : decode cX0_read 87 = .ok (.sipush 170, 3) := by decide +kernel
theorem dX0_read_90 : decode cX0_read 90 = .ok (.if_icmp .ne 13, 3) := by decide +kernel
theorem dX0_read_93 : decode cX0_read 93 = .ok (.iload 5, 2) := by decide +kernel
theorem dX0_read_95 : decode cX0_read 95 = .ok (.bipush 85, 2) := by decide +kernel
theorem dX0_read_97 : decode cX0_read 97 = .ok (.iand, 1) := by decide +kernel
theorem dX0_read_98 : decode cX0_read 98 = .ok (.bipush 85, 2) := by decide +kernel
theorem dX0_read_100 : decode cX0_read 100 = .ok (.if_icmp .eq 7, 3) := by decide +kernel
theorem dX0_read_103 : decode cX0_read 103 = .ok (.ldc2_w 28, 3) := by decide +kernel
theorem dX0_read_106 : decode cX0_read 106 = .ok (.lreturn, 1) := by decide +kernel
theorem dX0_read_107 : decode cX0_read 107 = .ok (.lload_n 1, 1) := by decide +kernel
theorem dX0_read_108 : decode cX0_read 108 = .ok (.bipush 8, 2) := by decide +kernel
theorem dX0_read_110 : decode cX0_read 110 = .ok (.lshl, 1) := by decide +kernel
theorem dX0_read_111 : decode cX0_read 111 = .ok (.iload 4, 2) := by decide +kernel
theorem dX0_read_113 : decode cX0_read 113 = .ok (.iload 5, 2) := by decide +kernel
theorem dX0_read_115 : decode cX0_read 115 = .ok (.iand, 1) := by decide +kernel
theorem dX0_read_116 : decode cX0_read 116 = .ok (.i2l, 1) := by decide +kernel
theorem dX0_read_117 : decode cX0_read 117 = .ok (.lor, 1) := by decide +kernel
theorem dX0_read_118 : decode cX0_read 118 = .ok (.lstore_n 1, 1) := by decide +kernel
theorem dX0_read_119 : decode cX0_read 119 = .ok (.iinc 3 2, 3) := by decide +kernel
theorem dX0_read_122 : decode cX0_read 122 = .ok (.goto (-63), 3) := by decide +kernel
theorem dX0_read_125 : decode cX0_read 125 = .ok (.lload_n 1, 1) := by decide +kernel
theorem dX0_read_126 : decode cX0_read 126 = .ok (.ldc2_w 34, 3) := by decide +kernel
theorem dX0_read_129 : decode cX0_read 129 = .ok (.land, 1) := by decide +kernel
theorem dX0_read_130 : decode cX0_read 130 = .ok (.aload_n 0, 1) := by decide +kernel
theorem dX0_read_131 : decode cX0_read 131 = .ok (.bipush 8, 2) := by decide +kernel
theorem dX0_read_133 : decode cX0_read 133 = .ok (.bipush 20, 2) := by decide +kernel
theorem dX0_read_135 : decode cX0_read 135 = .ok (.invokevirtual 20, 3) := by decide +kernel
theorem dX0_read_138 : decode cX0_read 138 = .ok (.i2l, 1) := by decide +kernel
theorem dX0_read_139 : decode cX0_read 139 = .ok (.lcmp, 1) := by decide +kernel
theorem dX0_read_140 : decode cX0_read 140 = .ok (.ifCond .ne 10, 3) := by decide +kernel
theorem dX0_read_143 : decode cX0_read 143 = .ok (.lload_n 1, 1) := by decide +kernel
theorem dX0_read_144 : decode cX0_read 144 = .ok (.bipush 16, 2) := by decide +kernel
theorem dX0_read_146 : decode cX0_read 146 = .ok (.lushr, 1) := by decide +kernel
theorem dX0_read_147 : decode cX0_read 147 = .ok (.goto 6, 3) := by decide +kernel
theorem dX0_read_150 : decode cX0_read 150 = .ok (.ldc2_w 28, 3) := by decide +kernel
theorem dX0_read_153 : decode cX0_read 153 = .ok (.lreturn, 1) := by decide +kernel
theorem dX1_init_0 : decode cX1_init 0 = .ok (.aload_n 0, 1) := by decide +kernel
theorem dX1_init_1 : decode cX1_init 1 = .ok (.invokespecial 3, 3) := by decide +kernel
theorem dX1_init_4 : decode cX1_init 4 = .ok (.aload_n 0, 1) := by decide +kernel
theorem dX1_init_5 : decode cX1_init 5 = .ok (.sipush 512, 3) := by decide +kernel
theorem dX1_init_8 : decode cX1_init 8 = .ok (.newarray .int, 2) := by decide +kernel
theorem dX1_init_10 : decode cX1_init 10 = .ok (.putfield 9, 3) := by decide +kernel
theorem dX1_init_13 : decode cX1_init 13 = .ok (.aload_n 0, 1) := by decide +kernel
theorem dX1_init_14 : decode cX1_init 14 = .ok (.new 15, 3) := by decide +kernel
theorem dX1_init_17 : decode cX1_init 17 = .ok (.dup, 1) := by decide +kernel
theorem dX1_init_18 : decode cX1_init 18 = .ok (.bipush 32, 2) := by decide +kernel
theorem dX1_init_20 : decode cX1_init 20 = .ok (.invokespecial 17, 3) := by decide +kernel
theorem dX1_init_23 : decode cX1_init 23 = .ok (.putfield 20, 3) := by decide +kernel
theorem dX1_init_26 : decode cX1_init 26 = .ok (.aload_n 0, 1) := by decide +kernel
theorem dX1_init_27 : decode cX1_init 27 = .ok (.iconst 3, 1) := by decide +kernel
theorem dX1_init_28 : decode cX1_init 28 = .ok (.anewarray 15, 3) := by decide +kernel
theorem dX1_init_31 : decode cX1_init 31 = .ok (.putfield 24, 3) := by decide +kernel
theorem dX1_init_34 : decode cX1_init 34 = .ok (.aload_n 0, 1) := by decide +kernel
theorem dX1_init_35 : decode cX1_init 35 = .ok (.iconst 3, 1) := by decide +kernel
theorem dX1_init_36 : decode cX1_init 36 = .ok (.newarray .boolean, 2) := by decide +kernel
theorem dX1_init_38 : decode cX1_init 38 = .ok (.putfield 28, 3) := by decide +kernel
theorem dX1_init_41 : decode cX1_init 41 = .ok (.aload_n 0, 1) := by decide +kernel
theorem dX1_init_42 : decode cX1_init 42 = .ok (.iconst 1, 1) := by decide +kernel
theorem dX1_init_43 : decode cX1_init 43 = .ok (.putfield 32, 3) := by decide +kernel
theorem dX1_init_46 : decode cX1_init 46 = .ok (.aload_n 0, 1) := by decide +kernel
theorem dX1_init_47 : decode cX1_init 47 = .ok (.lload_n 1, 1) := by decide +kernel
theorem dX1_init_48 : decode cX1_init 48 = .ok (.putfield 36, 3) := by decide +kernel
theorem dX1_init_51 : decode cX1_init 51 = .ok (.aload_n 0, 1) := by decide +kernel
theorem dX1_init_52 : decode cX1_init 52 = .ok (.iload_n 3, 1) := by decide +kernel
theorem dX1_init_53 : decode cX1_init 53 = .ok (.putfield 40, 3) := by decide +kernel
theorem dX1_init_56 : decode cX1_init 56 = .ok (.aload_n 0, 1) := by decide +kernel
theorem dX1_init_57 : decode cX1_init 57 = .ok (.iload 4, 2) := by decide +kernel
theorem dX1_init_59 : decode cX1_init 59 = .ok (.putfield 43, 3) := by decide +kernel
theorem dX1_init_62 : decode cX1_init 62 = .ok (.aload_n 0, 1) := by decide +kernel
theorem dX1_init_63 : decode cX1_init 63 = .ok (.iload 5, 2) := by decide +kernel
theorem dX1_init_65 : decode cX1_init 65 = .ok (.putfield 46, 3) := by decide +kernel
theorem dX1_init_68 : decode cX1_init 68 = .ok (.iconst 0, 1) := by decide +kernel
theorem dX1_init_69 : decode cX1_init 69 = .ok (.istore 6, 2) := by decide +kernel
theorem dX1_init_71 : decode cX1_init 71 = .ok (.iload 6, 2) := by decide +kernel
theorem dX1_init_73 : decode cX1_init 73 = .ok (.iconst 3, 1) := by decide +kernel
theorem dX1_init_74 : decode cX1_init 74 = .ok (.if_icmp .ge 25, 3) := by decide +kernel
theorem dX1_init_77 : decode cX1_init 77 = .ok (.aload_n 0, 1) := by decide +kernel
theorem dX1_init_78 : decode cX1_init 78 = .ok (.getfield 24, 3) := by decide +kernel
theorem dX1_init_81 : decode cX1_init 81 = .ok (.iload 6, 2) := by decide +kernel
theorem dX1_init_83 : decode cX1_init 83 = .ok (.new 15, 3) := by decide +kernel
theorem dX1_init_86 : decode cX1_init 86 = .ok (.dup, 1) := by decide +kernel
theorem dX1_init_87 : decode cX1_init 87 = .ok (.bipush 32, 2) := by decide +kernel
theorem dX1_init_89 : decode cX1_init 89 = .ok (.invokespecial 17, 3) := by decide +kernel
theorem dX1_init_92 : decode cX1_init 92 = .ok (.aastore, 1) := by decide +kernel
theorem dX1_init_93 : decode cX1_init 93 = .ok (.iinc 6 1, 3) := by decide +kernel
theorem dX1_init_96 : decode cX1_init 96 = .ok (.goto (-25), 3) := by decide +kernel
theorem dX1_init_99 : decode cX1_init 99 = .ok (.return_, 1) := by decide +kernel
theorem dX1_footprint_0 : decode cX1_footprint 0 = .ok (.aload_n 0, 1) := by decide +kernel
theorem dX1_footprint_1 : decode cX1_footprint 1 = .ok (.getfield 40, 3) := by decide +kernel
theorem dX1_footprint_4 : decode cX1_footprint 4 = .ok (.aload_n 0, 1) := by decide +kernel
theorem dX1_footprint_5 : decode cX1_footprint 5 = .ok (.getfield 32, 3) := by decide +kernel
theorem dX1_footprint_8 : decode cX1_footprint 8 = .ok (.imul, 1) := by decide +kernel
theorem dX1_footprint_9 : decode cX1_footprint 9 = .ok (.ireturn, 1) := by decide +kernel
theorem dX1_levelAt_0 : decode cX1_levelAt 0 = .ok (.iload_n 1, 1) := by decide +kernel
theorem dX1_levelAt_1 : decode cX1_levelAt 1 = .ok (.ifCond .lt 19, 3) := by decide +kernel
theorem dX1_levelAt_4 : decode cX1_levelAt 4 = .ok (.iload_n 1, 1) := by decide +kernel
theorem dX1_levelAt_5 : decode cX1_levelAt 5 = .ok (.sipush 512, 3) := by decide +kernel
theorem dX1_levelAt_8 : decode cX1_levelAt 8 = .ok (.if_icmp .ge 12, 3) := by decide +kernel
theorem dX1_levelAt_11 : decode cX1_levelAt 11 = .ok (.aload_n 0, 1) := by decide +kernel
theorem dX1_levelAt_12 : decode cX1_levelAt 12 = .ok (.getfield 9, 3) := by decide +kernel
theorem dX1_levelAt_15 : decode cX1_levelAt 15 = .ok (.iload_n 1, 1) := by decide +kernel
theorem dX1_levelAt_16 : decode cX1_levelAt 16 = .ok (.iaload, 1) := by decide +kernel
theorem dX1_levelAt_17 : decode cX1_levelAt 17 = .ok (.goto 4, 3) := by decide +kernel
theorem dX1_levelAt_20 : decode cX1_levelAt 20 = .ok (.iconst 0, 1) := by decide +kernel
theorem dX1_levelAt_21 : decode cX1_levelAt 21 = .ok (.ireturn, 1) := by decide +kernel
theorem dX1_isDark_0 : decode cX1_isDark 0 = .ok (.aload_n 0, 1) := by decide +kernel
theorem dX1_isDark_1 : decode cX1_isDark 1 = .ok (.getfield 49, 3) := by decide +kernel
theorem dX1_isDark_4 : decode cX1_isDark 4 = .ok (.ifCond .eq 14, 3) := by decide +kernel
theorem dX1_isDark_7 : decode cX1_isDark 7 = .ok (.iload_n 1, 1) := by decide +kernel
theorem dX1_isDark_8 : decode cX1_isDark 8 = .ok (.aload_n 0, 1) := by decide +kernel
theorem dX1_isDark_9 : decode cX1_isDark 9 = .ok (.getfield 49, 3) := by decide +kernel
theorem dX1_isDark_12 : decode cX1_isDark 12 = .ok (.isub, 1) := by decide +kernel
theorem dX1_isDark_13 : decode cX1_isDark 13 = .ok (.bipush 20, 2) := by decide +kernel
theorem dX1_isDark_15 : decode cX1_isDark 15 = .ok (.if_icmp .lt 7, 3) := by decide +kernel
theorem dX1_isDark_18 : decode cX1_isDark 18 = .ok (.iconst 1, 1) := by decide +kernel
theorem dX1_isDark_19 : decode cX1_isDark 19 = .ok (.goto 4, 3) := by decide +kernel
theorem dX1_isDark_22 : decode cX1_isDark 22 = .ok (.iconst 0, 1) := by decide +kernel
theorem dX1_isDark_23 : decode cX1_isDark 23 = .ok (.ireturn, 1) := by decide +kernel
theorem dX1_fact_0 : decode cX1_fact 0 = .ok (.iload_n 1, 1) := by decide +kernel
theorem dX1_fact_1 : decode cX1_fact 1 = .ok (.tableswitch 130 0 10 #[59, 67, 72, 77, 82, 87, 95, 103, 112, 117, 125], 59) := by decide +kernel
theorem dX1_fact_60 : decode cX1_fact 60 = .ok (.aload_n 0, 1) := by decide +kernel
theorem dX1_fact_61 : decode cX1_fact 61 = .ok (.getfield 36, 3) := by decide +kernel
theorem dX1_fact_64 : decode cX1_fact 64 = .ok (.invokestatic 52, 3) := by decide +kernel
theorem dX1_fact_67 : decode cX1_fact 67 = .ok (.ireturn, 1) := by decide +kernel
theorem dX1_fact_68 : decode cX1_fact 68 = .ok (.aload_n 0, 1) := by decide +kernel
theorem dX1_fact_69 : decode cX1_fact 69 = .ok (.invokevirtual 56, 3) := by decide +kernel
theorem dX1_fact_72 : decode cX1_fact 72 = .ok (.ireturn, 1) := by decide +kernel
theorem dX1_fact_73 : decode cX1_fact 73 = .ok (.aload_n 0, 1) := by decide +kernel
theorem dX1_fact_74 : decode cX1_fact 74 = .ok (.getfield 32, 3) := by decide +kernel
theorem dX1_fact_77 : decode cX1_fact 77 = .ok (.ireturn, 1) := by decide +kernel
theorem dX1_fact_78 : decode cX1_fact 78 = .ok (.aload_n 0, 1) := by decide +kernel
theorem dX1_fact_79 : decode cX1_fact 79 = .ok (.getfield 43, 3) := by decide +kernel
theorem dX1_fact_82 : decode cX1_fact 82 = .ok (.ireturn, 1) := by decide +kernel
theorem dX1_fact_83 : decode cX1_fact 83 = .ok (.aload_n 0, 1) := by decide +kernel
theorem dX1_fact_84 : decode cX1_fact 84 = .ok (.getfield 46, 3) := by decide +kernel
theorem dX1_fact_87 : decode cX1_fact 87 = .ok (.ireturn, 1) := by decide +kernel
theorem dX1_fact_88 : decode cX1_fact 88 = .ok (.aload_n 0, 1) := by decide +kernel
theorem dX1_fact_89 : decode cX1_fact 89 = .ok (.getfield 60, 3) := by decide +kernel
theorem dX1_fact_92 : decode cX1_fact 92 = .ok (.invokestatic 64, 3) := by decide +kernel
theorem dX1_fact_95 : decode cX1_fact 95 = .ok (.ireturn, 1) := by decide +kernel
theorem dX1_fact_96 : decode cX1_fact 96 = .ok (.aload_n 0, 1) := by decide +kernel
theorem dX1_fact_97 : decode cX1_fact 97 = .ok (.getfield 68, 3) := by decide +kernel
theorem dX1_fact_100 : decode cX1_fact 100 = .ok (.invokestatic 64, 3) := by decide +kernel
theorem dX1_fact_103 : decode cX1_fact 103 = .ok (.ireturn, 1) := by decide +kernel
theorem dX1_fact_104 : decode cX1_fact 104 = .ok (.aload_n 0, 1) := by decide +kernel
theorem dX1_fact_105 : decode cX1_fact 105 = .ok (.iload_n 2, 1) := by decide +kernel
theorem dX1_fact_106 : decode cX1_fact 106 = .ok (.invokevirtual 71, 3) := by decide +kernel
theorem dX1_fact_109 : decode cX1_fact 109 = .ok (.invokestatic 64, 3) := by decide +kernel
theorem dX1_fact_112 : decode cX1_fact 112 = .ok (.ireturn, 1) := by decide +kernel
theorem dX1_fact_113 : decode cX1_fact 113 = .ok (.aload_n 0, 1) := by decide +kernel
theorem dX1_fact_114 : decode cX1_fact 114 = .ok (.getfield 75, 3) := by decide +kernel
theorem dX1_fact_117 : decode cX1_fact 117 = .ok (.ireturn, 1) := by decide +kernel
theorem dX1_fact_118 : decode cX1_fact 118 = .ok (.aload_n 0, 1) := by decide +kernel
theorem dX1_fact_119 : decode cX1_fact 119 = .ok (.getfield 20, 3) := by decide +kernel
theorem dX1_fact_122 : decode cX1_fact 122 = .ok (.invokevirtual 78, 3) := by decide +kernel
theorem dX1_fact_125 : decode cX1_fact 125 = .ok (.ireturn, 1) := by decide +kernel
theorem dX1_fact_126 : decode cX1_fact 126 = .ok (.aload_n 0, 1) := by decide +kernel
theorem dX1_fact_127 : decode cX1_fact 127 = .ok (.getfield 81, 3) := by decide +kernel
theorem dX1_fact_130 : decode cX1_fact 130 = .ok (.ireturn, 1) := by decide +kernel
theorem dX1_fact_131 : decode cX1_fact 131 = .ok (.iconst (-1), 1) := by decide +kernel
theorem dX1_fact_132 : decode cX1_fact 132 = .ok (.ireturn, 1) := by decide +kernel
theorem dX1_ripen_0 : decode cX1_ripen 0 = .ok (.iload_n 1, 1) := by decide +kernel
theorem dX1_ripen_1 : decode cX1_ripen 1 = .ok (.iconst 3, 1) := by decide +kernel
theorem dX1_ripen_2 : decode cX1_ripen 2 = .ok (.irem, 1) := by decide +kernel
theorem dX1_ripen_3 : decode cX1_ripen 3 = .ok (.istore_n 2, 1) := by decide +kernel
theorem dX1_ripen_4 : decode cX1_ripen 4 = .ok (.iload_n 2, 1) := by decide +kernel
theorem dX1_ripen_5 : decode cX1_ripen 5 = .ok (.ifCond .lt 52, 3) := by decide +kernel
theorem dX1_ripen_8 : decode cX1_ripen 8 = .ok (.aload_n 0, 1) := by decide +kernel
theorem dX1_ripen_9 : decode cX1_ripen 9 = .ok (.getfield 28, 3) := by decide +kernel
theorem dX1_ripen_12 : decode cX1_ripen 12 = .ok (.iload_n 2, 1) := by decide +kernel
theorem dX1_ripen_13 : decode cX1_ripen 13 = .ok (.baload, 1) := by decide +kernel
theorem dX1_ripen_14 : decode cX1_ripen 14 = .ok (.ifCond .eq 43, 3) := by decide +kernel
theorem dX1_ripen_17 : decode cX1_ripen 17 = .ok (.aload_n 0, 1) := by decide +kernel
theorem dX1_ripen_18 : decode cX1_ripen 18 = .ok (.getfield 28, 3) := by decide +kernel
theorem dX1_ripen_21 : decode cX1_ripen 21 = .ok (.iload_n 2, 1) := by decide +kernel
theorem dX1_ripen_22 : decode cX1_ripen 22 = .ok (.iconst 0, 1) := by decide +kernel
theorem dX1_ripen_23 : decode cX1_ripen 23 = .ok (.bastore, 1) := by decide +kernel
theorem dX1_ripen_24 : decode cX1_ripen 24 = .ok (.aload_n 0, 1) := by decide +kernel
theorem dX1_ripen_25 : decode cX1_ripen 25 = .ok (.getfield 20, 3) := by decide +kernel
theorem dX1_ripen_28 : decode cX1_ripen 28 = .ok (.aload_n 0, 1) := by decide +kernel
theorem dX1_ripen_29 : decode cX1_ripen 29 = .ok (.getfield 24, 3) := by decide +kernel
theorem dX1_ripen_32 : decode cX1_ripen 32 = .ok (.iload_n 2, 1) := by decide +kernel
theorem dX1_ripen_33 : decode cX1_ripen 33 = .ok (.aaload, 1) := by decide +kernel
theorem dX1_ripen_34 : decode cX1_ripen 34 = .ok (.invokevirtual 84, 3) := by decide +kernel
theorem dX1_ripen_37 : decode cX1_ripen 37 = .ok (.aload_n 0, 1) := by decide +kernel
theorem dX1_ripen_38 : decode cX1_ripen 38 = .ok (.dup, 1) := by decide +kernel
theorem dX1_ripen_39 : decode cX1_ripen 39 = .ok (.getfield 88, 3) := by decide +kernel
theorem dX1_ripen_42 : decode cX1_ripen 42 = .ok (.iconst 1, 1) := by decide +kernel
theorem dX1_ripen_43 : decode cX1_ripen 43 = .ok (.isub, 1) := by decide +kernel
theorem dX1_ripen_44 : decode cX1_ripen 44 = .ok (.putfield 88, 3) := by decide +kernel
theorem dX1_ripen_47 : decode cX1_ripen 47 = .ok (.aload_n 0, 1) := by decide +kernel
theorem dX1_ripen_48 : decode cX1_ripen 48 = .ok (.dup, 1) := by decide +kernel
theorem dX1_ripen_49 : decode cX1_ripen 49 = .ok (.getfield 75, 3) := by decide +kernel
theorem dX1_ripen_52 : decode cX1_ripen 52 = .ok (.iconst 1, 1) := by decide +kernel
theorem dX1_ripen_53 : decode cX1_ripen 53 = .ok (.iadd, 1) := by decide +kernel
theorem dX1_ripen_54 : decode cX1_ripen 54 = .ok (.putfield 75, 3) := by decide +kernel
theorem dX1_ripen_57 : decode cX1_ripen 57 = .ok (.return_, 1) := by decide +kernel
theorem dX1_shine_0 : decode cX1_shine 0 = .ok (.aload_n 0, 1) := by decide +kernel
theorem dX1_shine_1 : decode cX1_shine 1 = .ok (.getfield 46, 3) := by decide +kernel
theorem dX1_shine_4 : decode cX1_shine 4 = .ok (.aload_n 1, 1) := by decide +kernel
theorem dX1_shine_5 : decode cX1_shine 5 = .ok (.invokevirtual 78, 3) := by decide +kernel
theorem dX1_shine_8 : decode cX1_shine 8 = .ok (.if_icmp .ge 8, 3) := by decide +kernel
theorem dX1_shine_11 : decode cX1_shine 11 = .ok (.aload_n 0, 1) := by decide +kernel
theorem dX1_shine_12 : decode cX1_shine 12 = .ok (.iload_n 2, 1) := by decide +kernel
theorem dX1_shine_13 : decode cX1_shine 13 = .ok (.putfield 49, 3) := by decide +kernel
theorem dX1_shine_16 : decode cX1_shine 16 = .ok (.aload_n 0, 1) := by decide +kernel
theorem dX1_shine_17 : decode cX1_shine 17 = .ok (.invokevirtual 56, 3) := by decide +kernel
theorem dX1_shine_20 : decode cX1_shine 20 = .ok (.aload_n 1, 1) := by decide +kernel
theorem dX1_shine_21 : decode cX1_shine 21 = .ok (.invokevirtual 78, 3) := by decide +kernel
theorem dX1_shine_24 : decode cX1_shine 24 = .ok (.aload_n 0, 1) := by decide +kernel
theorem dX1_shine_25 : decode cX1_shine 25 = .ok (.getfield 46, 3) := by decide +kernel
theorem dX1_shine_28 : decode cX1_shine 28 = .ok (.isub, 1) := by decide +kernel
theorem dX1_shine_29 : decode cX1_shine 29 = .ok (.invokestatic 91, 3) := by decide +kernel
theorem dX1_shine_32 : decode cX1_shine 32 = .ok (.istore_n 3, 1) := by decide +kernel
theorem dX1_shine_33 : decode cX1_shine 33 = .ok (.iconst 0, 1) := by decide +kernel
theorem dX1_shine_34 : decode cX1_shine 34 = .ok (.istore 4, 2) := by decide +kernel
theorem dX1_shine_36 : decode cX1_shine 36 = .ok (.iload 4, 2) := by decide +kernel
theorem dX1_shine_38 : decode cX1_shine 38 = .ok (.iload_n 3, 1) := by decide +kernel
theorem dX1_shine_39 : decode cX1_shine 39 = .ok (.if_icmp .ge 35, 3) := by decide +kernel
theorem dX1_shine_42 : decode cX1_shine 42 = .ok (.iload 4, 2) := by decide +kernel
theorem dX1_shine_44 : decode cX1_shine 44 = .ok (.sipush 512, 3) := by decide +kernel
theorem dX1_shine_47 : decode cX1_shine 47 = .ok (.if_icmp .ge 27, 3) := by decide +kernel
theorem dX1_shine_50 : decode cX1_shine 50 = .ok (.aload_n 0, 1) := by decide +kernel
theorem dX1_shine_51 : decode cX1_shine 51 = .ok (.getfield 9, 3) := by decide +kernel
theorem dX1_shine_54 : decode cX1_shine 54 = .ok (.iload 4, 2) := by decide +kernel
theorem dX1_shine_56 : decode cX1_shine 56 = .ok (.aload_n 1, 1) := by decide +kernel
theorem dX1_shine_57 : decode cX1_shine 57 = .ok (.aload_n 0, 1) := by decide +kernel
theorem dX1_shine_58 : decode cX1_shine 58 = .ok (.getfield 46, 3) := by decide +kernel
theorem dX1_shine_61 : decode cX1_shine 61 = .ok (.iload 4, 2) := by decide +kernel
theorem dX1_shine_63 : decode cX1_shine 63 = .ok (.iadd, 1) := by decide +kernel
theorem dX1_shine_64 : decode cX1_shine 64 = .ok (.invokevirtual 97, 3) := by decide +kernel
theorem dX1_shine_67 : decode cX1_shine 67 = .ok (.iastore, 1) := by decide +kernel
theorem dX1_shine_68 : decode cX1_shine 68 = .ok (.iinc 4 1, 3) := by decide +kernel
theorem dX1_shine_71 : decode cX1_shine 71 = .ok (.goto (-35), 3) := by decide +kernel
theorem dX1_shine_74 : decode cX1_shine 74 = .ok (.return_, 1) := by decide +kernel
theorem dX1_isMeantBy_0 : decode cX1_isMeantBy 0 = .ok (.lload_n 1, 1) := by decide +kernel
theorem dX1_isMeantBy_1 : decode cX1_isMeantBy 1 = .ok (.invokestatic 101, 3) := by decide +kernel
theorem dX1_isMeantBy_4 : decode cX1_isMeantBy 4 = .ok (.ldc2_w 105, 3) := by decide +kernel
theorem dX1_isMeantBy_7 : decode cX1_isMeantBy 7 = .ok (.lcmp, 1) := by decide +kernel
theorem dX1_isMeantBy_8 : decode cX1_isMeantBy 8 = .ok (.ifCond .eq 18, 3) := by decide +kernel
theorem dX1_isMeantBy_11 : decode cX1_isMeantBy 11 = .ok (.lload_n 1, 1) := by decide +kernel
theorem dX1_isMeantBy_12 : decode cX1_isMeantBy 12 = .ok (.aload_n 0, 1) := by decide +kernel
theorem dX1_isMeantBy_13 : decode cX1_isMeantBy 13 = .ok (.getfield 36, 3) := by decide +kernel
theorem dX1_isMeantBy_16 : decode cX1_isMeantBy 16 = .ok (.lcmp, 1) := by decide +kernel
theorem dX1_isMeantBy_17 : decode cX1_isMeantBy 17 = .ok (.ifCond .ne 7, 3) := by decide +kernel
theorem dX1_isMeantBy_20 : decode cX1_isMeantBy 20 = .ok (.iconst 1, 1) := by decide +kernel
theorem dX1_isMeantBy_21 : decode cX1_isMeantBy 21 = .ok (.goto 4, 3) := by decide +kernel
theorem dX1_isMeantBy_24 : decode cX1_isMeantBy 24 = .ok (.iconst 0, 1) := by decide +kernel
theorem dX1_isMeantBy_25 : decode cX1_isMeantBy 25 = .ok (.ireturn, 1) := by decide +kernel
theorem dX1_isMeantBy_26 : decode cX1_isMeantBy 26 = .ok (.lload_n 1, 1) := by decide +kernel
theorem dX1_isMeantBy_27 : decode cX1_isMeantBy 27 = .ok (.invokestatic 52, 3) := by decide +kernel
theorem dX1_isMeantBy_30 : decode cX1_isMeantBy 30 = .ok (.ldc 107, 2) := by decide +kernel
theorem dX1_isMeantBy_32 : decode cX1_isMeantBy 32 = .ok (.if_icmp .eq 17, 3) := by decide +kernel
theorem dX1_isMeantBy_35 : decode cX1_isMeantBy 35 = .ok (.lload_n 1, 1) := by decide +kernel
theorem dX1_isMeantBy_36 : decode cX1_isMeantBy 36 = .ok (.invokestatic 52, 3) := by decide +kernel
theorem dX1_isMeantBy_39 : decode cX1_isMeantBy 39 = .ok (.aload_n 0, 1) := by decide +kernel
theorem dX1_isMeantBy_40 : decode cX1_isMeantBy 40 = .ok (.getfield 36, 3) := by decide +kernel
theorem dX1_isMeantBy_43 : decode cX1_isMeantBy 43 = .ok (.invokestatic 52, 3) := by decide +kernel
theorem dX1_isMeantBy_46 : decode cX1_isMeantBy 46 = .ok (.if_icmp .ne 7, 3) := by decide +kernel
theorem dX1_isMeantBy_49 : decode cX1_isMeantBy 49 = .ok (.iconst 1, 1) := by decide +kernel
theorem dX1_isMeantBy_50 : decode cX1_isMeantBy 50 = .ok (.goto 4, 3) := by decide +kernel
theorem dX1_isMeantBy_53 : decode cX1_isMeantBy 53 = .ok (.iconst 0, 1) := by decide +kernel
theorem dX1_isMeantBy_54 : decode cX1_isMeantBy 54 = .ok (.ireturn, 1) := by decide +kernel
theorem dX1_speaksTo_0 : decode cX1_speaksTo 0 = .ok (.aload_n 1, 1) := by decide +kernel
theorem dX1_speaksTo_1 : decode cX1_speaksTo 1 = .ok (.getfield 108, 3) := by decide +kernel
theorem dX1_speaksTo_4 : decode cX1_speaksTo 4 = .ok (.bipush 16, 2) := by decide +kernel
theorem dX1_speaksTo_6 : decode cX1_speaksTo 6 = .ok (.if_icmp .ne 11, 3) := by decide +kernel
theorem dX1_speaksTo_9 : decode cX1_speaksTo 9 = .ok (.aload_n 0, 1) := by decide +kernel
theorem dX1_speaksTo_10 : decode cX1_speaksTo 10 = .ok (.aload_n 1, 1) := by decide +kernel
theorem dX1_speaksTo_11 : decode cX1_speaksTo 11 = .ok (.aload_n 2, 1) := by decide +kernel
theorem dX1_speaksTo_12 : decode cX1_speaksTo 12 = .ok (.aload_n 3, 1) := by decide +kernel
theorem dX1_speaksTo_13 : decode cX1_speaksTo 13 = .ok (.invokevirtual 113, 3) := by decide +kernel
theorem dX1_speaksTo_16 : decode cX1_speaksTo 16 = .ok (.ireturn, 1) := by decide +kernel
theorem dX1_speaksTo_17 : decode cX1_speaksTo 17 = .ok (.aload_n 1, 1) := by decide +kernel
theorem dX1_speaksTo_18 : decode cX1_speaksTo 18 = .ok (.getfield 108, 3) := by decide +kernel
theorem dX1_speaksTo_21 : decode cX1_speaksTo 21 = .ok (.bipush 48, 2) := by decide +kernel
theorem dX1_speaksTo_23 : decode cX1_speaksTo 23 = .ok (.if_icmp .eq 19, 3) := by decide +kernel
theorem dX1_speaksTo_26 : decode cX1_speaksTo 26 = .ok (.aload_n 1, 1) := by decide +kernel
theorem dX1_speaksTo_27 : decode cX1_speaksTo 27 = .ok (.getfield 108, 3) := by decide +kernel
theorem dX1_speaksTo_30 : decode cX1_speaksTo 30 = .ok (.bipush 32, 2) := by decide +kernel
theorem dX1_speaksTo_32 : decode cX1_speaksTo 32 = .ok (.if_icmp .ne 20, 3) := by decide +kernel
theorem dX1_speaksTo_35 : decode cX1_speaksTo 35 = .ok (.aload_n 1, 1) := by decide +kernel
theorem dX1_speaksTo_36 : decode cX1_speaksTo 36 = .ok (.invokevirtual 117, 3) := by decide +kernel
theorem dX1_speaksTo_39 : decode cX1_speaksTo 39 = .ok (.ifCond .ne 13, 3) := by decide +kernel
theorem dX1_speaksTo_42 : decode cX1_speaksTo 42 = .ok (.aload_n 0, 1) := by decide +kernel
theorem dX1_speaksTo_43 : decode cX1_speaksTo 43 = .ok (.aload_n 1, 1) := by decide +kernel
theorem dX1_speaksTo_44 : decode cX1_speaksTo 44 = .ok (.aload_n 2, 1) := by decide +kernel
theorem dX1_speaksTo_45 : decode cX1_speaksTo 45 = .ok (.aload_n 3, 1) := by decide +kernel
theorem dX1_speaksTo_46 : decode cX1_speaksTo 46 = .ok (.iload 4, 2) := by decide +kernel
theorem dX1_speaksTo_48 : decode cX1_speaksTo 48 = .ok (.invokevirtual 121, 3) := by decide +kernel
theorem dX1_speaksTo_51 : decode cX1_speaksTo 51 = .ok (.ireturn, 1) := by decide +kernel
theorem dX1_speaksTo_52 : decode cX1_speaksTo 52 = .ok (.iconst 0, 1) := by decide +kernel
theorem dX1_speaksTo_53 : decode cX1_speaksTo 53 = .ok (.ireturn, 1) := by decide +kernel
theorem dX1_speaksToSearch_0 : decode cX1_speaksToSearch 0 = .ok (.aload_n 1, 1) := by decide +kernel
theorem dX1_speaksToSearch_1 : decode cX1_speaksToSearch 1 = .ok (.getfield 125, 3) := by decide +kernel
theorem dX1_speaksToSearch_4 : decode cX1_speaksToSearch 4 = .ok (.invokevirtual 78, 3) := by decide +kernel
theorem dX1_speaksToSearch_7 : decode cX1_speaksToSearch 7 = .ok (.istore 4, 2) := by decide +kernel
theorem dX1_speaksToSearch_9 : decode cX1_speaksToSearch 9 = .ok (.aload_n 1, 1) := by decide +kernel
theorem dX1_speaksToSearch_10 : decode cX1_speaksToSearch 10 = .ok (.getfield 128, 3) := by decide +kernel
theorem dX1_speaksToSearch_13 : decode cX1_speaksToSearch 13 = .ok (.iconst 1, 1) := by decide +kernel
theorem dX1_speaksToSearch_14 : decode cX1_speaksToSearch 14 = .ok (.if_icmp .ne 66, 3) := by decide +kernel
theorem dX1_speaksToSearch_17 : decode cX1_speaksToSearch 17 = .ok (.iload 4, 2) := by decide +kernel
theorem dX1_speaksToSearch_19 : decode cX1_speaksToSearch 19 = .ok (.bipush 12, 2) := by decide +kernel
theorem dX1_speaksToSearch_21 : decode cX1_speaksToSearch 21 = .ok (.if_icmp .ne 59, 3) := by decide +kernel
theorem dX1_speaksToSearch_24 : decode cX1_speaksToSearch 24 = .ok (.aload_n 0, 1) := by decide +kernel
theorem dX1_speaksToSearch_25 : decode cX1_speaksToSearch 25 = .ok (.getfield 60, 3) := by decide +kernel
theorem dX1_speaksToSearch_28 : decode cX1_speaksToSearch 28 = .ok (.ifCond .ne 40, 3) := by decide +kernel
theorem dX1_speaksToSearch_31 : decode cX1_speaksToSearch 31 = .ok (.aload_n 0, 1) := by decide +kernel
theorem dX1_speaksToSearch_32 : decode cX1_speaksToSearch 32 = .ok (.getfield 36, 3) := by decide +kernel
theorem dX1_speaksToSearch_35 : decode cX1_speaksToSearch 35 = .ok (.aload_n 1, 1) := by decide +kernel
theorem dX1_speaksToSearch_36 : decode cX1_speaksToSearch 36 = .ok (.getfield 125, 3) := by decide +kernel
theorem dX1_speaksToSearch_39 : decode cX1_speaksToSearch 39 = .ok (.iconst 0, 1) := by decide +kernel
theorem dX1_speaksToSearch_40 : decode cX1_speaksToSearch 40 = .ok (.bipush 6, 2) := by decide +kernel
theorem dX1_speaksToSearch_42 : decode cX1_speaksToSearch 42 = .ok (.invokevirtual 131, 3) := by decide +kernel
theorem dX1_speaksToSearch_45 : decode cX1_speaksToSearch 45 = .ok (.lcmp, 1) := by decide +kernel
theorem dX1_speaksToSearch_46 : decode cX1_speaksToSearch 46 = .ok (.ifCond .lt 22, 3) := by decide +kernel
theorem dX1_speaksToSearch_49 : decode cX1_speaksToSearch 49 = .ok (.aload_n 0, 1) := by decide +kernel
theorem dX1_speaksToSearch_50 : decode cX1_speaksToSearch 50 = .ok (.getfield 36, 3) := by decide +kernel
theorem dX1_speaksToSearch_53 : decode cX1_speaksToSearch 53 = .ok (.aload_n 1, 1) := by decide +kernel
theorem dX1_speaksToSearch_54 : decode cX1_speaksToSearch 54 = .ok (.getfield 125, 3) := by decide +kernel
theorem dX1_speaksToSearch_57 : decode cX1_speaksToSearch 57 = .ok (.bipush 6, 2) := by decide +kernel
theorem dX1_speaksToSearch_59 : decode cX1_speaksToSearch 59 = .ok (.bipush 6, 2) := by decide +kernel
theorem dX1_speaksToSearch_61 : decode cX1_speaksToSearch 61 = .ok (.invokevirtual 131, 3) := by decide +kernel
theorem dX1_speaksToSearch_64 : decode cX1_speaksToSearch 64 = .ok (.lcmp, 1) := by decide +kernel
theorem dX1_speaksToSearch_65 : decode cX1_speaksToSearch 65 = .ok (.ifCond .le 5, 3) := by decide +kernel
theorem dX1_speaksToSearch_68 : decode cX1_speaksToSearch 68 = .ok (.iconst 0, 1) := by decide +kernel
theorem dX1_speaksToSearch_69 : decode cX1_speaksToSearch 69 = .ok (.ireturn, 1) := by decide +kernel
theorem dX1_speaksToSearch_70 : decode cX1_speaksToSearch 70 = .ok (.aload_n 0, 1) := by decide +kernel
theorem dX1_speaksToSearch_71 : decode cX1_speaksToSearch 71 = .ok (.getfield 36, 3) := by decide +kernel
theorem dX1_speaksToSearch_74 : decode cX1_speaksToSearch 74 = .ok (.aload_n 3, 1) := by decide +kernel
theorem dX1_speaksToSearch_75 : decode cX1_speaksToSearch 75 = .ok (.invokestatic 135, 3) := by decide +kernel
theorem dX1_speaksToSearch_78 : decode cX1_speaksToSearch 78 = .ok (.iconst 1, 1) := by decide +kernel
theorem dX1_speaksToSearch_79 : decode cX1_speaksToSearch 79 = .ok (.ireturn, 1) := by decide +kernel
theorem dX1_speaksToSearch_80 : decode cX1_speaksToSearch 80 = .ok (.aload_n 1, 1) := by decide +kernel
theorem dX1_speaksToSearch_81 : decode cX1_speaksToSearch 81 = .ok (.getfield 128, 3) := by decide +kernel
theorem dX1_speaksToSearch_84 : decode cX1_speaksToSearch 84 = .ok (.iconst 2, 1) := by decide +kernel
theorem dX1_speaksToSearch_85 : decode cX1_speaksToSearch 85 = .ok (.if_icmp .eq 11, 3) := by decide +kernel
theorem dX1_speaksToSearch_88 : decode cX1_speaksToSearch 88 = .ok (.aload_n 1, 1) := by decide +kernel
theorem dX1_speaksToSearch_89 : decode cX1_speaksToSearch 89 = .ok (.getfield 128, 3) := by decide +kernel
theorem dX1_speaksToSearch_92 : decode cX1_speaksToSearch 92 = .ok (.iconst 3, 1) := by decide +kernel
theorem dX1_speaksToSearch_93 : decode cX1_speaksToSearch 93 = .ok (.if_icmp .ne 8, 3) := by decide +kernel
theorem dX1_speaksToSearch_96 : decode cX1_speaksToSearch 96 = .ok (.iload 4, 2) := by decide +kernel
theorem dX1_speaksToSearch_98 : decode cX1_speaksToSearch 98 = .ok (.ifCond .eq 5, 3) := by decide +kernel
theorem dX1_speaksToSearch_101 : decode cX1_speaksToSearch 101 = .ok (.iconst 0, 1) := by decide +kernel
theorem dX1_speaksToSearch_102 : decode cX1_speaksToSearch 102 = .ok (.ireturn, 1) := by decide +kernel
theorem dX1_speaksToSearch_103 : decode cX1_speaksToSearch 103 = .ok (.aload_n 0, 1) := by decide +kernel
theorem dX1_speaksToSearch_104 : decode cX1_speaksToSearch 104 = .ok (.aload_n 1, 1) := by decide +kernel
theorem dX1_speaksToSearch_105 : decode cX1_speaksToSearch 105 = .ok (.getfield 128, 3) := by decide +kernel
theorem dX1_speaksToSearch_108 : decode cX1_speaksToSearch 108 = .ok (.iconst 2, 1) := by decide +kernel
theorem dX1_speaksToSearch_109 : decode cX1_speaksToSearch 109 = .ok (.if_icmp .ne 7, 3) := by decide +kernel
theorem dX1_speaksToSearch_112 : decode cX1_speaksToSearch 112 = .ok (.iconst 1, 1) := by decide +kernel
theorem dX1_speaksToSearch_113 : decode cX1_speaksToSearch 113 = .ok (.goto 4, 3) := by decide +kernel
theorem dX1_speaksToSearch_116 : decode cX1_speaksToSearch 116 = .ok (.iconst 0, 1) := by decide +kernel
theorem dX1_speaksToSearch_117 : decode cX1_speaksToSearch 117 = .ok (.putfield 60, 3) := by decide +kernel
theorem dX1_speaksToSearch_120 : decode cX1_speaksToSearch 120 = .ok (.aload_n 1, 1) := by decide +kernel
theorem dX1_speaksToSearch_121 : decode cX1_speaksToSearch 121 = .ok (.invokevirtual 117, 3) := by decide +kernel
theorem dX1_speaksToSearch_124 : decode cX1_speaksToSearch 124 = .ok (.ifCond .eq 5, 3) := by decide +kernel
theorem dX1_speaksToSearch_127 : decode cX1_speaksToSearch 127 = .ok (.iconst 0, 1) := by decide +kernel
theorem dX1_speaksToSearch_128 : decode cX1_speaksToSearch 128 = .ok (.ireturn, 1) := by decide +kernel
theorem dX1_speaksToSearch_129 : decode cX1_speaksToSearch 129 = .ok (.aload_n 2, 1) := by decide +kernel
theorem dX1_speaksToSearch_130 : decode cX1_speaksToSearch 130 = .ok (.aload_n 1, 1) := by decide +kernel
theorem dX1_speaksToSearch_131 : decode cX1_speaksToSearch 131 = .ok (.aload_n 0, 1) := by decide +kernel
theorem dX1_speaksToSearch_132 : decode cX1_speaksToSearch 132 = .ok (.getfield 36, 3) := by decide +kernel
theorem dX1_speaksToSearch_135 : decode cX1_speaksToSearch 135 = .ok (.invokevirtual 141, 3) := by decide +kernel
theorem dX1_speaksToSearch_138 : decode cX1_speaksToSearch 138 = .ok (.aload_n 2, 1) := by decide +kernel
theorem dX1_speaksToSearch_139 : decode cX1_speaksToSearch 139 = .ok (.getfield 125, 3) := by decide +kernel
theorem dX1_speaksToSearch_142 : decode cX1_speaksToSearch 142 = .ok (.lconst 0, 1) := by decide +kernel
theorem dX1_speaksToSearch_143 : decode cX1_speaksToSearch 143 = .ok (.iconst 2, 1) := by decide +kernel
theorem dX1_speaksToSearch_144 : decode cX1_speaksToSearch 144 = .ok (.invokevirtual 145, 3) := by decide +kernel
theorem dX1_speaksToSearch_147 : decode cX1_speaksToSearch 147 = .ok (.aload_n 2, 1) := by decide +kernel
theorem dX1_speaksToSearch_148 : decode cX1_speaksToSearch 148 = .ok (.aload_n 0, 1) := by decide +kernel
theorem dX1_speaksToSearch_149 : decode cX1_speaksToSearch 149 = .ok (.getfield 75, 3) := by decide +kernel
theorem dX1_speaksToSearch_152 : decode cX1_speaksToSearch 152 = .ok (.putfield 149, 3) := by decide +kernel
theorem dX1_speaksToSearch_155 : decode cX1_speaksToSearch 155 = .ok (.aload_n 2, 1) := by decide +kernel
theorem dX1_speaksToSearch_156 : decode cX1_speaksToSearch 156 = .ok (.aload_n 3, 1) := by decide +kernel
theorem dX1_speaksToSearch_157 : decode cX1_speaksToSearch 157 = .ok (.invokevirtual 152, 3) := by decide +kernel
theorem dX1_speaksToSearch_160 : decode cX1_speaksToSearch 160 = .ok (.iconst 1, 1) := by decide +kernel
theorem dX1_speaksToSearch_161 : decode cX1_speaksToSearch 161 = .ok (.ireturn, 1) := by decide +kernel
theorem dX1_speaksToOrder_0 : decode cX1_speaksToOrder 0 = .ok (.aload_n 1, 1) := by decide +kernel
theorem dX1_speaksToOrder_1 : decode cX1_speaksToOrder 1 = .ok (.invokevirtual 117, 3) := by decide +kernel
theorem dX1_speaksToOrder_4 : decode cX1_speaksToOrder 4 = .ok (.istore 5, 2) := by decide +kernel
theorem dX1_speaksToOrder_6 : decode cX1_speaksToOrder 6 = .ok (.aload_n 1, 1) := by decide +kernel
theorem dX1_speaksToOrder_7 : decode cX1_speaksToOrder 7 = .ok (.getfield 108, 3) := by decide +kernel
theorem dX1_speaksToOrder_10 : decode cX1_speaksToOrder 10 = .ok (.bipush 48, 2) := by decide +kernel
theorem dX1_speaksToOrder_12 : decode cX1_speaksToOrder 12 = .ok (.if_icmp .ne 7, 3) := by decide +kernel
theorem dX1_speaksToOrder_15 : decode cX1_speaksToOrder 15 = .ok (.iconst 1, 1) := by decide +kernel
theorem dX1_speaksToOrder_16 : decode cX1_speaksToOrder 16 = .ok (.goto 4, 3) := by decide +kernel
theorem dX1_speaksToOrder_19 : decode cX1_speaksToOrder 19 = .ok (.iconst 0, 1) := by decide +kernel
theorem dX1_speaksToOrder_20 : decode cX1_speaksToOrder 20 = .ok (.istore 6, 2) := by decide +kernel
theorem dX1_speaksToOrder_22 : decode cX1_speaksToOrder 22 = .ok (.iload 5, 2) := by decide +kernel
theorem dX1_speaksToOrder_24 : decode cX1_speaksToOrder 24 = .ok (.ifCond .ne 16, 3) := by decide +kernel
theorem dX1_speaksToOrder_27 : decode cX1_speaksToOrder 27 = .ok (.aload_n 0, 1) := by decide +kernel
theorem dX1_speaksToOrder_28 : decode cX1_speaksToOrder 28 = .ok (.aload_n 0, 1) := by decide +kernel
theorem dX1_speaksToOrder_29 : decode cX1_speaksToOrder 29 = .ok (.getfield 81, 3) := by decide +kernel
theorem dX1_speaksToOrder_32 : decode cX1_speaksToOrder 32 = .ok (.iconst 1, 1) := by decide +kernel
theorem dX1_speaksToOrder_33 : decode cX1_speaksToOrder 33 = .ok (.iadd, 1) := by decide +kernel
theorem dX1_speaksToOrder_34 : decode cX1_speaksToOrder 34 = .ok (.ldc 107, 2) := by decide +kernel
theorem dX1_speaksToOrder_36 : decode cX1_speaksToOrder 36 = .ok (.iand, 1) := by decide +kernel
theorem dX1_speaksToOrder_37 : decode cX1_speaksToOrder 37 = .ok (.putfield 81, 3) := by decide +kernel
theorem dX1_speaksToOrder_40 : decode cX1_speaksToOrder 40 = .ok (.aload_n 2, 1) := by decide +kernel
theorem dX1_speaksToOrder_41 : decode cX1_speaksToOrder 41 = .ok (.aload_n 1, 1) := by decide +kernel
theorem dX1_speaksToOrder_42 : decode cX1_speaksToOrder 42 = .ok (.aload_n 0, 1) := by decide +kernel
theorem dX1_speaksToOrder_43 : decode cX1_speaksToOrder 43 = .ok (.getfield 36, 3) := by decide +kernel
theorem dX1_speaksToOrder_46 : decode cX1_speaksToOrder 46 = .ok (.invokevirtual 141, 3) := by decide +kernel
theorem dX1_speaksToOrder_49 : decode cX1_speaksToOrder 49 = .ok (.aload_n 1, 1) := by decide +kernel
theorem dX1_speaksToOrder_50 : decode cX1_speaksToOrder 50 = .ok (.getfield 155, 3) := by decide +kernel
theorem dX1_speaksToOrder_53 : decode cX1_speaksToOrder 53 = .ok (.aload_n 1, 1) := by decide +kernel
theorem dX1_speaksToOrder_54 : decode cX1_speaksToOrder 54 = .ok (.getfield 128, 3) := by decide +kernel
theorem dX1_speaksToOrder_57 : decode cX1_speaksToOrder 57 = .ok (.iload 6, 2) := by decide +kernel
theorem dX1_speaksToOrder_59 : decode cX1_speaksToOrder 59 = .ok (.aload_n 1, 1) := by decide +kernel
theorem dX1_speaksToOrder_60 : decode cX1_speaksToOrder 60 = .ok (.getfield 125, 3) := by decide +kernel
theorem dX1_speaksToOrder_63 : decode cX1_speaksToOrder 63 = .ok (.invokevirtual 78, 3) := by decide +kernel
theorem dX1_speaksToOrder_66 : decode cX1_speaksToOrder 66 = .ok (.invokestatic 158, 3) := by decide +kernel
theorem dX1_speaksToOrder_69 : decode cX1_speaksToOrder 69 = .ok (.istore 7, 2) := by decide +kernel
theorem dX1_speaksToOrder_71 : decode cX1_speaksToOrder 71 = .ok (.iload 7, 2) := by decide +kernel
theorem dX1_speaksToOrder_73 : decode cX1_speaksToOrder 73 = .ok (.iconst (-1), 1) := by decide +kernel
theorem dX1_speaksToOrder_74 : decode cX1_speaksToOrder 74 = .ok (.if_icmp .ne 17, 3) := by decide +kernel
theorem dX1_speaksToOrder_77 : decode cX1_speaksToOrder 77 = .ok (.iload 6, 2) := by decide +kernel
theorem dX1_speaksToOrder_79 : decode cX1_speaksToOrder 79 = .ok (.ifCond .eq 12, 3) := by decide +kernel
theorem dX1_speaksToOrder_82 : decode cX1_speaksToOrder 82 = .ok (.aload_n 0, 1) := by decide +kernel
theorem dX1_speaksToOrder_83 : decode cX1_speaksToOrder 83 = .ok (.aload_n 1, 1) := by decide +kernel
theorem dX1_speaksToOrder_84 : decode cX1_speaksToOrder 84 = .ok (.iload 5, 2) := by decide +kernel
theorem dX1_speaksToOrder_86 : decode cX1_speaksToOrder 86 = .ok (.invokevirtual 162, 3) := by decide +kernel
theorem dX1_speaksToOrder_89 : decode cX1_speaksToOrder 89 = .ok (.istore 7, 2) := by decide +kernel
theorem dX1_speaksToOrder_91 : decode cX1_speaksToOrder 91 = .ok (.iload 7, 2) := by decide +kernel
theorem dX1_speaksToOrder_93 : decode cX1_speaksToOrder 93 = .ok (.iconst (-1), 1) := by decide +kernel
theorem dX1_speaksToOrder_94 : decode cX1_speaksToOrder 94 = .ok (.if_icmp .eq 12, 3) := by decide +kernel
theorem dX1_speaksToOrder_97 : decode cX1_speaksToOrder 97 = .ok (.aload_n 2, 1) := by decide +kernel
theorem dX1_speaksToOrder_98 : decode cX1_speaksToOrder 98 = .ok (.iload 7, 2) := by decide +kernel
theorem dX1_speaksToOrder_100 : decode cX1_speaksToOrder 100 = .ok (.invokevirtual 166, 3) := by decide +kernel
theorem dX1_speaksToOrder_103 : decode cX1_speaksToOrder 103 = .ok (.goto 30, 3) := by decide +kernel
theorem dX1_speaksToOrder_106 : decode cX1_speaksToOrder 106 = .ok (.iload 6, 2) := by decide +kernel
theorem dX1_speaksToOrder_108 : decode cX1_speaksToOrder 108 = .ok (.ifCond .eq 16, 3) := by decide +kernel
theorem dX1_speaksToOrder_111 : decode cX1_speaksToOrder 111 = .ok (.aload_n 0, 1) := by decide +kernel
theorem dX1_speaksToOrder_112 : decode cX1_speaksToOrder 112 = .ok (.aload_n 1, 1) := by decide +kernel
theorem dX1_speaksToOrder_113 : decode cX1_speaksToOrder 113 = .ok (.aload_n 2, 1) := by decide +kernel
theorem dX1_speaksToOrder_114 : decode cX1_speaksToOrder 114 = .ok (.iload 5, 2) := by decide +kernel
theorem dX1_speaksToOrder_116 : decode cX1_speaksToOrder 116 = .ok (.iload 4, 2) := by decide +kernel
theorem dX1_speaksToOrder_118 : decode cX1_speaksToOrder 118 = .ok (.invokevirtual 169, 3) := by decide +kernel
theorem dX1_speaksToOrder_121 : decode cX1_speaksToOrder 121 = .ok (.goto 12, 3) := by decide +kernel
theorem dX1_speaksToOrder_124 : decode cX1_speaksToOrder 124 = .ok (.aload_n 0, 1) := by decide +kernel
theorem dX1_speaksToOrder_125 : decode cX1_speaksToOrder 125 = .ok (.aload_n 1, 1) := by decide +kernel
theorem dX1_speaksToOrder_126 : decode cX1_speaksToOrder 126 = .ok (.getfield 128, 3) := by decide +kernel
theorem dX1_speaksToOrder_129 : decode cX1_speaksToOrder 129 = .ok (.aload_n 2, 1) := by decide +kernel
theorem dX1_speaksToOrder_130 : decode cX1_speaksToOrder 130 = .ok (.invokevirtual 173, 3) := by decide +kernel
theorem dX1_speaksToOrder_133 : decode cX1_speaksToOrder 133 = .ok (.iload 5, 2) := by decide +kernel
theorem dX1_speaksToOrder_135 : decode cX1_speaksToOrder 135 = .ok (.ifCond .eq 5, 3) := by decide +kernel
theorem dX1_speaksToOrder_138 : decode cX1_speaksToOrder 138 = .ok (.iconst 0, 1) := by decide +kernel
theorem dX1_speaksToOrder_139 : decode cX1_speaksToOrder 139 = .ok (.ireturn, 1) := by decide +kernel
theorem dX1_speaksToOrder_140 : decode cX1_speaksToOrder 140 = .ok (.aload_n 2, 1) := by decide +kernel
theorem dX1_speaksToOrder_141 : decode cX1_speaksToOrder 141 = .ok (.aload_n 0, 1) := by decide +kernel
theorem dX1_speaksToOrder_142 : decode cX1_speaksToOrder 142 = .ok (.getfield 75, 3) := by decide +kernel
theorem dX1_speaksToOrder_145 : decode cX1_speaksToOrder 145 = .ok (.putfield 149, 3) := by decide +kernel
theorem dX1_speaksToOrder_148 : decode cX1_speaksToOrder 148 = .ok (.aload_n 2, 1) := by decide +kernel
theorem dX1_speaksToOrder_149 : decode cX1_speaksToOrder 149 = .ok (.aload_n 3, 1) := by decide +kernel
theorem dX1_speaksToOrder_150 : decode cX1_speaksToOrder 150 = .ok (.invokevirtual 152, 3) := by decide +kernel
theorem dX1_speaksToOrder_153 : decode cX1_speaksToOrder 153 = .ok (.iconst 1, 1) := by decide +kernel
theorem dX1_speaksToOrder_154 : decode cX1_speaksToOrder 154 = .ok (.ireturn, 1) := by decide +kernel
theorem dX1_formRefusal_0 : decode cX1_formRefusal 0 = .ok (.iload_n 0, 1) := by decide +kernel
theorem dX1_formRefusal_1 : decode cX1_formRefusal 1 = .ok (.ifCond .eq 16, 3) := by decide +kernel
theorem dX1_formRefusal_4 : decode cX1_formRefusal 4 = .ok (.iload_n 2, 1) := by decide +kernel
theorem dX1_formRefusal_5 : decode cX1_formRefusal 5 = .ok (.ifCond .eq 9, 3) := by decide +kernel
theorem dX1_formRefusal_8 : decode cX1_formRefusal 8 = .ok (.iload_n 0, 1) := by decide +kernel
theorem dX1_formRefusal_9 : decode cX1_formRefusal 9 = .ok (.ldc 107, 2) := by decide +kernel
theorem dX1_formRefusal_11 : decode cX1_formRefusal 11 = .ok (.if_icmp .eq 6, 3) := by decide +kernel
theorem dX1_formRefusal_14 : decode cX1_formRefusal 14 = .ok (.bipush 9, 2) := by decide +kernel
theorem dX1_formRefusal_16 : decode cX1_formRefusal 16 = .ok (.ireturn, 1) := by decide +kernel
theorem dX1_formRefusal_17 : decode cX1_formRefusal 17 = .ok (.iload_n 1, 1) := by decide +kernel
theorem dX1_formRefusal_18 : decode cX1_formRefusal 18 = .ok (.invokestatic 177, 3) := by decide +kernel
theorem dX1_formRefusal_21 : decode cX1_formRefusal 21 = .ok (.ifCond .ne 5, 3) := by decide +kernel
theorem dX1_formRefusal_24 : decode cX1_formRefusal 24 = .ok (.iconst 0, 1) := by decide +kernel
theorem dX1_formRefusal_25 : decode cX1_formRefusal 25 = .ok (.ireturn, 1) := by decide +kernel
theorem dX1_formRefusal_26 : decode cX1_formRefusal 26 = .ok (.iload_n 2, 1) := by decide +kernel
theorem dX1_formRefusal_27 : decode cX1_formRefusal 27 = .ok (.ifCond .ne 24, 3) := by decide +kernel
theorem dX1_formRefusal_30 : decode cX1_formRefusal 30 = .ok (.iload_n 3, 1) := by decide +kernel
theorem dX1_formRefusal_31 : decode cX1_formRefusal 31 = .ok (.iload_n 1, 1) := by decide +kernel
theorem dX1_formRefusal_32 : decode cX1_formRefusal 32 = .ok (.bipush 32, 2) := by decide +kernel
theorem dX1_formRefusal_34 : decode cX1_formRefusal 34 = .ok (.if_icmp .ne 7, 3) := by decide +kernel
theorem dX1_formRefusal_37 : decode cX1_formRefusal 37 = .ok (.iconst 1, 1) := by decide +kernel
theorem dX1_formRefusal_38 : decode cX1_formRefusal 38 = .ok (.goto 4, 3) := by decide +kernel
theorem dX1_formRefusal_41 : decode cX1_formRefusal 41 = .ok (.iconst 0, 1) := by decide +kernel
theorem dX1_formRefusal_42 : decode cX1_formRefusal 42 = .ok (.if_icmp .ne 7, 3) := by decide +kernel
theorem dX1_formRefusal_45 : decode cX1_formRefusal 45 = .ok (.iconst (-1), 1) := by decide +kernel
theorem dX1_formRefusal_46 : decode cX1_formRefusal 46 = .ok (.goto 4, 3) := by decide +kernel
theorem dX1_formRefusal_49 : decode cX1_formRefusal 49 = .ok (.iconst 1, 1) := by decide +kernel
theorem dX1_formRefusal_50 : decode cX1_formRefusal 50 = .ok (.ireturn, 1) := by decide +kernel
theorem dX1_formRefusal_51 : decode cX1_formRefusal 51 = .ok (.iload_n 1, 1) := by decide +kernel
theorem dX1_formRefusal_52 : decode cX1_formRefusal 52 = .ok (.lookupswitch 89 #[(130, 44), (224, 56), (240, 67), (4096, 78)], 44) := by decide +kernel
theorem dX1_formRefusal_96 : decode cX1_formRefusal 96 = .ok (.iload_n 3, 1) := by decide +kernel
theorem dX1_formRefusal_97 : decode cX1_formRefusal 97 = .ok (.bipush 32, 2) := by decide +kernel
theorem dX1_formRefusal_99 : decode cX1_formRefusal 99 = .ok (.if_icmp .gt 7, 3) := by decide +kernel
theorem dX1_formRefusal_102 : decode cX1_formRefusal 102 = .ok (.iconst (-1), 1) := by decide +kernel
theorem dX1_formRefusal_103 : decode cX1_formRefusal 103 = .ok (.goto 4, 3) := by decide +kernel
theorem dX1_formRefusal_106 : decode cX1_formRefusal 106 = .ok (.iconst 1, 1) := by decide +kernel
theorem dX1_formRefusal_107 : decode cX1_formRefusal 107 = .ok (.ireturn, 1) := by decide +kernel
theorem dX1_formRefusal_108 : decode cX1_formRefusal 108 = .ok (.iload_n 3, 1) := by decide +kernel
theorem dX1_formRefusal_109 : decode cX1_formRefusal 109 = .ok (.iconst 1, 1) := by decide +kernel
theorem dX1_formRefusal_110 : decode cX1_formRefusal 110 = .ok (.if_icmp .ne 7, 3) := by decide +kernel
theorem dX1_formRefusal_113 : decode cX1_formRefusal 113 = .ok (.iconst (-1), 1) := by decide +kernel
theorem dX1_formRefusal_114 : decode cX1_formRefusal 114 = .ok (.goto 4, 3) := by decide +kernel
theorem dX1_formRefusal_117 : decode cX1_formRefusal 117 = .ok (.iconst 1, 1) := by decide +kernel
theorem dX1_formRefusal_118 : decode cX1_formRefusal 118 = .ok (.ireturn, 1) := by decide +kernel
theorem dX1_formRefusal_119 : decode cX1_formRefusal 119 = .ok (.iload_n 3, 1) := by decide +kernel
theorem dX1_formRefusal_120 : decode cX1_formRefusal 120 = .ok (.iconst 2, 1) := by decide +kernel
theorem dX1_formRefusal_121 : decode cX1_formRefusal 121 = .ok (.if_icmp .ne 7, 3) := by decide +kernel
theorem dX1_formRefusal_124 : decode cX1_formRefusal 124 = .ok (.iconst (-1), 1) := by decide +kernel
theorem dX1_formRefusal_125 : decode cX1_formRefusal 125 = .ok (.goto 4, 3) := by decide +kernel
theorem dX1_formRefusal_128 : decode cX1_formRefusal 128 = .ok (.iconst 1, 1) := by decide +kernel
theorem dX1_formRefusal_129 : decode cX1_formRefusal 129 = .ok (.ireturn, 1) := by decide +kernel
theorem dX1_formRefusal_130 : decode cX1_formRefusal 130 = .ok (.iload_n 3, 1) := by decide +kernel
theorem dX1_formRefusal_131 : decode cX1_formRefusal 131 = .ok (.iconst 1, 1) := by decide +kernel
theorem dX1_formRefusal_132 : decode cX1_formRefusal 132 = .ok (.if_icmp .ne 7, 3) := by decide +kernel
theorem dX1_formRefusal_135 : decode cX1_formRefusal 135 = .ok (.iconst (-1), 1) := by decide +kernel
theorem dX1_formRefusal_136 : decode cX1_formRefusal 136 = .ok (.goto 4, 3) := by decide +kernel
theorem dX1_formRefusal_139 : decode cX1_formRefusal 139 = .ok (.iconst 1, 1) := by decide +kernel
theorem dX1_formRefusal_140 : decode cX1_formRefusal 140 = .ok (.ireturn, 1) := by decide +kernel
theorem dX1_formRefusal_141 : decode cX1_formRefusal 141 = .ok (.iconst 5, 1) := by decide +kernel
theorem dX1_formRefusal_142 : decode cX1_formRefusal 142 = .ok (.ireturn, 1) := by decide +kernel
theorem dX1_isKnown_0 : decode cX1_isKnown 0 = .ok (.iconst 0, 1) := by decide +kernel
theorem dX1_isKnown_1 : decode cX1_isKnown 1 = .ok (.istore_n 1, 1) := by decide +kernel
theorem dX1_isKnown_2 : decode cX1_isKnown 2 = .ok (.iload_n 1, 1) := by decide +kernel
theorem dX1_isKnown_3 : decode cX1_isKnown 3 = .ok (.getstatic 180, 3) := by decide +kernel
theorem dX1_isKnown_6 : decode cX1_isKnown 6 = .ok (.arraylength, 1) := by decide +kernel
theorem dX1_isKnown_7 : decode cX1_isKnown 7 = .ok (.if_icmp .ge 20, 3) := by decide +kernel
theorem dX1_isKnown_10 : decode cX1_isKnown 10 = .ok (.getstatic 180, 3) := by decide +kernel
theorem dX1_isKnown_13 : decode cX1_isKnown 13 = .ok (.iload_n 1, 1) := by decide +kernel
theorem dX1_isKnown_14 : decode cX1_isKnown 14 = .ok (.iaload, 1) := by decide +kernel
theorem dX1_isKnown_15 : decode cX1_isKnown 15 = .ok (.iload_n 0, 1) := by decide +kernel
theorem dX1_isKnown_16 : decode cX1_isKnown 16 = .ok (.if_icmp .ne 5, 3) := by decide +kernel
theorem dX1_isKnown_19 : decode cX1_isKnown 19 = .ok (.iconst 1, 1) := by decide +kernel
theorem dX1_isKnown_20 : decode cX1_isKnown 20 = .ok (.ireturn, 1) := by decide +kernel
theorem dX1_isKnown_21 : decode cX1_isKnown 21 = .ok (.iinc 1 1, 3) := by decide +kernel
theorem dX1_isKnown_24 : decode cX1_isKnown 24 = .ok (.goto (-22), 3) := by decide +kernel
theorem dX1_isKnown_27 : decode cX1_isKnown 27 = .ok (.iconst 0, 1) := by decide +kernel
theorem dX1_isKnown_28 : decode cX1_isKnown 28 = .ok (.ireturn, 1) := by decide +kernel
theorem dX1_valueRefusal_0 : decode cX1_valueRefusal 0 = .ok (.aload_n 1, 1) := by decide +kernel
theorem dX1_valueRefusal_1 : decode cX1_valueRefusal 1 = .ok (.getfield 125, 3) := by decide +kernel
theorem dX1_valueRefusal_4 : decode cX1_valueRefusal 4 = .ok (.astore_n 3, 1) := by decide +kernel
theorem dX1_valueRefusal_5 : decode cX1_valueRefusal 5 = .ok (.iconst 1, 1) := by decide +kernel
theorem dX1_valueRefusal_6 : decode cX1_valueRefusal 6 = .ok (.istore 4, 2) := by decide +kernel
theorem dX1_valueRefusal_8 : decode cX1_valueRefusal 8 = .ok (.aload_n 1, 1) := by decide +kernel
theorem dX1_valueRefusal_9 : decode cX1_valueRefusal 9 = .ok (.getfield 128, 3) := by decide +kernel
theorem dX1_valueRefusal_12 : decode cX1_valueRefusal 12 = .ok (.lookupswitch 220 #[(130, 44), (224, 121), (240, 170), (4096, 201)], 44) := by decide +kernel
theorem dX1_valueRefusal_56 : decode cX1_valueRefusal 56 = .ok (.iconst 0, 1) := by decide +kernel
theorem dX1_valueRefusal_57 : decode cX1_valueRefusal 57 = .ok (.istore 5, 2) := by decide +kernel
theorem dX1_valueRefusal_59 : decode cX1_valueRefusal 59 = .ok (.iload 5, 2) := by decide +kernel
theorem dX1_valueRefusal_61 : decode cX1_valueRefusal 61 = .ok (.aload_n 3, 1) := by decide +kernel
theorem dX1_valueRefusal_62 : decode cX1_valueRefusal 62 = .ok (.invokevirtual 78, 3) := by decide +kernel
theorem dX1_valueRefusal_65 : decode cX1_valueRefusal 65 = .ok (.if_icmp .ge 43, 3) := by decide +kernel
theorem dX1_valueRefusal_68 : decode cX1_valueRefusal 68 = .ok (.iload 4, 2) := by decide +kernel
theorem dX1_valueRefusal_70 : decode cX1_valueRefusal 70 = .ok (.ifCond .eq 29, 3) := by decide +kernel
theorem dX1_valueRefusal_73 : decode cX1_valueRefusal 73 = .ok (.aload_n 3, 1) := by decide +kernel
theorem dX1_valueRefusal_74 : decode cX1_valueRefusal 74 = .ok (.iload 5, 2) := by decide +kernel
theorem dX1_valueRefusal_76 : decode cX1_valueRefusal 76 = .ok (.invokevirtual 97, 3) := by decide +kernel
theorem dX1_valueRefusal_79 : decode cX1_valueRefusal 79 = .ok (.bipush 32, 2) := by decide +kernel
theorem dX1_valueRefusal_81 : decode cX1_valueRefusal 81 = .ok (.if_icmp .lt 18, 3) := by decide +kernel
theorem dX1_valueRefusal_84 : decode cX1_valueRefusal 84 = .ok (.aload_n 3, 1) := by decide +kernel
theorem dX1_valueRefusal_85 : decode cX1_valueRefusal 85 = .ok (.iload 5, 2) := by decide +kernel
theorem dX1_valueRefusal_87 : decode cX1_valueRefusal 87 = .ok (.invokevirtual 97, 3) := by decide +kernel
theorem dX1_valueRefusal_90 : decode cX1_valueRefusal 90 = .ok (.bipush 126, 2) := by decide +kernel
theorem dX1_valueRefusal_92 : decode cX1_valueRefusal 92 = .ok (.if_icmp .gt 7, 3) := by decide +kernel
theorem dX1_valueRefusal_95 : decode cX1_valueRefusal 95 = .ok (.iconst 1, 1) := by decide +kernel
theorem dX1_valueRefusal_96 : decode cX1_valueRefusal 96 = .ok (.goto 4, 3) := by decide +kernel
theorem dX1_valueRefusal_99 : decode cX1_valueRefusal 99 = .ok (.iconst 0, 1) := by decide +kernel
theorem dX1_valueRefusal_100 : decode cX1_valueRefusal 100 = .ok (.istore 4, 2) := by decide +kernel
theorem dX1_valueRefusal_102 : decode cX1_valueRefusal 102 = .ok (.iinc 5 1, 3) := by decide +kernel
theorem dX1_valueRefusal_105 : decode cX1_valueRefusal 105 = .ok (.goto (-46), 3) := by decide +kernel
theorem dX1_valueRefusal_108 : decode cX1_valueRefusal 108 = .ok (.iload 4, 2) := by decide +kernel
theorem dX1_valueRefusal_110 : decode cX1_valueRefusal 110 = .ok (.ifCond .eq 122, 3) := by decide +kernel
theorem dX1_valueRefusal_113 : decode cX1_valueRefusal 113 = .ok (.iload_n 2, 1) := by decide +kernel
theorem dX1_valueRefusal_114 : decode cX1_valueRefusal 114 = .ok (.ifCond .ne 118, 3) := by decide +kernel
theorem dX1_valueRefusal_117 : decode cX1_valueRefusal 117 = .ok (.aload_n 0, 1) := by decide +kernel
theorem dX1_valueRefusal_118 : decode cX1_valueRefusal 118 = .ok (.getfield 75, 3) := by decide +kernel
theorem dX1_valueRefusal_121 : decode cX1_valueRefusal 121 = .ok (.aload_n 0, 1) := by decide +kernel
theorem dX1_valueRefusal_122 : decode cX1_valueRefusal 122 = .ok (.getfield 88, 3) := by decide +kernel
theorem dX1_valueRefusal_125 : decode cX1_valueRefusal 125 = .ok (.iadd, 1) := by decide +kernel
theorem dX1_valueRefusal_126 : decode cX1_valueRefusal 126 = .ok (.iconst 4, 1) := by decide +kernel
theorem dX1_valueRefusal_127 : decode cX1_valueRefusal 127 = .ok (.if_icmp .lt 105, 3) := by decide +kernel
theorem dX1_valueRefusal_130 : decode cX1_valueRefusal 130 = .ok (.bipush 7, 2) := by decide +kernel
theorem dX1_valueRefusal_132 : decode cX1_valueRefusal 132 = .ok (.ireturn, 1) := by decide +kernel
theorem dX1_valueRefusal_133 : decode cX1_valueRefusal 133 = .ok (.aload_n 3, 1) := by decide +kernel
theorem dX1_valueRefusal_134 : decode cX1_valueRefusal 134 = .ok (.iconst 0, 1) := by decide +kernel
theorem dX1_valueRefusal_135 : decode cX1_valueRefusal 135 = .ok (.invokevirtual 97, 3) := by decide +kernel
theorem dX1_valueRefusal_138 : decode cX1_valueRefusal 138 = .ok (.istore 5, 2) := by decide +kernel
theorem dX1_valueRefusal_140 : decode cX1_valueRefusal 140 = .ok (.iload 5, 2) := by decide +kernel
theorem dX1_valueRefusal_142 : decode cX1_valueRefusal 142 = .ok (.iconst 1, 1) := by decide +kernel
theorem dX1_valueRefusal_143 : decode cX1_valueRefusal 143 = .ok (.if_icmp .lt 33, 3) := by decide +kernel
theorem dX1_valueRefusal_146 : decode cX1_valueRefusal 146 = .ok (.iload 5, 2) := by decide +kernel
theorem dX1_valueRefusal_148 : decode cX1_valueRefusal 148 = .ok (.aload_n 0, 1) := by decide +kernel
theorem dX1_valueRefusal_149 : decode cX1_valueRefusal 149 = .ok (.getfield 43, 3) := by decide +kernel
theorem dX1_valueRefusal_152 : decode cX1_valueRefusal 152 = .ok (.if_icmp .gt 24, 3) := by decide +kernel
theorem dX1_valueRefusal_155 : decode cX1_valueRefusal 155 = .ok (.aload_n 0, 1) := by decide +kernel
theorem dX1_valueRefusal_156 : decode cX1_valueRefusal 156 = .ok (.getfield 46, 3) := by decide +kernel
theorem dX1_valueRefusal_159 : decode cX1_valueRefusal 159 = .ok (.aload_n 0, 1) := by decide +kernel
theorem dX1_valueRefusal_160 : decode cX1_valueRefusal 160 = .ok (.getfield 40, 3) := by decide +kernel
theorem dX1_valueRefusal_163 : decode cX1_valueRefusal 163 = .ok (.iload 5, 2) := by decide +kernel
theorem dX1_valueRefusal_165 : decode cX1_valueRefusal 165 = .ok (.imul, 1) := by decide +kernel
theorem dX1_valueRefusal_166 : decode cX1_valueRefusal 166 = .ok (.invokestatic 183, 3) := by decide +kernel
theorem dX1_valueRefusal_169 : decode cX1_valueRefusal 169 = .ok (.ifCond .eq 7, 3) := by decide +kernel
theorem dX1_valueRefusal_172 : decode cX1_valueRefusal 172 = .ok (.iconst 1, 1) := by decide +kernel
theorem dX1_valueRefusal_173 : decode cX1_valueRefusal 173 = .ok (.goto 4, 3) := by decide +kernel
theorem dX1_valueRefusal_176 : decode cX1_valueRefusal 176 = .ok (.iconst 0, 1) := by decide +kernel
theorem dX1_valueRefusal_177 : decode cX1_valueRefusal 177 = .ok (.istore 4, 2) := by decide +kernel
theorem dX1_valueRefusal_179 : decode cX1_valueRefusal 179 = .ok (.goto 53, 3) := by decide +kernel
theorem dX1_valueRefusal_182 : decode cX1_valueRefusal 182 = .ok (.aload_n 3, 1) := by decide +kernel
theorem dX1_valueRefusal_183 : decode cX1_valueRefusal 183 = .ok (.iconst 0, 1) := by decide +kernel
theorem dX1_valueRefusal_184 : decode cX1_valueRefusal 184 = .ok (.invokevirtual 97, 3) := by decide +kernel
theorem dX1_valueRefusal_187 : decode cX1_valueRefusal 187 = .ok (.bipush 8, 2) := by decide +kernel
theorem dX1_valueRefusal_189 : decode cX1_valueRefusal 189 = .ok (.ishl, 1) := by decide +kernel
theorem dX1_valueRefusal_190 : decode cX1_valueRefusal 190 = .ok (.aload_n 3, 1) := by decide +kernel
theorem dX1_valueRefusal_191 : decode cX1_valueRefusal 191 = .ok (.iconst 1, 1) := by decide +kernel
theorem dX1_valueRefusal_192 : decode cX1_valueRefusal 192 = .ok (.invokevirtual 97, 3) := by decide +kernel
theorem dX1_valueRefusal_195 : decode cX1_valueRefusal 195 = .ok (.ior, 1) := by decide +kernel
theorem dX1_valueRefusal_196 : decode cX1_valueRefusal 196 = .ok (.aload_n 0, 1) := by decide +kernel
theorem dX1_valueRefusal_197 : decode cX1_valueRefusal 197 = .ok (.getfield 40, 3) := by decide +kernel
theorem dX1_valueRefusal_200 : decode cX1_valueRefusal 200 = .ok (.aload_n 0, 1) := by decide +kernel
theorem dX1_valueRefusal_201 : decode cX1_valueRefusal 201 = .ok (.getfield 32, 3) := by decide +kernel
theorem dX1_valueRefusal_204 : decode cX1_valueRefusal 204 = .ok (.imul, 1) := by decide +kernel
theorem dX1_valueRefusal_205 : decode cX1_valueRefusal 205 = .ok (.invokestatic 183, 3) := by decide +kernel
theorem dX1_valueRefusal_208 : decode cX1_valueRefusal 208 = .ok (.istore 4, 2) := by decide +kernel
theorem dX1_valueRefusal_210 : decode cX1_valueRefusal 210 = .ok (.goto 22, 3) := by decide +kernel
theorem dX1_valueRefusal_213 : decode cX1_valueRefusal 213 = .ok (.aload_n 3, 1) := by decide +kernel
theorem dX1_valueRefusal_214 : decode cX1_valueRefusal 214 = .ok (.iconst 0, 1) := by decide +kernel
theorem dX1_valueRefusal_215 : decode cX1_valueRefusal 215 = .ok (.invokevirtual 97, 3) := by decide +kernel
theorem dX1_valueRefusal_218 : decode cX1_valueRefusal 218 = .ok (.iconst 1, 1) := by decide +kernel
theorem dX1_valueRefusal_219 : decode cX1_valueRefusal 219 = .ok (.if_icmp .gt 7, 3) := by decide +kernel
theorem dX1_valueRefusal_222 : decode cX1_valueRefusal 222 = .ok (.iconst 1, 1) := by decide +kernel
theorem dX1_valueRefusal_223 : decode cX1_valueRefusal 223 = .ok (.goto 4, 3) := by decide +kernel
theorem dX1_valueRefusal_226 : decode cX1_valueRefusal 226 = .ok (.iconst 0, 1) := by decide +kernel
theorem dX1_valueRefusal_227 : decode cX1_valueRefusal 227 = .ok (.istore 4, 2) := by decide +kernel
theorem dX1_valueRefusal_229 : decode cX1_valueRefusal 229 = .ok (.goto 3, 3) := by decide +kernel
theorem dX1_valueRefusal_232 : decode cX1_valueRefusal 232 = .ok (.iload 4, 2) := by decide +kernel
theorem dX1_valueRefusal_234 : decode cX1_valueRefusal 234 = .ok (.ifCond .eq 7, 3) := by decide +kernel
theorem dX1_valueRefusal_237 : decode cX1_valueRefusal 237 = .ok (.iconst (-1), 1) := by decide +kernel
theorem dX1_valueRefusal_238 : decode cX1_valueRefusal 238 = .ok (.goto 5, 3) := by decide +kernel
theorem dX1_valueRefusal_241 : decode cX1_valueRefusal 241 = .ok (.bipush 6, 2) := by decide +kernel
theorem dX1_valueRefusal_243 : decode cX1_valueRefusal 243 = .ok (.ireturn, 1) := by decide +kernel
theorem dX1_obey_0 : decode cX1_obey 0 = .ok (.aload_n 1, 1) := by decide +kernel
theorem dX1_obey_1 : decode cX1_obey 1 = .ok (.getfield 125, 3) := by decide +kernel
theorem dX1_obey_4 : decode cX1_obey 4 = .ok (.astore 5, 2) := by decide +kernel
theorem dX1_obey_6 : decode cX1_obey 6 = .ok (.aload_n 1, 1) := by decide +kernel
theorem dX1_obey_7 : decode cX1_obey 7 = .ok (.getfield 128, 3) := by decide +kernel
theorem dX1_obey_10 : decode cX1_obey 10 = .ok (.lookupswitch 176 #[(130, 42), (224, 118), (240, 131), (4096, 154)], 42) := by decide +kernel
theorem dX1_obey_52 : decode cX1_obey 52 = .ok (.iload 4, 2) := by decide +kernel
theorem dX1_obey_54 : decode cX1_obey 54 = .ok (.iconst 3, 1) := by decide +kernel
theorem dX1_obey_55 : decode cX1_obey 55 = .ok (.irem, 1) := by decide +kernel
theorem dX1_obey_56 : decode cX1_obey 56 = .ok (.istore 6, 2) := by decide +kernel
theorem dX1_obey_58 : decode cX1_obey 58 = .ok (.iload_n 3, 1) := by decide +kernel
theorem dX1_obey_59 : decode cX1_obey 59 = .ok (.ifCond .eq 15, 3) := by decide +kernel
theorem dX1_obey_62 : decode cX1_obey 62 = .ok (.aload_n 0, 1) := by decide +kernel
theorem dX1_obey_63 : decode cX1_obey 63 = .ok (.getfield 20, 3) := by decide +kernel
theorem dX1_obey_66 : decode cX1_obey 66 = .ok (.aload 5, 2) := by decide +kernel
theorem dX1_obey_68 : decode cX1_obey 68 = .ok (.invokevirtual 84, 3) := by decide +kernel
theorem dX1_obey_71 : decode cX1_obey 71 = .ok (.goto 115, 3) := by decide +kernel
theorem dX1_obey_74 : decode cX1_obey 74 = .ok (.iload 6, 2) := by decide +kernel
theorem dX1_obey_76 : decode cX1_obey 76 = .ok (.ifCond .lt 110, 3) := by decide +kernel
theorem dX1_obey_79 : decode cX1_obey 79 = .ok (.aload_n 0, 1) := by decide +kernel
theorem dX1_obey_80 : decode cX1_obey 80 = .ok (.getfield 24, 3) := by decide +kernel
theorem dX1_obey_83 : decode cX1_obey 83 = .ok (.iload 6, 2) := by decide +kernel
theorem dX1_obey_85 : decode cX1_obey 85 = .ok (.aaload, 1) := by decide +kernel
theorem dX1_obey_86 : decode cX1_obey 86 = .ok (.aload 5, 2) := by decide +kernel
theorem dX1_obey_88 : decode cX1_obey 88 = .ok (.invokevirtual 84, 3) := by decide +kernel
theorem dX1_obey_91 : decode cX1_obey 91 = .ok (.aload_n 0, 1) := by decide +kernel
theorem dX1_obey_92 : decode cX1_obey 92 = .ok (.getfield 28, 3) := by decide +kernel
theorem dX1_obey_95 : decode cX1_obey 95 = .ok (.iload 6, 2) := by decide +kernel
theorem dX1_obey_97 : decode cX1_obey 97 = .ok (.iconst 1, 1) := by decide +kernel
theorem dX1_obey_98 : decode cX1_obey 98 = .ok (.bastore, 1) := by decide +kernel
theorem dX1_obey_99 : decode cX1_obey 99 = .ok (.aload_n 0, 1) := by decide +kernel
theorem dX1_obey_100 : decode cX1_obey 100 = .ok (.dup, 1) := by decide +kernel
theorem dX1_obey_101 : decode cX1_obey 101 = .ok (.getfield 88, 3) := by decide +kernel
theorem dX1_obey_104 : decode cX1_obey 104 = .ok (.iconst 1, 1) := by decide +kernel
theorem dX1_obey_105 : decode cX1_obey 105 = .ok (.iadd, 1) := by decide +kernel
theorem dX1_obey_106 : decode cX1_obey 106 = .ok (.putfield 88, 3) := by decide +kernel
theorem dX1_obey_109 : decode cX1_obey 109 = .ok (.aload_n 2, 1) := by decide +kernel
theorem dX1_obey_110 : decode cX1_obey 110 = .ok (.iconst 1, 1) := by decide +kernel
theorem dX1_obey_111 : decode cX1_obey 111 = .ok (.putfield 187, 3) := by decide +kernel
theorem dX1_obey_114 : decode cX1_obey 114 = .ok (.aload_n 2, 1) := by decide +kernel
theorem dX1_obey_115 : decode cX1_obey 115 = .ok (.getfield 125, 3) := by decide +kernel
theorem dX1_obey_118 : decode cX1_obey 118 = .ok (.ldc2_w 190, 3) := by decide +kernel
theorem dX1_obey_121 : decode cX1_obey 121 = .ok (.iconst 2, 1) := by decide +kernel
theorem dX1_obey_122 : decode cX1_obey 122 = .ok (.invokevirtual 145, 3) := by decide +kernel
theorem dX1_obey_125 : decode cX1_obey 125 = .ok (.goto 61, 3) := by decide +kernel
theorem dX1_obey_128 : decode cX1_obey 128 = .ok (.aload_n 0, 1) := by decide +kernel
theorem dX1_obey_129 : decode cX1_obey 129 = .ok (.aload 5, 2) := by decide +kernel
theorem dX1_obey_131 : decode cX1_obey 131 = .ok (.iconst 0, 1) := by decide +kernel
theorem dX1_obey_132 : decode cX1_obey 132 = .ok (.invokevirtual 97, 3) := by decide +kernel
theorem dX1_obey_135 : decode cX1_obey 135 = .ok (.putfield 32, 3) := by decide +kernel
theorem dX1_obey_138 : decode cX1_obey 138 = .ok (.goto 48, 3) := by decide +kernel
theorem dX1_obey_141 : decode cX1_obey 141 = .ok (.aload_n 0, 1) := by decide +kernel
theorem dX1_obey_142 : decode cX1_obey 142 = .ok (.aload 5, 2) := by decide +kernel
theorem dX1_obey_144 : decode cX1_obey 144 = .ok (.iconst 0, 1) := by decide +kernel
theorem dX1_obey_145 : decode cX1_obey 145 = .ok (.invokevirtual 97, 3) := by decide +kernel
theorem dX1_obey_148 : decode cX1_obey 148 = .ok (.bipush 8, 2) := by decide +kernel
theorem dX1_obey_150 : decode cX1_obey 150 = .ok (.ishl, 1) := by decide +kernel
theorem dX1_obey_151 : decode cX1_obey 151 = .ok (.aload 5, 2) := by decide +kernel
theorem dX1_obey_153 : decode cX1_obey 153 = .ok (.iconst 1, 1) := by decide +kernel
theorem dX1_obey_154 : decode cX1_obey 154 = .ok (.invokevirtual 97, 3) := by decide +kernel
theorem dX1_obey_157 : decode cX1_obey 157 = .ok (.ior, 1) := by decide +kernel
theorem dX1_obey_158 : decode cX1_obey 158 = .ok (.putfield 46, 3) := by decide +kernel
theorem dX1_obey_161 : decode cX1_obey 161 = .ok (.goto 25, 3) := by decide +kernel
theorem dX1_obey_164 : decode cX1_obey 164 = .ok (.aload_n 0, 1) := by decide +kernel
theorem dX1_obey_165 : decode cX1_obey 165 = .ok (.aload 5, 2) := by decide +kernel
theorem dX1_obey_167 : decode cX1_obey 167 = .ok (.iconst 0, 1) := by decide +kernel
theorem dX1_obey_168 : decode cX1_obey 168 = .ok (.invokevirtual 97, 3) := by decide +kernel
theorem dX1_obey_171 : decode cX1_obey 171 = .ok (.iconst 1, 1) := by decide +kernel
theorem dX1_obey_172 : decode cX1_obey 172 = .ok (.if_icmp .ne 7, 3) := by decide +kernel
theorem dX1_obey_175 : decode cX1_obey 175 = .ok (.iconst 1, 1) := by decide +kernel
theorem dX1_obey_176 : decode cX1_obey 176 = .ok (.goto 4, 3) := by decide +kernel
theorem dX1_obey_179 : decode cX1_obey 179 = .ok (.iconst 0, 1) := by decide +kernel
theorem dX1_obey_180 : decode cX1_obey 180 = .ok (.putfield 68, 3) := by decide +kernel
theorem dX1_obey_183 : decode cX1_obey 183 = .ok (.goto 3, 3) := by decide +kernel
theorem dX1_obey_186 : decode cX1_obey 186 = .ok (.return_, 1) := by decide +kernel
theorem dX1_tell_0 : decode cX1_tell 0 = .ok (.aload_n 2, 1) := by decide +kernel
theorem dX1_tell_1 : decode cX1_tell 1 = .ok (.getfield 125, 3) := by decide +kernel
theorem dX1_tell_4 : decode cX1_tell 4 = .ok (.astore_n 3, 1) := by decide +kernel
theorem dX1_tell_5 : decode cX1_tell 5 = .ok (.iload_n 1, 1) := by decide +kernel
theorem dX1_tell_6 : decode cX1_tell 6 = .ok (.lookupswitch 344 #[(32, 311), (80, 74), (96, 107), (128, 172), (130, 254), (224, 265), (240, 284), (4096, 297)], 74) := by decide +kernel
theorem dX1_tell_80 : decode cX1_tell 80 = .ok (.iconst 0, 1) := by decide +kernel
theorem dX1_tell_81 : decode cX1_tell 81 = .ok (.istore 4, 2) := by decide +kernel
theorem dX1_tell_83 : decode cX1_tell 83 = .ok (.iload 4, 2) := by decide +kernel
theorem dX1_tell_85 : decode cX1_tell 85 = .ok (.getstatic 180, 3) := by decide +kernel
theorem dX1_tell_88 : decode cX1_tell 88 = .ok (.arraylength, 1) := by decide +kernel
theorem dX1_tell_89 : decode cX1_tell 89 = .ok (.if_icmp .ge 21, 3) := by decide +kernel
theorem dX1_tell_92 : decode cX1_tell 92 = .ok (.aload_n 3, 1) := by decide +kernel
theorem dX1_tell_93 : decode cX1_tell 93 = .ok (.getstatic 180, 3) := by decide +kernel
theorem dX1_tell_96 : decode cX1_tell 96 = .ok (.iload 4, 2) := by decide +kernel
theorem dX1_tell_98 : decode cX1_tell 98 = .ok (.iaload, 1) := by decide +kernel
theorem dX1_tell_99 : decode cX1_tell 99 = .ok (.i2l, 1) := by decide +kernel
theorem dX1_tell_100 : decode cX1_tell 100 = .ok (.iconst 2, 1) := by decide +kernel
theorem dX1_tell_101 : decode cX1_tell 101 = .ok (.invokevirtual 145, 3) := by decide +kernel
theorem dX1_tell_104 : decode cX1_tell 104 = .ok (.iinc 4 1, 3) := by decide +kernel
theorem dX1_tell_107 : decode cX1_tell 107 = .ok (.goto (-24), 3) := by decide +kernel
theorem dX1_tell_110 : decode cX1_tell 110 = .ok (.goto 240, 3) := by decide +kernel
theorem dX1_tell_113 : decode cX1_tell 113 = .ok (.aload_n 3, 1) := by decide +kernel
theorem dX1_tell_114 : decode cX1_tell 114 = .ok (.aload_n 0, 1) := by decide +kernel
theorem dX1_tell_115 : decode cX1_tell 115 = .ok (.getfield 36, 3) := by decide +kernel
theorem dX1_tell_118 : decode cX1_tell 118 = .ok (.bipush 6, 2) := by decide +kernel
theorem dX1_tell_120 : decode cX1_tell 120 = .ok (.invokevirtual 145, 3) := by decide +kernel
theorem dX1_tell_123 : decode cX1_tell 123 = .ok (.aload_n 3, 1) := by decide +kernel
theorem dX1_tell_124 : decode cX1_tell 124 = .ok (.aload_n 0, 1) := by decide +kernel
theorem dX1_tell_125 : decode cX1_tell 125 = .ok (.invokevirtual 56, 3) := by decide +kernel
theorem dX1_tell_128 : decode cX1_tell 128 = .ok (.i2l, 1) := by decide +kernel
theorem dX1_tell_129 : decode cX1_tell 129 = .ok (.iconst 2, 1) := by decide +kernel
theorem dX1_tell_130 : decode cX1_tell 130 = .ok (.invokevirtual 145, 3) := by decide +kernel
theorem dX1_tell_133 : decode cX1_tell 133 = .ok (.aload_n 3, 1) := by decide +kernel
theorem dX1_tell_134 : decode cX1_tell 134 = .ok (.aload_n 0, 1) := by decide +kernel
theorem dX1_tell_135 : decode cX1_tell 135 = .ok (.getfield 32, 3) := by decide +kernel
theorem dX1_tell_138 : decode cX1_tell 138 = .ok (.invokevirtual 192, 3) := by decide +kernel
theorem dX1_tell_141 : decode cX1_tell 141 = .ok (.aload_n 3, 1) := by decide +kernel
theorem dX1_tell_142 : decode cX1_tell 142 = .ok (.aload_n 0, 1) := by decide +kernel
theorem dX1_tell_143 : decode cX1_tell 143 = .ok (.getfield 43, 3) := by decide +kernel
theorem dX1_tell_146 : decode cX1_tell 146 = .ok (.invokevirtual 192, 3) := by decide +kernel
theorem dX1_tell_149 : decode cX1_tell 149 = .ok (.aload_n 3, 1) := by decide +kernel
theorem dX1_tell_150 : decode cX1_tell 150 = .ok (.aload_n 0, 1) := by decide +kernel
theorem dX1_tell_151 : decode cX1_tell 151 = .ok (.getfield 46, 3) := by decide +kernel
theorem dX1_tell_154 : decode cX1_tell 154 = .ok (.i2l, 1) := by decide +kernel
theorem dX1_tell_155 : decode cX1_tell 155 = .ok (.iconst 2, 1) := by decide +kernel
theorem dX1_tell_156 : decode cX1_tell 156 = .ok (.invokevirtual 145, 3) := by decide +kernel
theorem dX1_tell_159 : decode cX1_tell 159 = .ok (.aload_n 3, 1) := by decide +kernel
theorem dX1_tell_160 : decode cX1_tell 160 = .ok (.lconst 0, 1) := by decide +kernel
theorem dX1_tell_161 : decode cX1_tell 161 = .ok (.iconst 2, 1) := by decide +kernel
theorem dX1_tell_162 : decode cX1_tell 162 = .ok (.invokevirtual 145, 3) := by decide +kernel
theorem dX1_tell_165 : decode cX1_tell 165 = .ok (.aload_n 3, 1) := by decide +kernel
theorem dX1_tell_166 : decode cX1_tell 166 = .ok (.aload_n 0, 1) := by decide +kernel
theorem dX1_tell_167 : decode cX1_tell 167 = .ok (.getfield 81, 3) := by decide +kernel
theorem dX1_tell_170 : decode cX1_tell 170 = .ok (.i2l, 1) := by decide +kernel
theorem dX1_tell_171 : decode cX1_tell 171 = .ok (.iconst 2, 1) := by decide +kernel
theorem dX1_tell_172 : decode cX1_tell 172 = .ok (.invokevirtual 145, 3) := by decide +kernel
theorem dX1_tell_175 : decode cX1_tell 175 = .ok (.goto 175, 3) := by decide +kernel
theorem dX1_tell_178 : decode cX1_tell 178 = .ok (.aload_n 3, 1) := by decide +kernel
theorem dX1_tell_179 : decode cX1_tell 179 = .ok (.bipush 76, 2) := by decide +kernel
theorem dX1_tell_181 : decode cX1_tell 181 = .ok (.invokevirtual 192, 3) := by decide +kernel
theorem dX1_tell_184 : decode cX1_tell 184 = .ok (.aload_n 3, 1) := by decide +kernel
theorem dX1_tell_185 : decode cX1_tell 185 = .ok (.bipush 65, 2) := by decide +kernel
theorem dX1_tell_187 : decode cX1_tell 187 = .ok (.invokevirtual 192, 3) := by decide +kernel
theorem dX1_tell_190 : decode cX1_tell 190 = .ok (.aload_n 3, 1) := by decide +kernel
theorem dX1_tell_191 : decode cX1_tell 191 = .ok (.bipush 77, 2) := by decide +kernel
theorem dX1_tell_193 : decode cX1_tell 193 = .ok (.invokevirtual 192, 3) := by decide +kernel
theorem dX1_tell_196 : decode cX1_tell 196 = .ok (.aload_n 3, 1) := by decide +kernel
theorem dX1_tell_197 : decode cX1_tell 197 = .ok (.bipush 80, 2) := by decide +kernel
theorem dX1_tell_199 : decode cX1_tell 199 = .ok (.invokevirtual 192, 3) := by decide +kernel
theorem dX1_tell_202 : decode cX1_tell 202 = .ok (.bipush 28, 2) := by decide +kernel
theorem dX1_tell_204 : decode cX1_tell 204 = .ok (.istore 4, 2) := by decide +kernel
theorem dX1_tell_206 : decode cX1_tell 206 = .ok (.iload 4, 2) := by decide +kernel
theorem dX1_tell_208 : decode cX1_tell 208 = .ok (.ifCond .lt 49, 3) := by decide +kernel
theorem dX1_tell_211 : decode cX1_tell 211 = .ok (.aload_n 0, 1) := by decide +kernel
theorem dX1_tell_212 : decode cX1_tell 212 = .ok (.getfield 36, 3) := by decide +kernel
theorem dX1_tell_215 : decode cX1_tell 215 = .ok (.iload 4, 2) := by decide +kernel
theorem dX1_tell_217 : decode cX1_tell 217 = .ok (.lushr, 1) := by decide +kernel
theorem dX1_tell_218 : decode cX1_tell 218 = .ok (.l2i, 1) := by decide +kernel
theorem dX1_tell_219 : decode cX1_tell 219 = .ok (.bipush 15, 2) := by decide +kernel
theorem dX1_tell_221 : decode cX1_tell 221 = .ok (.iand, 1) := by decide +kernel
theorem dX1_tell_222 : decode cX1_tell 222 = .ok (.istore 5, 2) := by decide +kernel
theorem dX1_tell_224 : decode cX1_tell 224 = .ok (.aload_n 3, 1) := by decide +kernel
theorem dX1_tell_225 : decode cX1_tell 225 = .ok (.iload 5, 2) := by decide +kernel
theorem dX1_tell_227 : decode cX1_tell 227 = .ok (.bipush 10, 2) := by decide +kernel
theorem dX1_tell_229 : decode cX1_tell 229 = .ok (.if_icmp .ge 11, 3) := by decide +kernel
theorem dX1_tell_232 : decode cX1_tell 232 = .ok (.bipush 48, 2) := by decide +kernel
theorem dX1_tell_234 : decode cX1_tell 234 = .ok (.iload 5, 2) := by decide +kernel
theorem dX1_tell_236 : decode cX1_tell 236 = .ok (.iadd, 1) := by decide +kernel
theorem dX1_tell_237 : decode cX1_tell 237 = .ok (.goto 11, 3) := by decide +kernel
theorem dX1_tell_240 : decode cX1_tell 240 = .ok (.bipush 65, 2) := by decide +kernel
theorem dX1_tell_242 : decode cX1_tell 242 = .ok (.iload 5, 2) := by decide +kernel
theorem dX1_tell_244 : decode cX1_tell 244 = .ok (.iadd, 1) := by decide +kernel
theorem dX1_tell_245 : decode cX1_tell 245 = .ok (.bipush 10, 2) := by decide +kernel
theorem dX1_tell_247 : decode cX1_tell 247 = .ok (.isub, 1) := by decide +kernel
theorem dX1_tell_248 : decode cX1_tell 248 = .ok (.invokevirtual 192, 3) := by decide +kernel
theorem dX1_tell_251 : decode cX1_tell 251 = .ok (.iinc 4 (-4), 3) := by decide +kernel
theorem dX1_tell_254 : decode cX1_tell 254 = .ok (.goto (-48), 3) := by decide +kernel
theorem dX1_tell_257 : decode cX1_tell 257 = .ok (.goto 93, 3) := by decide +kernel
theorem dX1_tell_260 : decode cX1_tell 260 = .ok (.aload_n 3, 1) := by decide +kernel
theorem dX1_tell_261 : decode cX1_tell 261 = .ok (.aload_n 0, 1) := by decide +kernel
theorem dX1_tell_262 : decode cX1_tell 262 = .ok (.getfield 20, 3) := by decide +kernel
theorem dX1_tell_265 : decode cX1_tell 265 = .ok (.invokevirtual 84, 3) := by decide +kernel
theorem dX1_tell_268 : decode cX1_tell 268 = .ok (.goto 82, 3) := by decide +kernel
theorem dX1_tell_271 : decode cX1_tell 271 = .ok (.aload_n 3, 1) := by decide +kernel
theorem dX1_tell_272 : decode cX1_tell 272 = .ok (.aload_n 0, 1) := by decide +kernel
theorem dX1_tell_273 : decode cX1_tell 273 = .ok (.getfield 32, 3) := by decide +kernel
theorem dX1_tell_276 : decode cX1_tell 276 = .ok (.invokevirtual 192, 3) := by decide +kernel
theorem dX1_tell_279 : decode cX1_tell 279 = .ok (.aload_n 3, 1) := by decide +kernel
theorem dX1_tell_280 : decode cX1_tell 280 = .ok (.aload_n 0, 1) := by decide +kernel
theorem dX1_tell_281 : decode cX1_tell 281 = .ok (.getfield 43, 3) := by decide +kernel
theorem dX1_tell_284 : decode cX1_tell 284 = .ok (.invokevirtual 192, 3) := by decide +kernel
theorem dX1_tell_287 : decode cX1_tell 287 = .ok (.goto 63, 3) := by decide +kernel
theorem dX1_tell_290 : decode cX1_tell 290 = .ok (.aload_n 3, 1) := by decide +kernel
theorem dX1_tell_291 : decode cX1_tell 291 = .ok (.aload_n 0, 1) := by decide +kernel
theorem dX1_tell_292 : decode cX1_tell 292 = .ok (.getfield 46, 3) := by decide +kernel
theorem dX1_tell_295 : decode cX1_tell 295 = .ok (.i2l, 1) := by decide +kernel
theorem dX1_tell_296 : decode cX1_tell 296 = .ok (.iconst 2, 1) := by decide +kernel
theorem dX1_tell_297 : decode cX1_tell 297 = .ok (.invokevirtual 145, 3) := by decide +kernel
theorem dX1_tell_300 : decode cX1_tell 300 = .ok (.goto 50, 3) := by decide +kernel
theorem dX1_tell_303 : decode cX1_tell 303 = .ok (.aload_n 3, 1) := by decide +kernel
theorem dX1_tell_304 : decode cX1_tell 304 = .ok (.aload_n 0, 1) := by decide +kernel
theorem dX1_tell_305 : decode cX1_tell 305 = .ok (.getfield 68, 3) := by decide +kernel
theorem dX1_tell_308 : decode cX1_tell 308 = .ok (.invokestatic 64, 3) := by decide +kernel
theorem dX1_tell_311 : decode cX1_tell 311 = .ok (.invokevirtual 192, 3) := by decide +kernel
theorem dX1_tell_314 : decode cX1_tell 314 = .ok (.goto 36, 3) := by decide +kernel
theorem dX1_tell_317 : decode cX1_tell 317 = .ok (.aload_n 0, 1) := by decide +kernel
theorem dX1_tell_318 : decode cX1_tell 318 = .ok (.getfield 75, 3) := by decide +kernel
theorem dX1_tell_321 : decode cX1_tell 321 = .ok (.ifCond .le 29, 3) := by decide +kernel
theorem dX1_tell_324 : decode cX1_tell 324 = .ok (.aload_n 0, 1) := by decide +kernel
theorem dX1_tell_325 : decode cX1_tell 325 = .ok (.dup, 1) := by decide +kernel
theorem dX1_tell_326 : decode cX1_tell 326 = .ok (.getfield 75, 3) := by decide +kernel
theorem dX1_tell_329 : decode cX1_tell 329 = .ok (.iconst 1, 1) := by decide +kernel
theorem dX1_tell_330 : decode cX1_tell 330 = .ok (.isub, 1) := by decide +kernel
theorem dX1_tell_331 : decode cX1_tell 331 = .ok (.putfield 75, 3) := by decide +kernel
theorem dX1_tell_334 : decode cX1_tell 334 = .ok (.aload_n 2, 1) := by decide +kernel
theorem dX1_tell_335 : decode cX1_tell 335 = .ok (.sipush 130, 3) := by decide +kernel
theorem dX1_tell_338 : decode cX1_tell 338 = .ok (.putfield 128, 3) := by decide +kernel
theorem dX1_tell_341 : decode cX1_tell 341 = .ok (.aload_n 2, 1) := by decide +kernel
theorem dX1_tell_342 : decode cX1_tell 342 = .ok (.bipush 49, 2) := by decide +kernel
theorem dX1_tell_344 : decode cX1_tell 344 = .ok (.putfield 108, 3) := by decide +kernel
theorem dX1_tell_347 : decode cX1_tell 347 = .ok (.goto 3, 3) := by decide +kernel
theorem dX1_tell_350 : decode cX1_tell 350 = .ok (.return_, 1) := by decide +kernel
theorem dX2_init_0 : decode cX2_init 0 = .ok (.aload_n 0, 1) := by decide +kernel
theorem dX2_init_1 : decode cX2_init 1 = .ok (.invokespecial 5, 3) := by decide +kernel
theorem dX2_init_4 : decode cX2_init 4 = .ok (.aload_n 0, 1) := by decide +kernel
theorem dX2_init_5 : decode cX2_init 5 = .ok (.new 11, 3) := by decide +kernel
theorem dX2_init_8 : decode cX2_init 8 = .ok (.dup, 1) := by decide +kernel
theorem dX2_init_9 : decode cX2_init 9 = .ok (.sipush 231, 3) := by decide +kernel
theorem dX2_init_12 : decode cX2_init 12 = .ok (.invokespecial 13, 3) := by decide +kernel
theorem dX2_init_15 : decode cX2_init 15 = .ok (.putfield 16, 3) := by decide +kernel
theorem dX2_init_18 : decode cX2_init 18 = .ok (.return_, 1) := by decide +kernel
theorem dX2_isCall_0 : decode cX2_isCall 0 = .ok (.aload_n 0, 1) := by decide +kernel
theorem dX2_isCall_1 : decode cX2_isCall 1 = .ok (.getfield 20, 3) := by decide +kernel
theorem dX2_isCall_4 : decode cX2_isCall 4 = .ok (.invokestatic 24, 3) := by decide +kernel
theorem dX2_isCall_7 : decode cX2_isCall 7 = .ok (.ldc2_w 28, 3) := by decide +kernel
theorem dX2_isCall_10 : decode cX2_isCall 10 = .ok (.lcmp, 1) := by decide +kernel
theorem dX2_isCall_11 : decode cX2_isCall 11 = .ok (.ifCond .ne 7, 3) := by decide +kernel
theorem dX2_isCall_14 : decode cX2_isCall 14 = .ok (.iconst 1, 1) := by decide +kernel
theorem dX2_isCall_15 : decode cX2_isCall 15 = .ok (.goto 4, 3) := by decide +kernel
theorem dX2_isCall_18 : decode cX2_isCall 18 = .ok (.iconst 0, 1) := by decide +kernel
theorem dX2_isCall_19 : decode cX2_isCall 19 = .ok (.ireturn, 1) := by decide +kernel
theorem dX2_readFrom_0 : decode cX2_readFrom 0 = .ok (.aload_n 1, 1) := by decide +kernel
theorem dX2_readFrom_1 : decode cX2_readFrom 1 = .ok (.iconst 2, 1) := by decide +kernel
theorem dX2_readFrom_2 : decode cX2_readFrom 2 = .ok (.invokevirtual 30, 3) := by decide +kernel
theorem dX2_readFrom_5 : decode cX2_readFrom 5 = .ok (.istore_n 2, 1) := by decide +kernel
theorem dX2_readFrom_6 : decode cX2_readFrom 6 = .ok (.iload_n 2, 1) := by decide +kernel
theorem dX2_readFrom_7 : decode cX2_readFrom 7 = .ok (.bipush 24, 2) := by decide +kernel
theorem dX2_readFrom_9 : decode cX2_readFrom 9 = .ok (.if_icmp .lt 13, 3) := by decide +kernel
theorem dX2_readFrom_12 : decode cX2_readFrom 12 = .ok (.aload_n 1, 1) := by decide +kernel
theorem dX2_readFrom_13 : decode cX2_readFrom 13 = .ok (.invokevirtual 34, 3) := by decide +kernel
theorem dX2_readFrom_16 : decode cX2_readFrom 16 = .ok (.iload_n 2, 1) := by decide +kernel
theorem dX2_readFrom_17 : decode cX2_readFrom 17 = .ok (.iconst 2, 1) := by decide +kernel
theorem dX2_readFrom_18 : decode cX2_readFrom 18 = .ok (.iadd, 1) := by decide +kernel
theorem dX2_readFrom_19 : decode cX2_readFrom 19 = .ok (.if_icmp .eq 5, 3) := by decide +kernel
theorem dX2_readFrom_22 : decode cX2_readFrom 22 = .ok (.iconst 0, 1) := by decide +kernel
theorem dX2_readFrom_23 : decode cX2_readFrom 23 = .ok (.ireturn, 1) := by decide +kernel
theorem dX2_readFrom_24 : decode cX2_readFrom 24 = .ok (.aload_n 1, 1) := by decide +kernel
theorem dX2_readFrom_25 : decode cX2_readFrom 25 = .ok (.iconst 0, 1) := by decide +kernel
theorem dX2_readFrom_26 : decode cX2_readFrom 26 = .ok (.invokevirtual 30, 3) := by decide +kernel
theorem dX2_readFrom_29 : decode cX2_readFrom 29 = .ok (.sipush 204, 3) := by decide +kernel
theorem dX2_readFrom_32 : decode cX2_readFrom 32 = .ok (.if_icmp .ne 25, 3) := by decide +kernel
theorem dX2_readFrom_35 : decode cX2_readFrom 35 = .ok (.aload_n 1, 1) := by decide +kernel
theorem dX2_readFrom_36 : decode cX2_readFrom 36 = .ok (.iconst 1, 1) := by decide +kernel
theorem dX2_readFrom_37 : decode cX2_readFrom 37 = .ok (.invokevirtual 30, 3) := by decide +kernel
theorem dX2_readFrom_40 : decode cX2_readFrom 40 = .ok (.iconst 1, 1) := by decide +kernel
theorem dX2_readFrom_41 : decode cX2_readFrom 41 = .ok (.if_icmp .ne 16, 3) := by decide +kernel
theorem dX2_readFrom_44 : decode cX2_readFrom 44 = .ok (.aload_n 1, 1) := by decide +kernel
theorem dX2_readFrom_45 : decode cX2_readFrom 45 = .ok (.bipush 23, 2) := by decide +kernel
theorem dX2_readFrom_47 : decode cX2_readFrom 47 = .ok (.invokevirtual 30, 3) := by decide +kernel
theorem dX2_readFrom_50 : decode cX2_readFrom 50 = .ok (.iload_n 2, 1) := by decide +kernel
theorem dX2_readFrom_51 : decode cX2_readFrom 51 = .ok (.bipush 24, 2) := by decide +kernel
theorem dX2_readFrom_53 : decode cX2_readFrom 53 = .ok (.isub, 1) := by decide +kernel
theorem dX2_readFrom_54 : decode cX2_readFrom 54 = .ok (.if_icmp .eq 5, 3) := by decide +kernel
theorem dX2_readFrom_57 : decode cX2_readFrom 57 = .ok (.iconst 0, 1) := by decide +kernel
theorem dX2_readFrom_58 : decode cX2_readFrom 58 = .ok (.ireturn, 1) := by decide +kernel
theorem dX2_readFrom_59 : decode cX2_readFrom 59 = .ok (.aload_n 1, 1) := by decide +kernel
theorem dX2_readFrom_60 : decode cX2_readFrom 60 = .ok (.iconst 0, 1) := by decide +kernel
theorem dX2_readFrom_61 : decode cX2_readFrom 61 = .ok (.iload_n 2, 1) := by decide +kernel
theorem dX2_readFrom_62 : decode cX2_readFrom 62 = .ok (.invokevirtual 38, 3) := by decide +kernel
theorem dX2_readFrom_65 : decode cX2_readFrom 65 = .ok (.i2l, 1) := by decide +kernel
theorem dX2_readFrom_66 : decode cX2_readFrom 66 = .ok (.aload_n 1, 1) := by decide +kernel
theorem dX2_readFrom_67 : decode cX2_readFrom 67 = .ok (.iload_n 2, 1) := by decide +kernel
theorem dX2_readFrom_68 : decode cX2_readFrom 68 = .ok (.iconst 2, 1) := by decide +kernel
theorem dX2_readFrom_69 : decode cX2_readFrom 69 = .ok (.invokevirtual 42, 3) := by decide +kernel
theorem dX2_readFrom_72 : decode cX2_readFrom 72 = .ok (.lcmp, 1) := by decide +kernel
theorem dX2_readFrom_73 : decode cX2_readFrom 73 = .ok (.ifCond .eq 5, 3) := by decide +kernel
theorem dX2_readFrom_76 : decode cX2_readFrom 76 = .ok (.iconst 0, 1) := by decide +kernel
theorem dX2_readFrom_77 : decode cX2_readFrom 77 = .ok (.ireturn, 1) := by decide +kernel
theorem dX2_readFrom_78 : decode cX2_readFrom 78 = .ok (.aload_n 0, 1) := by decide +kernel
theorem dX2_readFrom_79 : decode cX2_readFrom 79 = .ok (.aload_n 1, 1) := by decide +kernel
theorem dX2_readFrom_80 : decode cX2_readFrom 80 = .ok (.iconst 3, 1) := by decide +kernel
theorem dX2_readFrom_81 : decode cX2_readFrom 81 = .ok (.bipush 6, 2) := by decide +kernel
theorem dX2_readFrom_83 : decode cX2_readFrom 83 = .ok (.invokevirtual 42, 3) := by decide +kernel
theorem dX2_readFrom_86 : decode cX2_readFrom 86 = .ok (.putfield 20, 3) := by decide +kernel
theorem dX2_readFrom_89 : decode cX2_readFrom 89 = .ok (.aload_n 0, 1) := by decide +kernel
theorem dX2_readFrom_90 : decode cX2_readFrom 90 = .ok (.aload_n 1, 1) := by decide +kernel
theorem dX2_readFrom_91 : decode cX2_readFrom 91 = .ok (.bipush 9, 2) := by decide +kernel
theorem dX2_readFrom_93 : decode cX2_readFrom 93 = .ok (.bipush 6, 2) := by decide +kernel
theorem dX2_readFrom_95 : decode cX2_readFrom 95 = .ok (.invokevirtual 42, 3) := by decide +kernel
theorem dX2_readFrom_98 : decode cX2_readFrom 98 = .ok (.putfield 46, 3) := by decide +kernel
theorem dX2_readFrom_101 : decode cX2_readFrom 101 = .ok (.aload_n 0, 1) := by decide +kernel
theorem dX2_readFrom_102 : decode cX2_readFrom 102 = .ok (.aload_n 1, 1) := by decide +kernel
theorem dX2_readFrom_103 : decode cX2_readFrom 103 = .ok (.bipush 15, 2) := by decide +kernel
theorem dX2_readFrom_105 : decode cX2_readFrom 105 = .ok (.invokevirtual 30, 3) := by decide +kernel
theorem dX2_readFrom_108 : decode cX2_readFrom 108 = .ok (.putfield 49, 3) := by decide +kernel
theorem dX2_readFrom_111 : decode cX2_readFrom 111 = .ok (.aload_n 0, 1) := by decide +kernel
theorem dX2_readFrom_112 : decode cX2_readFrom 112 = .ok (.aload_n 1, 1) := by decide +kernel
theorem dX2_readFrom_113 : decode cX2_readFrom 113 = .ok (.bipush 16, 2) := by decide +kernel
theorem dX2_readFrom_115 : decode cX2_readFrom 115 = .ok (.invokevirtual 30, 3) := by decide +kernel
theorem dX2_readFrom_118 : decode cX2_readFrom 118 = .ok (.putfield 53, 3) := by decide +kernel
theorem dX2_readFrom_121 : decode cX2_readFrom 121 = .ok (.aload_n 0, 1) := by decide +kernel
theorem dX2_readFrom_122 : decode cX2_readFrom 122 = .ok (.aload_n 1, 1) := by decide +kernel
theorem dX2_readFrom_123 : decode cX2_readFrom 123 = .ok (.bipush 17, 2) := by decide +kernel
theorem dX2_readFrom_125 : decode cX2_readFrom 125 = .ok (.invokevirtual 30, 3) := by decide +kernel
theorem dX2_readFrom_128 : decode cX2_readFrom 128 = .ok (.putfield 56, 3) := by decide +kernel
theorem dX2_readFrom_131 : decode cX2_readFrom 131 = .ok (.aload_n 0, 1) := by decide +kernel
theorem dX2_readFrom_132 : decode cX2_readFrom 132 = .ok (.aload_n 1, 1) := by decide +kernel
theorem dX2_readFrom_133 : decode cX2_readFrom 133 = .ok (.bipush 18, 2) := by decide +kernel
theorem dX2_readFrom_135 : decode cX2_readFrom 135 = .ok (.iconst 2, 1) := by decide +kernel
theorem dX2_readFrom_136 : decode cX2_readFrom 136 = .ok (.invokevirtual 42, 3) := by decide +kernel
theorem dX2_readFrom_139 : decode cX2_readFrom 139 = .ok (.l2i, 1) := by decide +kernel
theorem dX2_readFrom_140 : decode cX2_readFrom 140 = .ok (.putfield 59, 3) := by decide +kernel
theorem dX2_readFrom_143 : decode cX2_readFrom 143 = .ok (.aload_n 0, 1) := by decide +kernel
theorem dX2_readFrom_144 : decode cX2_readFrom 144 = .ok (.aload_n 1, 1) := by decide +kernel
theorem dX2_readFrom_145 : decode cX2_readFrom 145 = .ok (.bipush 20, 2) := by decide +kernel
theorem dX2_readFrom_147 : decode cX2_readFrom 147 = .ok (.invokevirtual 30, 3) := by decide +kernel
theorem dX2_readFrom_150 : decode cX2_readFrom 150 = .ok (.putfield 62, 3) := by decide +kernel
theorem dX2_readFrom_153 : decode cX2_readFrom 153 = .ok (.aload_n 0, 1) := by decide +kernel
theorem dX2_readFrom_154 : decode cX2_readFrom 154 = .ok (.aload_n 1, 1) := by decide +kernel
theorem dX2_readFrom_155 : decode cX2_readFrom 155 = .ok (.bipush 21, 2) := by decide +kernel
theorem dX2_readFrom_157 : decode cX2_readFrom 157 = .ok (.iconst 2, 1) := by decide +kernel
theorem dX2_readFrom_158 : decode cX2_readFrom 158 = .ok (.invokevirtual 42, 3) := by decide +kernel
theorem dX2_readFrom_161 : decode cX2_readFrom 161 = .ok (.l2i, 1) := by decide +kernel
theorem dX2_readFrom_162 : decode cX2_readFrom 162 = .ok (.putfield 65, 3) := by decide +kernel
theorem dX2_readFrom_165 : decode cX2_readFrom 165 = .ok (.aload_n 0, 1) := by decide +kernel
theorem dX2_readFrom_166 : decode cX2_readFrom 166 = .ok (.getfield 16, 3) := by decide +kernel
theorem dX2_readFrom_169 : decode cX2_readFrom 169 = .ok (.iconst 0, 1) := by decide +kernel
theorem dX2_readFrom_170 : decode cX2_readFrom 170 = .ok (.invokevirtual 68, 3) := by decide +kernel
theorem dX2_readFrom_173 : decode cX2_readFrom 173 = .ok (.bipush 24, 2) := by decide +kernel
theorem dX2_readFrom_175 : decode cX2_readFrom 175 = .ok (.istore_n 3, 1) := by decide +kernel
theorem dX2_readFrom_176 : decode cX2_readFrom 176 = .ok (.iload_n 3, 1) := by decide +kernel
theorem dX2_readFrom_177 : decode cX2_readFrom 177 = .ok (.iload_n 2, 1) := by decide +kernel
theorem dX2_readFrom_178 : decode cX2_readFrom 178 = .ok (.if_icmp .ge 21, 3) := by decide +kernel
theorem dX2_readFrom_181 : decode cX2_readFrom 181 = .ok (.aload_n 0, 1) := by decide +kernel
theorem dX2_readFrom_182 : decode cX2_readFrom 182 = .ok (.getfield 16, 3) := by decide +kernel
theorem dX2_readFrom_185 : decode cX2_readFrom 185 = .ok (.aload_n 1, 1) := by decide +kernel
theorem dX2_readFrom_186 : decode cX2_readFrom 186 = .ok (.iload_n 3, 1) := by decide +kernel
theorem dX2_readFrom_187 : decode cX2_readFrom 187 = .ok (.invokevirtual 30, 3) := by decide +kernel
theorem dX2_readFrom_190 : decode cX2_readFrom 190 = .ok (.invokevirtual 71, 3) := by decide +kernel
theorem dX2_readFrom_193 : decode cX2_readFrom 193 = .ok (.iinc 3 1, 3) := by decide +kernel
theorem dX2_readFrom_196 : decode cX2_readFrom 196 = .ok (.goto (-20), 3) := by decide +kernel
theorem dX2_readFrom_199 : decode cX2_readFrom 199 = .ok (.iconst 1, 1) := by decide +kernel
theorem dX2_readFrom_200 : decode cX2_readFrom 200 = .ok (.ireturn, 1) := by decide +kernel
theorem dX2_writeTo_0 : decode cX2_writeTo 0 = .ok (.bipush 24, 2) := by decide +kernel
theorem dX2_writeTo_2 : decode cX2_writeTo 2 = .ok (.aload_n 0, 1) := by decide +kernel
theorem dX2_writeTo_3 : decode cX2_writeTo 3 = .ok (.getfield 16, 3) := by decide +kernel
theorem dX2_writeTo_6 : decode cX2_writeTo 6 = .ok (.invokevirtual 34, 3) := by decide +kernel
theorem dX2_writeTo_9 : decode cX2_writeTo 9 = .ok (.iadd, 1) := by decide +kernel
theorem dX2_writeTo_10 : decode cX2_writeTo 10 = .ok (.istore_n 2, 1) := by decide +kernel
theorem dX2_writeTo_11 : decode cX2_writeTo 11 = .ok (.aload_n 1, 1) := by decide +kernel
theorem dX2_writeTo_12 : decode cX2_writeTo 12 = .ok (.iconst 0, 1) := by decide +kernel
theorem dX2_writeTo_13 : decode cX2_writeTo 13 = .ok (.invokevirtual 68, 3) := by decide +kernel
theorem dX2_writeTo_16 : decode cX2_writeTo 16 = .ok (.aload_n 1, 1) := by decide +kernel
theorem dX2_writeTo_17 : decode cX2_writeTo 17 = .ok (.sipush 204, 3) := by decide +kernel
theorem dX2_writeTo_20 : decode cX2_writeTo 20 = .ok (.invokevirtual 71, 3) := by decide +kernel
theorem dX2_writeTo_23 : decode cX2_writeTo 23 = .ok (.aload_n 1, 1) := by decide +kernel
theorem dX2_writeTo_24 : decode cX2_writeTo 24 = .ok (.iconst 1, 1) := by decide +kernel
theorem dX2_writeTo_25 : decode cX2_writeTo 25 = .ok (.invokevirtual 71, 3) := by decide +kernel
theorem dX2_writeTo_28 : decode cX2_writeTo 28 = .ok (.aload_n 1, 1) := by decide +kernel
theorem dX2_writeTo_29 : decode cX2_writeTo 29 = .ok (.iload_n 2, 1) := by decide +kernel
theorem dX2_writeTo_30 : decode cX2_writeTo 30 = .ok (.invokevirtual 71, 3) := by decide +kernel
theorem dX2_writeTo_33 : decode cX2_writeTo 33 = .ok (.aload_n 1, 1) := by decide +kernel
theorem dX2_writeTo_34 : decode cX2_writeTo 34 = .ok (.aload_n 0, 1) := by decide +kernel
theorem dX2_writeTo_35 : decode cX2_writeTo 35 = .ok (.getfield 20, 3) := by decide +kernel
theorem dX2_writeTo_38 : decode cX2_writeTo 38 = .ok (.bipush 6, 2) := by decide +kernel
theorem dX2_writeTo_40 : decode cX2_writeTo 40 = .ok (.invokevirtual 74, 3) := by decide +kernel
theorem dX2_writeTo_43 : decode cX2_writeTo 43 = .ok (.aload_n 1, 1) := by decide +kernel
theorem dX2_writeTo_44 : decode cX2_writeTo 44 = .ok (.aload_n 0, 1) := by decide +kernel
theorem dX2_writeTo_45 : decode cX2_writeTo 45 = .ok (.getfield 46, 3) := by decide +kernel
theorem dX2_writeTo_48 : decode cX2_writeTo 48 = .ok (.bipush 6, 2) := by decide +kernel
theorem dX2_writeTo_50 : decode cX2_writeTo 50 = .ok (.invokevirtual 74, 3) := by decide +kernel
theorem dX2_writeTo_53 : decode cX2_writeTo 53 = .ok (.aload_n 1, 1) := by decide +kernel
theorem dX2_writeTo_54 : decode cX2_writeTo 54 = .ok (.aload_n 0, 1) := by decide +kernel
theorem dX2_writeTo_55 : decode cX2_writeTo 55 = .ok (.getfield 49, 3) := by decide +kernel
theorem dX2_writeTo_58 : decode cX2_writeTo 58 = .ok (.invokevirtual 71, 3) := by decide +kernel
theorem dX2_writeTo_61 : decode cX2_writeTo 61 = .ok (.aload_n 1, 1) := by decide +kernel
theorem dX2_writeTo_62 : decode cX2_writeTo 62 = .ok (.aload_n 0, 1) := by decide +kernel
theorem dX2_writeTo_63 : decode cX2_writeTo 63 = .ok (.getfield 53, 3) := by decide +kernel
theorem dX2_writeTo_66 : decode cX2_writeTo 66 = .ok (.invokevirtual 71, 3) := by decide +kernel
theorem dX2_writeTo_69 : decode cX2_writeTo 69 = .ok (.aload_n 1, 1) := by decide +kernel
theorem dX2_writeTo_70 : decode cX2_writeTo 70 = .ok (.aload_n 0, 1) := by decide +kernel
theorem dX2_writeTo_71 : decode cX2_writeTo 71 = .ok (.getfield 56, 3) := by decide +kernel
theorem dX2_writeTo_74 : decode cX2_writeTo 74 = .ok (.invokevirtual 71, 3) := by decide +kernel
theorem dX2_writeTo_77 : decode cX2_writeTo 77 = .ok (.aload_n 1, 1) := by decide +kernel
theorem dX2_writeTo_78 : decode cX2_writeTo 78 = .ok (.aload_n 0, 1) := by decide +kernel
theorem dX2_writeTo_79 : decode cX2_writeTo 79 = .ok (.getfield 59, 3) := by decide +kernel
theorem dX2_writeTo_82 : decode cX2_writeTo 82 = .ok (.i2l, 1) := by decide +kernel
theorem dX2_writeTo_83 : decode cX2_writeTo 83 = .ok (.iconst 2, 1) := by decide +kernel
theorem dX2_writeTo_84 : decode cX2_writeTo 84 = .ok (.invokevirtual 74, 3) := by decide +kernel
theorem dX2_writeTo_87 : decode cX2_writeTo 87 = .ok (.aload_n 1, 1) := by decide +kernel
theorem dX2_writeTo_88 : decode cX2_writeTo 88 = .ok (.aload_n 0, 1) := by decide +kernel
theorem dX2_writeTo_89 : decode cX2_writeTo 89 = .ok (.getfield 62, 3) := by decide +kernel
theorem dX2_writeTo_92 : decode cX2_writeTo 92 = .ok (.invokevirtual 71, 3) := by decide +kernel
theorem dX2_writeTo_95 : decode cX2_writeTo 95 = .ok (.aload_n 1, 1) := by decide +kernel
theorem dX2_writeTo_96 : decode cX2_writeTo 96 = .ok (.aload_n 0, 1) := by decide +kernel
theorem dX2_writeTo_97 : decode cX2_writeTo 97 = .ok (.getfield 65, 3) := by decide +kernel
theorem dX2_writeTo_100 : decode cX2_writeTo 100 = .ok (.i2l, 1) := by decide +kernel
theorem dX2_writeTo_101 : decode cX2_writeTo 101 = .ok (.iconst 2, 1) := by decide +kernel
theorem dX2_writeTo_102 : decode cX2_writeTo 102 = .ok (.invokevirtual 74, 3) := by decide +kernel
theorem dX2_writeTo_105 : decode cX2_writeTo 105 = .ok (.aload_n 1, 1) := by decide +kernel
theorem dX2_writeTo_106 : decode cX2_writeTo 106 = .ok (.aload_n 0, 1) := by decide +kernel
theorem dX2_writeTo_107 : decode cX2_writeTo 107 = .ok (.getfield 16, 3) := by decide +kernel
theorem dX2_writeTo_110 : decode cX2_writeTo 110 = .ok (.invokevirtual 34, 3) := by decide +kernel
theorem dX2_writeTo_113 : decode cX2_writeTo 113 = .ok (.invokevirtual 71, 3) := by decide +kernel
theorem dX2_writeTo_116 : decode cX2_writeTo 116 = .ok (.iconst 0, 1) := by decide +kernel
theorem dX2_writeTo_117 : decode cX2_writeTo 117 = .ok (.istore_n 3, 1) := by decide +kernel
theorem dX2_writeTo_118 : decode cX2_writeTo 118 = .ok (.iload_n 3, 1) := by decide +kernel
theorem dX2_writeTo_119 : decode cX2_writeTo 119 = .ok (.aload_n 0, 1) := by decide +kernel
theorem dX2_writeTo_120 : decode cX2_writeTo 120 = .ok (.getfield 16, 3) := by decide +kernel
theorem dX2_writeTo_123 : decode cX2_writeTo 123 = .ok (.invokevirtual 34, 3) := by decide +kernel
theorem dX2_writeTo_126 : decode cX2_writeTo 126 = .ok (.if_icmp .ge 21, 3) := by decide +kernel
theorem dX2_writeTo_129 : decode cX2_writeTo 129 = .ok (.aload_n 1, 1) := by decide +kernel
theorem dX2_writeTo_130 : decode cX2_writeTo 130 = .ok (.aload_n 0, 1) := by decide +kernel
theorem dX2_writeTo_131 : decode cX2_writeTo 131 = .ok (.getfield 16, 3) := by decide +kernel
theorem dX2_writeTo_134 : decode cX2_writeTo 134 = .ok (.iload_n 3, 1) := by decide +kernel
theorem dX2_writeTo_135 : decode cX2_writeTo 135 = .ok (.invokevirtual 30, 3) := by decide +kernel
theorem dX2_writeTo_138 : decode cX2_writeTo 138 = .ok (.invokevirtual 71, 3) := by decide +kernel
theorem dX2_writeTo_141 : decode cX2_writeTo 141 = .ok (.iinc 3 1, 3) := by decide +kernel
theorem dX2_writeTo_144 : decode cX2_writeTo 144 = .ok (.goto (-26), 3) := by decide +kernel
theorem dX2_writeTo_147 : decode cX2_writeTo 147 = .ok (.aload_n 1, 1) := by decide +kernel
theorem dX2_writeTo_148 : decode cX2_writeTo 148 = .ok (.aload_n 1, 1) := by decide +kernel
theorem dX2_writeTo_149 : decode cX2_writeTo 149 = .ok (.iconst 0, 1) := by decide +kernel
theorem dX2_writeTo_150 : decode cX2_writeTo 150 = .ok (.iload_n 2, 1) := by decide +kernel
theorem dX2_writeTo_151 : decode cX2_writeTo 151 = .ok (.invokevirtual 38, 3) := by decide +kernel
theorem dX2_writeTo_154 : decode cX2_writeTo 154 = .ok (.i2l, 1) := by decide +kernel
theorem dX2_writeTo_155 : decode cX2_writeTo 155 = .ok (.iconst 2, 1) := by decide +kernel
theorem dX2_writeTo_156 : decode cX2_writeTo 156 = .ok (.invokevirtual 74, 3) := by decide +kernel
theorem dX2_writeTo_159 : decode cX2_writeTo 159 = .ok (.return_, 1) := by decide +kernel
theorem dX2_beginReply_0 : decode cX2_beginReply 0 = .ok (.aload_n 0, 1) := by decide +kernel
theorem dX2_beginReply_1 : decode cX2_beginReply 1 = .ok (.aload_n 1, 1) := by decide +kernel
theorem dX2_beginReply_2 : decode cX2_beginReply 2 = .ok (.getfield 46, 3) := by decide +kernel
theorem dX2_beginReply_5 : decode cX2_beginReply 5 = .ok (.putfield 20, 3) := by decide +kernel
theorem dX2_beginReply_8 : decode cX2_beginReply 8 = .ok (.aload_n 0, 1) := by decide +kernel
theorem dX2_beginReply_9 : decode cX2_beginReply 9 = .ok (.lload_n 2, 1) := by decide +kernel
theorem dX2_beginReply_10 : decode cX2_beginReply 10 = .ok (.putfield 46, 3) := by decide +kernel
theorem dX2_beginReply_13 : decode cX2_beginReply 13 = .ok (.aload_n 0, 1) := by decide +kernel
theorem dX2_beginReply_14 : decode cX2_beginReply 14 = .ok (.aload_n 1, 1) := by decide +kernel
theorem dX2_beginReply_15 : decode cX2_beginReply 15 = .ok (.getfield 49, 3) := by decide +kernel
theorem dX2_beginReply_18 : decode cX2_beginReply 18 = .ok (.putfield 49, 3) := by decide +kernel
theorem dX2_beginReply_21 : decode cX2_beginReply 21 = .ok (.aload_n 0, 1) := by decide +kernel
theorem dX2_beginReply_22 : decode cX2_beginReply 22 = .ok (.iconst 0, 1) := by decide +kernel
theorem dX2_beginReply_23 : decode cX2_beginReply 23 = .ok (.putfield 53, 3) := by decide +kernel
theorem dX2_beginReply_26 : decode cX2_beginReply 26 = .ok (.aload_n 0, 1) := by decide +kernel
theorem dX2_beginReply_27 : decode cX2_beginReply 27 = .ok (.aload_n 1, 1) := by decide +kernel
theorem dX2_beginReply_28 : decode cX2_beginReply 28 = .ok (.getfield 59, 3) := by decide +kernel
theorem dX2_beginReply_31 : decode cX2_beginReply 31 = .ok (.putfield 59, 3) := by decide +kernel
theorem dX2_beginReply_34 : decode cX2_beginReply 34 = .ok (.aload_n 0, 1) := by decide +kernel
theorem dX2_beginReply_35 : decode cX2_beginReply 35 = .ok (.aload_n 1, 1) := by decide +kernel
theorem dX2_beginReply_36 : decode cX2_beginReply 36 = .ok (.getfield 62, 3) := by decide +kernel
theorem dX2_beginReply_39 : decode cX2_beginReply 39 = .ok (.iconst 1, 1) := by decide +kernel
theorem dX2_beginReply_40 : decode cX2_beginReply 40 = .ok (.iadd, 1) := by decide +kernel
theorem dX2_beginReply_41 : decode cX2_beginReply 41 = .ok (.putfield 62, 3) := by decide +kernel
theorem dX2_beginReply_44 : decode cX2_beginReply 44 = .ok (.aload_n 0, 1) := by decide +kernel
theorem dX2_beginReply_45 : decode cX2_beginReply 45 = .ok (.aload_n 1, 1) := by decide +kernel
theorem dX2_beginReply_46 : decode cX2_beginReply 46 = .ok (.getfield 65, 3) := by decide +kernel
theorem dX2_beginReply_49 : decode cX2_beginReply 49 = .ok (.putfield 65, 3) := by decide +kernel
theorem dX2_beginReply_52 : decode cX2_beginReply 52 = .ok (.aload_n 0, 1) := by decide +kernel
theorem dX2_beginReply_53 : decode cX2_beginReply 53 = .ok (.getfield 16, 3) := by decide +kernel
theorem dX2_beginReply_56 : decode cX2_beginReply 56 = .ok (.iconst 0, 1) := by decide +kernel
theorem dX2_beginReply_57 : decode cX2_beginReply 57 = .ok (.invokevirtual 68, 3) := by decide +kernel
theorem dX2_beginReply_60 : decode cX2_beginReply 60 = .ok (.return_, 1) := by decide +kernel
theorem dX2_refuse_0 : decode cX2_refuse 0 = .ok (.aload_n 0, 1) := by decide +kernel
theorem dX2_refuse_1 : decode cX2_refuse 1 = .ok (.iconst 2, 1) := by decide +kernel
theorem dX2_refuse_2 : decode cX2_refuse 2 = .ok (.putfield 53, 3) := by decide +kernel
theorem dX2_refuse_5 : decode cX2_refuse 5 = .ok (.aload_n 0, 1) := by decide +kernel
theorem dX2_refuse_6 : decode cX2_refuse 6 = .ok (.getfield 16, 3) := by decide +kernel
theorem dX2_refuse_9 : decode cX2_refuse 9 = .ok (.iload_n 1, 1) := by decide +kernel
theorem dX2_refuse_10 : decode cX2_refuse 10 = .ok (.i2l, 1) := by decide +kernel
theorem dX2_refuse_11 : decode cX2_refuse 11 = .ok (.iconst 2, 1) := by decide +kernel
theorem dX2_refuse_12 : decode cX2_refuse 12 = .ok (.invokevirtual 74, 3) := by decide +kernel
theorem dX2_refuse_15 : decode cX2_refuse 15 = .ok (.return_, 1) := by decide +kernel
theorem dX3_init_0 : decode cX3_init 0 = .ok (.aload_n 0, 1) := by decide +kernel
theorem dX3_init_1 : decode cX3_init 1 = .ok (.invokespecial 1, 3) := by decide +kernel
theorem dX3_init_4 : decode cX3_init 4 = .ok (.aload_n 0, 1) := by decide +kernel
theorem dX3_init_5 : decode cX3_init 5 = .ok (.iload_n 1, 1) := by decide +kernel
theorem dX3_init_6 : decode cX3_init 6 = .ok (.ifCond .ge 7, 3) := by decide +kernel
theorem dX3_init_9 : decode cX3_init 9 = .ok (.iconst 0, 1) := by decide +kernel
theorem dX3_init_10 : decode cX3_init 10 = .ok (.goto 4, 3) := by decide +kernel
theorem dX3_init_13 : decode cX3_init 13 = .ok (.iload_n 1, 1) := by decide +kernel
theorem dX3_init_14 : decode cX3_init 14 = .ok (.newarray .int, 2) := by decide +kernel
theorem dX3_init_16 : decode cX3_init 16 = .ok (.putfield 7, 3) := by decide +kernel
theorem dX3_init_19 : decode cX3_init 19 = .ok (.return_, 1) := by decide +kernel
theorem dX3_size_0 : decode cX3_size 0 = .ok (.aload_n 0, 1) := by decide +kernel
theorem dX3_size_1 : decode cX3_size 1 = .ok (.getfield 13, 3) := by decide +kernel
theorem dX3_size_4 : decode cX3_size 4 = .ok (.ireturn, 1) := by decide +kernel
theorem dX3_at_0 : decode cX3_at 0 = .ok (.iload_n 1, 1) := by decide +kernel
theorem dX3_at_1 : decode cX3_at 1 = .ok (.ifCond .lt 20, 3) := by decide +kernel
theorem dX3_at_4 : decode cX3_at 4 = .ok (.iload_n 1, 1) := by decide +kernel
theorem dX3_at_5 : decode cX3_at 5 = .ok (.aload_n 0, 1) := by decide +kernel
theorem dX3_at_6 : decode cX3_at 6 = .ok (.getfield 13, 3) := by decide +kernel
theorem dX3_at_9 : decode cX3_at 9 = .ok (.if_icmp .ge 12, 3) := by decide +kernel
theorem dX3_at_12 : decode cX3_at 12 = .ok (.aload_n 0, 1) := by decide +kernel
theorem dX3_at_13 : decode cX3_at 13 = .ok (.getfield 7, 3) := by decide +kernel
theorem dX3_at_16 : decode cX3_at 16 = .ok (.iload_n 1, 1) := by decide +kernel
theorem dX3_at_17 : decode cX3_at 17 = .ok (.iaload, 1) := by decide +kernel
theorem dX3_at_18 : decode cX3_at 18 = .ok (.goto 4, 3) := by decide +kernel
theorem dX3_at_21 : decode cX3_at 21 = .ok (.iconst 0, 1) := by decide +kernel
theorem dX3_at_22 : decode cX3_at 22 = .ok (.ireturn, 1) := by decide +kernel
theorem dX3_number_0 : decode cX3_number 0 = .ok (.lconst 0, 1) := by decide +kernel
theorem dX3_number_1 : decode cX3_number 1 = .ok (.lstore_n 3, 1) := by decide +kernel
theorem dX3_number_2 : decode cX3_number 2 = .ok (.iload_n 1, 1) := by decide +kernel
theorem dX3_number_3 : decode cX3_number 3 = .ok (.istore 5, 2) := by decide +kernel
theorem dX3_number_5 : decode cX3_number 5 = .ok (.iload 5, 2) := by decide +kernel
theorem dX3_number_7 : decode cX3_number 7 = .ok (.iload_n 1, 1) := by decide +kernel
theorem dX3_number_8 : decode cX3_number 8 = .ok (.iload_n 2, 1) := by decide +kernel
theorem dX3_number_9 : decode cX3_number 9 = .ok (.iadd, 1) := by decide +kernel
theorem dX3_number_10 : decode cX3_number 10 = .ok (.if_icmp .ge 22, 3) := by decide +kernel
theorem dX3_number_13 : decode cX3_number 13 = .ok (.lload_n 3, 1) := by decide +kernel
theorem dX3_number_14 : decode cX3_number 14 = .ok (.bipush 8, 2) := by decide +kernel
theorem dX3_number_16 : decode cX3_number 16 = .ok (.lshl, 1) := by decide +kernel
theorem dX3_number_17 : decode cX3_number 17 = .ok (.aload_n 0, 1) := by decide +kernel
theorem dX3_number_18 : decode cX3_number 18 = .ok (.iload 5, 2) := by decide +kernel
theorem dX3_number_20 : decode cX3_number 20 = .ok (.invokevirtual 17, 3) := by decide +kernel
theorem dX3_number_23 : decode cX3_number 23 = .ok (.i2l, 1) := by decide +kernel
theorem dX3_number_24 : decode cX3_number 24 = .ok (.lor, 1) := by decide +kernel
theorem dX3_number_25 : decode cX3_number 25 = .ok (.lstore_n 3, 1) := by decide +kernel
theorem dX3_number_26 : decode cX3_number 26 = .ok (.iinc 5 1, 3) := by decide +kernel
theorem dX3_number_29 : decode cX3_number 29 = .ok (.goto (-24), 3) := by decide +kernel
theorem dX3_number_32 : decode cX3_number 32 = .ok (.lload_n 3, 1) := by decide +kernel
theorem dX3_number_33 : decode cX3_number 33 = .ok (.lreturn, 1) := by decide +kernel
theorem dX3_sum_0 : decode cX3_sum 0 = .ok (.iconst 0, 1) := by decide +kernel
theorem dX3_sum_1 : decode cX3_sum 1 = .ok (.istore_n 3, 1) := by decide +kernel
theorem dX3_sum_2 : decode cX3_sum 2 = .ok (.iload_n 1, 1) := by decide +kernel
theorem dX3_sum_3 : decode cX3_sum 3 = .ok (.istore 4, 2) := by decide +kernel
theorem dX3_sum_5 : decode cX3_sum 5 = .ok (.iload 4, 2) := by decide +kernel
theorem dX3_sum_7 : decode cX3_sum 7 = .ok (.ifCond .lt 34, 3) := by decide +kernel
theorem dX3_sum_10 : decode cX3_sum 10 = .ok (.iload 4, 2) := by decide +kernel
theorem dX3_sum_12 : decode cX3_sum 12 = .ok (.iload_n 2, 1) := by decide +kernel
theorem dX3_sum_13 : decode cX3_sum 13 = .ok (.if_icmp .ge 28, 3) := by decide +kernel
theorem dX3_sum_16 : decode cX3_sum 16 = .ok (.iload 4, 2) := by decide +kernel
theorem dX3_sum_18 : decode cX3_sum 18 = .ok (.aload_n 0, 1) := by decide +kernel
theorem dX3_sum_19 : decode cX3_sum 19 = .ok (.getfield 13, 3) := by decide +kernel
theorem dX3_sum_22 : decode cX3_sum 22 = .ok (.if_icmp .ge 19, 3) := by decide +kernel
theorem dX3_sum_25 : decode cX3_sum 25 = .ok (.iload_n 3, 1) := by decide +kernel
theorem dX3_sum_26 : decode cX3_sum 26 = .ok (.aload_n 0, 1) := by decide +kernel
theorem dX3_sum_27 : decode cX3_sum 27 = .ok (.getfield 7, 3) := by decide +kernel
theorem dX3_sum_30 : decode cX3_sum 30 = .ok (.iload 4, 2) := by decide +kernel
theorem dX3_sum_32 : decode cX3_sum 32 = .ok (.iaload, 1) := by decide +kernel
theorem dX3_sum_33 : decode cX3_sum 33 = .ok (.iadd, 1) := by decide +kernel
theorem dX3_sum_34 : decode cX3_sum 34 = .ok (.istore_n 3, 1) := by decide +kernel
theorem dX3_sum_35 : decode cX3_sum 35 = .ok (.iinc 4 1, 3) := by decide +kernel
theorem dX3_sum_38 : decode cX3_sum 38 = .ok (.goto (-33), 3) := by decide +kernel
theorem dX3_sum_41 : decode cX3_sum 41 = .ok (.iload_n 3, 1) := by decide +kernel
theorem dX3_sum_42 : decode cX3_sum 42 = .ok (.ldc 21, 2) := by decide +kernel
theorem dX3_sum_44 : decode cX3_sum 44 = .ok (.iand, 1) := by decide +kernel
theorem dX3_sum_45 : decode cX3_sum 45 = .ok (.ireturn, 1) := by decide +kernel
theorem dX3_cut_0 : decode cX3_cut 0 = .ok (.iload_n 1, 1) := by decide +kernel
theorem dX3_cut_1 : decode cX3_cut 1 = .ok (.ifCond .lt 16, 3) := by decide +kernel
theorem dX3_cut_4 : decode cX3_cut 4 = .ok (.iload_n 1, 1) := by decide +kernel
theorem dX3_cut_5 : decode cX3_cut 5 = .ok (.aload_n 0, 1) := by decide +kernel
theorem dX3_cut_6 : decode cX3_cut 6 = .ok (.getfield 13, 3) := by decide +kernel
theorem dX3_cut_9 : decode cX3_cut 9 = .ok (.if_icmp .ge 8, 3) := by decide +kernel
theorem dX3_cut_12 : decode cX3_cut 12 = .ok (.aload_n 0, 1) := by decide +kernel
theorem dX3_cut_13 : decode cX3_cut 13 = .ok (.iload_n 1, 1) := by decide +kernel
theorem dX3_cut_14 : decode cX3_cut 14 = .ok (.putfield 13, 3) := by decide +kernel
theorem dX3_cut_17 : decode cX3_cut 17 = .ok (.return_, 1) := by decide +kernel
theorem dX3_put_0 : decode cX3_put 0 = .ok (.aload_n 0, 1) := by decide +kernel
theorem dX3_put_1 : decode cX3_put 1 = .ok (.getfield 13, 3) := by decide +kernel
theorem dX3_put_4 : decode cX3_put 4 = .ok (.aload_n 0, 1) := by decide +kernel
theorem dX3_put_5 : decode cX3_put 5 = .ok (.getfield 7, 3) := by decide +kernel
theorem dX3_put_8 : decode cX3_put 8 = .ok (.arraylength, 1) := by decide +kernel
theorem dX3_put_9 : decode cX3_put 9 = .ok (.if_icmp .ge 27, 3) := by decide +kernel
theorem dX3_put_12 : decode cX3_put 12 = .ok (.aload_n 0, 1) := by decide +kernel
theorem dX3_put_13 : decode cX3_put 13 = .ok (.getfield 7, 3) := by decide +kernel
theorem dX3_put_16 : decode cX3_put 16 = .ok (.aload_n 0, 1) := by decide +kernel
theorem dX3_put_17 : decode cX3_put 17 = .ok (.getfield 13, 3) := by decide +kernel
theorem dX3_put_20 : decode cX3_put 20 = .ok (.iload_n 1, 1) := by decide +kernel
theorem dX3_put_21 : decode cX3_put 21 = .ok (.sipush 255, 3) := by decide +kernel
theorem dX3_put_24 : decode cX3_put 24 = .ok (.iand, 1) := by decide +kernel
theorem dX3_put_25 : decode cX3_put 25 = .ok (.iastore, 1) := by decide +kernel
theorem dX3_put_26 : decode cX3_put 26 = .ok (.aload_n 0, 1) := by decide +kernel
theorem dX3_put_27 : decode cX3_put 27 = .ok (.dup, 1) := by decide +kernel
theorem dX3_put_28 : decode cX3_put 28 = .ok (.getfield 13, 3) := by decide +kernel
theorem dX3_put_31 : decode cX3_put 31 = .ok (.iconst 1, 1) := by decide +kernel
theorem dX3_put_32 : decode cX3_put 32 = .ok (.iadd, 1) := by decide +kernel
theorem dX3_put_33 : decode cX3_put 33 = .ok (.putfield 13, 3) := by decide +kernel
theorem dX3_put_36 : decode cX3_put 36 = .ok (.return_, 1) := by decide +kernel
theorem dX3_putNumber_0 : decode cX3_putNumber 0 = .ok (.iload_n 3, 1) := by decide +kernel
theorem dX3_putNumber_1 : decode cX3_putNumber 1 = .ok (.iconst 1, 1) := by decide +kernel
theorem dX3_putNumber_2 : decode cX3_putNumber 2 = .ok (.isub, 1) := by decide +kernel
theorem dX3_putNumber_3 : decode cX3_putNumber 3 = .ok (.istore 4, 2) := by decide +kernel
theorem dX3_putNumber_5 : decode cX3_putNumber 5 = .ok (.iload 4, 2) := by decide +kernel
theorem dX3_putNumber_7 : decode cX3_putNumber 7 = .ok (.ifCond .lt 52, 3) := by decide +kernel
theorem dX3_putNumber_10 : decode cX3_putNumber 10 = .ok (.aload_n 0, 1) := by decide +kernel
theorem dX3_putNumber_11 : decode cX3_putNumber 11 = .ok (.getfield 13, 3) := by decide +kernel
theorem dX3_putNumber_14 : decode cX3_putNumber 14 = .ok (.aload_n 0, 1) := by decide +kernel
theorem dX3_putNumber_15 : decode cX3_putNumber 15 = .ok (.getfield 7, 3) := by decide +kernel
theorem dX3_putNumber_18 : decode cX3_putNumber 18 = .ok (.arraylength, 1) := by decide +kernel
theorem dX3_putNumber_19 : decode cX3_putNumber 19 = .ok (.if_icmp .ge 40, 3) := by decide +kernel
theorem dX3_putNumber_22 : decode cX3_putNumber 22 = .ok (.aload_n 0, 1) := by decide +kernel
theorem dX3_putNumber_23 : decode cX3_putNumber 23 = .ok (.getfield 7, 3) := by decide +kernel
theorem dX3_putNumber_26 : decode cX3_putNumber 26 = .ok (.aload_n 0, 1) := by decide +kernel
theorem dX3_putNumber_27 : decode cX3_putNumber 27 = .ok (.getfield 13, 3) := by decide +kernel
theorem dX3_putNumber_30 : decode cX3_putNumber 30 = .ok (.lload_n 1, 1) := by decide +kernel
theorem dX3_putNumber_31 : decode cX3_putNumber 31 = .ok (.bipush 8, 2) := by decide +kernel
theorem dX3_putNumber_33 : decode cX3_putNumber 33 = .ok (.iload 4, 2) := by decide +kernel
theorem dX3_putNumber_35 : decode cX3_putNumber 35 = .ok (.imul, 1) := by decide +kernel
theorem dX3_putNumber_36 : decode cX3_putNumber 36 = .ok (.lushr, 1) := by decide +kernel
theorem dX3_putNumber_37 : decode cX3_putNumber 37 = .ok (.l2i, 1) := by decide +kernel
theorem dX3_putNumber_38 : decode cX3_putNumber 38 = .ok (.sipush 255, 3) := by decide +kernel
theorem dX3_putNumber_41 : decode cX3_putNumber 41 = .ok (.iand, 1) := by decide +kernel
theorem dX3_putNumber_42 : decode cX3_putNumber 42 = .ok (.iastore, 1) := by decide +kernel
theorem dX3_putNumber_43 : decode cX3_putNumber 43 = .ok (.aload_n 0, 1) := by decide +kernel
theorem dX3_putNumber_44 : decode cX3_putNumber 44 = .ok (.dup, 1) := by decide +kernel
theorem dX3_putNumber_45 : decode cX3_putNumber 45 = .ok (.getfield 13, 3) := by decide +kernel
theorem dX3_putNumber_48 : decode cX3_putNumber 48 = .ok (.iconst 1, 1) := by decide +kernel
theorem dX3_putNumber_49 : decode cX3_putNumber 49 = .ok (.iadd, 1) := by decide +kernel
theorem dX3_putNumber_50 : decode cX3_putNumber 50 = .ok (.putfield 13, 3) := by decide +kernel
theorem dX3_putNumber_53 : decode cX3_putNumber 53 = .ok (.iinc 4 (-1), 3) := by decide +kernel
theorem dX3_putNumber_56 : decode cX3_putNumber 56 = .ok (.goto (-51), 3) := by decide +kernel
theorem dX3_putNumber_59 : decode cX3_putNumber 59 = .ok (.return_, 1) := by decide +kernel
theorem dX3_copyFrom_0 : decode cX3_copyFrom 0 = .ok (.aload_n 0, 1) := by decide +kernel
theorem dX3_copyFrom_1 : decode cX3_copyFrom 1 = .ok (.iconst 0, 1) := by decide +kernel
theorem dX3_copyFrom_2 : decode cX3_copyFrom 2 = .ok (.putfield 13, 3) := by decide +kernel
theorem dX3_copyFrom_5 : decode cX3_copyFrom 5 = .ok (.iconst 0, 1) := by decide +kernel
theorem dX3_copyFrom_6 : decode cX3_copyFrom 6 = .ok (.istore_n 2, 1) := by decide +kernel
theorem dX3_copyFrom_7 : decode cX3_copyFrom 7 = .ok (.iload_n 2, 1) := by decide +kernel
theorem dX3_copyFrom_8 : decode cX3_copyFrom 8 = .ok (.aload_n 1, 1) := by decide +kernel
theorem dX3_copyFrom_9 : decode cX3_copyFrom 9 = .ok (.getfield 13, 3) := by decide +kernel
theorem dX3_copyFrom_12 : decode cX3_copyFrom 12 = .ok (.if_icmp .ge 40, 3) := by decide +kernel
theorem dX3_copyFrom_15 : decode cX3_copyFrom 15 = .ok (.iload_n 2, 1) := by decide +kernel
theorem dX3_copyFrom_16 : decode cX3_copyFrom 16 = .ok (.aload_n 0, 1) := by decide +kernel
theorem dX3_copyFrom_17 : decode cX3_copyFrom 17 = .ok (.getfield 7, 3) := by decide +kernel
theorem dX3_copyFrom_20 : decode cX3_copyFrom 20 = .ok (.arraylength, 1) := by decide +kernel
theorem dX3_copyFrom_21 : decode cX3_copyFrom 21 = .ok (.if_icmp .ge 31, 3) := by decide +kernel
theorem dX3_copyFrom_24 : decode cX3_copyFrom 24 = .ok (.aload_n 0, 1) := by decide +kernel
theorem dX3_copyFrom_25 : decode cX3_copyFrom 25 = .ok (.getfield 7, 3) := by decide +kernel
theorem dX3_copyFrom_28 : decode cX3_copyFrom 28 = .ok (.iload_n 2, 1) := by decide +kernel
theorem dX3_copyFrom_29 : decode cX3_copyFrom 29 = .ok (.aload_n 1, 1) := by decide +kernel
theorem dX3_copyFrom_30 : decode cX3_copyFrom 30 = .ok (.getfield 7, 3) := by decide +kernel
theorem dX3_copyFrom_33 : decode cX3_copyFrom 33 = .ok (.iload_n 2, 1) := by decide +kernel
theorem dX3_copyFrom_34 : decode cX3_copyFrom 34 = .ok (.iaload, 1) := by decide +kernel
theorem dX3_copyFrom_35 : decode cX3_copyFrom 35 = .ok (.iastore, 1) := by decide +kernel
theorem dX3_copyFrom_36 : decode cX3_copyFrom 36 = .ok (.aload_n 0, 1) := by decide +kernel
theorem dX3_copyFrom_37 : decode cX3_copyFrom 37 = .ok (.dup, 1) := by decide +kernel
theorem dX3_copyFrom_38 : decode cX3_copyFrom 38 = .ok (.getfield 13, 3) := by decide +kernel
theorem dX3_copyFrom_41 : decode cX3_copyFrom 41 = .ok (.iconst 1, 1) := by decide +kernel
theorem dX3_copyFrom_42 : decode cX3_copyFrom 42 = .ok (.iadd, 1) := by decide +kernel
theorem dX3_copyFrom_43 : decode cX3_copyFrom 43 = .ok (.putfield 13, 3) := by decide +kernel
theorem dX3_copyFrom_46 : decode cX3_copyFrom 46 = .ok (.iinc 2 1, 3) := by decide +kernel
theorem dX3_copyFrom_49 : decode cX3_copyFrom 49 = .ok (.goto (-42), 3) := by decide +kernel
theorem dX3_copyFrom_52 : decode cX3_copyFrom 52 = .ok (.return_, 1) := by decide +kernel
theorem dX3_join_0 : decode cX3_join 0 = .ok (.iconst 0, 1) := by decide +kernel
theorem dX3_join_1 : decode cX3_join 1 = .ok (.istore_n 2, 1) := by decide +kernel
theorem dX3_join_2 : decode cX3_join 2 = .ok (.iload_n 2, 1) := by decide +kernel
theorem dX3_join_3 : decode cX3_join 3 = .ok (.aload_n 1, 1) := by decide +kernel
theorem dX3_join_4 : decode cX3_join 4 = .ok (.getfield 13, 3) := by decide +kernel
theorem dX3_join_7 : decode cX3_join 7 = .ok (.if_icmp .ge 66, 3) := by decide +kernel
theorem dX3_join_10 : decode cX3_join 10 = .ok (.iload_n 2, 1) := by decide +kernel
theorem dX3_join_11 : decode cX3_join 11 = .ok (.aload_n 0, 1) := by decide +kernel
theorem dX3_join_12 : decode cX3_join 12 = .ok (.getfield 7, 3) := by decide +kernel
theorem dX3_join_15 : decode cX3_join 15 = .ok (.arraylength, 1) := by decide +kernel
theorem dX3_join_16 : decode cX3_join 16 = .ok (.if_icmp .ge 57, 3) := by decide +kernel
theorem dX3_join_19 : decode cX3_join 19 = .ok (.iload_n 2, 1) := by decide +kernel
theorem dX3_join_20 : decode cX3_join 20 = .ok (.aload_n 0, 1) := by decide +kernel
theorem dX3_join_21 : decode cX3_join 21 = .ok (.getfield 13, 3) := by decide +kernel
theorem dX3_join_24 : decode cX3_join 24 = .ok (.if_icmp .ge 21, 3) := by decide +kernel
theorem dX3_join_27 : decode cX3_join 27 = .ok (.aload_n 0, 1) := by decide +kernel
theorem dX3_join_28 : decode cX3_join 28 = .ok (.getfield 7, 3) := by decide +kernel
theorem dX3_join_31 : decode cX3_join 31 = .ok (.iload_n 2, 1) := by decide +kernel
theorem dX3_join_32 : decode cX3_join 32 = .ok (.dup2, 1) := by decide +kernel
theorem dX3_join_33 : decode cX3_join 33 = .ok (.iaload, 1) := by decide +kernel
theorem dX3_join_34 : decode cX3_join 34 = .ok (.aload_n 1, 1) := by decide +kernel
theorem dX3_join_35 : decode cX3_join 35 = .ok (.getfield 7, 3) := by decide +kernel
theorem dX3_join_38 : decode cX3_join 38 = .ok (.iload_n 2, 1) := by decide +kernel
theorem dX3_join_39 : decode cX3_join 39 = .ok (.iaload, 1) := by decide +kernel
theorem dX3_join_40 : decode cX3_join 40 = .ok (.ior, 1) := by decide +kernel
theorem dX3_join_41 : decode cX3_join 41 = .ok (.iastore, 1) := by decide +kernel
theorem dX3_join_42 : decode cX3_join 42 = .ok (.goto 25, 3) := by decide +kernel
theorem dX3_join_45 : decode cX3_join 45 = .ok (.aload_n 0, 1) := by decide +kernel
theorem dX3_join_46 : decode cX3_join 46 = .ok (.getfield 7, 3) := by decide +kernel
theorem dX3_join_49 : decode cX3_join 49 = .ok (.iload_n 2, 1) := by decide +kernel
theorem dX3_join_50 : decode cX3_join 50 = .ok (.aload_n 1, 1) := by decide +kernel
theorem dX3_join_51 : decode cX3_join 51 = .ok (.getfield 7, 3) := by decide +kernel
theorem dX3_join_54 : decode cX3_join 54 = .ok (.iload_n 2, 1) := by decide +kernel
theorem dX3_join_55 : decode cX3_join 55 = .ok (.iaload, 1) := by decide +kernel
theorem dX3_join_56 : decode cX3_join 56 = .ok (.iastore, 1) := by decide +kernel
theorem dX3_join_57 : decode cX3_join 57 = .ok (.aload_n 0, 1) := by decide +kernel
theorem dX3_join_58 : decode cX3_join 58 = .ok (.dup, 1) := by decide +kernel
theorem dX3_join_59 : decode cX3_join 59 = .ok (.getfield 13, 3) := by decide +kernel
theorem dX3_join_62 : decode cX3_join 62 = .ok (.iconst 1, 1) := by decide +kernel
theorem dX3_join_63 : decode cX3_join 63 = .ok (.iadd, 1) := by decide +kernel
theorem dX3_join_64 : decode cX3_join 64 = .ok (.putfield 13, 3) := by decide +kernel
theorem dX3_join_67 : decode cX3_join 67 = .ok (.iinc 2 1, 3) := by decide +kernel
theorem dX3_join_70 : decode cX3_join 70 = .ok (.goto (-68), 3) := by decide +kernel
theorem dX3_join_73 : decode cX3_join 73 = .ok (.return_, 1) := by decide +kernel
theorem dX3_flip_0 : decode cX3_flip 0 = .ok (.iload_n 1, 1) := by decide +kernel
theorem dX3_flip_1 : decode cX3_flip 1 = .ok (.ifCond .lt 25, 3) := by decide +kernel
theorem dX3_flip_4 : decode cX3_flip 4 = .ok (.iload_n 1, 1) := by decide +kernel
theorem dX3_flip_5 : decode cX3_flip 5 = .ok (.aload_n 0, 1) := by decide +kernel
theorem dX3_flip_6 : decode cX3_flip 6 = .ok (.getfield 13, 3) := by decide +kernel
theorem dX3_flip_9 : decode cX3_flip 9 = .ok (.if_icmp .ge 17, 3) := by decide +kernel
theorem dX3_flip_12 : decode cX3_flip 12 = .ok (.aload_n 0, 1) := by decide +kernel
theorem dX3_flip_13 : decode cX3_flip 13 = .ok (.getfield 7, 3) := by decide +kernel
theorem dX3_flip_16 : decode cX3_flip 16 = .ok (.iload_n 1, 1) := by decide +kernel
theorem dX3_flip_17 : decode cX3_flip 17 = .ok (.dup2, 1) := by decide +kernel
theorem dX3_flip_18 : decode cX3_flip 18 = .ok (.iaload, 1) := by decide +kernel
theorem dX3_flip_19 : decode cX3_flip 19 = .ok (.iload_n 2, 1) := by decide +kernel
theorem dX3_flip_20 : decode cX3_flip 20 = .ok (.sipush 255, 3) := by decide +kernel
theorem dX3_flip_23 : decode cX3_flip 23 = .ok (.iand, 1) := by decide +kernel
theorem dX3_flip_24 : decode cX3_flip 24 = .ok (.ixor, 1) := by decide +kernel
theorem dX3_flip_25 : decode cX3_flip 25 = .ok (.iastore, 1) := by decide +kernel
theorem dX3_flip_26 : decode cX3_flip 26 = .ok (.return_, 1) := by decide +kernel
theorem dX4_init_0 : decode cX4_init 0 = .ok (.aload_n 0, 1) := by decide +kernel
theorem dX4_init_1 : decode cX4_init 1 = .ok (.invokespecial 3, 3) := by decide +kernel
theorem dX4_init_4 : decode cX4_init 4 = .ok (.aload_n 0, 1) := by decide +kernel
theorem dX4_init_5 : decode cX4_init 5 = .ok (.bipush 64, 2) := by decide +kernel
theorem dX4_init_7 : decode cX4_init 7 = .ok (.newarray .long, 2) := by decide +kernel
theorem dX4_init_9 : decode cX4_init 9 = .ok (.putfield 11, 3) := by decide +kernel
theorem dX4_init_12 : decode cX4_init 12 = .ok (.aload_n 0, 1) := by decide +kernel
theorem dX4_init_13 : decode cX4_init 13 = .ok (.bipush 64, 2) := by decide +kernel
theorem dX4_init_15 : decode cX4_init 15 = .ok (.newarray .long, 2) := by decide +kernel
theorem dX4_init_17 : decode cX4_init 17 = .ok (.putfield 15, 3) := by decide +kernel
theorem dX4_init_20 : decode cX4_init 20 = .ok (.aload_n 0, 1) := by decide +kernel
theorem dX4_init_21 : decode cX4_init 21 = .ok (.bipush 24, 2) := by decide +kernel
theorem dX4_init_23 : decode cX4_init 23 = .ok (.newarray .long, 2) := by decide +kernel
theorem dX4_init_25 : decode cX4_init 25 = .ok (.putfield 18, 3) := by decide +kernel
theorem dX4_init_28 : decode cX4_init 28 = .ok (.return_, 1) := by decide +kernel
theorem dX4_begin_0 : decode cX4_begin 0 = .ok (.aload_n 0, 1) := by decide +kernel
theorem dX4_begin_1 : decode cX4_begin 1 = .ok (.iconst 1, 1) := by decide +kernel
theorem dX4_begin_2 : decode cX4_begin 2 = .ok (.putfield 21, 3) := by decide +kernel
theorem dX4_begin_5 : decode cX4_begin 5 = .ok (.aload_n 0, 1) := by decide +kernel
theorem dX4_begin_6 : decode cX4_begin 6 = .ok (.iconst 0, 1) := by decide +kernel
theorem dX4_begin_7 : decode cX4_begin 7 = .ok (.putfield 25, 3) := by decide +kernel
theorem dX4_begin_10 : decode cX4_begin 10 = .ok (.aload_n 0, 1) := by decide +kernel
theorem dX4_begin_11 : decode cX4_begin 11 = .ok (.iconst 0, 1) := by decide +kernel
theorem dX4_begin_12 : decode cX4_begin 12 = .ok (.putfield 29, 3) := by decide +kernel
theorem dX4_begin_15 : decode cX4_begin 15 = .ok (.aload_n 0, 1) := by decide +kernel
theorem dX4_begin_16 : decode cX4_begin 16 = .ok (.iconst 0, 1) := by decide +kernel
theorem dX4_begin_17 : decode cX4_begin 17 = .ok (.putfield 32, 3) := by decide +kernel
theorem dX4_begin_20 : decode cX4_begin 20 = .ok (.aload_n 0, 1) := by decide +kernel
theorem dX4_begin_21 : decode cX4_begin 21 = .ok (.lconst 0, 1) := by decide +kernel
theorem dX4_begin_22 : decode cX4_begin 22 = .ok (.ldc2_w 35, 3) := by decide +kernel
theorem dX4_begin_25 : decode cX4_begin 25 = .ok (.invokevirtual 37, 3) := by decide +kernel
theorem dX4_begin_28 : decode cX4_begin 28 = .ok (.return_, 1) := by decide +kernel
theorem dX4_latestLow_0 : decode cX4_latestLow 0 = .ok (.aload_n 0, 1) := by decide +kernel
theorem dX4_latestLow_1 : decode cX4_latestLow 1 = .ok (.getfield 25, 3) := by decide +kernel
theorem dX4_latestLow_4 : decode cX4_latestLow 4 = .ok (.ifCond .le 17, 3) := by decide +kernel
theorem dX4_latestLow_7 : decode cX4_latestLow 7 = .ok (.aload_n 0, 1) := by decide +kernel
theorem dX4_latestLow_8 : decode cX4_latestLow 8 = .ok (.getfield 11, 3) := by decide +kernel
theorem dX4_latestLow_11 : decode cX4_latestLow 11 = .ok (.aload_n 0, 1) := by decide +kernel
theorem dX4_latestLow_12 : decode cX4_latestLow 12 = .ok (.getfield 25, 3) := by decide +kernel
theorem dX4_latestLow_15 : decode cX4_latestLow 15 = .ok (.iconst 1, 1) := by decide +kernel
theorem dX4_latestLow_16 : decode cX4_latestLow 16 = .ok (.isub, 1) := by decide +kernel
theorem dX4_latestLow_17 : decode cX4_latestLow 17 = .ok (.laload, 1) := by decide +kernel
theorem dX4_latestLow_18 : decode cX4_latestLow 18 = .ok (.goto 6, 3) := by decide +kernel
theorem dX4_latestLow_21 : decode cX4_latestLow 21 = .ok (.ldc2_w 41, 3) := by decide +kernel
theorem dX4_latestLow_24 : decode cX4_latestLow 24 = .ok (.lreturn, 1) := by decide +kernel
theorem dX4_latestHigh_0 : decode cX4_latestHigh 0 = .ok (.aload_n 0, 1) := by decide +kernel
theorem dX4_latestHigh_1 : decode cX4_latestHigh 1 = .ok (.getfield 25, 3) := by decide +kernel
theorem dX4_latestHigh_4 : decode cX4_latestHigh 4 = .ok (.ifCond .le 17, 3) := by decide +kernel
theorem dX4_latestHigh_7 : decode cX4_latestHigh 7 = .ok (.aload_n 0, 1) := by decide +kernel
theorem dX4_latestHigh_8 : decode cX4_latestHigh 8 = .ok (.getfield 15, 3) := by decide +kernel
theorem dX4_latestHigh_11 : decode cX4_latestHigh 11 = .ok (.aload_n 0, 1) := by decide +kernel
theorem dX4_latestHigh_12 : decode cX4_latestHigh 12 = .ok (.getfield 25, 3) := by decide +kernel
theorem dX4_latestHigh_15 : decode cX4_latestHigh 15 = .ok (.iconst 1, 1) := by decide +kernel
theorem dX4_latestHigh_16 : decode cX4_latestHigh 16 = .ok (.isub, 1) := by decide +kernel
theorem dX4_latestHigh_17 : decode cX4_latestHigh 17 = .ok (.laload, 1) := by decide +kernel
theorem dX4_latestHigh_18 : decode cX4_latestHigh 18 = .ok (.goto 6, 3) := by decide +kernel
theorem dX4_latestHigh_21 : decode cX4_latestHigh 21 = .ok (.ldc2_w 41, 3) := by decide +kernel
theorem dX4_latestHigh_24 : decode cX4_latestHigh 24 = .ok (.lreturn, 1) := by decide +kernel
theorem dX4_takeLatest_0 : decode cX4_takeLatest 0 = .ok (.aload_n 0, 1) := by decide +kernel
theorem dX4_takeLatest_1 : decode cX4_takeLatest 1 = .ok (.getfield 25, 3) := by decide +kernel
theorem dX4_takeLatest_4 : decode cX4_takeLatest 4 = .ok (.ifCond .le 23, 3) := by decide +kernel
theorem dX4_takeLatest_7 : decode cX4_takeLatest 7 = .ok (.aload_n 0, 1) := by decide +kernel
theorem dX4_takeLatest_8 : decode cX4_takeLatest 8 = .ok (.dup, 1) := by decide +kernel
theorem dX4_takeLatest_9 : decode cX4_takeLatest 9 = .ok (.getfield 25, 3) := by decide +kernel
theorem dX4_takeLatest_12 : decode cX4_takeLatest 12 = .ok (.iconst 1, 1) := by decide +kernel
theorem dX4_takeLatest_13 : decode cX4_takeLatest 13 = .ok (.isub, 1) := by decide +kernel
theorem dX4_takeLatest_14 : decode cX4_takeLatest 14 = .ok (.putfield 25, 3) := by decide +kernel
theorem dX4_takeLatest_17 : decode cX4_takeLatest 17 = .ok (.aload_n 0, 1) := by decide +kernel
theorem dX4_takeLatest_18 : decode cX4_takeLatest 18 = .ok (.dup, 1) := by decide +kernel
theorem dX4_takeLatest_19 : decode cX4_takeLatest 19 = .ok (.getfield 32, 3) := by decide +kernel
theorem dX4_takeLatest_22 : decode cX4_takeLatest 22 = .ok (.iconst 1, 1) := by decide +kernel
theorem dX4_takeLatest_23 : decode cX4_takeLatest 23 = .ok (.iadd, 1) := by decide +kernel
theorem dX4_takeLatest_24 : decode cX4_takeLatest 24 = .ok (.putfield 32, 3) := by decide +kernel
theorem dX4_takeLatest_27 : decode cX4_takeLatest 27 = .ok (.return_, 1) := by decide +kernel
theorem dX4_pile_0 : decode cX4_pile 0 = .ok (.aload_n 0, 1) := by decide +kernel
theorem dX4_pile_1 : decode cX4_pile 1 = .ok (.getfield 25, 3) := by decide +kernel
theorem dX4_pile_4 : decode cX4_pile 4 = .ok (.bipush 64, 2) := by decide +kernel
theorem dX4_pile_6 : decode cX4_pile 6 = .ok (.if_icmp .ge 33, 3) := by decide +kernel
theorem dX4_pile_9 : decode cX4_pile 9 = .ok (.aload_n 0, 1) := by decide +kernel
theorem dX4_pile_10 : decode cX4_pile 10 = .ok (.getfield 11, 3) := by decide +kernel
theorem dX4_pile_13 : decode cX4_pile 13 = .ok (.aload_n 0, 1) := by decide +kernel
theorem dX4_pile_14 : decode cX4_pile 14 = .ok (.getfield 25, 3) := by decide +kernel
theorem dX4_pile_17 : decode cX4_pile 17 = .ok (.lload_n 1, 1) := by decide +kernel
theorem dX4_pile_18 : decode cX4_pile 18 = .ok (.lastore, 1) := by decide +kernel
theorem dX4_pile_19 : decode cX4_pile 19 = .ok (.aload_n 0, 1) := by decide +kernel
theorem dX4_pile_20 : decode cX4_pile 20 = .ok (.getfield 15, 3) := by decide +kernel
theorem dX4_pile_23 : decode cX4_pile 23 = .ok (.aload_n 0, 1) := by decide +kernel
theorem dX4_pile_24 : decode cX4_pile 24 = .ok (.getfield 25, 3) := by decide +kernel
theorem dX4_pile_27 : decode cX4_pile 27 = .ok (.lload_n 3, 1) := by decide +kernel
theorem dX4_pile_28 : decode cX4_pile 28 = .ok (.lastore, 1) := by decide +kernel
theorem dX4_pile_29 : decode cX4_pile 29 = .ok (.aload_n 0, 1) := by decide +kernel
theorem dX4_pile_30 : decode cX4_pile 30 = .ok (.dup, 1) := by decide +kernel
theorem dX4_pile_31 : decode cX4_pile 31 = .ok (.getfield 25, 3) := by decide +kernel
theorem dX4_pile_34 : decode cX4_pile 34 = .ok (.iconst 1, 1) := by decide +kernel
theorem dX4_pile_35 : decode cX4_pile 35 = .ok (.iadd, 1) := by decide +kernel
theorem dX4_pile_36 : decode cX4_pile 36 = .ok (.putfield 25, 3) := by decide +kernel
theorem dX4_pile_39 : decode cX4_pile 39 = .ok (.return_, 1) := by decide +kernel
theorem dX4_hasFound_0 : decode cX4_hasFound 0 = .ok (.iconst 0, 1) := by decide +kernel
theorem dX4_hasFound_1 : decode cX4_hasFound 1 = .ok (.istore_n 3, 1) := by decide +kernel
theorem dX4_hasFound_2 : decode cX4_hasFound 2 = .ok (.iload_n 3, 1) := by decide +kernel
theorem dX4_hasFound_3 : decode cX4_hasFound 3 = .ok (.aload_n 0, 1) := by decide +kernel
theorem dX4_hasFound_4 : decode cX4_hasFound 4 = .ok (.getfield 29, 3) := by decide +kernel
theorem dX4_hasFound_7 : decode cX4_hasFound 7 = .ok (.if_icmp .ge 22, 3) := by decide +kernel
theorem dX4_hasFound_10 : decode cX4_hasFound 10 = .ok (.aload_n 0, 1) := by decide +kernel
theorem dX4_hasFound_11 : decode cX4_hasFound 11 = .ok (.getfield 18, 3) := by decide +kernel
theorem dX4_hasFound_14 : decode cX4_hasFound 14 = .ok (.iload_n 3, 1) := by decide +kernel
theorem dX4_hasFound_15 : decode cX4_hasFound 15 = .ok (.laload, 1) := by decide +kernel
theorem dX4_hasFound_16 : decode cX4_hasFound 16 = .ok (.lload_n 1, 1) := by decide +kernel
theorem dX4_hasFound_17 : decode cX4_hasFound 17 = .ok (.lcmp, 1) := by decide +kernel
theorem dX4_hasFound_18 : decode cX4_hasFound 18 = .ok (.ifCond .ne 5, 3) := by decide +kernel
theorem dX4_hasFound_21 : decode cX4_hasFound 21 = .ok (.iconst 1, 1) := by decide +kernel
theorem dX4_hasFound_22 : decode cX4_hasFound 22 = .ok (.ireturn, 1) := by decide +kernel
theorem dX4_hasFound_23 : decode cX4_hasFound 23 = .ok (.iinc 3 1, 3) := by decide +kernel
theorem dX4_hasFound_26 : decode cX4_hasFound 26 = .ok (.goto (-24), 3) := by decide +kernel
theorem dX4_hasFound_29 : decode cX4_hasFound 29 = .ok (.iconst 0, 1) := by decide +kernel
theorem dX4_hasFound_30 : decode cX4_hasFound 30 = .ok (.ireturn, 1) := by decide +kernel
theorem dX4_keepFound_0 : decode cX4_keepFound 0 = .ok (.aload_n 0, 1) := by decide +kernel
theorem dX4_keepFound_1 : decode cX4_keepFound 1 = .ok (.lload_n 1, 1) := by decide +kernel
theorem dX4_keepFound_2 : decode cX4_keepFound 2 = .ok (.invokevirtual 43, 3) := by decide +kernel
theorem dX4_keepFound_5 : decode cX4_keepFound 5 = .ok (.ifCond .ne 32, 3) := by decide +kernel
theorem dX4_keepFound_8 : decode cX4_keepFound 8 = .ok (.aload_n 0, 1) := by decide +kernel
theorem dX4_keepFound_9 : decode cX4_keepFound 9 = .ok (.getfield 29, 3) := by decide +kernel
theorem dX4_keepFound_12 : decode cX4_keepFound 12 = .ok (.bipush 24, 2) := by decide +kernel
theorem dX4_keepFound_14 : decode cX4_keepFound 14 = .ok (.if_icmp .ge 23, 3) := by decide +kernel
theorem dX4_keepFound_17 : decode cX4_keepFound 17 = .ok (.aload_n 0, 1) := by decide +kernel
theorem dX4_keepFound_18 : decode cX4_keepFound 18 = .ok (.getfield 18, 3) := by decide +kernel
theorem dX4_keepFound_21 : decode cX4_keepFound 21 = .ok (.aload_n 0, 1) := by decide +kernel
theorem dX4_keepFound_22 : decode cX4_keepFound 22 = .ok (.getfield 29, 3) := by decide +kernel
theorem dX4_keepFound_25 : decode cX4_keepFound 25 = .ok (.lload_n 1, 1) := by decide +kernel
theorem dX4_keepFound_26 : decode cX4_keepFound 26 = .ok (.lastore, 1) := by decide +kernel
theorem dX4_keepFound_27 : decode cX4_keepFound 27 = .ok (.aload_n 0, 1) := by decide +kernel
theorem dX4_keepFound_28 : decode cX4_keepFound 28 = .ok (.dup, 1) := by decide +kernel
theorem dX4_keepFound_29 : decode cX4_keepFound 29 = .ok (.getfield 29, 3) := by decide +kernel
theorem dX4_keepFound_32 : decode cX4_keepFound 32 = .ok (.iconst 1, 1) := by decide +kernel
theorem dX4_keepFound_33 : decode cX4_keepFound 33 = .ok (.iadd, 1) := by decide +kernel
theorem dX4_keepFound_34 : decode cX4_keepFound 34 = .ok (.putfield 29, 3) := by decide +kernel
theorem dX4_keepFound_37 : decode cX4_keepFound 37 = .ok (.return_, 1) := by decide +kernel
theorem dX5_init_0 : decode cX5_init 0 = .ok (.aload_n 0, 1) := by decide +kernel
theorem dX5_init_1 : decode cX5_init 1 = .ok (.invokespecial 1, 3) := by decide +kernel
theorem dX5_init_4 : decode cX5_init 4 = .ok (.aload_n 0, 1) := by decide +kernel
theorem dX5_init_5 : decode cX5_init 5 = .ok (.bipush 16, 2) := by decide +kernel
theorem dX5_init_7 : decode cX5_init 7 = .ok (.newarray .int, 2) := by decide +kernel
theorem dX5_init_9 : decode cX5_init 9 = .ok (.putfield 9, 3) := by decide +kernel
theorem dX5_init_12 : decode cX5_init 12 = .ok (.aload_n 0, 1) := by decide +kernel
theorem dX5_init_13 : decode cX5_init 13 = .ok (.bipush 16, 2) := by decide +kernel
theorem dX5_init_15 : decode cX5_init 15 = .ok (.newarray .int, 2) := by decide +kernel
theorem dX5_init_17 : decode cX5_init 17 = .ok (.putfield 13, 3) := by decide +kernel
theorem dX5_init_20 : decode cX5_init 20 = .ok (.return_, 1) := by decide +kernel
theorem dX5_add_0 : decode cX5_add 0 = .ok (.aload_n 0, 1) := by decide +kernel
theorem dX5_add_1 : decode cX5_add 1 = .ok (.getfield 16, 3) := by decide +kernel
theorem dX5_add_4 : decode cX5_add 4 = .ok (.bipush 16, 2) := by decide +kernel
theorem dX5_add_6 : decode cX5_add 6 = .ok (.if_icmp .lt 7, 3) := by decide +kernel
theorem dX5_add_9 : decode cX5_add 9 = .ok (.aload_n 0, 1) := by decide +kernel
theorem dX5_add_10 : decode cX5_add 10 = .ok (.invokevirtual 20, 3) := by decide +kernel
theorem dX5_add_13 : decode cX5_add 13 = .ok (.aload_n 0, 1) := by decide +kernel
theorem dX5_add_14 : decode cX5_add 14 = .ok (.getfield 9, 3) := by decide +kernel
theorem dX5_add_17 : decode cX5_add 17 = .ok (.aload_n 0, 1) := by decide +kernel
theorem dX5_add_18 : decode cX5_add 18 = .ok (.getfield 16, 3) := by decide +kernel
theorem dX5_add_21 : decode cX5_add 21 = .ok (.iload_n 1, 1) := by decide +kernel
theorem dX5_add_22 : decode cX5_add 22 = .ok (.iastore, 1) := by decide +kernel
theorem dX5_add_23 : decode cX5_add 23 = .ok (.aload_n 0, 1) := by decide +kernel
theorem dX5_add_24 : decode cX5_add 24 = .ok (.getfield 13, 3) := by decide +kernel
theorem dX5_add_27 : decode cX5_add 27 = .ok (.aload_n 0, 1) := by decide +kernel
theorem dX5_add_28 : decode cX5_add 28 = .ok (.getfield 16, 3) := by decide +kernel
theorem dX5_add_31 : decode cX5_add 31 = .ok (.iload_n 2, 1) := by decide +kernel
theorem dX5_add_32 : decode cX5_add 32 = .ok (.iastore, 1) := by decide +kernel
theorem dX5_add_33 : decode cX5_add 33 = .ok (.aload_n 0, 1) := by decide +kernel
theorem dX5_add_34 : decode cX5_add 34 = .ok (.dup, 1) := by decide +kernel
theorem dX5_add_35 : decode cX5_add 35 = .ok (.getfield 16, 3) := by decide +kernel
theorem dX5_add_38 : decode cX5_add 38 = .ok (.iconst 1, 1) := by decide +kernel
theorem dX5_add_39 : decode cX5_add 39 = .ok (.iadd, 1) := by decide +kernel
theorem dX5_add_40 : decode cX5_add 40 = .ok (.putfield 16, 3) := by decide +kernel
theorem dX5_add_43 : decode cX5_add 43 = .ok (.return_, 1) := by decide +kernel
theorem dX5_dropFirst_0 : decode cX5_dropFirst 0 = .ok (.iconst 1, 1) := by decide +kernel
theorem dX5_dropFirst_1 : decode cX5_dropFirst 1 = .ok (.istore_n 1, 1) := by decide +kernel
theorem dX5_dropFirst_2 : decode cX5_dropFirst 2 = .ok (.iload_n 1, 1) := by decide +kernel
theorem dX5_dropFirst_3 : decode cX5_dropFirst 3 = .ok (.bipush 16, 2) := by decide +kernel
theorem dX5_dropFirst_5 : decode cX5_dropFirst 5 = .ok (.if_icmp .ge 37, 3) := by decide +kernel
theorem dX5_dropFirst_8 : decode cX5_dropFirst 8 = .ok (.aload_n 0, 1) := by decide +kernel
theorem dX5_dropFirst_9 : decode cX5_dropFirst 9 = .ok (.getfield 9, 3) := by decide +kernel
theorem dX5_dropFirst_12 : decode cX5_dropFirst 12 = .ok (.iload_n 1, 1) := by decide +kernel
theorem dX5_dropFirst_13 : decode cX5_dropFirst 13 = .ok (.iconst 1, 1) := by decide +kernel
theorem dX5_dropFirst_14 : decode cX5_dropFirst 14 = .ok (.isub, 1) := by decide +kernel
theorem dX5_dropFirst_15 : decode cX5_dropFirst 15 = .ok (.aload_n 0, 1) := by decide +kernel
theorem dX5_dropFirst_16 : decode cX5_dropFirst 16 = .ok (.getfield 9, 3) := by decide +kernel
theorem dX5_dropFirst_19 : decode cX5_dropFirst 19 = .ok (.iload_n 1, 1) := by decide +kernel
theorem dX5_dropFirst_20 : decode cX5_dropFirst 20 = .ok (.iaload, 1) := by decide +kernel
theorem dX5_dropFirst_21 : decode cX5_dropFirst 21 = .ok (.iastore, 1) := by decide +kernel
theorem dX5_dropFirst_22 : decode cX5_dropFirst 22 = .ok (.aload_n 0, 1) := by decide +kernel
theorem dX5_dropFirst_23 : decode cX5_dropFirst 23 = .ok (.getfield 13, 3) := by decide +kernel
theorem dX5_dropFirst_26 : decode cX5_dropFirst 26 = .ok (.iload_n 1, 1) := by decide +kernel
theorem dX5_dropFirst_27 : decode cX5_dropFirst 27 = .ok (.iconst 1, 1) := by decide +kernel
theorem dX5_dropFirst_28 : decode cX5_dropFirst 28 = .ok (.isub, 1) := by decide +kernel
theorem dX5_dropFirst_29 : decode cX5_dropFirst 29 = .ok (.aload_n 0, 1) := by decide +kernel
theorem dX5_dropFirst_30 : decode cX5_dropFirst 30 = .ok (.getfield 13, 3) := by decide +kernel
theorem dX5_dropFirst_33 : decode cX5_dropFirst 33 = .ok (.iload_n 1, 1) := by decide +kernel
theorem dX5_dropFirst_34 : decode cX5_dropFirst 34 = .ok (.iaload, 1) := by decide +kernel
theorem dX5_dropFirst_35 : decode cX5_dropFirst 35 = .ok (.iastore, 1) := by decide +kernel
theorem dX5_dropFirst_36 : decode cX5_dropFirst 36 = .ok (.iinc 1 1, 3) := by decide +kernel
theorem dX5_dropFirst_39 : decode cX5_dropFirst 39 = .ok (.goto (-37), 3) := by decide +kernel
theorem dX5_dropFirst_42 : decode cX5_dropFirst 42 = .ok (.aload_n 0, 1) := by decide +kernel
theorem dX5_dropFirst_43 : decode cX5_dropFirst 43 = .ok (.bipush 15, 2) := by decide +kernel
theorem dX5_dropFirst_45 : decode cX5_dropFirst 45 = .ok (.putfield 16, 3) := by decide +kernel
theorem dX5_dropFirst_48 : decode cX5_dropFirst 48 = .ok (.return_, 1) := by decide +kernel
theorem dX5_applyTo_0 : decode cX5_applyTo 0 = .ok (.iconst 0, 1) := by decide +kernel
theorem dX5_applyTo_1 : decode cX5_applyTo 1 = .ok (.istore_n 2, 1) := by decide +kernel
theorem dX5_applyTo_2 : decode cX5_applyTo 2 = .ok (.iload_n 2, 1) := by decide +kernel
theorem dX5_applyTo_3 : decode cX5_applyTo 3 = .ok (.aload_n 0, 1) := by decide +kernel
theorem dX5_applyTo_4 : decode cX5_applyTo 4 = .ok (.getfield 16, 3) := by decide +kernel
theorem dX5_applyTo_7 : decode cX5_applyTo 7 = .ok (.if_icmp .ge 25, 3) := by decide +kernel
theorem dX5_applyTo_10 : decode cX5_applyTo 10 = .ok (.aload_n 1, 1) := by decide +kernel
theorem dX5_applyTo_11 : decode cX5_applyTo 11 = .ok (.aload_n 0, 1) := by decide +kernel
theorem dX5_applyTo_12 : decode cX5_applyTo 12 = .ok (.getfield 9, 3) := by decide +kernel
theorem dX5_applyTo_15 : decode cX5_applyTo 15 = .ok (.iload_n 2, 1) := by decide +kernel
theorem dX5_applyTo_16 : decode cX5_applyTo 16 = .ok (.iaload, 1) := by decide +kernel
theorem dX5_applyTo_17 : decode cX5_applyTo 17 = .ok (.aload_n 0, 1) := by decide +kernel
theorem dX5_applyTo_18 : decode cX5_applyTo 18 = .ok (.getfield 13, 3) := by decide +kernel
theorem dX5_applyTo_21 : decode cX5_applyTo 21 = .ok (.iload_n 2, 1) := by decide +kernel
theorem dX5_applyTo_22 : decode cX5_applyTo 22 = .ok (.iaload, 1) := by decide +kernel
theorem dX5_applyTo_23 : decode cX5_applyTo 23 = .ok (.invokevirtual 23, 3) := by decide +kernel
theorem dX5_applyTo_26 : decode cX5_applyTo 26 = .ok (.iinc 2 1, 3) := by decide +kernel
theorem dX5_applyTo_29 : decode cX5_applyTo 29 = .ok (.goto (-27), 3) := by decide +kernel
theorem dX5_applyTo_32 : decode cX5_applyTo 32 = .ok (.aload_n 0, 1) := by decide +kernel
theorem dX5_applyTo_33 : decode cX5_applyTo 33 = .ok (.iconst 0, 1) := by decide +kernel
theorem dX5_applyTo_34 : decode cX5_applyTo 34 = .ok (.putfield 16, 3) := by decide +kernel
theorem dX5_applyTo_37 : decode cX5_applyTo 37 = .ok (.return_, 1) := by decide +kernel
theorem dJ9_min_7cf53_0 : decode cJ9_min_7cf53 0 = .ok (.iload_n 0, 1) := by decide +kernel
theorem dJ9_min_7cf53_1 : decode cJ9_min_7cf53 1 = .ok (.iload_n 1, 1) := by decide +kernel
theorem dJ9_min_7cf53_2 : decode cJ9_min_7cf53 2 = .ok (.if_icmp .gt 7, 3) := by decide +kernel
theorem dJ9_min_7cf53_5 : decode cJ9_min_7cf53 5 = .ok (.iload_n 0, 1) := by decide +kernel
theorem dJ9_min_7cf53_6 : decode cJ9_min_7cf53 6 = .ok (.goto 4, 3) := by decide +kernel
theorem dJ9_min_7cf53_9 : decode cJ9_min_7cf53 9 = .ok (.iload_n 1, 1) := by decide +kernel
theorem dJ9_min_7cf53_10 : decode cJ9_min_7cf53 10 = .ok (.ireturn, 1) := by decide +kernel
