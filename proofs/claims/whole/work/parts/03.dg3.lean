theorem dX0_write_0 : decode cX0_write 0 = .ok (.aload_n 2, 1) := by decide +kernel
theorem dX0_write_1 : decode cX0_write 1 = .ok (.iconst 0, 1) := by decide +kernel
theorem dX0_write_2 : decode cX0_write 2 = .ok (.invokevirtual 9, 3) := by decide +kernel
theorem dX0_write_5 : decode cX0_write 5 = .ok (.iconst 0, 1) := by decide +kernel
theorem dX0_write_6 : decode cX0_write 6 = .ok (.istore_n 3, 1) := by decide +kernel
theorem dX0_write_7 : decode cX0_write 7 = .ok (.iload_n 3, 1) := by decide +kernel
theorem dX0_write_8 : decode cX0_write 8 = .ok (.bipush 7, 2) := by decide +kernel
theorem dX0_write_10 : decode cX0_write 10 = .ok (.if_icmp .ge 16, 3) := by decide +kernel
theorem dX0_write_13 : decode cX0_write 13 = .ok (.aload_n 2, 1) := by decide +kernel
theorem dX0_write_14 : decode cX0_write 14 = .ok (.sipush 254, 3) := by decide +kernel
theorem dX0_write_17 : decode cX0_write 17 = .ok (.invokevirtual 17, 3) := by decide +kernel
theorem dX0_write_20 : decode cX0_write 20 = .ok (.iinc 3 1, 3) := by decide +kernel
theorem dX0_write_23 : decode cX0_write 23 = .ok (.goto (-16), 3) := by decide +kernel
theorem dX0_write_26 : decode cX0_write 26 = .ok (.aload_n 2, 1) := by decide +kernel
theorem dX0_write_27 : decode cX0_write 27 = .ok (.sipush 170, 3) := by decide +kernel
theorem dX0_write_30 : decode cX0_write 30 = .ok (.invokevirtual 17, 3) := by decide +kernel
theorem dX0_write_33 : decode cX0_write 33 = .ok (.bipush 40, 2) := by decide +kernel
theorem dX0_write_35 : decode cX0_write 35 = .ok (.istore_n 3, 1) := by decide +kernel
theorem dX0_write_36 : decode cX0_write 36 = .ok (.iload_n 3, 1) := by decide +kernel
theorem dX0_write_37 : decode cX0_write 37 = .ok (.ifCond .lt 38, 3) := by decide +kernel
theorem dX0_write_40 : decode cX0_write 40 = .ok (.lload_n 0, 1) := by decide +kernel
theorem dX0_write_41 : decode cX0_write 41 = .ok (.iload_n 3, 1) := by decide +kernel
theorem dX0_write_42 : decode cX0_write 42 = .ok (.lushr, 1) := by decide +kernel
theorem dX0_write_43 : decode cX0_write 43 = .ok (.l2i, 1) := by decide +kernel
theorem dX0_write_44 : decode cX0_write 44 = .ok (.sipush 255, 3) := by decide +kernel
theorem dX0_write_47 : decode cX0_write 47 = .ok (.iand, 1) := by decide +kernel
theorem dX0_write_48 : decode cX0_write 48 = .ok (.istore 4, 2) := by decide +kernel
theorem dX0_write_50 : decode cX0_write 50 = .ok (.aload_n 2, 1) := by decide +kernel
theorem dX0_write_51 : decode cX0_write 51 = .ok (.iload 4, 2) := by decide +kernel
theorem dX0_write_53 : decode cX0_write 53 = .ok (.sipush 170, 3) := by decide +kernel
theorem dX0_write_56 : decode cX0_write 56 = .ok (.ior, 1) := by decide +kernel
theorem dX0_write_57 : decode cX0_write 57 = .ok (.invokevirtual 17, 3) := by decide +kernel
theorem dX0_write_60 : decode cX0_write 60 = .ok (.aload_n 2, 1) := by decide +kernel
theorem dX0_write_61 : decode cX0_write 61 = .ok (.iload 4, 2) := by decide +kernel
theorem dX0_write_63 : decode cX0_write 63 = .ok (.bipush 85, 2) := by decide +kernel
theorem dX0_write_65 : decode cX0_write 65 = .ok (.ior, 1) := by decide +kernel
theorem dX0_write_66 : decode cX0_write 66 = .ok (.invokevirtual 17, 3) := by decide +kernel
theorem dX0_write_69 : decode cX0_write 69 = .ok (.iinc 3 (-8), 3) := by decide +kernel
theorem dX0_write_72 : decode cX0_write 72 = .ok (.goto (-36), 3) := by decide +kernel
theorem dX0_write_75 : decode cX0_write 75 = .ok (.aload_n 2, 1) := by decide +kernel
theorem dX0_write_76 : decode cX0_write 76 = .ok (.bipush 8, 2) := by decide +kernel
theorem dX0_write_78 : decode cX0_write 78 = .ok (.bipush 20, 2) := by decide +kernel
theorem dX0_write_80 : decode cX0_write 80 = .ok (.invokevirtual 20, 3) := by decide +kernel
theorem dX0_write_83 : decode cX0_write 83 = .ok (.istore_n 3, 1) := by decide +kernel
theorem dX0_write_84 : decode cX0_write 84 = .ok (.aload_n 2, 1) := by decide +kernel
theorem dX0_write_85 : decode cX0_write 85 = .ok (.iload_n 3, 1) := by decide +kernel
theorem dX0_write_86 : decode cX0_write 86 = .ok (.bipush 8, 2) := by decide +kernel
theorem dX0_write_88 : decode cX0_write 88 = .ok (.iushr, 1) := by decide +kernel
theorem dX0_write_89 : decode cX0_write 89 = .ok (.sipush 170, 3) := by decide +kernel
theorem dX0_write_92 : decode cX0_write 92 = .ok (.ior, 1) := by decide +kernel
theorem dX0_write_93 : decode cX0_write 93 = .ok (.invokevirtual 17, 3) := by decide +kernel
theorem dX0_write_96 : decode cX0_write 96 = .ok (.aload_n 2, 1) := by decide +kernel
theorem dX0_write_97 : decode cX0_write 97 = .ok (.iload_n 3, 1) := by decide +kernel
theorem dX0_write_98 : decode cX0_write 98 = .ok (.bipush 8, 2) := by decide +kernel
theorem dX0_write_100 : decode cX0_write 100 = .ok (.iushr, 1) := by decide +kernel
theorem dX0_write_101 : decode cX0_write 101 = .ok (.bipush 85, 2) := by decide +kernel
theorem dX0_write_103 : decode cX0_write 103 = .ok (.ior, 1) := by decide +kernel
theorem dX0_write_104 : decode cX0_write 104 = .ok (.invokevirtual 17, 3) := by decide +kernel
theorem dX0_write_107 : decode cX0_write 107 = .ok (.aload_n 2, 1) := by decide +kernel
theorem dX0_write_108 : decode cX0_write 108 = .ok (.iload_n 3, 1) := by decide +kernel
theorem dX0_write_109 : decode cX0_write 109 = .ok (.sipush 170, 3) := by decide +kernel
theorem dX0_write_112 : decode cX0_write 112 = .ok (.ior, 1) := by decide +kernel
theorem dX0_write_113 : decode cX0_write 113 = .ok (.invokevirtual 17, 3) := by decide +kernel
theorem dX0_write_116 : decode cX0_write 116 = .ok (.aload_n 2, 1) := by decide +kernel
theorem dX0_write_117 : decode cX0_write 117 = .ok (.iload_n 3, 1) := by decide +kernel
theorem dX0_write_118 : decode cX0_write 118 = .ok (.bipush 85, 2) := by decide +kernel
theorem dX0_write_120 : decode cX0_write 120 = .ok (.ior, 1) := by decide +kernel
theorem dX0_write_121 : decode cX0_write 121 = .ok (.invokevirtual 17, 3) := by decide +kernel
theorem dX0_write_124 : decode cX0_write 124 = .ok (.return_, 1) := by decide +kernel
theorem dX0_read_0 : decode cX0_read 0 = .ok (.aload_n 0, 1) := by decide +kernel
theorem dX0_read_1 : decode cX0_read 1 = .ok (.invokevirtual 24, 3) := by decide +kernel
theorem dX0_read_4 : decode cX0_read 4 = .ok (.bipush 24, 2) := by decide +kernel
theorem dX0_read_6 : decode cX0_read 6 = .ok (.if_icmp .eq 7, 3) := by decide +kernel
theorem dX0_read_9 : decode cX0_read 9 = .ok (.ldc2_w 28, 3) := by decide +kernel
theorem dX0_read_12 : decode cX0_read 12 = .ok (.lreturn, 1) := by decide +kernel
theorem dX0_read_13 : decode cX0_read 13 = .ok (.iconst 0, 1) := by decide +kernel
theorem dX0_read_14 : decode cX0_read 14 = .ok (.istore_n 1, 1) := by decide +kernel
theorem dX0_read_15 : decode cX0_read 15 = .ok (.iload_n 1, 1) := by decide +kernel
theorem dX0_read_16 : decode cX0_read 16 = .ok (.bipush 8, 2) := by decide +kernel
theorem dX0_read_18 : decode cX0_read 18 = .ok (.if_icmp .ge 36, 3) := by decide +kernel
theorem dX0_read_21 : decode cX0_read 21 = .ok (.aload_n 0, 1) := by decide +kernel
theorem dX0_read_22 : decode cX0_read 22 = .ok (.iload_n 1, 1) := by decide +kernel
theorem dX0_read_23 : decode cX0_read 23 = .ok (.invokevirtual 30, 3) := by decide +kernel
theorem dX0_read_26 : decode cX0_read 26 = .ok (.iload_n 1, 1) := by decide +kernel
theorem dX0_read_27 : decode cX0_read 27 = .ok (.bipush 7, 2) := by decide +kernel
theorem dX0_read_29 : decode cX0_read 29 = .ok (.if_icmp .ge 9, 3) := by decide +kernel
theorem dX0_read_32 : decode cX0_read 32 = .ok (.sipush 254, 3) := by decide +kernel
theorem dX0_read_35 : decode cX0_read 35 = .ok (.goto 6, 3) := by decide +kernel
theorem dX0_read_38 : decode cX0_read 38 = .ok (.sipush 170, 3) := by decide +kernel
theorem dX0_read_41 : decode cX0_read 41 = .ok (.if_icmp .eq 7, 3) := by decide +kernel
theorem dX0_read_44 : decode cX0_read 44 = .ok (.ldc2_w 28, 3) := by decide +kernel
theorem dX0_read_47 : decode cX0_read 47 = .ok (.lreturn, 1) := by decide +kernel
theorem dX0_read_48 : decode cX0_read 48 = .ok (.iinc 1 1, 3) := by decide +kernel
theorem dX0_read_51 : decode cX0_read 51 = .ok (.goto (-36), 3) := by decide +kernel
theorem dX0_read_54 : decode cX0_read 54 = .ok (.lconst 0, 1) := by decide +kernel
theorem dX0_read_55 : decode cX0_read 55 = .ok (.lstore_n 1, 1) := by decide +kernel
theorem dX0_read_56 : decode cX0_read 56 = .ok (.bipush 8, 2) := by decide +kernel
theorem dX0_read_58 : decode cX0_read 58 = .ok (.istore_n 3, 1) := by decide +kernel
theorem dX0_read_59 : decode cX0_read 59 = .ok (.iload_n 3, 1) := by decide +kernel
theorem dX0_read_60 : decode cX0_read 60 = .ok (.bipush 24, 2) := by decide +kernel
theorem dX0_read_62 : decode cX0_read 62 = .ok (.if_icmp .ge 63, 3) := by decide +kernel
theorem dX0_read_65 : decode cX0_read 65 = .ok (.aload_n 0, 1) := by decide +kernel
theorem dX0_read_66 : decode cX0_read 66 = .ok (.iload_n 3, 1) := by decide +kernel
theorem dX0_read_67 : decode cX0_read 67 = .ok (.invokevirtual 30, 3) := by decide +kernel
theorem dX0_read_70 : decode cX0_read 70 = .ok (.istore 4, 2) := by decide +kernel
theorem dX0_read_72 : decode cX0_read 72 = .ok (.aload_n 0, 1) := by decide +kernel
theorem dX0_read_73 : decode cX0_read 73 = .ok (.iload_n 3, 1) := by decide +kernel
theorem dX0_read_74 : decode cX0_read 74 = .ok (.iconst 1, 1) := by decide +kernel
theorem dX0_read_75 : decode cX0_read 75 = .ok (.iadd, 1) := by decide +kernel
theorem dX0_read_76 : decode cX0_read 76 = .ok (.invokevirtual 30, 3) := by decide +kernel
theorem dX0_read_79 : decode cX0_read 79 = .ok (.istore 5, 2) := by decide +kernel
theorem dX0_read_81 : decode cX0_read 81 = .ok (.iload 4, 2) := by decide +kernel
theorem dX0_read_83 : decode cX0_read 83 = .ok (.sipush 170, 3) := by decide +kernel
theorem dX0_read_86 : decode cX0_read 86 = .ok (.iand, 1) := by decide +kernel
theorem dX0_read_87 : decode cX0_read 87 = .ok (.sipush 170, 3) := by decide +kernel
theorem dX0_read_90 : decode cX0_read 90 = .ok (.if_icmp .ne 13, 3) := by decide +kernel
theorem dX0_read_93 : decode cX0_read 93 = .ok (.iload 5, 2) := by decide +kernel
theorem dX0_read_95 : decode cX0_read 95 = .ok (.bipush 85, 2) := by decide +kernel
theorem dX0_read_97 : decode cX0_read 97 = .ok (.iand, 1) := by decide +kernel
theorem dX0_read_98 : decode cX0_read 98 = .ok (.bipush 85, 2) := by decide +kernel
theorem dX0_read_100 : decode cX0_read 100 = .ok (.if_icmp .eq 7, 3) := by decide +kernel
theorem dX0_read_103 : decode cX0_read 103 = .ok (.ldc2_w 28, 3) := by decide +kernel
theorem dX0_read_106 : decode cX0_read 106 = .ok (.lreturn, 1) := by decide +kernel
theorem dX0_read_107 : decode cX0_read 107 = .ok (.lload_n 1, 1) := by decide +kernel
theorem dX0_read_108 : decode cX0_read 108 = .ok (.bipush 8, 2) := by decide +kernel
theorem dX0_read_110 : decode cX0_read 110 = .ok (.lshl, 1) := by decide +kernel
theorem dX0_read_111 : decode cX0_read 111 = .ok (.iload 4, 2) := by decide +kernel
theorem dX0_read_113 : decode cX0_read 113 = .ok (.iload 5, 2) := by decide +kernel
theorem dX0_read_115 : decode cX0_read 115 = .ok (.iand, 1) := by decide +kernel
theorem dX0_read_116 : decode cX0_read 116 = .ok (.i2l, 1) := by decide +kernel
theorem dX0_read_117 : decode cX0_read 117 = .ok (.lor, 1) := by decide +kernel
theorem dX0_read_118 : decode cX0_read 118 = .ok (.lstore_n 1, 1) := by decide +kernel
theorem dX0_read_119 : decode cX0_read 119 = .ok (.iinc 3 2, 3) := by decide +kernel
theorem dX0_read_122 : decode cX0_read 122 = .ok (.goto (-63), 3) := by decide +kernel
theorem dX0_read_125 : decode cX0_read 125 = .ok (.lload_n 1, 1) := by decide +kernel
theorem dX0_read_126 : decode cX0_read 126 = .ok (.ldc2_w 34, 3) := by decide +kernel
theorem dX0_read_129 : decode cX0_read 129 = .ok (.land, 1) := by decide +kernel
theorem dX0_read_130 : decode cX0_read 130 = .ok (.aload_n 0, 1) := by decide +kernel
theorem dX0_read_131 : decode cX0_read 131 = .ok (.bipush 8, 2) := by decide +kernel
theorem dX0_read_133 : decode cX0_read 133 = .ok (.bipush 20, 2) := by decide +kernel
theorem dX0_read_135 : decode cX0_read 135 = .ok (.invokevirtual 20, 3) := by decide +kernel
theorem dX0_read_138 : decode cX0_read 138 = .ok (.i2l, 1) := by decide +kernel
theorem dX0_read_139 : decode cX0_read 139 = .ok (.lcmp, 1) := by decide +kernel
theorem dX0_read_140 : decode cX0_read 140 = .ok (.ifCond .ne 10, 3) := by decide +kernel
theorem dX0_read_143 : decode cX0_read 143 = .ok (.lload_n 1, 1) := by decide +kernel
theorem dX0_read_144 : decode cX0_read 144 = .ok (.bipush 16, 2) := by decide +kernel
theorem dX0_read_146 : decode cX0_read 146 = .ok (.lushr, 1) := by decide +kernel
theorem dX0_read_147 : decode cX0_read 147 = .ok (.goto 6, 3) := by decide +kernel
theorem dX0_read_150 : decode cX0_read 150 = .ok (.ldc2_w 28, 3) := by decide +kernel
theorem dX0_read_153 : decode cX0_read 153 = .ok (.lreturn, 1) := by decide +kernel
set_option maxRecDepth 20000 in
theorem ggX0_write_X3_cut : GoodIn wsX0_write wsX3_cut := goodIn_r _ [5, 6, 17, 18] (by decide +kernel) (by decide +kernel)
set_option maxRecDepth 20000 in
theorem gX0_write_X3_cut : GoodIn wsX0_write (wsV RX0 9 RX3 yX3_cut wsX3_cut) := goodIn_app (goodIn_of _ (by decide +kernel)) ggX0_write_X3_cut
set_option maxRecDepth 20000 in
theorem ggX0_write_X3_put : GoodIn wsX0_write wsX3_put := goodIn_r _ [10, 6, 11, 17, 18] (by decide +kernel) (by decide +kernel)
set_option maxRecDepth 20000 in
theorem gX0_write_X3_put : GoodIn wsX0_write (wsV RX0 17 RX3 yX3_put wsX3_put) := goodIn_app (goodIn_of _ (by decide +kernel)) ggX0_write_X3_put
set_option maxRecDepth 20000 in
theorem ggX0_write_X3_sum : GoodIn wsX0_write wsX3_sum := goodIn_r _ [15, 6, 11, 16, 17, 18] (by decide +kernel) (by decide +kernel)
set_option maxRecDepth 20000 in
theorem gX0_write_X3_sum : GoodIn wsX0_write (wsV RX0 20 RX3 yX3_sum wsX3_sum) := goodIn_app (goodIn_of _ (by decide +kernel)) ggX0_write_X3_sum
set_option maxRecDepth 20000 in
theorem ggX0_read_X3_size : GoodIn wsX0_read wsX3_size := goodIn_r _ [7, 8, 19, 20] (by decide +kernel) (by decide +kernel)
set_option maxRecDepth 20000 in
theorem gX0_read_X3_size : GoodIn wsX0_read (wsV RX0 24 RX3 yX3_size wsX3_size) := goodIn_app (goodIn_of _ (by decide +kernel)) ggX0_read_X3_size
set_option maxRecDepth 20000 in
theorem ggX0_read_X3_at : GoodIn wsX0_read wsX3_at := goodIn_r _ [12, 8, 13, 19, 20] (by decide +kernel) (by decide +kernel)
set_option maxRecDepth 20000 in
theorem gX0_read_X3_at : GoodIn wsX0_read (wsV RX0 30 RX3 yX3_at wsX3_at) := goodIn_app (goodIn_of _ (by decide +kernel)) ggX0_read_X3_at
set_option maxRecDepth 20000 in
theorem ggX0_read_X3_sum : GoodIn wsX0_read wsX3_sum := goodIn_r _ [17, 8, 13, 18, 19, 20] (by decide +kernel) (by decide +kernel)
set_option maxRecDepth 20000 in
theorem gX0_read_X3_sum : GoodIn wsX0_read (wsV RX0 20 RX3 yX3_sum wsX3_sum) := goodIn_app (goodIn_of _ (by decide +kernel)) ggX0_read_X3_sum
theorem dX2_init_0 : decode cX2_init 0 = .ok (.aload_n 0, 1) := by decide +kernel
theorem dX2_init_1 : decode cX2_init 1 = .ok (.invokespecial 5, 3) := by decide +kernel
theorem dX2_init_4 : decode cX2_init 4 = .ok (.aload_n 0, 1) := by decide +kernel
theorem dX2_init_5 : decode cX2_init 5 = .ok (.new 11, 3) := by decide +kernel
theorem dX2_init_8 : decode cX2_init 8 = .ok (.dup, 1) := by decide +kernel
theorem dX2_init_9 : decode cX2_init 9 = .ok (.sipush 231, 3) := by decide +kernel
theorem dX2_init_12 : decode cX2_init 12 = .ok (.invokespecial 13, 3) := by decide +kernel
theorem dX2_init_15 : decode cX2_init 15 = .ok (.putfield 16, 3) := by decide +kernel
theorem dX2_init_18 : decode cX2_init 18 = .ok (.return_, 1) := by decide +kernel
theorem dX2_isCall_0 : decode cX2_isCall 0 = .ok (.aload_n 0, 1) := by decide +kernel
theorem dX2_isCall_1 : decode cX2_isCall 1 = .ok (.getfield 20, 3) := by decide +kernel
theorem dX2_isCall_4 : decode cX2_isCall 4 = .ok (.invokestatic 24, 3) := by decide +kernel
theorem dX2_isCall_7 : decode cX2_isCall 7 = .ok (.ldc2_w 28, 3) := by decide +kernel
theorem dX2_isCall_10 : decode cX2_isCall 10 = .ok (.lcmp, 1) := by decide +kernel
theorem dX2_isCall_11 : decode cX2_isCall 11 = .ok (.ifCond .ne 7, 3) := by decide +kernel
theorem dX2_isCall_14 : decode cX2_isCall 14 = .ok (.iconst 1, 1) := by decide +kernel
theorem dX2_isCall_15 : decode cX2_isCall 15 = .ok (.goto 4, 3) := by decide +kernel
theorem dX2_isCall_18 : decode cX2_isCall 18 = .ok (.iconst 0, 1) := by decide +kernel
theorem dX2_isCall_19 : decode cX2_isCall 19 = .ok (.ireturn, 1) := by decide +kernel
theorem dX2_readFrom_0 : decode cX2_readFrom 0 = .ok (.aload_n 1, 1) := by decide +kernel
theorem dX2_readFrom_1 : decode cX2_readFrom 1 = .ok (.iconst 2, 1) := by decide +kernel
theorem dX2_readFrom_2 : decode cX2_readFrom 2 = .ok (.invokevirtual 30, 3) := by decide +kernel
theorem dX2_readFrom_5 : decode cX2_readFrom 5 = .ok (.istore_n 2, 1) := by decide +kernel
theorem dX2_readFrom_6 : decode cX2_readFrom 6 = .ok (.iload_n 2, 1) := by decide +kernel
theorem dX2_readFrom_7 : decode cX2_readFrom 7 = .ok (.bipush 24, 2) := by decide +kernel
theorem dX2_readFrom_9 : decode cX2_readFrom 9 = .ok (.if_icmp .lt 13, 3) := by decide +kernel
theorem dX2_readFrom_12 : decode cX2_readFrom 12 = .ok (.aload_n 1, 1) := by decide +kernel
theorem dX2_readFrom_13 : decode cX2_readFrom 13 = .ok (.invokevirtual 34, 3) := by decide +kernel
theorem dX2_readFrom_16 : decode cX2_readFrom 16 = .ok (.iload_n 2, 1) := by decide +kernel
theorem dX2_readFrom_17 : decode cX2_readFrom 17 = .ok (.iconst 2, 1) := by decide +kernel
theorem dX2_readFrom_18 : decode cX2_readFrom 18 = .ok (.iadd, 1) := by decide +kernel
theorem dX2_readFrom_19 : decode cX2_readFrom 19 = .ok (.if_icmp .eq 5, 3) := by decide +kernel
theorem dX2_readFrom_22 : decode cX2_readFrom 22 = .ok (.iconst 0, 1) := by decide +kernel
theorem dX2_readFrom_23 : decode cX2_readFrom 23 = .ok (.ireturn, 1) := by decide +kernel
theorem dX2_readFrom_24 : decode cX2_readFrom 24 = .ok (.aload_n 1, 1) := by decide +kernel
theorem dX2_readFrom_25 : decode cX2_readFrom 25 = .ok (.iconst 0, 1) := by decide +kernel
theorem dX2_readFrom_26 : decode cX2_readFrom 26 = .ok (.invokevirtual 30, 3) := by decide +kernel
theorem dX2_readFrom_29 : decode cX2_readFrom 29 = .ok (.sipush 204, 3) := by decide +kernel
theorem dX2_readFrom_32 : decode cX2_readFrom 32 = .ok (.if_icmp .ne 25, 3) := by decide +kernel
theorem dX2_readFrom_35 : decode cX2_readFrom 35 = .ok (.aload_n 1, 1) := by decide +kernel
theorem dX2_readFrom_36 : decode cX2_readFrom 36 = .ok (.iconst 1, 1) := by decide +kernel
theorem dX2_readFrom_37 : decode cX2_readFrom 37 = .ok (.invokevirtual 30, 3) := by decide +kernel
theorem dX2_readFrom_40 : decode cX2_readFrom 40 = .ok (.iconst 1, 1) := by decide +kernel
theorem dX2_readFrom_41 : decode cX2_readFrom 41 = .ok (.if_icmp .ne 16, 3) := by decide +kernel
theorem dX2_readFrom_44 : decode cX2_readFrom 44 = .ok (.aload_n 1, 1) := by decide +kernel
theorem dX2_readFrom_45 : decode cX2_readFrom 45 = .ok (.bipush 23, 2) := by decide +kernel
theorem dX2_readFrom_47 : decode cX2_readFrom 47 = .ok (.invokevirtual 30, 3) := by decide +kernel
theorem dX2_readFrom_50 : decode cX2_readFrom 50 = .ok (.iload_n 2, 1) := by decide +kernel
theorem dX2_readFrom_51 : decode cX2_readFrom 51 = .ok (.bipush 24, 2) := by decide +kernel
theorem dX2_readFrom_53 : decode cX2_readFrom 53 = .ok (.isub, 1) := by decide +kernel
theorem dX2_readFrom_54 : decode cX2_readFrom 54 = .ok (.if_icmp .eq 5, 3) := by decide +kernel
theorem dX2_readFrom_57 : decode cX2_readFrom 57 = .ok (.iconst 0, 1) := by decide +kernel
theorem dX2_readFrom_58 : decode cX2_readFrom 58 = .ok (.ireturn, 1) := by decide +kernel
theorem dX2_readFrom_59 : decode cX2_readFrom 59 = .ok (.aload_n 1, 1) := by decide +kernel
theorem dX2_readFrom_60 : decode cX2_readFrom 60 = .ok (.iconst 0, 1) := by decide +kernel
theorem dX2_readFrom_61 : decode cX2_readFrom 61 = .ok (.iload_n 2, 1) := by decide +kernel
theorem dX2_readFrom_62 : decode cX2_readFrom 62 = .ok (.invokevirtual 38, 3) := by decide +kernel
theorem dX2_readFrom_65 : decode cX2_readFrom 65 = .ok (.i2l, 1) := by decide +kernel
theorem dX2_readFrom_66 : decode cX2_readFrom 66 = .ok (.aload_n 1, 1) := by decide +kernel
theorem dX2_readFrom_67 : decode cX2_readFrom 67 = .ok (.iload_n 2, 1) := by decide +kernel
theorem dX2_readFrom_68 : decode cX2_readFrom 68 = .ok (.iconst 2, 1) := by decide +kernel
theorem dX2_readFrom_69 : decode cX2_readFrom 69 = .ok (.invokevirtual 42, 3) := by decide +kernel
theorem dX2_readFrom_72 : decode cX2_readFrom 72 = .ok (.lcmp, 1) := by decide +kernel
theorem dX2_readFrom_73 : decode cX2_readFrom 73 = .ok (.ifCond .eq 5, 3) := by decide +kernel
theorem dX2_readFrom_76 : decode cX2_readFrom 76 = .ok (.iconst 0, 1) := by decide +kernel
theorem dX2_readFrom_77 : decode cX2_readFrom 77 = .ok (.ireturn, 1) := by decide +kernel
theorem dX2_readFrom_78 : decode cX2_readFrom 78 = .ok (.aload_n 0, 1) := by decide +kernel
theorem dX2_readFrom_79 : decode cX2_readFrom 79 = .ok (.aload_n 1, 1) := by decide +kernel
theorem dX2_readFrom_80 : decode cX2_readFrom 80 = .ok (.iconst 3, 1) := by decide +kernel
theorem dX2_readFrom_81 : decode cX2_readFrom 81 = .ok (.bipush 6, 2) := by decide +kernel
theorem dX2_readFrom_83 : decode cX2_readFrom 83 = .ok (.invokevirtual 42, 3) := by decide +kernel
theorem dX2_readFrom_86 : decode cX2_readFrom 86 = .ok (.putfield 20, 3) := by decide +kernel
theorem dX2_readFrom_89 : decode cX2_readFrom 89 = .ok (.aload_n 0, 1) := by decide +kernel
theorem dX2_readFrom_90 : decode cX2_readFrom 90 = .ok (.aload_n 1, 1) := by decide +kernel
theorem dX2_readFrom_91 : decode cX2_readFrom 91 = .ok (.bipush 9, 2) := by decide +kernel
theorem dX2_readFrom_93 : decode cX2_readFrom 93 = .ok (.bipush 6, 2) := by decide +kernel
theorem dX2_readFrom_95 : decode cX2_readFrom 95 = .ok (.invokevirtual 42, 3) := by decide +kernel
theorem dX2_readFrom_98 : decode cX2_readFrom 98 = .ok (.putfield 46, 3) := by decide +kernel
theorem dX2_readFrom_101 : decode cX2_readFrom 101 = .ok (.aload_n 0, 1) := by decide +kernel
theorem dX2_readFrom_102 : decode cX2_readFrom 102 = .ok (.aload_n 1, 1) := by decide +kernel
theorem dX2_readFrom_103 : decode cX2_readFrom 103 = .ok (.bipush 15, 2) := by decide +kernel
theorem dX2_readFrom_105 : decode cX2_readFrom 105 = .ok (.invokevirtual 30, 3) := by decide +kernel
theorem dX2_readFrom_108 : decode cX2_readFrom 108 = .ok (.putfield 49, 3) := by decide +kernel
theorem dX2_readFrom_111 : decode cX2_readFrom 111 = .ok (.aload_n 0, 1) := by decide +kernel
theorem dX2_readFrom_112 : decode cX2_readFrom 112 = .ok (.aload_n 1, 1) := by decide +kernel
theorem dX2_readFrom_113 : decode cX2_readFrom 113 = .ok (.bipush 16, 2) := by decide +kernel
theorem dX2_readFrom_115 : decode cX2_readFrom 115 = .ok (.invokevirtual 30, 3) := by decide +kernel
theorem dX2_readFrom_118 : decode cX2_readFrom 118 = .ok (.putfield 53, 3) := by decide +kernel
theorem dX2_readFrom_121 : decode cX2_readFrom 121 = .ok (.aload_n 0, 1) := by decide +kernel
theorem dX2_readFrom_122 : decode cX2_readFrom 122 = .ok (.aload_n 1, 1) := by decide +kernel
theorem dX2_readFrom_123 : decode cX2_readFrom 123 = .ok (.bipush 17, 2) := by decide +kernel
theorem dX2_readFrom_125 : decode cX2_readFrom 125 = .ok (.invokevirtual 30, 3) := by decide +kernel
theorem dX2_readFrom_128 : decode cX2_readFrom 128 = .ok (.putfield 56, 3) := by decide +kernel
theorem dX2_readFrom_131 : decode cX2_readFrom 131 = .ok (.aload_n 0, 1) := by decide +kernel
theorem dX2_readFrom_132 : decode cX2_readFrom 132 = .ok (.aload_n 1, 1) := by decide +kernel
theorem dX2_readFrom_133 : decode cX2_readFrom 133 = .ok (.bipush 18, 2) := by decide +kernel
theorem dX2_readFrom_135 : decode cX2_readFrom 135 = .ok (.iconst 2, 1) := by decide +kernel
theorem dX2_readFrom_136 : decode cX2_readFrom 136 = .ok (.invokevirtual 42, 3) := by decide +kernel
theorem dX2_readFrom_139 : decode cX2_readFrom 139 = .ok (.l2i, 1) := by decide +kernel
theorem dX2_readFrom_140 : decode cX2_readFrom 140 = .ok (.putfield 59, 3) := by decide +kernel
theorem dX2_readFrom_143 : decode cX2_readFrom 143 = .ok (.aload_n 0, 1) := by decide +kernel
theorem dX2_readFrom_144 : decode cX2_readFrom 144 = .ok (.aload_n 1, 1) := by decide +kernel
theorem dX2_readFrom_145 : decode cX2_readFrom 145 = .ok (.bipush 20, 2) := by decide +kernel
theorem dX2_readFrom_147 : decode cX2_readFrom 147 = .ok (.invokevirtual 30, 3) := by decide +kernel
theorem dX2_readFrom_150 : decode cX2_readFrom 150 = .ok (.putfield 62, 3) := by decide +kernel
theorem dX2_readFrom_153 : decode cX2_readFrom 153 = .ok (.aload_n 0, 1) := by decide +kernel
theorem dX2_readFrom_154 : decode cX2_readFrom 154 = .ok (.aload_n 1, 1) := by decide +kernel
theorem dX2_readFrom_155 : decode cX2_readFrom 155 = .ok (.bipush 21, 2) := by decide +kernel
theorem dX2_readFrom_157 : decode cX2_readFrom 157 = .ok (.iconst 2, 1) := by decide +kernel
theorem dX2_readFrom_158 : decode cX2_readFrom 158 = .ok (.invokevirtual 42, 3) := by decide +kernel
theorem dX2_readFrom_161 : decode cX2_readFrom 161 = .ok (.l2i, 1) := by decide +kernel
theorem dX2_readFrom_162 : decode cX2_readFrom 162 = .ok (.putfield 65, 3) := by decide +kernel
theorem dX2_readFrom_165 : decode cX2_readFrom 165 = .ok (.aload_n 0, 1) := by decide +kernel
theorem dX2_readFrom_166 : decode cX2_readFrom 166 = .ok (.getfield 16, 3) := by decide +kernel
theorem dX2_readFrom_169 : decode cX2_readFrom 169 = .ok (.iconst 0, 1) := by decide +kernel
theorem dX2_readFrom_170 : decode cX2_readFrom 170 = .ok (.invokevirtual 68, 3) := by decide +kernel
theorem dX2_readFrom_173 : decode cX2_readFrom 173 = .ok (.bipush 24, 2) := by decide +kernel
theorem dX2_readFrom_175 : decode cX2_readFrom 175 = .ok (.istore_n 3, 1) := by decide +kernel
theorem dX2_readFrom_176 : decode cX2_readFrom 176 = .ok (.iload_n 3, 1) := by decide +kernel
theorem dX2_readFrom_177 : decode cX2_readFrom 177 = .ok (.iload_n 2, 1) := by decide +kernel
theorem dX2_readFrom_178 : decode cX2_readFrom 178 = .ok (.if_icmp .ge 21, 3) := by decide +kernel
theorem dX2_readFrom_181 : decode cX2_readFrom 181 = .ok (.aload_n 0, 1) := by decide +kernel
theorem dX2_readFrom_182 : decode cX2_readFrom 182 = .ok (.getfield 16, 3) := by decide +kernel
theorem dX2_readFrom_185 : decode cX2_readFrom 185 = .ok (.aload_n 1, 1) := by decide +kernel
theorem dX2_readFrom_186 : decode cX2_readFrom 186 = .ok (.iload_n 3, 1) := by decide +kernel
theorem dX2_readFrom_187 : decode cX2_readFrom 187 = .ok (.invokevirtual 30, 3) := by decide +kernel
theorem dX2_readFrom_190 : decode cX2_readFrom 190 = .ok (.invokevirtual 71, 3) := by decide +kernel
theorem dX2_readFrom_193 : decode cX2_readFrom 193 = .ok (.iinc 3 1, 3) := by decide +kernel
theorem dX2_readFrom_196 : decode cX2_readFrom 196 = .ok (.goto (-20), 3) := by decide +kernel
theorem dX2_readFrom_199 : decode cX2_readFrom 199 = .ok (.iconst 1, 1) := by decide +kernel
theorem dX2_readFrom_200 : decode cX2_readFrom 200 = .ok (.ireturn, 1) := by decide +kernel
theorem dX2_writeTo_0 : decode cX2_writeTo 0 = .ok (.bipush 24, 2) := by decide +kernel
theorem dX2_writeTo_2 : decode cX2_writeTo 2 = .ok (.aload_n 0, 1) := by decide +kernel
theorem dX2_writeTo_3 : decode cX2_writeTo 3 = .ok (.getfield 16, 3) := by decide +kernel
theorem dX2_writeTo_6 : decode cX2_writeTo 6 = .ok (.invokevirtual 34, 3) := by decide +kernel
theorem dX2_writeTo_9 : decode cX2_writeTo 9 = .ok (.iadd, 1) := by decide +kernel
theorem dX2_writeTo_10 : decode cX2_writeTo 10 = .ok (.istore_n 2, 1) := by decide +kernel
theorem dX2_writeTo_11 : decode cX2_writeTo 11 = .ok (.aload_n 1, 1) := by decide +kernel
theorem dX2_writeTo_12 : decode cX2_writeTo 12 = .ok (.iconst 0, 1) := by decide +kernel
theorem dX2_writeTo_13 : decode cX2_writeTo 13 = .ok (.invokevirtual 68, 3) := by decide +kernel
theorem dX2_writeTo_16 : decode cX2_writeTo 16 = .ok (.aload_n 1, 1) := by decide +kernel
theorem dX2_writeTo_17 : decode cX2_writeTo 17 = .ok (.sipush 204, 3) := by decide +kernel
theorem dX2_writeTo_20 : decode cX2_writeTo 20 = .ok (.invokevirtual 71, 3) := by decide +kernel
theorem dX2_writeTo_23 : decode cX2_writeTo 23 = .ok (.aload_n 1, 1) := by decide +kernel
theorem dX2_writeTo_24 : decode cX2_writeTo 24 = .ok (.iconst 1, 1) := by decide +kernel
theorem dX2_writeTo_25 : decode cX2_writeTo 25 = .ok (.invokevirtual 71, 3) := by decide +kernel
theorem dX2_writeTo_28 : decode cX2_writeTo 28 = .ok (.aload_n 1, 1) := by decide +kernel
theorem dX2_writeTo_29 : decode cX2_writeTo 29 = .ok (.iload_n 2, 1) := by decide +kernel
theorem dX2_writeTo_30 : decode cX2_writeTo 30 = .ok (.invokevirtual 71, 3) := by decide +kernel
theorem dX2_writeTo_33 : decode cX2_writeTo 33 = .ok (.aload_n 1, 1) := by decide +kernel
theorem dX2_writeTo_34 : decode cX2_writeTo 34 = .ok (.aload_n 0, 1) := by decide +kernel
theorem dX2_writeTo_35 : decode cX2_writeTo 35 = .ok (.getfield 20, 3) := by decide +kernel
theorem dX2_writeTo_38 : decode cX2_writeTo 38 = .ok (.bipush 6, 2) := by decide +kernel
theorem dX2_writeTo_40 : decode cX2_writeTo 40 = .ok (.invokevirtual 74, 3) := by decide +kernel
theorem dX2_writeTo_43 : decode cX2_writeTo 43 = .ok (.aload_n 1, 1) := by decide +kernel
theorem dX2_writeTo_44 : decode cX2_writeTo 44 = .ok (.aload_n 0, 1) := by decide +kernel
theorem dX2_writeTo_45 : decode cX2_writeTo 45 = .ok (.getfield 46, 3) := by decide +kernel
theorem dX2_writeTo_48 : decode cX2_writeTo 48 = .ok (.bipush 6, 2) := by decide +kernel
theorem dX2_writeTo_50 : decode cX2_writeTo 50 = .ok (.invokevirtual 74, 3) := by decide +kernel
theorem dX2_writeTo_53 : decode cX2_writeTo 53 = .ok (.aload_n 1, 1) := by decide +kernel
theorem dX2_writeTo_54 : decode cX2_writeTo 54 = .ok (.aload_n 0, 1) := by decide +kernel
theorem dX2_writeTo_55 : decode cX2_writeTo 55 = .ok (.getfield 49, 3) := by decide +kernel
theorem dX2_writeTo_58 : decode cX2_writeTo 58 = .ok (.invokevirtual 71, 3) := by decide +kernel
theorem dX2_writeTo_61 : decode cX2_writeTo 61 = .ok (.aload_n 1, 1) := by decide +kernel
theorem dX2_writeTo_62 : decode cX2_writeTo 62 = .ok (.aload_n 0, 1) := by decide +kernel
theorem dX2_writeTo_63 : decode cX2_writeTo 63 = .ok (.getfield 53, 3) := by decide +kernel
theorem dX2_writeTo_66 : decode cX2_writeTo 66 = .ok (.invokevirtual 71, 3) := by decide +kernel
theorem dX2_writeTo_69 : decode cX2_writeTo 69 = .ok (.aload_n 1, 1) := by decide +kernel
theorem dX2_writeTo_70 : decode cX2_writeTo 70 = .ok (.aload_n 0, 1) := by decide +kernel
theorem dX2_writeTo_71 : decode cX2_writeTo 71 = .ok (.getfield 56, 3) := by decide +kernel
theorem dX2_writeTo_74 : decode cX2_writeTo 74 = .ok (.invokevirtual 71, 3) := by decide +kernel
theorem dX2_writeTo_77 : decode cX2_writeTo 77 = .ok (.aload_n 1, 1) := by decide +kernel
theorem dX2_writeTo_78 : decode cX2_writeTo 78 = .ok (.aload_n 0, 1) := by decide +kernel
theorem dX2_writeTo_79 : decode cX2_writeTo 79 = .ok (.getfield 59, 3) := by decide +kernel
theorem dX2_writeTo_82 : decode cX2_writeTo 82 = .ok (.i2l, 1) := by decide +kernel
theorem dX2_writeTo_83 : decode cX2_writeTo 83 = .ok (.iconst 2, 1) := by decide +kernel
theorem dX2_writeTo_84 : decode cX2_writeTo 84 = .ok (.invokevirtual 74, 3) := by decide +kernel
theorem dX2_writeTo_87 : decode cX2_writeTo 87 = .ok (.aload_n 1, 1) := by decide +kernel
theorem dX2_writeTo_88 : decode cX2_writeTo 88 = .ok (.aload_n 0, 1) := by decide +kernel
theorem dX2_writeTo_89 : decode cX2_writeTo 89 = .ok (.getfield 62, 3) := by decide +kernel
theorem dX2_writeTo_92 : decode cX2_writeTo 92 = .ok (.invokevirtual 71, 3) := by decide +kernel
theorem dX2_writeTo_95 : decode cX2_writeTo 95 = .ok (.aload_n 1, 1) := by decide +kernel
theorem dX2_writeTo_96 : decode cX2_writeTo 96 = .ok (.aload_n 0, 1) := by decide +kernel
theorem dX2_writeTo_97 : decode cX2_writeTo 97 = .ok (.getfield 65, 3) := by decide +kernel
theorem dX2_writeTo_100 : decode cX2_writeTo 100 = .ok (.i2l, 1) := by decide +kernel
theorem dX2_writeTo_101 : decode cX2_writeTo 101 = .ok (.iconst 2, 1) := by decide +kernel
theorem dX2_writeTo_102 : decode cX2_writeTo 102 = .ok (.invokevirtual 74, 3) := by decide +kernel
theorem dX2_writeTo_105 : decode cX2_writeTo 105 = .ok (.aload_n 1, 1) := by decide +kernel
theorem dX2_writeTo_106 : decode cX2_writeTo 106 = .ok (.aload_n 0, 1) := by decide +kernel
theorem dX2_writeTo_107 : decode cX2_writeTo 107 = .ok (.getfield 16, 3) := by decide +kernel
theorem dX2_writeTo_110 : decode cX2_writeTo 110 = .ok (.invokevirtual 34, 3) := by decide +kernel
theorem dX2_writeTo_113 : decode cX2_writeTo 113 = .ok (.invokevirtual 71, 3) := by decide +kernel
theorem dX2_writeTo_116 : decode cX2_writeTo 116 = .ok (.iconst 0, 1) := by decide +kernel
theorem dX2_writeTo_117 : decode cX2_writeTo 117 = .ok (.istore_n 3, 1) := by decide +kernel
theorem dX2_writeTo_118 : decode cX2_writeTo 118 = .ok (.iload_n 3, 1) := by decide +kernel
theorem dX2_writeTo_119 : decode cX2_writeTo 119 = .ok (.aload_n 0, 1) := by decide +kernel
theorem dX2_writeTo_120 : decode cX2_writeTo 120 = .ok (.getfield 16, 3) := by decide +kernel
theorem dX2_writeTo_123 : decode cX2_writeTo 123 = .ok (.invokevirtual 34, 3) := by decide +kernel
theorem dX2_writeTo_126 : decode cX2_writeTo 126 = .ok (.if_icmp .ge 21, 3) := by decide +kernel
theorem dX2_writeTo_129 : decode cX2_writeTo 129 = .ok (.aload_n 1, 1) := by decide +kernel
theorem dX2_writeTo_130 : decode cX2_writeTo 130 = .ok (.aload_n 0, 1) := by decide +kernel
theorem dX2_writeTo_131 : decode cX2_writeTo 131 = .ok (.getfield 16, 3) := by decide +kernel
theorem dX2_writeTo_134 : decode cX2_writeTo 134 = .ok (.iload_n 3, 1) := by decide +kernel
theorem dX2_writeTo_135 : decode cX2_writeTo 135 = .ok (.invokevirtual 30, 3) := by decide +kernel
theorem dX2_writeTo_138 : decode cX2_writeTo 138 = .ok (.invokevirtual 71, 3) := by decide +kernel
theorem dX2_writeTo_141 : decode cX2_writeTo 141 = .ok (.iinc 3 1, 3) := by decide +kernel
theorem dX2_writeTo_144 : decode cX2_writeTo 144 = .ok (.goto (-26), 3) := by decide +kernel
theorem dX2_writeTo_147 : decode cX2_writeTo 147 = .ok (.aload_n 1, 1) := by decide +kernel
theorem dX2_writeTo_148 : decode cX2_writeTo 148 = .ok (.aload_n 1, 1) := by decide +kernel
theorem dX2_writeTo_149 : decode cX2_writeTo 149 = .ok (.iconst 0, 1) := by decide +kernel
theorem dX2_writeTo_150 : decode cX2_writeTo 150 = .ok (.iload_n 2, 1) := by decide +kernel
theorem dX2_writeTo_151 : decode cX2_writeTo 151 = .ok (.invokevirtual 38, 3) := by decide +kernel
theorem dX2_writeTo_154 : decode cX2_writeTo 154 = .ok (.i2l, 1) := by decide +kernel
theorem dX2_writeTo_155 : decode cX2_writeTo 155 = .ok (.iconst 2, 1) := by decide +kernel
theorem dX2_writeTo_156 : decode cX2_writeTo 156 = .ok (.invokevirtual 74, 3) := by decide +kernel
theorem dX2_writeTo_159 : decode cX2_writeTo 159 = .ok (.return_, 1) := by decide +kernel
theorem dX2_beginReply_0 : decode cX2_beginReply 0 = .ok (.aload_n 0, 1) := by decide +kernel
theorem dX2_beginReply_1 : decode cX2_beginReply 1 = .ok (.aload_n 1, 1) := by decide +kernel
theorem dX2_beginReply_2 : decode cX2_beginReply 2 = .ok (.getfield 46, 3) := by decide +kernel
theorem dX2_beginReply_5 : decode cX2_beginReply 5 = .ok (.putfield 20, 3) := by decide +kernel
theorem dX2_beginReply_8 : decode cX2_beginReply 8 = .ok (.aload_n 0, 1) := by decide +kernel
theorem dX2_beginReply_9 : decode cX2_beginReply 9 = .ok (.lload_n 2, 1) := by decide +kernel
theorem dX2_beginReply_10 : decode cX2_beginReply 10 = .ok (.putfield 46, 3) := by decide +kernel
theorem dX2_beginReply_13 : decode cX2_beginReply 13 = .ok (.aload_n 0, 1) := by decide +kernel
theorem dX2_beginReply_14 : decode cX2_beginReply 14 = .ok (.aload_n 1, 1) := by decide +kernel
theorem dX2_beginReply_15 : decode cX2_beginReply 15 = .ok (.getfield 49, 3) := by decide +kernel
theorem dX2_beginReply_18 : decode cX2_beginReply 18 = .ok (.putfield 49, 3) := by decide +kernel
theorem dX2_beginReply_21 : decode cX2_beginReply 21 = .ok (.aload_n 0, 1) := by decide +kernel
theorem dX2_beginReply_22 : decode cX2_beginReply 22 = .ok (.iconst 0, 1) := by decide +kernel
theorem dX2_beginReply_23 : decode cX2_beginReply 23 = .ok (.putfield 53, 3) := by decide +kernel
theorem dX2_beginReply_26 : decode cX2_beginReply 26 = .ok (.aload_n 0, 1) := by decide +kernel
theorem dX2_beginReply_27 : decode cX2_beginReply 27 = .ok (.aload_n 1, 1) := by decide +kernel
theorem dX2_beginReply_28 : decode cX2_beginReply 28 = .ok (.getfield 59, 3) := by decide +kernel
theorem dX2_beginReply_31 : decode cX2_beginReply 31 = .ok (.putfield 59, 3) := by decide +kernel
theorem dX2_beginReply_34 : decode cX2_beginReply 34 = .ok (.aload_n 0, 1) := by decide +kernel
theorem dX2_beginReply_35 : decode cX2_beginReply 35 = .ok (.aload_n 1, 1) := by decide +kernel
theorem dX2_beginReply_36 : decode cX2_beginReply 36 = .ok (.getfield 62, 3) := by decide +kernel
theorem dX2_beginReply_39 : decode cX2_beginReply 39 = .ok (.iconst 1, 1) := by decide +kernel
theorem dX2_beginReply_40 : decode cX2_beginReply 40 = .ok (.iadd, 1) := by decide +kernel
theorem dX2_beginReply_41 : decode cX2_beginReply 41 = .ok (.putfield 62, 3) := by decide +kernel
theorem dX2_beginReply_44 : decode cX2_beginReply 44 = .ok (.aload_n 0, 1) := by decide +kernel
theorem dX2_beginReply_45 : decode cX2_beginReply 45 = .ok (.aload_n 1, 1) := by decide +kernel
theorem dX2_beginReply_46 : decode cX2_beginReply 46 = .ok (.getfield 65, 3) := by decide +kernel
theorem dX2_beginReply_49 : decode cX2_beginReply 49 = .ok (.putfield 65, 3) := by decide +kernel
theorem dX2_beginReply_52 : decode cX2_beginReply 52 = .ok (.aload_n 0, 1) := by decide +kernel
theorem dX2_beginReply_53 : decode cX2_beginReply 53 = .ok (.getfield 16, 3) := by decide +kernel
theorem dX2_beginReply_56 : decode cX2_beginReply 56 = .ok (.iconst 0, 1) := by decide +kernel
theorem dX2_beginReply_57 : decode cX2_beginReply 57 = .ok (.invokevirtual 68, 3) := by decide +kernel
theorem dX2_beginReply_60 : decode cX2_beginReply 60 = .ok (.return_, 1) := by decide +kernel
theorem dX2_refuse_0 : decode cX2_refuse 0 = .ok (.aload_n 0, 1) := by decide +kernel
theorem dX2_refuse_1 : decode cX2_refuse 1 = .ok (.iconst 2, 1) := by decide +kernel
theorem dX2_refuse_2 : decode cX2_refuse 2 = .ok (.putfield 53, 3) := by decide +kernel
theorem dX2_refuse_5 : decode cX2_refuse 5 = .ok (.aload_n 0, 1) := by decide +kernel
theorem dX2_refuse_6 : decode cX2_refuse 6 = .ok (.getfield 16, 3) := by decide +kernel
theorem dX2_refuse_9 : decode cX2_refuse 9 = .ok (.iload_n 1, 1) := by decide +kernel
theorem dX2_refuse_10 : decode cX2_refuse 10 = .ok (.i2l, 1) := by decide +kernel
theorem dX2_refuse_11 : decode cX2_refuse 11 = .ok (.iconst 2, 1) := by decide +kernel
theorem dX2_refuse_12 : decode cX2_refuse 12 = .ok (.invokevirtual 74, 3) := by decide +kernel
theorem dX2_refuse_15 : decode cX2_refuse 15 = .ok (.return_, 1) := by decide +kernel
set_option maxRecDepth 20000 in
theorem ggX2_init_X3_init : GoodIn wsX2_init wsX3_init := goodIn_r _ [10, 11, 2, 3, 12, 13, 14, 15] (by decide +kernel) (by decide +kernel)
set_option maxRecDepth 20000 in
theorem gX2_init_X3_init : GoodIn wsX2_init (wsX3_init) := ggX2_init_X3_init
set_option maxRecDepth 20000 in
theorem ggX2_isCall_X6_restOf : GoodIn wsX2_isCall wsX6_restOf := goodIn_r _ [5, 6] (by decide +kernel) (by decide +kernel)
set_option maxRecDepth 20000 in
theorem gX2_isCall_X6_restOf_n24 : GoodIn wsX2_isCall (wsX6_restOf) := ggX2_isCall_X6_restOf
set_option maxRecDepth 20000 in
theorem ggX2_readFrom_X3_at : GoodIn wsX2_readFrom wsX3_at := goodIn_r _ [14, 15, 16, 48, 49] (by decide +kernel) (by decide +kernel)
set_option maxRecDepth 20000 in
theorem gX2_readFrom_X3_at : GoodIn wsX2_readFrom (wsV RX2 30 RX3 yX3_at wsX3_at) := goodIn_app (goodIn_of _ (by decide +kernel)) ggX2_readFrom_X3_at
set_option maxRecDepth 20000 in
theorem ggX2_readFrom_X3_size : GoodIn wsX2_readFrom wsX3_size := goodIn_r _ [20, 15, 48, 49] (by decide +kernel) (by decide +kernel)
set_option maxRecDepth 20000 in
theorem gX2_readFrom_X3_size : GoodIn wsX2_readFrom (wsV RX2 34 RX3 yX3_size wsX3_size) := goodIn_app (goodIn_of _ (by decide +kernel)) ggX2_readFrom_X3_size
set_option maxRecDepth 20000 in
theorem ggX2_readFrom_X3_sum : GoodIn wsX2_readFrom wsX3_sum := goodIn_r _ [24, 15, 16, 25, 48, 49] (by decide +kernel) (by decide +kernel)
set_option maxRecDepth 20000 in
theorem gX2_readFrom_X3_sum : GoodIn wsX2_readFrom (wsV RX2 38 RX3 yX3_sum wsX3_sum) := goodIn_app (goodIn_of _ (by decide +kernel)) ggX2_readFrom_X3_sum
set_option maxRecDepth 20000 in
theorem ggX2_readFrom_X3_number : GoodIn wsX2_readFrom wsX3_number := goodIn_r _ [29, 30, 11, 12, 13, 14, 15, 16, 48, 49] (by decide +kernel) (by decide +kernel)
set_option maxRecDepth 20000 in
theorem gX2_readFrom_X3_number : GoodIn wsX2_readFrom (wsV RX2 42 RX3 yX3_number wsX3_number) := goodIn_app (goodIn_of _ (by decide +kernel)) ggX2_readFrom_X3_number
set_option maxRecDepth 20000 in
theorem ggX2_readFrom_X3_cut : GoodIn wsX2_readFrom wsX3_cut := goodIn_r _ [34, 15, 48, 49] (by decide +kernel) (by decide +kernel)
set_option maxRecDepth 20000 in
theorem gX2_readFrom_X3_cut : GoodIn wsX2_readFrom (wsV RX2 68 RX3 yX3_cut wsX3_cut) := goodIn_app (goodIn_of _ (by decide +kernel)) ggX2_readFrom_X3_cut
set_option maxRecDepth 20000 in
theorem ggX2_readFrom_X3_put : GoodIn wsX2_readFrom wsX3_put := goodIn_r _ [38, 15, 16, 48, 49] (by decide +kernel) (by decide +kernel)
set_option maxRecDepth 20000 in
theorem gX2_readFrom_X3_put : GoodIn wsX2_readFrom (wsV RX2 71 RX3 yX3_put wsX3_put) := goodIn_app (goodIn_of _ (by decide +kernel)) ggX2_readFrom_X3_put
set_option maxRecDepth 20000 in
theorem ggX2_writeTo_X3_size : GoodIn wsX2_writeTo wsX3_size := goodIn_r _ [14, 15, 47, 48] (by decide +kernel) (by decide +kernel)
set_option maxRecDepth 20000 in
theorem gX2_writeTo_X3_size : GoodIn wsX2_writeTo (wsV RX2 34 RX3 yX3_size wsX3_size) := goodIn_app (goodIn_of _ (by decide +kernel)) ggX2_writeTo_X3_size
set_option maxRecDepth 20000 in
theorem ggX2_writeTo_X3_cut : GoodIn wsX2_writeTo wsX3_cut := goodIn_r _ [19, 15, 47, 48] (by decide +kernel) (by decide +kernel)
set_option maxRecDepth 20000 in
theorem gX2_writeTo_X3_cut : GoodIn wsX2_writeTo (wsV RX2 68 RX3 yX3_cut wsX3_cut) := goodIn_app (goodIn_of _ (by decide +kernel)) ggX2_writeTo_X3_cut
set_option maxRecDepth 20000 in
theorem ggX2_writeTo_X3_put : GoodIn wsX2_writeTo wsX3_put := goodIn_r _ [23, 15, 24, 47, 48] (by decide +kernel) (by decide +kernel)
set_option maxRecDepth 20000 in
theorem gX2_writeTo_X3_put : GoodIn wsX2_writeTo (wsV RX2 71 RX3 yX3_put wsX3_put) := goodIn_app (goodIn_of _ (by decide +kernel)) ggX2_writeTo_X3_put
set_option maxRecDepth 20000 in
theorem ggX2_writeTo_X3_putNumber : GoodIn wsX2_writeTo wsX3_putNumber := goodIn_r _ [28, 15, 24, 47, 48] (by decide +kernel) (by decide +kernel)
set_option maxRecDepth 20000 in
theorem gX2_writeTo_X3_putNumber : GoodIn wsX2_writeTo (wsV RX2 74 RX3 yX3_putNumber wsX3_putNumber) := goodIn_app (goodIn_of _ (by decide +kernel)) ggX2_writeTo_X3_putNumber
set_option maxRecDepth 20000 in
theorem ggX2_writeTo_X3_at : GoodIn wsX2_writeTo wsX3_at := goodIn_r _ [32, 15, 24, 47, 48] (by decide +kernel) (by decide +kernel)
set_option maxRecDepth 20000 in
theorem gX2_writeTo_X3_at : GoodIn wsX2_writeTo (wsV RX2 30 RX3 yX3_at wsX3_at) := goodIn_app (goodIn_of _ (by decide +kernel)) ggX2_writeTo_X3_at
set_option maxRecDepth 20000 in
theorem ggX2_writeTo_X3_sum : GoodIn wsX2_writeTo wsX3_sum := goodIn_r _ [36, 15, 24, 37, 47, 48] (by decide +kernel) (by decide +kernel)
set_option maxRecDepth 20000 in
theorem gX2_writeTo_X3_sum : GoodIn wsX2_writeTo (wsV RX2 38 RX3 yX3_sum wsX3_sum) := goodIn_app (goodIn_of _ (by decide +kernel)) ggX2_writeTo_X3_sum
set_option maxRecDepth 20000 in
theorem ggX2_beginReply_X3_cut : GoodIn wsX2_beginReply wsX3_cut := goodIn_r _ [13, 14, 24, 25] (by decide +kernel) (by decide +kernel)
set_option maxRecDepth 20000 in
theorem gX2_beginReply_X3_cut : GoodIn wsX2_beginReply (wsV RX2 68 RX3 yX3_cut wsX3_cut) := goodIn_app (goodIn_of _ (by decide +kernel)) ggX2_beginReply_X3_cut
set_option maxRecDepth 20000 in
theorem ggX2_refuse_X3_putNumber : GoodIn wsX2_refuse wsX3_putNumber := goodIn_r _ [7, 8, 9, 19, 20] (by decide +kernel) (by decide +kernel)
set_option maxRecDepth 20000 in
theorem gX2_refuse_X3_putNumber : GoodIn wsX2_refuse (wsV RX2 74 RX3 yX3_putNumber wsX3_putNumber) := goodIn_app (goodIn_of _ (by decide +kernel)) ggX2_refuse_X3_putNumber
theorem dX3_init_0 : decode cX3_init 0 = .ok (.aload_n 0, 1) := by decide +kernel
theorem dX3_init_1 : decode cX3_init 1 = .ok (.invokespecial 1, 3) := by decide +kernel
theorem dX3_init_4 : decode cX3_init 4 = .ok (.aload_n 0, 1) := by decide +kernel
theorem dX3_init_5 : decode cX3_init 5 = .ok (.iload_n 1, 1) := by decide +kernel
theorem dX3_init_6 : decode cX3_init 6 = .ok (.ifCond .ge 7, 3) := by decide +kernel
theorem dX3_init_9 : decode cX3_init 9 = .ok (.iconst 0, 1) := by decide +kernel
theorem dX3_init_10 : decode cX3_init 10 = .ok (.goto 4, 3) := by decide +kernel
theorem dX3_init_13 : decode cX3_init 13 = .ok (.iload_n 1, 1) := by decide +kernel
theorem dX3_init_14 : decode cX3_init 14 = .ok (.newarray .int, 2) := by decide +kernel
theorem dX3_init_16 : decode cX3_init 16 = .ok (.putfield 7, 3) := by decide +kernel
theorem dX3_init_19 : decode cX3_init 19 = .ok (.return_, 1) := by decide +kernel
theorem dX3_size_0 : decode cX3_size 0 = .ok (.aload_n 0, 1) := by decide +kernel
theorem dX3_size_1 : decode cX3_size 1 = .ok (.getfield 13, 3) := by decide +kernel
theorem dX3_size_4 : decode cX3_size 4 = .ok (.ireturn, 1) := by decide +kernel
theorem dX3_at_0 : decode cX3_at 0 = .ok (.iload_n 1, 1) := by decide +kernel
theorem dX3_at_1 : decode cX3_at 1 = .ok (.ifCond .lt 20, 3) := by decide +kernel
theorem dX3_at_4 : decode cX3_at 4 = .ok (.iload_n 1, 1) := by decide +kernel
theorem dX3_at_5 : decode cX3_at 5 = .ok (.aload_n 0, 1) := by decide +kernel
theorem dX3_at_6 : decode cX3_at 6 = .ok (.getfield 13, 3) := by decide +kernel
theorem dX3_at_9 : decode cX3_at 9 = .ok (.if_icmp .ge 12, 3) := by decide +kernel
theorem dX3_at_12 : decode cX3_at 12 = .ok (.aload_n 0, 1) := by decide +kernel
theorem dX3_at_13 : decode cX3_at 13 = .ok (.getfield 7, 3) := by decide +kernel
theorem dX3_at_16 : decode cX3_at 16 = .ok (.iload_n 1, 1) := by decide +kernel
theorem dX3_at_17 : decode cX3_at 17 = .ok (.iaload, 1) := by decide +kernel
theorem dX3_at_18 : decode cX3_at 18 = .ok (.goto 4, 3) := by decide +kernel
theorem dX3_at_21 : decode cX3_at 21 = .ok (.iconst 0, 1) := by decide +kernel
theorem dX3_at_22 : decode cX3_at 22 = .ok (.ireturn, 1) := by decide +kernel
theorem dX3_number_0 : decode cX3_number 0 = .ok (.lconst 0, 1) := by decide +kernel
theorem dX3_number_1 : decode cX3_number 1 = .ok (.lstore_n 3, 1) := by decide +kernel
theorem dX3_number_2 : decode cX3_number 2 = .ok (.iload_n 1, 1) := by decide +kernel
theorem dX3_number_3 : decode cX3_number 3 = .ok (.istore 5, 2) := by decide +kernel
theorem dX3_number_5 : decode cX3_number 5 = .ok (.iload 5, 2) := by decide +kernel
theorem dX3_number_7 : decode cX3_number 7 = .ok (.iload_n 1, 1) := by decide +kernel
theorem dX3_number_8 : decode cX3_number 8 = .ok (.iload_n 2, 1) := by decide +kernel
theorem dX3_number_9 : decode cX3_number 9 = .ok (.iadd, 1) := by decide +kernel
theorem dX3_number_10 : decode cX3_number 10 = .ok (.if_icmp .ge 22, 3) := by decide +kernel
theorem dX3_number_13 : decode cX3_number 13 = .ok (.lload_n 3, 1) := by decide +kernel
theorem dX3_number_14 : decode cX3_number 14 = .ok (.bipush 8, 2) := by decide +kernel
theorem dX3_number_16 : decode cX3_number 16 = .ok (.lshl, 1) := by decide +kernel
theorem dX3_number_17 : decode cX3_number 17 = .ok (.aload_n 0, 1) := by decide +kernel
theorem dX3_number_18 : decode cX3_number 18 = .ok (.iload 5, 2) := by decide +kernel
theorem dX3_number_20 : decode cX3_number 20 = .ok (.invokevirtual 17, 3) := by decide +kernel
theorem dX3_number_23 : decode cX3_number 23 = .ok (.i2l, 1) := by decide +kernel
theorem dX3_number_24 : decode cX3_number 24 = .ok (.lor, 1) := by decide +kernel
theorem dX3_number_25 : decode cX3_number 25 = .ok (.lstore_n 3, 1) := by decide +kernel
theorem dX3_number_26 : decode cX3_number 26 = .ok (.iinc 5 1, 3) := by decide +kernel
theorem dX3_number_29 : decode cX3_number 29 = .ok (.goto (-24), 3) := by decide +kernel
theorem dX3_number_32 : decode cX3_number 32 = .ok (.lload_n 3, 1) := by decide +kernel
theorem dX3_number_33 : decode cX3_number 33 = .ok (.lreturn, 1) := by decide +kernel
theorem dX3_sum_0 : decode cX3_sum 0 = .ok (.iconst 0, 1) := by decide +kernel
theorem dX3_sum_1 : decode cX3_sum 1 = .ok (.istore_n 3, 1) := by decide +kernel
theorem dX3_sum_2 : decode cX3_sum 2 = .ok (.iload_n 1, 1) := by decide +kernel
theorem dX3_sum_3 : decode cX3_sum 3 = .ok (.istore 4, 2) := by decide +kernel
theorem dX3_sum_5 : decode cX3_sum 5 = .ok (.iload 4, 2) := by decide +kernel
theorem dX3_sum_7 : decode cX3_sum 7 = .ok (.ifCond .lt 34, 3) := by decide +kernel
theorem dX3_sum_10 : decode cX3_sum 10 = .ok (.iload 4, 2) := by decide +kernel
theorem dX3_sum_12 : decode cX3_sum 12 = .ok (.iload_n 2, 1) := by decide +kernel
theorem dX3_sum_13 : decode cX3_sum 13 = .ok (.if_icmp .ge 28, 3) := by decide +kernel
theorem dX3_sum_16 : decode cX3_sum 16 = .ok (.iload 4, 2) := by decide +kernel
theorem dX3_sum_18 : decode cX3_sum 18 = .ok (.aload_n 0, 1) := by decide +kernel
theorem dX3_sum_19 : decode cX3_sum 19 = .ok (.getfield 13, 3) := by decide +kernel
theorem dX3_sum_22 : decode cX3_sum 22 = .ok (.if_icmp .ge 19, 3) := by decide +kernel
theorem dX3_sum_25 : decode cX3_sum 25 = .ok (.iload_n 3, 1) := by decide +kernel
theorem dX3_sum_26 : decode cX3_sum 26 = .ok (.aload_n 0, 1) := by decide +kernel
theorem dX3_sum_27 : decode cX3_sum 27 = .ok (.getfield 7, 3) := by decide +kernel
theorem dX3_sum_30 : decode cX3_sum 30 = .ok (.iload 4, 2) := by decide +kernel
theorem dX3_sum_32 : decode cX3_sum 32 = .ok (.iaload, 1) := by decide +kernel
theorem dX3_sum_33 : decode cX3_sum 33 = .ok (.iadd, 1) := by decide +kernel
theorem dX3_sum_34 : decode cX3_sum 34 = .ok (.istore_n 3, 1) := by decide +kernel
theorem dX3_sum_35 : decode cX3_sum 35 = .ok (.iinc 4 1, 3) := by decide +kernel
theorem dX3_sum_38 : decode cX3_sum 38 = .ok (.goto (-33), 3) := by decide +kernel
theorem dX3_sum_41 : decode cX3_sum 41 = .ok (.iload_n 3, 1) := by decide +kernel
theorem dX3_sum_42 : decode cX3_sum 42 = .ok (.ldc 21, 2) := by decide +kernel
theorem dX3_sum_44 : decode cX3_sum 44 = .ok (.iand, 1) := by decide +kernel
theorem dX3_sum_45 : decode cX3_sum 45 = .ok (.ireturn, 1) := by decide +kernel
theorem dX3_cut_0 : decode cX3_cut 0 = .ok (.iload_n 1, 1) := by decide +kernel
theorem dX3_cut_1 : decode cX3_cut 1 = .ok (.ifCond .lt 16, 3) := by decide +kernel
theorem dX3_cut_4 : decode cX3_cut 4 = .ok (.iload_n 1, 1) := by decide +kernel
theorem dX3_cut_5 : decode cX3_cut 5 = .ok (.aload_n 0, 1) := by decide +kernel
theorem dX3_cut_6 : decode cX3_cut 6 = .ok (.getfield 13, 3) := by decide +kernel
theorem dX3_cut_9 : decode cX3_cut 9 = .ok (.if_icmp .ge 8, 3) := by decide +kernel
theorem dX3_cut_12 : decode cX3_cut 12 = .ok (.aload_n 0, 1) := by decide +kernel
theorem dX3_cut_13 : decode cX3_cut 13 = .ok (.iload_n 1, 1) := by decide +kernel
theorem dX3_cut_14 : decode cX3_cut 14 = .ok (.putfield 13, 3) := by decide +kernel
theorem dX3_cut_17 : decode cX3_cut 17 = .ok (.return_, 1) := by decide +kernel
theorem dX3_put_0 : decode cX3_put 0 = .ok (.aload_n 0, 1) := by decide +kernel
theorem dX3_put_1 : decode cX3_put 1 = .ok (.getfield 13, 3) := by decide +kernel
theorem dX3_put_4 : decode cX3_put 4 = .ok (.aload_n 0, 1) := by decide +kernel
theorem dX3_put_5 : decode cX3_put 5 = .ok (.getfield 7, 3) := by decide +kernel
theorem dX3_put_8 : decode cX3_put 8 = .ok (.arraylength, 1) := by decide +kernel
theorem dX3_put_9 : decode cX3_put 9 = .ok (.if_icmp .ge 27, 3) := by decide +kernel
theorem dX3_put_12 : decode cX3_put 12 = .ok (.aload_n 0, 1) := by decide +kernel
theorem dX3_put_13 : decode cX3_put 13 = .ok (.getfield 7, 3) := by decide +kernel
theorem dX3_put_16 : decode cX3_put 16 = .ok (.aload_n 0, 1) := by decide +kernel
theorem dX3_put_17 : decode cX3_put 17 = .ok (.getfield 13, 3) := by decide +kernel
theorem dX3_put_20 : decode cX3_put 20 = .ok (.iload_n 1, 1) := by decide +kernel
theorem dX3_put_21 : decode cX3_put 21 = .ok (.sipush 255, 3) := by decide +kernel
theorem dX3_put_24 : decode cX3_put 24 = .ok (.iand, 1) := by decide +kernel
theorem dX3_put_25 : decode cX3_put 25 = .ok (.iastore, 1) := by decide +kernel
theorem dX3_put_26 : decode cX3_put 26 = .ok (.aload_n 0, 1) := by decide +kernel
theorem dX3_put_27 : decode cX3_put 27 = .ok (.dup, 1) := by decide +kernel
theorem dX3_put_28 : decode cX3_put 28 = .ok (.getfield 13, 3) := by decide +kernel
theorem dX3_put_31 : decode cX3_put 31 = .ok (.iconst 1, 1) := by decide +kernel
theorem dX3_put_32 : decode cX3_put 32 = .ok (.iadd, 1) := by decide +kernel
theorem dX3_put_33 : decode cX3_put 33 = .ok (.putfield 13, 3) := by decide +kernel
theorem dX3_put_36 : decode cX3_put 36 = .ok (.return_, 1) := by decide +kernel
theorem dX3_putNumber_0 : decode cX3_putNumber 0 = .ok (.iload_n 3, 1) := by decide +kernel
theorem dX3_putNumber_1 : decode cX3_putNumber 1 = .ok (.iconst 1, 1) := by decide +kernel
theorem dX3_putNumber_2 : decode cX3_putNumber 2 = .ok (.isub, 1) := by decide +kernel
theorem dX3_putNumber_3 : decode cX3_putNumber 3 = .ok (.istore 4, 2) := by decide +kernel
theorem dX3_putNumber_5 : decode cX3_putNumber 5 = .ok (.iload 4, 2) := by decide +kernel
theorem dX3_putNumber_7 : decode cX3_putNumber 7 = .ok (.ifCond .lt 52, 3) := by decide +kernel
theorem dX3_putNumber_10 : decode cX3_putNumber 10 = .ok (.aload_n 0, 1) := by decide +kernel
theorem dX3_putNumber_11 : decode cX3_putNumber 11 = .ok (.getfield 13, 3) := by decide +kernel
theorem dX3_putNumber_14 : decode cX3_putNumber 14 = .ok (.aload_n 0, 1) := by decide +kernel
theorem dX3_putNumber_15 : decode cX3_putNumber 15 = .ok (.getfield 7, 3) := by decide +kernel
theorem dX3_putNumber_18 : decode cX3_putNumber 18 = .ok (.arraylength, 1) := by decide +kernel
theorem dX3_putNumber_19 : decode cX3_putNumber 19 = .ok (.if_icmp .ge 40, 3) := by decide +kernel
theorem dX3_putNumber_22 : decode cX3_putNumber 22 = .ok (.aload_n 0, 1) := by decide +kernel
theorem dX3_putNumber_23 : decode cX3_putNumber 23 = .ok (.getfield 7, 3) := by decide +kernel
theorem dX3_putNumber_26 : decode cX3_putNumber 26 = .ok (.aload_n 0, 1) := by decide +kernel
theorem dX3_putNumber_27 : decode cX3_putNumber 27 = .ok (.getfield 13, 3) := by decide +kernel
theorem dX3_putNumber_30 : decode cX3_putNumber 30 = .ok (.lload_n 1, 1) := by decide +kernel
theorem dX3_putNumber_31 : decode cX3_putNumber 31 = .ok (.bipush 8, 2) := by decide +kernel
theorem dX3_putNumber_33 : decode cX3_putNumber 33 = .ok (.iload 4, 2) := by decide +kernel
theorem dX3_putNumber_35 : decode cX3_putNumber 35 = .ok (.imul, 1) := by decide +kernel
theorem dX3_putNumber_36 : decode cX3_putNumber 36 = .ok (.lushr, 1) := by decide +kernel
theorem dX3_putNumber_37 : decode cX3_putNumber 37 = .ok (.l2i, 1) := by decide +kernel
theorem dX3_putNumber_38 : decode cX3_putNumber 38 = .ok (.sipush 255, 3) := by decide +kernel
theorem dX3_putNumber_41 : decode cX3_putNumber 41 = .ok (.iand, 1) := by decide +kernel
theorem dX3_putNumber_42 : decode cX3_putNumber 42 = .ok (.iastore, 1) := by decide +kernel
theorem dX3_putNumber_43 : decode cX3_putNumber 43 = .ok (.aload_n 0, 1) := by decide +kernel
theorem dX3_putNumber_44 : decode cX3_putNumber 44 = .ok (.dup, 1) := by decide +kernel
theorem dX3_putNumber_45 : decode cX3_putNumber 45 = .ok (.getfield 13, 3) := by decide +kernel
theorem dX3_putNumber_48 : decode cX3_putNumber 48 = .ok (.iconst 1, 1) := by decide +kernel
theorem dX3_putNumber_49 : decode cX3_putNumber 49 = .ok (.iadd, 1) := by decide +kernel
theorem dX3_putNumber_50 : decode cX3_putNumber 50 = .ok (.putfield 13, 3) := by decide +kernel
theorem dX3_putNumber_53 : decode cX3_putNumber 53 = .ok (.iinc 4 (-1), 3) := by decide +kernel
theorem dX3_putNumber_56 : decode cX3_putNumber 56 = .ok (.goto (-51), 3) := by decide +kernel
theorem dX3_putNumber_59 : decode cX3_putNumber 59 = .ok (.return_, 1) := by decide +kernel
theorem dX3_copyFrom_0 : decode cX3_copyFrom 0 = .ok (.aload_n 0, 1) := by decide +kernel
theorem dX3_copyFrom_1 : decode cX3_copyFrom 1 = .ok (.iconst 0, 1) := by decide +kernel
theorem dX3_copyFrom_2 : decode cX3_copyFrom 2 = .ok (.putfield 13, 3) := by decide +kernel
theorem dX3_copyFrom_5 : decode cX3_copyFrom 5 = .ok (.iconst 0, 1) := by decide +kernel
theorem dX3_copyFrom_6 : decode cX3_copyFrom 6 = .ok (.istore_n 2, 1) := by decide +kernel
theorem dX3_copyFrom_7 : decode cX3_copyFrom 7 = .ok (.iload_n 2, 1) := by decide +kernel
theorem dX3_copyFrom_8 : decode cX3_copyFrom 8 = .ok (.aload_n 1, 1) := by decide +kernel
theorem dX3_copyFrom_9 : decode cX3_copyFrom 9 = .ok (.getfield 13, 3) := by decide +kernel
theorem dX3_copyFrom_12 : decode cX3_copyFrom 12 = .ok (.if_icmp .ge 40, 3) := by decide +kernel
theorem dX3_copyFrom_15 : decode cX3_copyFrom 15 = .ok (.iload_n 2, 1) := by decide +kernel
theorem dX3_copyFrom_16 : decode cX3_copyFrom 16 = .ok (.aload_n 0, 1) := by decide +kernel
theorem dX3_copyFrom_17 : decode cX3_copyFrom 17 = .ok (.getfield 7, 3) := by decide +kernel
theorem dX3_copyFrom_20 : decode cX3_copyFrom 20 = .ok (.arraylength, 1) := by decide +kernel
theorem dX3_copyFrom_21 : decode cX3_copyFrom 21 = .ok (.if_icmp .ge 31, 3) := by decide +kernel
theorem dX3_copyFrom_24 : decode cX3_copyFrom 24 = .ok (.aload_n 0, 1) := by decide +kernel
theorem dX3_copyFrom_25 : decode cX3_copyFrom 25 = .ok (.getfield 7, 3) := by decide +kernel
theorem dX3_copyFrom_28 : decode cX3_copyFrom 28 = .ok (.iload_n 2, 1) := by decide +kernel
theorem dX3_copyFrom_29 : decode cX3_copyFrom 29 = .ok (.aload_n 1, 1) := by decide +kernel
theorem dX3_copyFrom_30 : decode cX3_copyFrom 30 = .ok (.getfield 7, 3) := by decide +kernel
theorem dX3_copyFrom_33 : decode cX3_copyFrom 33 = .ok (.iload_n 2, 1) := by decide +kernel
theorem dX3_copyFrom_34 : decode cX3_copyFrom 34 = .ok (.iaload, 1) := by decide +kernel
theorem dX3_copyFrom_35 : decode cX3_copyFrom 35 = .ok (.iastore, 1) := by decide +kernel
theorem dX3_copyFrom_36 : decode cX3_copyFrom 36 = .ok (.aload_n 0, 1) := by decide +kernel
theorem dX3_copyFrom_37 : decode cX3_copyFrom 37 = .ok (.dup, 1) := by decide +kernel
theorem dX3_copyFrom_38 : decode cX3_copyFrom 38 = .ok (.getfield 13, 3) := by decide +kernel
theorem dX3_copyFrom_41 : decode cX3_copyFrom 41 = .ok (.iconst 1, 1) := by decide +kernel
theorem dX3_copyFrom_42 : decode cX3_copyFrom 42 = .ok (.iadd, 1) := by decide +kernel
theorem dX3_copyFrom_43 : decode cX3_copyFrom 43 = .ok (.putfield 13, 3) := by decide +kernel
theorem dX3_copyFrom_46 : decode cX3_copyFrom 46 = .ok (.iinc 2 1, 3) := by decide +kernel
theorem dX3_copyFrom_49 : decode cX3_copyFrom 49 = .ok (.goto (-42), 3) := by decide +kernel
theorem dX3_copyFrom_52 : decode cX3_copyFrom 52 = .ok (.return_, 1) := by decide +kernel
theorem dX3_join_0 : decode cX3_join 0 = .ok (.iconst 0, 1) := by decide +kernel
theorem dX3_join_1 : decode cX3_join 1 = .ok (.istore_n 2, 1) := by decide +kernel
theorem dX3_join_2 : decode cX3_join 2 = .ok (.iload_n 2, 1) := by decide +kernel
theorem dX3_join_3 : decode cX3_join 3 = .ok (.aload_n 1, 1) := by decide +kernel
theorem dX3_join_4 : decode cX3_join 4 = .ok (.getfield 13, 3) := by decide +kernel
theorem dX3_join_7 : decode cX3_join 7 = .ok (.if_icmp .ge 66, 3) := by decide +kernel
theorem dX3_join_10 : decode cX3_join 10 = .ok (.iload_n 2, 1) := by decide +kernel
theorem dX3_join_11 : decode cX3_join 11 = .ok (.aload_n 0, 1) := by decide +kernel
theorem dX3_join_12 : decode cX3_join 12 = .ok (.getfield 7, 3) := by decide +kernel
theorem dX3_join_15 : decode cX3_join 15 = .ok (.arraylength, 1) := by decide +kernel
theorem dX3_join_16 : decode cX3_join 16 = .ok (.if_icmp .ge 57, 3) := by decide +kernel
theorem dX3_join_19 : decode cX3_join 19 = .ok (.iload_n 2, 1) := by decide +kernel
theorem dX3_join_20 : decode cX3_join 20 = .ok (.aload_n 0, 1) := by decide +kernel
theorem dX3_join_21 : decode cX3_join 21 = .ok (.getfield 13, 3) := by decide +kernel
theorem dX3_join_24 : decode cX3_join 24 = .ok (.if_icmp .ge 21, 3) := by decide +kernel
theorem dX3_join_27 : decode cX3_join 27 = .ok (.aload_n 0, 1) := by decide +kernel
theorem dX3_join_28 : decode cX3_join 28 = .ok (.getfield 7, 3) := by decide +kernel
theorem dX3_join_31 : decode cX3_join 31 = .ok (.iload_n 2, 1) := by decide +kernel
theorem dX3_join_32 : decode cX3_join 32 = .ok (.dup2, 1) := by decide +kernel
theorem dX3_join_33 : decode cX3_join 33 = .ok (.iaload, 1) := by decide +kernel
theorem dX3_join_34 : decode cX3_join 34 = .ok (.aload_n 1, 1) := by decide +kernel
theorem dX3_join_35 : decode cX3_join 35 = .ok (.getfield 7, 3) := by decide +kernel
theorem dX3_join_38 : decode cX3_join 38 = .ok (.iload_n 2, 1) := by decide +kernel
theorem dX3_join_39 : decode cX3_join 39 = .ok (.iaload, 1) := by decide +kernel
theorem dX3_join_40 : decode cX3_join 40 = .ok (.ior, 1) := by decide +kernel
theorem dX3_join_41 : decode cX3_join 41 = .ok (.iastore, 1) := by decide +kernel
theorem dX3_join_42 : decode cX3_join 42 = .ok (.goto 25, 3) := by decide +kernel
theorem dX3_join_45 : decode cX3_join 45 = .ok (.aload_n 0, 1) := by decide +kernel
theorem dX3_join_46 : decode cX3_join 46 = .ok (.getfield 7, 3) := by decide +kernel
theorem dX3_join_49 : decode cX3_join 49 = .ok (.iload_n 2, 1) := by decide +kernel
theorem dX3_join_50 : decode cX3_join 50 = .ok (.aload_n 1, 1) := by decide +kernel
theorem dX3_join_51 : decode cX3_join 51 = .ok (.getfield 7, 3) := by decide +kernel
theorem dX3_join_54 : decode cX3_join 54 = .ok (.iload_n 2, 1) := by decide +kernel
theorem dX3_join_55 : decode cX3_join 55 = .ok (.iaload, 1) := by decide +kernel
theorem dX3_join_56 : decode cX3_join 56 = .ok (.iastore, 1) := by decide +kernel
theorem dX3_join_57 : decode cX3_join 57 = .ok (.aload_n 0, 1) := by decide +kernel
theorem dX3_join_58 : decode cX3_join 58 = .ok (.dup, 1) := by decide +kernel
theorem dX3_join_59 : decode cX3_join 59 = .ok (.getfield 13, 3) := by decide +kernel
theorem dX3_join_62 : decode cX3_join 62 = .ok (.iconst 1, 1) := by decide +kernel
theorem dX3_join_63 : decode cX3_join 63 = .ok (.iadd, 1) := by decide +kernel
theorem dX3_join_64 : decode cX3_join 64 = .ok (.putfield 13, 3) := by decide +kernel
theorem dX3_join_67 : decode cX3_join 67 = .ok (.iinc 2 1, 3) := by decide +kernel
theorem dX3_join_70 : decode cX3_join 70 = .ok (.goto (-68), 3) := by decide +kernel
theorem dX3_join_73 : decode cX3_join 73 = .ok (.return_, 1) := by decide +kernel
theorem dX3_flip_0 : decode cX3_flip 0 = .ok (.iload_n 1, 1) := by decide +kernel
theorem dX3_flip_1 : decode cX3_flip 1 = .ok (.ifCond .lt 25, 3) := by decide +kernel
theorem dX3_flip_4 : decode cX3_flip 4 = .ok (.iload_n 1, 1) := by decide +kernel
theorem dX3_flip_5 : decode cX3_flip 5 = .ok (.aload_n 0, 1) := by decide +kernel
theorem dX3_flip_6 : decode cX3_flip 6 = .ok (.getfield 13, 3) := by decide +kernel
theorem dX3_flip_9 : decode cX3_flip 9 = .ok (.if_icmp .ge 17, 3) := by decide +kernel
theorem dX3_flip_12 : decode cX3_flip 12 = .ok (.aload_n 0, 1) := by decide +kernel
theorem dX3_flip_13 : decode cX3_flip 13 = .ok (.getfield 7, 3) := by decide +kernel
theorem dX3_flip_16 : decode cX3_flip 16 = .ok (.iload_n 1, 1) := by decide +kernel
theorem dX3_flip_17 : decode cX3_flip 17 = .ok (.dup2, 1) := by decide +kernel
theorem dX3_flip_18 : decode cX3_flip 18 = .ok (.iaload, 1) := by decide +kernel
theorem dX3_flip_19 : decode cX3_flip 19 = .ok (.iload_n 2, 1) := by decide +kernel
theorem dX3_flip_20 : decode cX3_flip 20 = .ok (.sipush 255, 3) := by decide +kernel
theorem dX3_flip_23 : decode cX3_flip 23 = .ok (.iand, 1) := by decide +kernel
theorem dX3_flip_24 : decode cX3_flip 24 = .ok (.ixor, 1) := by decide +kernel
theorem dX3_flip_25 : decode cX3_flip 25 = .ok (.iastore, 1) := by decide +kernel
theorem dX3_flip_26 : decode cX3_flip 26 = .ok (.return_, 1) := by decide +kernel
set_option maxRecDepth 20000 in
theorem ggX3_number_X3_at : GoodIn wsX3_number wsX3_at := goodIn_r _ [5, 6, 7, 8, 9] (by decide +kernel) (by decide +kernel)
set_option maxRecDepth 20000 in
theorem gX3_number_X3_at : GoodIn wsX3_number (wsV RX3 17 RX3 yX3_at wsX3_at) := goodIn_app (goodIn_of _ (by decide +kernel)) ggX3_number_X3_at
theorem dX4_init_0 : decode cX4_init 0 = .ok (.aload_n 0, 1) := by decide +kernel
theorem dX4_init_1 : decode cX4_init 1 = .ok (.invokespecial 3, 3) := by decide +kernel
theorem dX4_init_4 : decode cX4_init 4 = .ok (.aload_n 0, 1) := by decide +kernel
theorem dX4_init_5 : decode cX4_init 5 = .ok (.bipush 64, 2) := by decide +kernel
theorem dX4_init_7 : decode cX4_init 7 = .ok (.newarray .long, 2) := by decide +kernel
theorem dX4_init_9 : decode cX4_init 9 = .ok (.putfield 11, 3) := by decide +kernel
theorem dX4_init_12 : decode cX4_init 12 = .ok (.aload_n 0, 1) := by decide +kernel
theorem dX4_init_13 : decode cX4_init 13 = .ok (.bipush 64, 2) := by decide +kernel
theorem dX4_init_15 : decode cX4_init 15 = .ok (.newarray .long, 2) := by decide +kernel
theorem dX4_init_17 : decode cX4_init 17 = .ok (.putfield 15, 3) := by decide +kernel
theorem dX4_init_20 : decode cX4_init 20 = .ok (.aload_n 0, 1) := by decide +kernel
theorem dX4_init_21 : decode cX4_init 21 = .ok (.bipush 24, 2) := by decide +kernel
theorem dX4_init_23 : decode cX4_init 23 = .ok (.newarray .long, 2) := by decide +kernel
theorem dX4_init_25 : decode cX4_init 25 = .ok (.putfield 18, 3) := by decide +kernel
theorem dX4_init_28 : decode cX4_init 28 = .ok (.return_, 1) := by decide +kernel
theorem dX4_begin_0 : decode cX4_begin 0 = .ok (.aload_n 0, 1) := by decide +kernel
theorem dX4_begin_1 : decode cX4_begin 1 = .ok (.iconst 1, 1) := by decide +kernel
theorem dX4_begin_2 : decode cX4_begin 2 = .ok (.putfield 21, 3) := by decide +kernel
theorem dX4_begin_5 : decode cX4_begin 5 = .ok (.aload_n 0, 1) := by decide +kernel
theorem dX4_begin_6 : decode cX4_begin 6 = .ok (.iconst 0, 1) := by decide +kernel
theorem dX4_begin_7 : decode cX4_begin 7 = .ok (.putfield 25, 3) := by decide +kernel
theorem dX4_begin_10 : decode cX4_begin 10 = .ok (.aload_n 0, 1) := by decide +kernel
theorem dX4_begin_11 : decode cX4_begin 11 = .ok (.iconst 0, 1) := by decide +kernel
theorem dX4_begin_12 : decode cX4_begin 12 = .ok (.putfield 29, 3) := by decide +kernel
theorem dX4_begin_15 : decode cX4_begin 15 = .ok (.aload_n 0, 1) := by decide +kernel
theorem dX4_begin_16 : decode cX4_begin 16 = .ok (.iconst 0, 1) := by decide +kernel
theorem dX4_begin_17 : decode cX4_begin 17 = .ok (.putfield 32, 3) := by decide +kernel
theorem dX4_begin_20 : decode cX4_begin 20 = .ok (.aload_n 0, 1) := by decide +kernel
theorem dX4_begin_21 : decode cX4_begin 21 = .ok (.lconst 0, 1) := by decide +kernel
theorem dX4_begin_22 : decode cX4_begin 22 = .ok (.ldc2_w 35, 3) := by decide +kernel
theorem dX4_begin_25 : decode cX4_begin 25 = .ok (.invokevirtual 37, 3) := by decide +kernel
theorem dX4_begin_28 : decode cX4_begin 28 = .ok (.return_, 1) := by decide +kernel
theorem dX4_latestLow_0 : decode cX4_latestLow 0 = .ok (.aload_n 0, 1) := by decide +kernel
theorem dX4_latestLow_1 : decode cX4_latestLow 1 = .ok (.getfield 25, 3) := by decide +kernel
theorem dX4_latestLow_4 : decode cX4_latestLow 4 = .ok (.ifCond .le 17, 3) := by decide +kernel
theorem dX4_latestLow_7 : decode cX4_latestLow 7 = .ok (.aload_n 0, 1) := by decide +kernel
theorem dX4_latestLow_8 : decode cX4_latestLow 8 = .ok (.getfield 11, 3) := by decide +kernel
theorem dX4_latestLow_11 : decode cX4_latestLow 11 = .ok (.aload_n 0, 1) := by decide +kernel
theorem dX4_latestLow_12 : decode cX4_latestLow 12 = .ok (.getfield 25, 3) := by decide +kernel
theorem dX4_latestLow_15 : decode cX4_latestLow 15 = .ok (.iconst 1, 1) := by decide +kernel
theorem dX4_latestLow_16 : decode cX4_latestLow 16 = .ok (.isub, 1) := by decide +kernel
theorem dX4_latestLow_17 : decode cX4_latestLow 17 = .ok (.laload, 1) := by decide +kernel
theorem dX4_latestLow_18 : decode cX4_latestLow 18 = .ok (.goto 6, 3) := by decide +kernel
theorem dX4_latestLow_21 : decode cX4_latestLow 21 = .ok (.ldc2_w 41, 3) := by decide +kernel
theorem dX4_latestLow_24 : decode cX4_latestLow 24 = .ok (.lreturn, 1) := by decide +kernel
theorem dX4_latestHigh_0 : decode cX4_latestHigh 0 = .ok (.aload_n 0, 1) := by decide +kernel
theorem dX4_latestHigh_1 : decode cX4_latestHigh 1 = .ok (.getfield 25, 3) := by decide +kernel
theorem dX4_latestHigh_4 : decode cX4_latestHigh 4 = .ok (.ifCond .le 17, 3) := by decide +kernel
theorem dX4_latestHigh_7 : decode cX4_latestHigh 7 = .ok (.aload_n 0, 1) := by decide +kernel
theorem dX4_latestHigh_8 : decode cX4_latestHigh 8 = .ok (.getfield 15, 3) := by decide +kernel
theorem dX4_latestHigh_11 : decode cX4_latestHigh 11 = .ok (.aload_n 0, 1) := by decide +kernel
theorem dX4_latestHigh_12 : decode cX4_latestHigh 12 = .ok (.getfield 25, 3) := by decide +kernel
theorem dX4_latestHigh_15 : decode cX4_latestHigh 15 = .ok (.iconst 1, 1) := by decide +kernel
theorem dX4_latestHigh_16 : decode cX4_latestHigh 16 = .ok (.isub, 1) := by decide +kernel
theorem dX4_latestHigh_17 : decode cX4_latestHigh 17 = .ok (.laload, 1) := by decide +kernel
theorem dX4_latestHigh_18 : decode cX4_latestHigh 18 = .ok (.goto 6, 3) := by decide +kernel
theorem dX4_latestHigh_21 : decode cX4_latestHigh 21 = .ok (.ldc2_w 41, 3) := by decide +kernel
theorem dX4_latestHigh_24 : decode cX4_latestHigh 24 = .ok (.lreturn, 1) := by decide +kernel
theorem dX4_takeLatest_0 : decode cX4_takeLatest 0 = .ok (.aload_n 0, 1) := by decide +kernel
theorem dX4_takeLatest_1 : decode cX4_takeLatest 1 = .ok (.getfield 25, 3) := by decide +kernel
theorem dX4_takeLatest_4 : decode cX4_takeLatest 4 = .ok (.ifCond .le 23, 3) := by decide +kernel
theorem dX4_takeLatest_7 : decode cX4_takeLatest 7 = .ok (.aload_n 0, 1) := by decide +kernel
theorem dX4_takeLatest_8 : decode cX4_takeLatest 8 = .ok (.dup, 1) := by decide +kernel
theorem dX4_takeLatest_9 : decode cX4_takeLatest 9 = .ok (.getfield 25, 3) := by decide +kernel
theorem dX4_takeLatest_12 : decode cX4_takeLatest 12 = .ok (.iconst 1, 1) := by decide +kernel
theorem dX4_takeLatest_13 : decode cX4_takeLatest 13 = .ok (.isub, 1) := by decide +kernel
theorem dX4_takeLatest_14 : decode cX4_takeLatest 14 = .ok (.putfield 25, 3) := by decide +kernel
theorem dX4_takeLatest_17 : decode cX4_takeLatest 17 = .ok (.aload_n 0, 1) := by decide +kernel
theorem dX4_takeLatest_18 : decode cX4_takeLatest 18 = .ok (.dup, 1) := by decide +kernel
theorem dX4_takeLatest_19 : decode cX4_takeLatest 19 = .ok (.getfield 32, 3) := by decide +kernel
theorem dX4_takeLatest_22 : decode cX4_takeLatest 22 = .ok (.iconst 1, 1) := by decide +kernel
theorem dX4_takeLatest_23 : decode cX4_takeLatest 23 = .ok (.iadd, 1) := by decide +kernel
theorem dX4_takeLatest_24 : decode cX4_takeLatest 24 = .ok (.putfield 32, 3) := by decide +kernel
theorem dX4_takeLatest_27 : decode cX4_takeLatest 27 = .ok (.return_, 1) := by decide +kernel
theorem dX4_pile_0 : decode cX4_pile 0 = .ok (.aload_n 0, 1) := by decide +kernel
theorem dX4_pile_1 : decode cX4_pile 1 = .ok (.getfield 25, 3) := by decide +kernel
theorem dX4_pile_4 : decode cX4_pile 4 = .ok (.bipush 64, 2) := by decide +kernel
theorem dX4_pile_6 : decode cX4_pile 6 = .ok (.if_icmp .ge 33, 3) := by decide +kernel
theorem dX4_pile_9 : decode cX4_pile 9 = .ok (.aload_n 0, 1) := by decide +kernel
theorem dX4_pile_10 : decode cX4_pile 10 = .ok (.getfield 11, 3) := by decide +kernel
theorem dX4_pile_13 : decode cX4_pile 13 = .ok (.aload_n 0, 1) := by decide +kernel
theorem dX4_pile_14 : decode cX4_pile 14 = .ok (.getfield 25, 3) := by decide +kernel
theorem dX4_pile_17 : decode cX4_pile 17 = .ok (.lload_n 1, 1) := by decide +kernel
theorem dX4_pile_18 : decode cX4_pile 18 = .ok (.lastore, 1) := by decide +kernel
theorem dX4_pile_19 : decode cX4_pile 19 = .ok (.aload_n 0, 1) := by decide +kernel
theorem dX4_pile_20 : decode cX4_pile 20 = .ok (.getfield 15, 3) := by decide +kernel
theorem dX4_pile_23 : decode cX4_pile 23 = .ok (.aload_n 0, 1) := by decide +kernel
theorem dX4_pile_24 : decode cX4_pile 24 = .ok (.getfield 25, 3) := by decide +kernel
theorem dX4_pile_27 : decode cX4_pile 27 = .ok (.lload_n 3, 1) := by decide +kernel
theorem dX4_pile_28 : decode cX4_pile 28 = .ok (.lastore, 1) := by decide +kernel
theorem dX4_pile_29 : decode cX4_pile 29 = .ok (.aload_n 0, 1) := by decide +kernel
theorem dX4_pile_30 : decode cX4_pile 30 = .ok (.dup, 1) := by decide +kernel
theorem dX4_pile_31 : decode cX4_pile 31 = .ok (.getfield 25, 3) := by decide +kernel
theorem dX4_pile_34 : decode cX4_pile 34 = .ok (.iconst 1, 1) := by decide +kernel
theorem dX4_pile_35 : decode cX4_pile 35 = .ok (.iadd, 1) := by decide +kernel
theorem dX4_pile_36 : decode cX4_pile 36 = .ok (.putfield 25, 3) := by decide +kernel
theorem dX4_pile_39 : decode cX4_pile 39 = .ok (.return_, 1) := by decide +kernel
theorem dX4_hasFound_0 : decode cX4_hasFound 0 = .ok (.iconst 0, 1) := by decide +kernel
theorem dX4_hasFound_1 : decode cX4_hasFound 1 = .ok (.istore_n 3, 1) := by decide +kernel
theorem dX4_hasFound_2 : decode cX4_hasFound 2 = .ok (.iload_n 3, 1) := by decide +kernel
theorem dX4_hasFound_3 : decode cX4_hasFound 3 = .ok (.aload_n 0, 1) := by decide +kernel
theorem dX4_hasFound_4 : decode cX4_hasFound 4 = .ok (.getfield 29, 3) := by decide +kernel
theorem dX4_hasFound_7 : decode cX4_hasFound 7 = .ok (.if_icmp .ge 22, 3) := by decide +kernel
theorem dX4_hasFound_10 : decode cX4_hasFound 10 = .ok (.aload_n 0, 1) := by decide +kernel
theorem dX4_hasFound_11 : decode cX4_hasFound 11 = .ok (.getfield 18, 3) := by decide +kernel
theorem dX4_hasFound_14 : decode cX4_hasFound 14 = .ok (.iload_n 3, 1) := by decide +kernel
theorem dX4_hasFound_15 : decode cX4_hasFound 15 = .ok (.laload, 1) := by decide +kernel
theorem dX4_hasFound_16 : decode cX4_hasFound 16 = .ok (.lload_n 1, 1) := by decide +kernel
theorem dX4_hasFound_17 : decode cX4_hasFound 17 = .ok (.lcmp, 1) := by decide +kernel
theorem dX4_hasFound_18 : decode cX4_hasFound 18 = .ok (.ifCond .ne 5, 3) := by decide +kernel
theorem dX4_hasFound_21 : decode cX4_hasFound 21 = .ok (.iconst 1, 1) := by decide +kernel
theorem dX4_hasFound_22 : decode cX4_hasFound 22 = .ok (.ireturn, 1) := by decide +kernel
theorem dX4_hasFound_23 : decode cX4_hasFound 23 = .ok (.iinc 3 1, 3) := by decide +kernel
theorem dX4_hasFound_26 : decode cX4_hasFound 26 = .ok (.goto (-24), 3) := by decide +kernel
theorem dX4_hasFound_29 : decode cX4_hasFound 29 = .ok (.iconst 0, 1) := by decide +kernel
theorem dX4_hasFound_30 : decode cX4_hasFound 30 = .ok (.ireturn, 1) := by decide +kernel
theorem dX4_keepFound_0 : decode cX4_keepFound 0 = .ok (.aload_n 0, 1) := by decide +kernel
theorem dX4_keepFound_1 : decode cX4_keepFound 1 = .ok (.lload_n 1, 1) := by decide +kernel
theorem dX4_keepFound_2 : decode cX4_keepFound 2 = .ok (.invokevirtual 43, 3) := by decide +kernel
theorem dX4_keepFound_5 : decode cX4_keepFound 5 = .ok (.ifCond .ne 32, 3) := by decide +kernel
theorem dX4_keepFound_8 : decode cX4_keepFound 8 = .ok (.aload_n 0, 1) := by decide +kernel
theorem dX4_keepFound_9 : decode cX4_keepFound 9 = .ok (.getfield 29, 3) := by decide +kernel
theorem dX4_keepFound_12 : decode cX4_keepFound 12 = .ok (.bipush 24, 2) := by decide +kernel
theorem dX4_keepFound_14 : decode cX4_keepFound 14 = .ok (.if_icmp .ge 23, 3) := by decide +kernel
theorem dX4_keepFound_17 : decode cX4_keepFound 17 = .ok (.aload_n 0, 1) := by decide +kernel
theorem dX4_keepFound_18 : decode cX4_keepFound 18 = .ok (.getfield 18, 3) := by decide +kernel
theorem dX4_keepFound_21 : decode cX4_keepFound 21 = .ok (.aload_n 0, 1) := by decide +kernel
theorem dX4_keepFound_22 : decode cX4_keepFound 22 = .ok (.getfield 29, 3) := by decide +kernel
theorem dX4_keepFound_25 : decode cX4_keepFound 25 = .ok (.lload_n 1, 1) := by decide +kernel
theorem dX4_keepFound_26 : decode cX4_keepFound 26 = .ok (.lastore, 1) := by decide +kernel
theorem dX4_keepFound_27 : decode cX4_keepFound 27 = .ok (.aload_n 0, 1) := by decide +kernel
theorem dX4_keepFound_28 : decode cX4_keepFound 28 = .ok (.dup, 1) := by decide +kernel
theorem dX4_keepFound_29 : decode cX4_keepFound 29 = .ok (.getfield 29, 3) := by decide +kernel
theorem dX4_keepFound_32 : decode cX4_keepFound 32 = .ok (.iconst 1, 1) := by decide +kernel
theorem dX4_keepFound_33 : decode cX4_keepFound 33 = .ok (.iadd, 1) := by decide +kernel
theorem dX4_keepFound_34 : decode cX4_keepFound 34 = .ok (.putfield 29, 3) := by decide +kernel
theorem dX4_keepFound_37 : decode cX4_keepFound 37 = .ok (.return_, 1) := by decide +kernel
set_option maxRecDepth 20000 in
theorem ggX4_begin_X4_pile : GoodIn wsX4_begin wsX4_pile := goodIn_r _ [10, 2, 11, 12, 13, 14, 15, 16, 17, 18, 19] (by decide +kernel) (by decide +kernel)
set_option maxRecDepth 20000 in
theorem gX4_begin_X4_pile : GoodIn wsX4_begin (wsV RX4 37 RX4 yX4_pile wsX4_pile) := goodIn_app (goodIn_of _ (by decide +kernel)) ggX4_begin_X4_pile
set_option maxRecDepth 20000 in
theorem ggX4_keepFound_X4_hasFound : GoodIn wsX4_keepFound wsX4_hasFound := goodIn_r _ [7, 1, 2, 8, 9, 10, 11, 12, 13, 14] (by decide +kernel) (by decide +kernel)
set_option maxRecDepth 20000 in
theorem gX4_keepFound_X4_hasFound : GoodIn wsX4_keepFound (wsV RX4 43 RX4 yX4_hasFound wsX4_hasFound) := goodIn_app (goodIn_of _ (by decide +kernel)) ggX4_keepFound_X4_hasFound
theorem dX5_init_0 : decode cX5_init 0 = .ok (.aload_n 0, 1) := by decide +kernel
theorem dX5_init_1 : decode cX5_init 1 = .ok (.invokespecial 1, 3) := by decide +kernel
theorem dX5_init_4 : decode cX5_init 4 = .ok (.aload_n 0, 1) := by decide +kernel
theorem dX5_init_5 : decode cX5_init 5 = .ok (.bipush 16, 2) := by decide +kernel
theorem dX5_init_7 : decode cX5_init 7 = .ok (.newarray .int, 2) := by decide +kernel
theorem dX5_init_9 : decode cX5_init 9 = .ok (.putfield 9, 3) := by decide +kernel
theorem dX5_init_12 : decode cX5_init 12 = .ok (.aload_n 0, 1) := by decide +kernel
theorem dX5_init_13 : decode cX5_init 13 = .ok (.bipush 16, 2) := by decide +kernel
theorem dX5_init_15 : decode cX5_init 15 = .ok (.newarray .int, 2) := by decide +kernel
theorem dX5_init_17 : decode cX5_init 17 = .ok (.putfield 13, 3) := by decide +kernel
theorem dX5_init_20 : decode cX5_init 20 = .ok (.return_, 1) := by decide +kernel
theorem dX5_add_0 : decode cX5_add 0 = .ok (.aload_n 0, 1) := by decide +kernel
theorem dX5_add_1 : decode cX5_add 1 = .ok (.getfield 16, 3) := by decide +kernel
theorem dX5_add_4 : decode cX5_add 4 = .ok (.bipush 16, 2) := by decide +kernel
theorem dX5_add_6 : decode cX5_add 6 = .ok (.if_icmp .lt 7, 3) := by decide +kernel
theorem dX5_add_9 : decode cX5_add 9 = .ok (.aload_n 0, 1) := by decide +kernel
theorem dX5_add_10 : decode cX5_add 10 = .ok (.invokevirtual 20, 3) := by decide +kernel
theorem dX5_add_13 : decode cX5_add 13 = .ok (.aload_n 0, 1) := by decide +kernel
theorem dX5_add_14 : decode cX5_add 14 = .ok (.getfield 9, 3) := by decide +kernel
theorem dX5_add_17 : decode cX5_add 17 = .ok (.aload_n 0, 1) := by decide +kernel
theorem dX5_add_18 : decode cX5_add 18 = .ok (.getfield 16, 3) := by decide +kernel
theorem dX5_add_21 : decode cX5_add 21 = .ok (.iload_n 1, 1) := by decide +kernel
theorem dX5_add_22 : decode cX5_add 22 = .ok (.iastore, 1) := by decide +kernel
theorem dX5_add_23 : decode cX5_add 23 = .ok (.aload_n 0, 1) := by decide +kernel
theorem dX5_add_24 : decode cX5_add 24 = .ok (.getfield 13, 3) := by decide +kernel
theorem dX5_add_27 : decode cX5_add 27 = .ok (.aload_n 0, 1) := by decide +kernel
theorem dX5_add_28 : decode cX5_add 28 = .ok (.getfield 16, 3) := by decide +kernel
theorem dX5_add_31 : decode cX5_add 31 = .ok (.iload_n 2, 1) := by decide +kernel
theorem dX5_add_32 : decode cX5_add 32 = .ok (.iastore, 1) := by decide +kernel
theorem dX5_add_33 : decode cX5_add 33 = .ok (.aload_n 0, 1) := by decide +kernel
theorem dX5_add_34 : decode cX5_add 34 = .ok (.dup, 1) := by decide +kernel
theorem dX5_add_35 : decode cX5_add 35 = .ok (.getfield 16, 3) := by decide +kernel
theorem dX5_add_38 : decode cX5_add 38 = .ok (.iconst 1, 1) := by decide +kernel
theorem dX5_add_39 : decode cX5_add 39 = .ok (.iadd, 1) := by decide +kernel
theorem dX5_add_40 : decode cX5_add 40 = .ok (.putfield 16, 3) := by decide +kernel
theorem dX5_add_43 : decode cX5_add 43 = .ok (.return_, 1) := by decide +kernel
theorem dX5_dropFirst_0 : decode cX5_dropFirst 0 = .ok (.iconst 1, 1) := by decide +kernel
theorem dX5_dropFirst_1 : decode cX5_dropFirst 1 = .ok (.istore_n 1, 1) := by decide +kernel
theorem dX5_dropFirst_2 : decode cX5_dropFirst 2 = .ok (.iload_n 1, 1) := by decide +kernel
theorem dX5_dropFirst_3 : decode cX5_dropFirst 3 = .ok (.bipush 16, 2) := by decide +kernel
theorem dX5_dropFirst_5 : decode cX5_dropFirst 5 = .ok (.if_icmp .ge 37, 3) := by decide +kernel
theorem dX5_dropFirst_8 : decode cX5_dropFirst 8 = .ok (.aload_n 0, 1) := by decide +kernel
theorem dX5_dropFirst_9 : decode cX5_dropFirst 9 = .ok (.getfield 9, 3) := by decide +kernel
theorem dX5_dropFirst_12 : decode cX5_dropFirst 12 = .ok (.iload_n 1, 1) := by decide +kernel
theorem dX5_dropFirst_13 : decode cX5_dropFirst 13 = .ok (.iconst 1, 1) := by decide +kernel
theorem dX5_dropFirst_14 : decode cX5_dropFirst 14 = .ok (.isub, 1) := by decide +kernel
theorem dX5_dropFirst_15 : decode cX5_dropFirst 15 = .ok (.aload_n 0, 1) := by decide +kernel
theorem dX5_dropFirst_16 : decode cX5_dropFirst 16 = .ok (.getfield 9, 3) := by decide +kernel
theorem dX5_dropFirst_19 : decode cX5_dropFirst 19 = .ok (.iload_n 1, 1) := by decide +kernel
theorem dX5_dropFirst_20 : decode cX5_dropFirst 20 = .ok (.iaload, 1) := by decide +kernel
theorem dX5_dropFirst_21 : decode cX5_dropFirst 21 = .ok (.iastore, 1) := by decide +kernel
theorem dX5_dropFirst_22 : decode cX5_dropFirst 22 = .ok (.aload_n 0, 1) := by decide +kernel
theorem dX5_dropFirst_23 : decode cX5_dropFirst 23 = .ok (.getfield 13, 3) := by decide +kernel
theorem dX5_dropFirst_26 : decode cX5_dropFirst 26 = .ok (.iload_n 1, 1) := by decide +kernel
theorem dX5_dropFirst_27 : decode cX5_dropFirst 27 = .ok (.iconst 1, 1) := by decide +kernel
theorem dX5_dropFirst_28 : decode cX5_dropFirst 28 = .ok (.isub, 1) := by decide +kernel
theorem dX5_dropFirst_29 : decode cX5_dropFirst 29 = .ok (.aload_n 0, 1) := by decide +kernel
theorem dX5_dropFirst_30 : decode cX5_dropFirst 30 = .ok (.getfield 13, 3) := by decide +kernel
theorem dX5_dropFirst_33 : decode cX5_dropFirst 33 = .ok (.iload_n 1, 1) := by decide +kernel
theorem dX5_dropFirst_34 : decode cX5_dropFirst 34 = .ok (.iaload, 1) := by decide +kernel
theorem dX5_dropFirst_35 : decode cX5_dropFirst 35 = .ok (.iastore, 1) := by decide +kernel
theorem dX5_dropFirst_36 : decode cX5_dropFirst 36 = .ok (.iinc 1 1, 3) := by decide +kernel
theorem dX5_dropFirst_39 : decode cX5_dropFirst 39 = .ok (.goto (-37), 3) := by decide +kernel
theorem dX5_dropFirst_42 : decode cX5_dropFirst 42 = .ok (.aload_n 0, 1) := by decide +kernel
theorem dX5_dropFirst_43 : decode cX5_dropFirst 43 = .ok (.bipush 15, 2) := by decide +kernel
theorem dX5_dropFirst_45 : decode cX5_dropFirst 45 = .ok (.putfield 16, 3) := by decide +kernel
theorem dX5_dropFirst_48 : decode cX5_dropFirst 48 = .ok (.return_, 1) := by decide +kernel
theorem dX5_applyTo_0 : decode cX5_applyTo 0 = .ok (.iconst 0, 1) := by decide +kernel
theorem dX5_applyTo_1 : decode cX5_applyTo 1 = .ok (.istore_n 2, 1) := by decide +kernel
theorem dX5_applyTo_2 : decode cX5_applyTo 2 = .ok (.iload_n 2, 1) := by decide +kernel
theorem dX5_applyTo_3 : decode cX5_applyTo 3 = .ok (.aload_n 0, 1) := by decide +kernel
theorem dX5_applyTo_4 : decode cX5_applyTo 4 = .ok (.getfield 16, 3) := by decide +kernel
theorem dX5_applyTo_7 : decode cX5_applyTo 7 = .ok (.if_icmp .ge 25, 3) := by decide +kernel
theorem dX5_applyTo_10 : decode cX5_applyTo 10 = .ok (.aload_n 1, 1) := by decide +kernel
theorem dX5_applyTo_11 : decode cX5_applyTo 11 = .ok (.aload_n 0, 1) := by decide +kernel
theorem dX5_applyTo_12 : decode cX5_applyTo 12 = .ok (.getfield 9, 3) := by decide +kernel
theorem dX5_applyTo_15 : decode cX5_applyTo 15 = .ok (.iload_n 2, 1) := by decide +kernel
theorem dX5_applyTo_16 : decode cX5_applyTo 16 = .ok (.iaload, 1) := by decide +kernel
theorem dX5_applyTo_17 : decode cX5_applyTo 17 = .ok (.aload_n 0, 1) := by decide +kernel
theorem dX5_applyTo_18 : decode cX5_applyTo 18 = .ok (.getfield 13, 3) := by decide +kernel
theorem dX5_applyTo_21 : decode cX5_applyTo 21 = .ok (.iload_n 2, 1) := by decide +kernel
theorem dX5_applyTo_22 : decode cX5_applyTo 22 = .ok (.iaload, 1) := by decide +kernel
theorem dX5_applyTo_23 : decode cX5_applyTo 23 = .ok (.invokevirtual 23, 3) := by decide +kernel
theorem dX5_applyTo_26 : decode cX5_applyTo 26 = .ok (.iinc 2 1, 3) := by decide +kernel
theorem dX5_applyTo_29 : decode cX5_applyTo 29 = .ok (.goto (-27), 3) := by decide +kernel
theorem dX5_applyTo_32 : decode cX5_applyTo 32 = .ok (.aload_n 0, 1) := by decide +kernel
theorem dX5_applyTo_33 : decode cX5_applyTo 33 = .ok (.iconst 0, 1) := by decide +kernel
theorem dX5_applyTo_34 : decode cX5_applyTo 34 = .ok (.putfield 16, 3) := by decide +kernel
theorem dX5_applyTo_37 : decode cX5_applyTo 37 = .ok (.return_, 1) := by decide +kernel
set_option maxRecDepth 20000 in
theorem ggX5_add_X5_dropFirst : GoodIn wsX5_add wsX5_dropFirst := goodIn_r _ [8, 2, 3, 1, 9, 10, 11] (by decide +kernel) (by decide +kernel)
set_option maxRecDepth 20000 in
theorem gX5_add_X5_dropFirst : GoodIn wsX5_add (wsV RX5 20 RX5 yX5_dropFirst wsX5_dropFirst) := goodIn_app (goodIn_of _ (by decide +kernel)) ggX5_add_X5_dropFirst
set_option maxRecDepth 20000 in
theorem ggX5_applyTo_X3_flip : GoodIn wsX5_applyTo wsX3_flip := goodIn_r _ [8, 9, 10, 14, 15] (by decide +kernel) (by decide +kernel)
set_option maxRecDepth 20000 in
theorem gX5_applyTo_X3_flip : GoodIn wsX5_applyTo (wsV RX5 23 RX3 yX3_flip wsX3_flip) := goodIn_app (goodIn_of _ (by decide +kernel)) ggX5_applyTo_X3_flip
