theorem dX7_init_0 : decode cX7_init 0 = .ok (.aload_n 0, 1) := by decide +kernel
theorem dX7_init_1 : decode cX7_init 1 = .ok (.invokespecial 1, 3) := by decide +kernel
theorem dX7_init_4 : decode cX7_init 4 = .ok (.aload_n 0, 1) := by decide +kernel
theorem dX7_init_5 : decode cX7_init 5 = .ok (.bipush 24, 2) := by decide +kernel
theorem dX7_init_7 : decode cX7_init 7 = .ok (.newarray .int, 2) := by decide +kernel
theorem dX7_init_9 : decode cX7_init 9 = .ok (.putfield 7, 3) := by decide +kernel
theorem dX7_init_12 : decode cX7_init 12 = .ok (.aload_n 0, 1) := by decide +kernel
theorem dX7_init_13 : decode cX7_init 13 = .ok (.bipush 24, 2) := by decide +kernel
theorem dX7_init_15 : decode cX7_init 15 = .ok (.newarray .long, 2) := by decide +kernel
theorem dX7_init_17 : decode cX7_init 17 = .ok (.putfield 13, 3) := by decide +kernel
theorem dX7_init_20 : decode cX7_init 20 = .ok (.aload_n 0, 1) := by decide +kernel
theorem dX7_init_21 : decode cX7_init 21 = .ok (.bipush 24, 2) := by decide +kernel
theorem dX7_init_23 : decode cX7_init 23 = .ok (.newarray .int, 2) := by decide +kernel
theorem dX7_init_25 : decode cX7_init 25 = .ok (.putfield 17, 3) := by decide +kernel
theorem dX7_init_28 : decode cX7_init 28 = .ok (.aload_n 0, 1) := by decide +kernel
theorem dX7_init_29 : decode cX7_init 29 = .ok (.bipush 24, 2) := by decide +kernel
theorem dX7_init_31 : decode cX7_init 31 = .ok (.newarray .int, 2) := by decide +kernel
theorem dX7_init_33 : decode cX7_init 33 = .ok (.putfield 20, 3) := by decide +kernel
theorem dX7_init_36 : decode cX7_init 36 = .ok (.aload_n 0, 1) := by decide +kernel
theorem dX7_init_37 : decode cX7_init 37 = .ok (.bipush 24, 2) := by decide +kernel
theorem dX7_init_39 : decode cX7_init 39 = .ok (.newarray .int, 2) := by decide +kernel
theorem dX7_init_41 : decode cX7_init 41 = .ok (.putfield 23, 3) := by decide +kernel
theorem dX7_init_44 : decode cX7_init 44 = .ok (.aload_n 0, 1) := by decide +kernel
theorem dX7_init_45 : decode cX7_init 45 = .ok (.bipush 24, 2) := by decide +kernel
theorem dX7_init_47 : decode cX7_init 47 = .ok (.newarray .int, 2) := by decide +kernel
theorem dX7_init_49 : decode cX7_init 49 = .ok (.putfield 26, 3) := by decide +kernel
theorem dX7_init_52 : decode cX7_init 52 = .ok (.aload_n 0, 1) := by decide +kernel
theorem dX7_init_53 : decode cX7_init 53 = .ok (.bipush 24, 2) := by decide +kernel
theorem dX7_init_55 : decode cX7_init 55 = .ok (.newarray .boolean, 2) := by decide +kernel
theorem dX7_init_57 : decode cX7_init 57 = .ok (.putfield 29, 3) := by decide +kernel
theorem dX7_init_60 : decode cX7_init 60 = .ok (.aload_n 0, 1) := by decide +kernel
theorem dX7_init_61 : decode cX7_init 61 = .ok (.bipush 24, 2) := by decide +kernel
theorem dX7_init_63 : decode cX7_init 63 = .ok (.newarray .boolean, 2) := by decide +kernel
theorem dX7_init_65 : decode cX7_init 65 = .ok (.putfield 33, 3) := by decide +kernel
theorem dX7_init_68 : decode cX7_init 68 = .ok (.aload_n 0, 1) := by decide +kernel
theorem dX7_init_69 : decode cX7_init 69 = .ok (.bipush 24, 2) := by decide +kernel
theorem dX7_init_71 : decode cX7_init 71 = .ok (.newarray .int, 2) := by decide +kernel
theorem dX7_init_73 : decode cX7_init 73 = .ok (.putfield 36, 3) := by decide +kernel
theorem dX7_init_76 : decode cX7_init 76 = .ok (.aload_n 0, 1) := by decide +kernel
theorem dX7_init_77 : decode cX7_init 77 = .ok (.sipush 768, 3) := by decide +kernel
theorem dX7_init_80 : decode cX7_init 80 = .ok (.newarray .byte, 2) := by decide +kernel
theorem dX7_init_82 : decode cX7_init 82 = .ok (.putfield 39, 3) := by decide +kernel
theorem dX7_init_85 : decode cX7_init 85 = .ok (.aload_n 0, 1) := by decide +kernel
theorem dX7_init_86 : decode cX7_init 86 = .ok (.bipush 24, 2) := by decide +kernel
theorem dX7_init_88 : decode cX7_init 88 = .ok (.newarray .int, 2) := by decide +kernel
theorem dX7_init_90 : decode cX7_init 90 = .ok (.putfield 43, 3) := by decide +kernel
theorem dX7_init_93 : decode cX7_init 93 = .ok (.aload_n 0, 1) := by decide +kernel
theorem dX7_init_94 : decode cX7_init 94 = .ok (.sipush 12288, 3) := by decide +kernel
theorem dX7_init_97 : decode cX7_init 97 = .ok (.newarray .int, 2) := by decide +kernel
theorem dX7_init_99 : decode cX7_init 99 = .ok (.putfield 46, 3) := by decide +kernel
theorem dX7_init_102 : decode cX7_init 102 = .ok (.aload_n 0, 1) := by decide +kernel
theorem dX7_init_103 : decode cX7_init 103 = .ok (.bipush 24, 2) := by decide +kernel
theorem dX7_init_105 : decode cX7_init 105 = .ok (.newarray .int, 2) := by decide +kernel
theorem dX7_init_107 : decode cX7_init 107 = .ok (.putfield 49, 3) := by decide +kernel
theorem dX7_init_110 : decode cX7_init 110 = .ok (.aload_n 0, 1) := by decide +kernel
theorem dX7_init_111 : decode cX7_init 111 = .ok (.bipush 24, 2) := by decide +kernel
theorem dX7_init_113 : decode cX7_init 113 = .ok (.newarray .int, 2) := by decide +kernel
theorem dX7_init_115 : decode cX7_init 115 = .ok (.putfield 52, 3) := by decide +kernel
theorem dX7_init_118 : decode cX7_init 118 = .ok (.aload_n 0, 1) := by decide +kernel
theorem dX7_init_119 : decode cX7_init 119 = .ok (.bipush 96, 2) := by decide +kernel
theorem dX7_init_121 : decode cX7_init 121 = .ok (.newarray .int, 2) := by decide +kernel
theorem dX7_init_123 : decode cX7_init 123 = .ok (.putfield 55, 3) := by decide +kernel
theorem dX7_init_126 : decode cX7_init 126 = .ok (.aload_n 0, 1) := by decide +kernel
theorem dX7_init_127 : decode cX7_init 127 = .ok (.bipush 96, 2) := by decide +kernel
theorem dX7_init_129 : decode cX7_init 129 = .ok (.newarray .int, 2) := by decide +kernel
theorem dX7_init_131 : decode cX7_init 131 = .ok (.putfield 58, 3) := by decide +kernel
theorem dX7_init_134 : decode cX7_init 134 = .ok (.aload_n 0, 1) := by decide +kernel
theorem dX7_init_135 : decode cX7_init 135 = .ok (.sipush 3072, 3) := by decide +kernel
theorem dX7_init_138 : decode cX7_init 138 = .ok (.newarray .byte, 2) := by decide +kernel
theorem dX7_init_140 : decode cX7_init 140 = .ok (.putfield 61, 3) := by decide +kernel
theorem dX7_init_143 : decode cX7_init 143 = .ok (.aload_n 0, 1) := by decide +kernel
theorem dX7_init_144 : decode cX7_init 144 = .ok (.sipush 520, 3) := by decide +kernel
theorem dX7_init_147 : decode cX7_init 147 = .ok (.newarray .byte, 2) := by decide +kernel
theorem dX7_init_149 : decode cX7_init 149 = .ok (.putfield 64, 3) := by decide +kernel
theorem dX7_init_152 : decode cX7_init 152 = .ok (.aload_n 0, 1) := by decide +kernel
theorem dX7_init_153 : decode cX7_init 153 = .ok (.sipush 513, 3) := by decide +kernel
theorem dX7_init_156 : decode cX7_init 156 = .ok (.newarray .byte, 2) := by decide +kernel
theorem dX7_init_158 : decode cX7_init 158 = .ok (.putfield 67, 3) := by decide +kernel
theorem dX7_init_161 : decode cX7_init 161 = .ok (.aload_n 0, 1) := by decide +kernel
theorem dX7_init_162 : decode cX7_init 162 = .ok (.sipush 300, 3) := by decide +kernel
theorem dX7_init_165 : decode cX7_init 165 = .ok (.newarray .byte, 2) := by decide +kernel
theorem dX7_init_167 : decode cX7_init 167 = .ok (.putfield 70, 3) := by decide +kernel
theorem dX7_init_170 : decode cX7_init 170 = .ok (.aload_n 0, 1) := by decide +kernel
theorem dX7_init_171 : decode cX7_init 171 = .ok (.sipush 300, 3) := by decide +kernel
theorem dX7_init_174 : decode cX7_init 174 = .ok (.newarray .byte, 2) := by decide +kernel
theorem dX7_init_176 : decode cX7_init 176 = .ok (.putfield 73, 3) := by decide +kernel
theorem dX7_init_179 : decode cX7_init 179 = .ok (.aload_n 0, 1) := by decide +kernel
theorem dX7_init_180 : decode cX7_init 180 = .ok (.bipush 16, 2) := by decide +kernel
theorem dX7_init_182 : decode cX7_init 182 = .ok (.newarray .int, 2) := by decide +kernel
theorem dX7_init_184 : decode cX7_init 184 = .ok (.putfield 76, 3) := by decide +kernel
theorem dX7_init_187 : decode cX7_init 187 = .ok (.aload_n 0, 1) := by decide +kernel
theorem dX7_init_188 : decode cX7_init 188 = .ok (.bipush 16, 2) := by decide +kernel
theorem dX7_init_190 : decode cX7_init 190 = .ok (.newarray .int, 2) := by decide +kernel
theorem dX7_init_192 : decode cX7_init 192 = .ok (.putfield 79, 3) := by decide +kernel
theorem dX7_init_195 : decode cX7_init 195 = .ok (.aload_n 0, 1) := by decide +kernel
theorem dX7_init_196 : decode cX7_init 196 = .ok (.sipush 128, 3) := by decide +kernel
theorem dX7_init_199 : decode cX7_init 199 = .ok (.newarray .long, 2) := by decide +kernel
theorem dX7_init_201 : decode cX7_init 201 = .ok (.putfield 82, 3) := by decide +kernel
theorem dX7_init_204 : decode cX7_init 204 = .ok (.aload_n 0, 1) := by decide +kernel
theorem dX7_init_205 : decode cX7_init 205 = .ok (.sipush 128, 3) := by decide +kernel
theorem dX7_init_208 : decode cX7_init 208 = .ok (.newarray .long, 2) := by decide +kernel
theorem dX7_init_210 : decode cX7_init 210 = .ok (.putfield 85, 3) := by decide +kernel
theorem dX7_init_213 : decode cX7_init 213 = .ok (.aload_n 0, 1) := by decide +kernel
theorem dX7_init_214 : decode cX7_init 214 = .ok (.bipush 24, 2) := by decide +kernel
theorem dX7_init_216 : decode cX7_init 216 = .ok (.newarray .long, 2) := by decide +kernel
theorem dX7_init_218 : decode cX7_init 218 = .ok (.putfield 88, 3) := by decide +kernel
theorem dX7_init_221 : decode cX7_init 221 = .ok (.return_, 1) := by decide +kernel
theorem dX7_thrown_0 : decode cX7_thrown 0 = .ok (.aload_n 0, 1) := by decide +kernel
theorem dX7_thrown_1 : decode cX7_thrown 1 = .ok (.getfield 91, 3) := by decide +kernel
theorem dX7_thrown_4 : decode cX7_thrown 4 = .ok (.ireturn, 1) := by decide +kernel
theorem dX7_in_0 : decode cX7_in 0 = .ok (.lload_n 0, 1) := by decide +kernel
theorem dX7_in_1 : decode cX7_in 1 = .ok (.lload_n 2, 1) := by decide +kernel
theorem dX7_in_2 : decode cX7_in 2 = .ok (.lcmp, 1) := by decide +kernel
theorem dX7_in_3 : decode cX7_in 3 = .ok (.ifCond .lt 14, 3) := by decide +kernel
theorem dX7_in_6 : decode cX7_in 6 = .ok (.lload_n 0, 1) := by decide +kernel
theorem dX7_in_7 : decode cX7_in 7 = .ok (.lload 4, 2) := by decide +kernel
theorem dX7_in_9 : decode cX7_in 9 = .ok (.lcmp, 1) := by decide +kernel
theorem dX7_in_10 : decode cX7_in 10 = .ok (.ifCond .gt 7, 3) := by decide +kernel
theorem dX7_in_13 : decode cX7_in 13 = .ok (.iconst 1, 1) := by decide +kernel
theorem dX7_in_14 : decode cX7_in 14 = .ok (.goto 4, 3) := by decide +kernel
theorem dX7_in_17 : decode cX7_in 17 = .ok (.iconst 0, 1) := by decide +kernel
theorem dX7_in_18 : decode cX7_in 18 = .ok (.ireturn, 1) := by decide +kernel
theorem dX7_goes_0 : decode cX7_goes 0 = .ok (.aload_n 0, 1) := by decide +kernel
theorem dX7_goes_1 : decode cX7_goes 1 = .ok (.iload_n 1, 1) := by decide +kernel
theorem dX7_goes_2 : decode cX7_goes 2 = .ok (.ifCond .eq 7, 3) := by decide +kernel
theorem dX7_goes_5 : decode cX7_goes 5 = .ok (.iconst 0, 1) := by decide +kernel
theorem dX7_goes_6 : decode cX7_goes 6 = .ok (.goto 4, 3) := by decide +kernel
theorem dX7_goes_9 : decode cX7_goes 9 = .ok (.iconst 1, 1) := by decide +kernel
theorem dX7_goes_10 : decode cX7_goes 10 = .ok (.putfield 91, 3) := by decide +kernel
theorem dX7_goes_13 : decode cX7_goes 13 = .ok (.iload_n 1, 1) := by decide +kernel
theorem dX7_goes_14 : decode cX7_goes 14 = .ok (.ireturn, 1) := by decide +kernel
theorem dX7_idOf_0 : decode cX7_idOf 0 = .ok (.iload_n 0, 1) := by decide +kernel
theorem dX7_idOf_1 : decode cX7_idOf 1 = .ok (.i2l, 1) := by decide +kernel
theorem dX7_idOf_2 : decode cX7_idOf 2 = .ok (.bipush 32, 2) := by decide +kernel
theorem dX7_idOf_4 : decode cX7_idOf 4 = .ok (.lshl, 1) := by decide +kernel
theorem dX7_idOf_5 : decode cX7_idOf 5 = .ok (.lload_n 1, 1) := by decide +kernel
theorem dX7_idOf_6 : decode cX7_idOf 6 = .ok (.lor, 1) := by decide +kernel
theorem dX7_idOf_7 : decode cX7_idOf 7 = .ok (.lreturn, 1) := by decide +kernel
theorem dX7_ownId_0 : decode cX7_ownId 0 = .ok (.aload_n 0, 1) := by decide +kernel
theorem dX7_ownId_1 : decode cX7_ownId 1 = .ok (.getfield 7, 3) := by decide +kernel
theorem dX7_ownId_4 : decode cX7_ownId 4 = .ok (.iload_n 1, 1) := by decide +kernel
theorem dX7_ownId_5 : decode cX7_ownId 5 = .ok (.iaload, 1) := by decide +kernel
theorem dX7_ownId_6 : decode cX7_ownId 6 = .ok (.aload_n 0, 1) := by decide +kernel
theorem dX7_ownId_7 : decode cX7_ownId 7 = .ok (.getfield 13, 3) := by decide +kernel
theorem dX7_ownId_10 : decode cX7_ownId 10 = .ok (.iload_n 1, 1) := by decide +kernel
theorem dX7_ownId_11 : decode cX7_ownId 11 = .ok (.laload, 1) := by decide +kernel
theorem dX7_ownId_12 : decode cX7_ownId 12 = .ok (.invokestatic 95, 3) := by decide +kernel
theorem dX7_ownId_15 : decode cX7_ownId 15 = .ok (.lreturn, 1) := by decide +kernel
theorem dX7_lamp_0 : decode cX7_lamp 0 = .ok (.iload_n 1, 1) := by decide +kernel
theorem dX7_lamp_1 : decode cX7_lamp 1 = .ok (.i2l, 1) := by decide +kernel
theorem dX7_lamp_2 : decode cX7_lamp 2 = .ok (.lconst 1, 1) := by decide +kernel
theorem dX7_lamp_3 : decode cX7_lamp 3 = .ok (.ldc2_w 99, 3) := by decide +kernel
theorem dX7_lamp_6 : decode cX7_lamp 6 = .ok (.invokestatic 101, 3) := by decide +kernel
theorem dX7_lamp_9 : decode cX7_lamp 9 = .ok (.ifCond .eq 68, 3) := by decide +kernel
theorem dX7_lamp_12 : decode cX7_lamp 12 = .ok (.lload_n 2, 1) := by decide +kernel
theorem dX7_lamp_13 : decode cX7_lamp 13 = .ok (.lconst 0, 1) := by decide +kernel
theorem dX7_lamp_14 : decode cX7_lamp 14 = .ok (.ldc2_w 105, 3) := by decide +kernel
theorem dX7_lamp_17 : decode cX7_lamp 17 = .ok (.invokestatic 101, 3) := by decide +kernel
theorem dX7_lamp_20 : decode cX7_lamp 20 = .ok (.ifCond .eq 57, 3) := by decide +kernel
theorem dX7_lamp_23 : decode cX7_lamp 23 = .ok (.iload 4, 2) := by decide +kernel
theorem dX7_lamp_25 : decode cX7_lamp 25 = .ok (.i2l, 1) := by decide +kernel
theorem dX7_lamp_26 : decode cX7_lamp 26 = .ok (.lconst 1, 1) := by decide +kernel
theorem dX7_lamp_27 : decode cX7_lamp 27 = .ok (.ldc2_w 107, 3) := by decide +kernel
theorem dX7_lamp_30 : decode cX7_lamp 30 = .ok (.invokestatic 101, 3) := by decide +kernel
theorem dX7_lamp_33 : decode cX7_lamp 33 = .ok (.ifCond .eq 44, 3) := by decide +kernel
theorem dX7_lamp_36 : decode cX7_lamp 36 = .ok (.iload 5, 2) := by decide +kernel
theorem dX7_lamp_38 : decode cX7_lamp 38 = .ok (.i2l, 1) := by decide +kernel
theorem dX7_lamp_39 : decode cX7_lamp 39 = .ok (.lconst 1, 1) := by decide +kernel
theorem dX7_lamp_40 : decode cX7_lamp 40 = .ok (.ldc2_w 109, 3) := by decide +kernel
theorem dX7_lamp_43 : decode cX7_lamp 43 = .ok (.invokestatic 101, 3) := by decide +kernel
theorem dX7_lamp_46 : decode cX7_lamp 46 = .ok (.ifCond .eq 31, 3) := by decide +kernel
theorem dX7_lamp_49 : decode cX7_lamp 49 = .ok (.iload 6, 2) := by decide +kernel
theorem dX7_lamp_51 : decode cX7_lamp 51 = .ok (.i2l, 1) := by decide +kernel
theorem dX7_lamp_52 : decode cX7_lamp 52 = .ok (.lconst 1, 1) := by decide +kernel
theorem dX7_lamp_53 : decode cX7_lamp 53 = .ok (.ldc2_w 111, 3) := by decide +kernel
theorem dX7_lamp_56 : decode cX7_lamp 56 = .ok (.invokestatic 101, 3) := by decide +kernel
theorem dX7_lamp_59 : decode cX7_lamp 59 = .ok (.ifCond .eq 18, 3) := by decide +kernel
theorem dX7_lamp_62 : decode cX7_lamp 62 = .ok (.iload 6, 2) := by decide +kernel
theorem dX7_lamp_64 : decode cX7_lamp 64 = .ok (.iload 4, 2) := by decide +kernel
theorem dX7_lamp_66 : decode cX7_lamp 66 = .ok (.iadd, 1) := by decide +kernel
theorem dX7_lamp_67 : decode cX7_lamp 67 = .ok (.sipush 513, 3) := by decide +kernel
theorem dX7_lamp_70 : decode cX7_lamp 70 = .ok (.if_icmp .gt 7, 3) := by decide +kernel
theorem dX7_lamp_73 : decode cX7_lamp 73 = .ok (.iconst 1, 1) := by decide +kernel
theorem dX7_lamp_74 : decode cX7_lamp 74 = .ok (.goto 4, 3) := by decide +kernel
theorem dX7_lamp_77 : decode cX7_lamp 77 = .ok (.iconst 0, 1) := by decide +kernel
theorem dX7_lamp_78 : decode cX7_lamp 78 = .ok (.istore 7, 2) := by decide +kernel
theorem dX7_lamp_80 : decode cX7_lamp 80 = .ok (.iconst 0, 1) := by decide +kernel
theorem dX7_lamp_81 : decode cX7_lamp 81 = .ok (.istore 8, 2) := by decide +kernel
theorem dX7_lamp_83 : decode cX7_lamp 83 = .ok (.iload 8, 2) := by decide +kernel
theorem dX7_lamp_85 : decode cX7_lamp 85 = .ok (.aload_n 0, 1) := by decide +kernel
theorem dX7_lamp_86 : decode cX7_lamp 86 = .ok (.getfield 113, 3) := by decide +kernel
theorem dX7_lamp_89 : decode cX7_lamp 89 = .ok (.if_icmp .ge 44, 3) := by decide +kernel
theorem dX7_lamp_92 : decode cX7_lamp 92 = .ok (.iload 7, 2) := by decide +kernel
theorem dX7_lamp_94 : decode cX7_lamp 94 = .ok (.ifCond .eq 39, 3) := by decide +kernel
theorem dX7_lamp_97 : decode cX7_lamp 97 = .ok (.aload_n 0, 1) := by decide +kernel
theorem dX7_lamp_98 : decode cX7_lamp 98 = .ok (.getfield 7, 3) := by decide +kernel
theorem dX7_lamp_101 : decode cX7_lamp 101 = .ok (.iload 8, 2) := by decide +kernel
theorem dX7_lamp_103 : decode cX7_lamp 103 = .ok (.iaload, 1) := by decide +kernel
theorem dX7_lamp_104 : decode cX7_lamp 104 = .ok (.iload_n 1, 1) := by decide +kernel
theorem dX7_lamp_105 : decode cX7_lamp 105 = .ok (.if_icmp .ne 15, 3) := by decide +kernel
theorem dX7_lamp_108 : decode cX7_lamp 108 = .ok (.aload_n 0, 1) := by decide +kernel
theorem dX7_lamp_109 : decode cX7_lamp 109 = .ok (.getfield 13, 3) := by decide +kernel
theorem dX7_lamp_112 : decode cX7_lamp 112 = .ok (.iload 8, 2) := by decide +kernel
theorem dX7_lamp_114 : decode cX7_lamp 114 = .ok (.laload, 1) := by decide +kernel
theorem dX7_lamp_115 : decode cX7_lamp 115 = .ok (.lload_n 2, 1) := by decide +kernel
theorem dX7_lamp_116 : decode cX7_lamp 116 = .ok (.lcmp, 1) := by decide +kernel
theorem dX7_lamp_117 : decode cX7_lamp 117 = .ok (.ifCond .eq 7, 3) := by decide +kernel
theorem dX7_lamp_120 : decode cX7_lamp 120 = .ok (.iconst 1, 1) := by decide +kernel
theorem dX7_lamp_121 : decode cX7_lamp 121 = .ok (.goto 4, 3) := by decide +kernel
theorem dX7_lamp_124 : decode cX7_lamp 124 = .ok (.iconst 0, 1) := by decide +kernel
theorem dX7_lamp_125 : decode cX7_lamp 125 = .ok (.istore 7, 2) := by decide +kernel
theorem dX7_lamp_127 : decode cX7_lamp 127 = .ok (.iinc 8 1, 3) := by decide +kernel
theorem dX7_lamp_130 : decode cX7_lamp 130 = .ok (.goto (-47), 3) := by decide +kernel
theorem dX7_lamp_133 : decode cX7_lamp 133 = .ok (.aload_n 0, 1) := by decide +kernel
theorem dX7_lamp_134 : decode cX7_lamp 134 = .ok (.iload 7, 2) := by decide +kernel
theorem dX7_lamp_136 : decode cX7_lamp 136 = .ok (.ifCond .ne 7, 3) := by decide +kernel
theorem dX7_lamp_139 : decode cX7_lamp 139 = .ok (.iconst 1, 1) := by decide +kernel
theorem dX7_lamp_140 : decode cX7_lamp 140 = .ok (.goto 17, 3) := by decide +kernel
theorem dX7_lamp_143 : decode cX7_lamp 143 = .ok (.aload_n 0, 1) := by decide +kernel
theorem dX7_lamp_144 : decode cX7_lamp 144 = .ok (.getfield 113, 3) := by decide +kernel
theorem dX7_lamp_147 : decode cX7_lamp 147 = .ok (.bipush 24, 2) := by decide +kernel
theorem dX7_lamp_149 : decode cX7_lamp 149 = .ok (.if_icmp .ne 7, 3) := by decide +kernel
theorem dX7_lamp_152 : decode cX7_lamp 152 = .ok (.iconst 2, 1) := by decide +kernel
theorem dX7_lamp_153 : decode cX7_lamp 153 = .ok (.goto 4, 3) := by decide +kernel
theorem dX7_lamp_156 : decode cX7_lamp 156 = .ok (.iconst 0, 1) := by decide +kernel
theorem dX7_lamp_157 : decode cX7_lamp 157 = .ok (.putfield 91, 3) := by decide +kernel
theorem dX7_lamp_160 : decode cX7_lamp 160 = .ok (.aload_n 0, 1) := by decide +kernel
theorem dX7_lamp_161 : decode cX7_lamp 161 = .ok (.getfield 91, 3) := by decide +kernel
theorem dX7_lamp_164 : decode cX7_lamp 164 = .ok (.ifCond .le 5, 3) := by decide +kernel
theorem dX7_lamp_167 : decode cX7_lamp 167 = .ok (.iconst 0, 1) := by decide +kernel
theorem dX7_lamp_168 : decode cX7_lamp 168 = .ok (.ireturn, 1) := by decide +kernel
theorem dX7_lamp_169 : decode cX7_lamp 169 = .ok (.aload_n 0, 1) := by decide +kernel
theorem dX7_lamp_170 : decode cX7_lamp 170 = .ok (.getfield 7, 3) := by decide +kernel
theorem dX7_lamp_173 : decode cX7_lamp 173 = .ok (.aload_n 0, 1) := by decide +kernel
theorem dX7_lamp_174 : decode cX7_lamp 174 = .ok (.getfield 113, 3) := by decide +kernel
theorem dX7_lamp_177 : decode cX7_lamp 177 = .ok (.iload_n 1, 1) := by decide +kernel
theorem dX7_lamp_178 : decode cX7_lamp 178 = .ok (.iastore, 1) := by decide +kernel
theorem dX7_lamp_179 : decode cX7_lamp 179 = .ok (.aload_n 0, 1) := by decide +kernel
theorem dX7_lamp_180 : decode cX7_lamp 180 = .ok (.getfield 13, 3) := by decide +kernel
theorem dX7_lamp_183 : decode cX7_lamp 183 = .ok (.aload_n 0, 1) := by decide +kernel
theorem dX7_lamp_184 : decode cX7_lamp 184 = .ok (.getfield 113, 3) := by decide +kernel
theorem dX7_lamp_187 : decode cX7_lamp 187 = .ok (.lload_n 2, 1) := by decide +kernel
theorem dX7_lamp_188 : decode cX7_lamp 188 = .ok (.lastore, 1) := by decide +kernel
theorem dX7_lamp_189 : decode cX7_lamp 189 = .ok (.aload_n 0, 1) := by decide +kernel
theorem dX7_lamp_190 : decode cX7_lamp 190 = .ok (.getfield 17, 3) := by decide +kernel
theorem dX7_lamp_193 : decode cX7_lamp 193 = .ok (.aload_n 0, 1) := by decide +kernel
theorem dX7_lamp_194 : decode cX7_lamp 194 = .ok (.getfield 113, 3) := by decide +kernel
theorem dX7_lamp_197 : decode cX7_lamp 197 = .ok (.iload 4, 2) := by decide +kernel
theorem dX7_lamp_199 : decode cX7_lamp 199 = .ok (.iastore, 1) := by decide +kernel
theorem dX7_lamp_200 : decode cX7_lamp 200 = .ok (.aload_n 0, 1) := by decide +kernel
theorem dX7_lamp_201 : decode cX7_lamp 201 = .ok (.getfield 20, 3) := by decide +kernel
theorem dX7_lamp_204 : decode cX7_lamp 204 = .ok (.aload_n 0, 1) := by decide +kernel
theorem dX7_lamp_205 : decode cX7_lamp 205 = .ok (.getfield 113, 3) := by decide +kernel
theorem dX7_lamp_208 : decode cX7_lamp 208 = .ok (.iload 5, 2) := by decide +kernel
theorem dX7_lamp_210 : decode cX7_lamp 210 = .ok (.iastore, 1) := by decide +kernel
theorem dX7_lamp_211 : decode cX7_lamp 211 = .ok (.aload_n 0, 1) := by decide +kernel
theorem dX7_lamp_212 : decode cX7_lamp 212 = .ok (.getfield 23, 3) := by decide +kernel
theorem dX7_lamp_215 : decode cX7_lamp 215 = .ok (.aload_n 0, 1) := by decide +kernel
theorem dX7_lamp_216 : decode cX7_lamp 216 = .ok (.getfield 113, 3) := by decide +kernel
theorem dX7_lamp_219 : decode cX7_lamp 219 = .ok (.iconst 1, 1) := by decide +kernel
theorem dX7_lamp_220 : decode cX7_lamp 220 = .ok (.iastore, 1) := by decide +kernel
theorem dX7_lamp_221 : decode cX7_lamp 221 = .ok (.aload_n 0, 1) := by decide +kernel
theorem dX7_lamp_222 : decode cX7_lamp 222 = .ok (.getfield 26, 3) := by decide +kernel
theorem dX7_lamp_225 : decode cX7_lamp 225 = .ok (.aload_n 0, 1) := by decide +kernel
theorem dX7_lamp_226 : decode cX7_lamp 226 = .ok (.getfield 113, 3) := by decide +kernel
theorem dX7_lamp_229 : decode cX7_lamp 229 = .ok (.iload 6, 2) := by decide +kernel
theorem dX7_lamp_231 : decode cX7_lamp 231 = .ok (.iastore, 1) := by decide +kernel
theorem dX7_lamp_232 : decode cX7_lamp 232 = .ok (.aload_n 0, 1) := by decide +kernel
theorem dX7_lamp_233 : decode cX7_lamp 233 = .ok (.dup, 1) := by decide +kernel
theorem dX7_lamp_234 : decode cX7_lamp 234 = .ok (.getfield 113, 3) := by decide +kernel
theorem dX7_lamp_237 : decode cX7_lamp 237 = .ok (.iconst 1, 1) := by decide +kernel
theorem dX7_lamp_238 : decode cX7_lamp 238 = .ok (.iadd, 1) := by decide +kernel
theorem dX7_lamp_239 : decode cX7_lamp 239 = .ok (.putfield 113, 3) := by decide +kernel
theorem dX7_lamp_242 : decode cX7_lamp 242 = .ok (.aload_n 0, 1) := by decide +kernel
theorem dX7_lamp_243 : decode cX7_lamp 243 = .ok (.getfield 113, 3) := by decide +kernel
theorem dX7_lamp_246 : decode cX7_lamp 246 = .ok (.iconst 1, 1) := by decide +kernel
theorem dX7_lamp_247 : decode cX7_lamp 247 = .ok (.isub, 1) := by decide +kernel
theorem dX7_lamp_248 : decode cX7_lamp 248 = .ok (.ireturn, 1) := by decide +kernel
theorem dX7_feed_0 : decode cX7_feed 0 = .ok (.aload_n 0, 1) := by decide +kernel
theorem dX7_feed_1 : decode cX7_feed 1 = .ok (.aload_n 0, 1) := by decide +kernel
theorem dX7_feed_2 : decode cX7_feed 2 = .ok (.getfield 116, 3) := by decide +kernel
theorem dX7_feed_5 : decode cX7_feed 5 = .ok (.bipush 20, 2) := by decide +kernel
theorem dX7_feed_7 : decode cX7_feed 7 = .ok (.iadd, 1) := by decide +kernel
theorem dX7_feed_8 : decode cX7_feed 8 = .ok (.sipush 520, 3) := by decide +kernel
theorem dX7_feed_11 : decode cX7_feed 11 = .ok (.if_icmp .gt 7, 3) := by decide +kernel
theorem dX7_feed_14 : decode cX7_feed 14 = .ok (.iconst 1, 1) := by decide +kernel
theorem dX7_feed_15 : decode cX7_feed 15 = .ok (.goto 4, 3) := by decide +kernel
theorem dX7_feed_18 : decode cX7_feed 18 = .ok (.iconst 0, 1) := by decide +kernel
theorem dX7_feed_19 : decode cX7_feed 19 = .ok (.invokevirtual 119, 3) := by decide +kernel
theorem dX7_feed_22 : decode cX7_feed 22 = .ok (.ifCond .ne 5, 3) := by decide +kernel
theorem dX7_feed_25 : decode cX7_feed 25 = .ok (.iconst 0, 1) := by decide +kernel
theorem dX7_feed_26 : decode cX7_feed 26 = .ok (.ireturn, 1) := by decide +kernel
theorem dX7_feed_27 : decode cX7_feed 27 = .ok (.iconst 0, 1) := by decide +kernel
theorem dX7_feed_28 : decode cX7_feed 28 = .ok (.istore 6, 2) := by decide +kernel
theorem dX7_feed_30 : decode cX7_feed 30 = .ok (.iload 6, 2) := by decide +kernel
theorem dX7_feed_32 : decode cX7_feed 32 = .ok (.bipush 20, 2) := by decide +kernel
theorem dX7_feed_34 : decode cX7_feed 34 = .ok (.if_icmp .ge 90, 3) := by decide +kernel
theorem dX7_feed_37 : decode cX7_feed 37 = .ok (.iload 6, 2) := by decide +kernel
theorem dX7_feed_39 : decode cX7_feed 39 = .ok (.iconst 4, 1) := by decide +kernel
theorem dX7_feed_40 : decode cX7_feed 40 = .ok (.if_icmp .ge 7, 3) := by decide +kernel
theorem dX7_feed_43 : decode cX7_feed 43 = .ok (.iload_n 1, 1) := by decide +kernel
theorem dX7_feed_44 : decode cX7_feed 44 = .ok (.goto 39, 3) := by decide +kernel
theorem dX7_feed_47 : decode cX7_feed 47 = .ok (.iload 6, 2) := by decide +kernel
theorem dX7_feed_49 : decode cX7_feed 49 = .ok (.bipush 8, 2) := by decide +kernel
theorem dX7_feed_51 : decode cX7_feed 51 = .ok (.if_icmp .ge 7, 3) := by decide +kernel
theorem dX7_feed_54 : decode cX7_feed 54 = .ok (.iload_n 2, 1) := by decide +kernel
theorem dX7_feed_55 : decode cX7_feed 55 = .ok (.goto 28, 3) := by decide +kernel
theorem dX7_feed_58 : decode cX7_feed 58 = .ok (.iload 6, 2) := by decide +kernel
theorem dX7_feed_60 : decode cX7_feed 60 = .ok (.bipush 12, 2) := by decide +kernel
theorem dX7_feed_62 : decode cX7_feed 62 = .ok (.if_icmp .ge 7, 3) := by decide +kernel
theorem dX7_feed_65 : decode cX7_feed 65 = .ok (.iload_n 3, 1) := by decide +kernel
theorem dX7_feed_66 : decode cX7_feed 66 = .ok (.goto 17, 3) := by decide +kernel
theorem dX7_feed_69 : decode cX7_feed 69 = .ok (.iload 6, 2) := by decide +kernel
theorem dX7_feed_71 : decode cX7_feed 71 = .ok (.bipush 16, 2) := by decide +kernel
theorem dX7_feed_73 : decode cX7_feed 73 = .ok (.if_icmp .ge 8, 3) := by decide +kernel
theorem dX7_feed_76 : decode cX7_feed 76 = .ok (.iload 4, 2) := by decide +kernel
theorem dX7_feed_78 : decode cX7_feed 78 = .ok (.goto 5, 3) := by decide +kernel
theorem dX7_feed_81 : decode cX7_feed 81 = .ok (.iload 5, 2) := by decide +kernel
theorem dX7_feed_83 : decode cX7_feed 83 = .ok (.istore 7, 2) := by decide +kernel
theorem dX7_feed_85 : decode cX7_feed 85 = .ok (.aload_n 0, 1) := by decide +kernel
theorem dX7_feed_86 : decode cX7_feed 86 = .ok (.getfield 64, 3) := by decide +kernel
theorem dX7_feed_89 : decode cX7_feed 89 = .ok (.aload_n 0, 1) := by decide +kernel
theorem dX7_feed_90 : decode cX7_feed 90 = .ok (.getfield 116, 3) := by decide +kernel
theorem dX7_feed_93 : decode cX7_feed 93 = .ok (.iload 7, 2) := by decide +kernel
theorem dX7_feed_95 : decode cX7_feed 95 = .ok (.bipush 24, 2) := by decide +kernel
theorem dX7_feed_97 : decode cX7_feed 97 = .ok (.bipush 8, 2) := by decide +kernel
theorem dX7_feed_99 : decode cX7_feed 99 = .ok (.iload 6, 2) := by decide +kernel
theorem dX7_feed_101 : decode cX7_feed 101 = .ok (.iconst 4, 1) := by decide +kernel
theorem dX7_feed_102 : decode cX7_feed 102 = .ok (.irem, 1) := by decide +kernel
theorem dX7_feed_103 : decode cX7_feed 103 = .ok (.imul, 1) := by decide +kernel
theorem dX7_feed_104 : decode cX7_feed 104 = .ok (.isub, 1) := by decide +kernel
theorem dX7_feed_105 : decode cX7_feed 105 = .ok (.ishr, 1) := by decide +kernel
theorem dX7_feed_106 : decode cX7_feed 106 = .ok (.i2b, 1) := by decide +kernel
theorem dX7_feed_107 : decode cX7_feed 107 = .ok (.bastore, 1) := by decide +kernel
theorem dX7_feed_108 : decode cX7_feed 108 = .ok (.aload_n 0, 1) := by decide +kernel
theorem dX7_feed_109 : decode cX7_feed 109 = .ok (.dup, 1) := by decide +kernel
theorem dX7_feed_110 : decode cX7_feed 110 = .ok (.getfield 116, 3) := by decide +kernel
theorem dX7_feed_113 : decode cX7_feed 113 = .ok (.iconst 1, 1) := by decide +kernel
theorem dX7_feed_114 : decode cX7_feed 114 = .ok (.iadd, 1) := by decide +kernel
theorem dX7_feed_115 : decode cX7_feed 115 = .ok (.putfield 116, 3) := by decide +kernel
theorem dX7_feed_118 : decode cX7_feed 118 = .ok (.iinc 6 1, 3) := by decide +kernel
theorem dX7_feed_121 : decode cX7_feed 121 = .ok (.goto (-91), 3) := by decide +kernel
theorem dX7_feed_124 : decode cX7_feed 124 = .ok (.aload_n 0, 1) := by decide +kernel
theorem dX7_feed_125 : decode cX7_feed 125 = .ok (.getfield 116, 3) := by decide +kernel
theorem dX7_feed_128 : decode cX7_feed 128 = .ok (.ireturn, 1) := by decide +kernel
theorem dX7_end_0 : decode cX7_end 0 = .ok (.aload_n 0, 1) := by decide +kernel
theorem dX7_end_1 : decode cX7_end 1 = .ok (.aload_n 0, 1) := by decide +kernel
theorem dX7_end_2 : decode cX7_end 2 = .ok (.iload_n 1, 1) := by decide +kernel
theorem dX7_end_3 : decode cX7_end 3 = .ok (.i2l, 1) := by decide +kernel
theorem dX7_end_4 : decode cX7_end 4 = .ok (.lconst 0, 1) := by decide +kernel
theorem dX7_end_5 : decode cX7_end 5 = .ok (.aload_n 0, 1) := by decide +kernel
theorem dX7_end_6 : decode cX7_end 6 = .ok (.getfield 116, 3) := by decide +kernel
theorem dX7_end_9 : decode cX7_end 9 = .ok (.i2l, 1) := by decide +kernel
theorem dX7_end_10 : decode cX7_end 10 = .ok (.invokestatic 101, 3) := by decide +kernel
theorem dX7_end_13 : decode cX7_end 13 = .ok (.invokevirtual 119, 3) := by decide +kernel
theorem dX7_end_16 : decode cX7_end 16 = .ok (.ifCond .eq 7, 3) := by decide +kernel
theorem dX7_end_19 : decode cX7_end 19 = .ok (.iload_n 1, 1) := by decide +kernel
theorem dX7_end_20 : decode cX7_end 20 = .ok (.goto 7, 3) := by decide +kernel
theorem dX7_end_23 : decode cX7_end 23 = .ok (.aload_n 0, 1) := by decide +kernel
theorem dX7_end_24 : decode cX7_end 24 = .ok (.getfield 116, 3) := by decide +kernel
theorem dX7_end_27 : decode cX7_end 27 = .ok (.putfield 116, 3) := by decide +kernel
theorem dX7_end_30 : decode cX7_end 30 = .ok (.return_, 1) := by decide +kernel
theorem dX7_at_0 : decode cX7_at 0 = .ok (.aload_n 0, 1) := by decide +kernel
theorem dX7_at_1 : decode cX7_at 1 = .ok (.getfield 67, 3) := by decide +kernel
theorem dX7_at_4 : decode cX7_at 4 = .ok (.iload_n 1, 1) := by decide +kernel
theorem dX7_at_5 : decode cX7_at 5 = .ok (.baload, 1) := by decide +kernel
theorem dX7_at_6 : decode cX7_at 6 = .ok (.sipush 255, 3) := by decide +kernel
theorem dX7_at_9 : decode cX7_at 9 = .ok (.iand, 1) := by decide +kernel
theorem dX7_at_10 : decode cX7_at 10 = .ok (.ireturn, 1) := by decide +kernel
theorem dX7_two_0 : decode cX7_two 0 = .ok (.aload_n 0, 1) := by decide +kernel
theorem dX7_two_1 : decode cX7_two 1 = .ok (.iload_n 1, 1) := by decide +kernel
theorem dX7_two_2 : decode cX7_two 2 = .ok (.invokevirtual 123, 3) := by decide +kernel
theorem dX7_two_5 : decode cX7_two 5 = .ok (.sipush 256, 3) := by decide +kernel
theorem dX7_two_8 : decode cX7_two 8 = .ok (.imul, 1) := by decide +kernel
theorem dX7_two_9 : decode cX7_two 9 = .ok (.aload_n 0, 1) := by decide +kernel
theorem dX7_two_10 : decode cX7_two 10 = .ok (.iload_n 1, 1) := by decide +kernel
theorem dX7_two_11 : decode cX7_two 11 = .ok (.iconst 1, 1) := by decide +kernel
theorem dX7_two_12 : decode cX7_two 12 = .ok (.iadd, 1) := by decide +kernel
theorem dX7_two_13 : decode cX7_two 13 = .ok (.invokevirtual 123, 3) := by decide +kernel
theorem dX7_two_16 : decode cX7_two 16 = .ok (.iadd, 1) := by decide +kernel
theorem dX7_two_17 : decode cX7_two 17 = .ok (.ireturn, 1) := by decide +kernel
theorem dX7_six_0 : decode cX7_six 0 = .ok (.lconst 0, 1) := by decide +kernel
theorem dX7_six_1 : decode cX7_six 1 = .ok (.lstore_n 2, 1) := by decide +kernel
theorem dX7_six_2 : decode cX7_six 2 = .ok (.iconst 0, 1) := by decide +kernel
theorem dX7_six_3 : decode cX7_six 3 = .ok (.istore 4, 2) := by decide +kernel
theorem dX7_six_5 : decode cX7_six 5 = .ok (.iload 4, 2) := by decide +kernel
theorem dX7_six_7 : decode cX7_six 7 = .ok (.bipush 6, 2) := by decide +kernel
theorem dX7_six_9 : decode cX7_six 9 = .ok (.if_icmp .ge 25, 3) := by decide +kernel
theorem dX7_six_12 : decode cX7_six 12 = .ok (.lload_n 2, 1) := by decide +kernel
theorem dX7_six_13 : decode cX7_six 13 = .ok (.ldc2_w 127, 3) := by decide +kernel
theorem dX7_six_16 : decode cX7_six 16 = .ok (.lmul, 1) := by decide +kernel
theorem dX7_six_17 : decode cX7_six 17 = .ok (.aload_n 0, 1) := by decide +kernel
theorem dX7_six_18 : decode cX7_six 18 = .ok (.iload_n 1, 1) := by decide +kernel
theorem dX7_six_19 : decode cX7_six 19 = .ok (.iload 4, 2) := by decide +kernel
theorem dX7_six_21 : decode cX7_six 21 = .ok (.iadd, 1) := by decide +kernel
theorem dX7_six_22 : decode cX7_six 22 = .ok (.invokevirtual 123, 3) := by decide +kernel
theorem dX7_six_25 : decode cX7_six 25 = .ok (.i2l, 1) := by decide +kernel
theorem dX7_six_26 : decode cX7_six 26 = .ok (.ladd, 1) := by decide +kernel
theorem dX7_six_27 : decode cX7_six 27 = .ok (.lstore_n 2, 1) := by decide +kernel
theorem dX7_six_28 : decode cX7_six 28 = .ok (.iinc 4 1, 3) := by decide +kernel
theorem dX7_six_31 : decode cX7_six 31 = .ok (.goto (-26), 3) := by decide +kernel
theorem dX7_six_34 : decode cX7_six 34 = .ok (.lload_n 2, 1) := by decide +kernel
theorem dX7_six_35 : decode cX7_six 35 = .ok (.lreturn, 1) := by decide +kernel
theorem dX7_footprint_0 : decode cX7_footprint 0 = .ok (.aload_n 0, 1) := by decide +kernel
theorem dX7_footprint_1 : decode cX7_footprint 1 = .ok (.getfield 17, 3) := by decide +kernel
theorem dX7_footprint_4 : decode cX7_footprint 4 = .ok (.iload_n 1, 1) := by decide +kernel
theorem dX7_footprint_5 : decode cX7_footprint 5 = .ok (.iaload, 1) := by decide +kernel
theorem dX7_footprint_6 : decode cX7_footprint 6 = .ok (.aload_n 0, 1) := by decide +kernel
theorem dX7_footprint_7 : decode cX7_footprint 7 = .ok (.getfield 23, 3) := by decide +kernel
theorem dX7_footprint_10 : decode cX7_footprint 10 = .ok (.iload_n 1, 1) := by decide +kernel
theorem dX7_footprint_11 : decode cX7_footprint 11 = .ok (.iaload, 1) := by decide +kernel
theorem dX7_footprint_12 : decode cX7_footprint 12 = .ok (.imul, 1) := by decide +kernel
theorem dX7_footprint_13 : decode cX7_footprint 13 = .ok (.ireturn, 1) := by decide +kernel
theorem dX7_doDue_0 : decode cX7_doDue 0 = .ok (.iconst 0, 1) := by decide +kernel
theorem dX7_doDue_1 : decode cX7_doDue 1 = .ok (.istore_n 1, 1) := by decide +kernel
theorem dX7_doDue_2 : decode cX7_doDue 2 = .ok (.iload_n 1, 1) := by decide +kernel
theorem dX7_doDue_3 : decode cX7_doDue 3 = .ok (.aload_n 0, 1) := by decide +kernel
theorem dX7_doDue_4 : decode cX7_doDue 4 = .ok (.getfield 113, 3) := by decide +kernel
theorem dX7_doDue_7 : decode cX7_doDue 7 = .ok (.if_icmp .ge 109, 3) := by decide +kernel
theorem dX7_doDue_10 : decode cX7_doDue 10 = .ok (.iconst 0, 1) := by decide +kernel
theorem dX7_doDue_11 : decode cX7_doDue 11 = .ok (.istore_n 2, 1) := by decide +kernel
theorem dX7_doDue_12 : decode cX7_doDue 12 = .ok (.iload_n 2, 1) := by decide +kernel
theorem dX7_doDue_13 : decode cX7_doDue 13 = .ok (.aload_n 0, 1) := by decide +kernel
theorem dX7_doDue_14 : decode cX7_doDue 14 = .ok (.getfield 52, 3) := by decide +kernel
theorem dX7_doDue_17 : decode cX7_doDue 17 = .ok (.iload_n 1, 1) := by decide +kernel
theorem dX7_doDue_18 : decode cX7_doDue 18 = .ok (.iaload, 1) := by decide +kernel
theorem dX7_doDue_19 : decode cX7_doDue 19 = .ok (.if_icmp .ge 91, 3) := by decide +kernel
theorem dX7_doDue_22 : decode cX7_doDue 22 = .ok (.iconst 4, 1) := by decide +kernel
theorem dX7_doDue_23 : decode cX7_doDue 23 = .ok (.iload_n 1, 1) := by decide +kernel
theorem dX7_doDue_24 : decode cX7_doDue 24 = .ok (.imul, 1) := by decide +kernel
theorem dX7_doDue_25 : decode cX7_doDue 25 = .ok (.iload_n 2, 1) := by decide +kernel
theorem dX7_doDue_26 : decode cX7_doDue 26 = .ok (.iadd, 1) := by decide +kernel
theorem dX7_doDue_27 : decode cX7_doDue 27 = .ok (.istore_n 3, 1) := by decide +kernel
theorem dX7_doDue_28 : decode cX7_doDue 28 = .ok (.aload_n 0, 1) := by decide +kernel
theorem dX7_doDue_29 : decode cX7_doDue 29 = .ok (.getfield 55, 3) := by decide +kernel
theorem dX7_doDue_32 : decode cX7_doDue 32 = .ok (.iload_n 3, 1) := by decide +kernel
theorem dX7_doDue_33 : decode cX7_doDue 33 = .ok (.iaload, 1) := by decide +kernel
theorem dX7_doDue_34 : decode cX7_doDue 34 = .ok (.aload_n 0, 1) := by decide +kernel
theorem dX7_doDue_35 : decode cX7_doDue 35 = .ok (.getfield 129, 3) := by decide +kernel
theorem dX7_doDue_38 : decode cX7_doDue 38 = .ok (.if_icmp .ne 66, 3) := by decide +kernel
theorem dX7_doDue_41 : decode cX7_doDue 41 = .ok (.aload_n 0, 1) := by decide +kernel
theorem dX7_doDue_42 : decode cX7_doDue 42 = .ok (.getfield 55, 3) := by decide +kernel
theorem dX7_doDue_45 : decode cX7_doDue 45 = .ok (.iload_n 3, 1) := by decide +kernel
theorem dX7_doDue_46 : decode cX7_doDue 46 = .ok (.iconst 0, 1) := by decide +kernel
theorem dX7_doDue_47 : decode cX7_doDue 47 = .ok (.iastore, 1) := by decide +kernel
theorem dX7_doDue_48 : decode cX7_doDue 48 = .ok (.aload_n 0, 1) := by decide +kernel
theorem dX7_doDue_49 : decode cX7_doDue 49 = .ok (.getfield 36, 3) := by decide +kernel
theorem dX7_doDue_52 : decode cX7_doDue 52 = .ok (.iload_n 1, 1) := by decide +kernel
theorem dX7_doDue_53 : decode cX7_doDue 53 = .ok (.aload_n 0, 1) := by decide +kernel
theorem dX7_doDue_54 : decode cX7_doDue 54 = .ok (.getfield 58, 3) := by decide +kernel
theorem dX7_doDue_57 : decode cX7_doDue 57 = .ok (.iload_n 3, 1) := by decide +kernel
theorem dX7_doDue_58 : decode cX7_doDue 58 = .ok (.iaload, 1) := by decide +kernel
theorem dX7_doDue_59 : decode cX7_doDue 59 = .ok (.iastore, 1) := by decide +kernel
theorem dX7_doDue_60 : decode cX7_doDue 60 = .ok (.iconst 0, 1) := by decide +kernel
theorem dX7_doDue_61 : decode cX7_doDue 61 = .ok (.istore 4, 2) := by decide +kernel
theorem dX7_doDue_63 : decode cX7_doDue 63 = .ok (.iload 4, 2) := by decide +kernel
theorem dX7_doDue_65 : decode cX7_doDue 65 = .ok (.aload_n 0, 1) := by decide +kernel
theorem dX7_doDue_66 : decode cX7_doDue 66 = .ok (.getfield 58, 3) := by decide +kernel
theorem dX7_doDue_69 : decode cX7_doDue 69 = .ok (.iload_n 3, 1) := by decide +kernel
theorem dX7_doDue_70 : decode cX7_doDue 70 = .ok (.iaload, 1) := by decide +kernel
theorem dX7_doDue_71 : decode cX7_doDue 71 = .ok (.if_icmp .ge 33, 3) := by decide +kernel
theorem dX7_doDue_74 : decode cX7_doDue 74 = .ok (.aload_n 0, 1) := by decide +kernel
theorem dX7_doDue_75 : decode cX7_doDue 75 = .ok (.getfield 39, 3) := by decide +kernel
theorem dX7_doDue_78 : decode cX7_doDue 78 = .ok (.bipush 32, 2) := by decide +kernel
theorem dX7_doDue_80 : decode cX7_doDue 80 = .ok (.iload_n 1, 1) := by decide +kernel
theorem dX7_doDue_81 : decode cX7_doDue 81 = .ok (.imul, 1) := by decide +kernel
theorem dX7_doDue_82 : decode cX7_doDue 82 = .ok (.iload 4, 2) := by decide +kernel
theorem dX7_doDue_84 : decode cX7_doDue 84 = .ok (.iadd, 1) := by decide +kernel
theorem dX7_doDue_85 : decode cX7_doDue 85 = .ok (.aload_n 0, 1) := by decide +kernel
theorem dX7_doDue_86 : decode cX7_doDue 86 = .ok (.getfield 61, 3) := by decide +kernel
theorem dX7_doDue_89 : decode cX7_doDue 89 = .ok (.bipush 32, 2) := by decide +kernel
theorem dX7_doDue_91 : decode cX7_doDue 91 = .ok (.iload_n 3, 1) := by decide +kernel
theorem dX7_doDue_92 : decode cX7_doDue 92 = .ok (.imul, 1) := by decide +kernel
theorem dX7_doDue_93 : decode cX7_doDue 93 = .ok (.iload 4, 2) := by decide +kernel
theorem dX7_doDue_95 : decode cX7_doDue 95 = .ok (.iadd, 1) := by decide +kernel
theorem dX7_doDue_96 : decode cX7_doDue 96 = .ok (.baload, 1) := by decide +kernel
theorem dX7_doDue_97 : decode cX7_doDue 97 = .ok (.bastore, 1) := by decide +kernel
theorem dX7_doDue_98 : decode cX7_doDue 98 = .ok (.iinc 4 1, 3) := by decide +kernel
theorem dX7_doDue_101 : decode cX7_doDue 101 = .ok (.goto (-38), 3) := by decide +kernel
theorem dX7_doDue_104 : decode cX7_doDue 104 = .ok (.iinc 2 1, 3) := by decide +kernel
theorem dX7_doDue_107 : decode cX7_doDue 107 = .ok (.goto (-95), 3) := by decide +kernel
theorem dX7_doDue_110 : decode cX7_doDue 110 = .ok (.iinc 1 1, 3) := by decide +kernel
theorem dX7_doDue_113 : decode cX7_doDue 113 = .ok (.goto (-111), 3) := by decide +kernel
theorem dX7_doDue_116 : decode cX7_doDue 116 = .ok (.return_, 1) := by decide +kernel
theorem dX7_waiting_0 : decode cX7_waiting 0 = .ok (.iconst 0, 1) := by decide +kernel
theorem dX7_waiting_1 : decode cX7_waiting 1 = .ok (.istore_n 2, 1) := by decide +kernel
theorem dX7_waiting_2 : decode cX7_waiting 2 = .ok (.iconst 0, 1) := by decide +kernel
theorem dX7_waiting_3 : decode cX7_waiting 3 = .ok (.istore_n 3, 1) := by decide +kernel
theorem dX7_waiting_4 : decode cX7_waiting 4 = .ok (.iload_n 3, 1) := by decide +kernel
theorem dX7_waiting_5 : decode cX7_waiting 5 = .ok (.aload_n 0, 1) := by decide +kernel
theorem dX7_waiting_6 : decode cX7_waiting 6 = .ok (.getfield 52, 3) := by decide +kernel
theorem dX7_waiting_9 : decode cX7_waiting 9 = .ok (.iload_n 1, 1) := by decide +kernel
theorem dX7_waiting_10 : decode cX7_waiting 10 = .ok (.iaload, 1) := by decide +kernel
theorem dX7_waiting_11 : decode cX7_waiting 11 = .ok (.if_icmp .ge 30, 3) := by decide +kernel
theorem dX7_waiting_14 : decode cX7_waiting 14 = .ok (.aload_n 0, 1) := by decide +kernel
theorem dX7_waiting_15 : decode cX7_waiting 15 = .ok (.getfield 55, 3) := by decide +kernel
theorem dX7_waiting_18 : decode cX7_waiting 18 = .ok (.iconst 4, 1) := by decide +kernel
theorem dX7_waiting_19 : decode cX7_waiting 19 = .ok (.iload_n 1, 1) := by decide +kernel
theorem dX7_waiting_20 : decode cX7_waiting 20 = .ok (.imul, 1) := by decide +kernel
theorem dX7_waiting_21 : decode cX7_waiting 21 = .ok (.iload_n 3, 1) := by decide +kernel
theorem dX7_waiting_22 : decode cX7_waiting 22 = .ok (.iadd, 1) := by decide +kernel
theorem dX7_waiting_23 : decode cX7_waiting 23 = .ok (.iaload, 1) := by decide +kernel
theorem dX7_waiting_24 : decode cX7_waiting 24 = .ok (.ifCond .ne 9, 3) := by decide +kernel
theorem dX7_waiting_27 : decode cX7_waiting 27 = .ok (.iload_n 2, 1) := by decide +kernel
theorem dX7_waiting_28 : decode cX7_waiting 28 = .ok (.iconst 1, 1) := by decide +kernel
theorem dX7_waiting_29 : decode cX7_waiting 29 = .ok (.iadd, 1) := by decide +kernel
theorem dX7_waiting_30 : decode cX7_waiting 30 = .ok (.goto 4, 3) := by decide +kernel
theorem dX7_waiting_33 : decode cX7_waiting 33 = .ok (.iload_n 2, 1) := by decide +kernel
theorem dX7_waiting_34 : decode cX7_waiting 34 = .ok (.istore_n 2, 1) := by decide +kernel
theorem dX7_waiting_35 : decode cX7_waiting 35 = .ok (.iinc 3 1, 3) := by decide +kernel
theorem dX7_waiting_38 : decode cX7_waiting 38 = .ok (.goto (-34), 3) := by decide +kernel
theorem dX7_waiting_41 : decode cX7_waiting 41 = .ok (.iload_n 2, 1) := by decide +kernel
theorem dX7_waiting_42 : decode cX7_waiting 42 = .ok (.ireturn, 1) := by decide +kernel
theorem dX7_look_0 : decode cX7_look 0 = .ok (.aload_n 0, 1) := by decide +kernel
theorem dX7_look_1 : decode cX7_look 1 = .ok (.dup, 1) := by decide +kernel
theorem dX7_look_2 : decode cX7_look 2 = .ok (.getfield 129, 3) := by decide +kernel
theorem dX7_look_5 : decode cX7_look 5 = .ok (.iconst 1, 1) := by decide +kernel
theorem dX7_look_6 : decode cX7_look 6 = .ok (.iadd, 1) := by decide +kernel
theorem dX7_look_7 : decode cX7_look 7 = .ok (.putfield 129, 3) := by decide +kernel
theorem dX7_look_10 : decode cX7_look 10 = .ok (.aload_n 0, 1) := by decide +kernel
theorem dX7_look_11 : decode cX7_look 11 = .ok (.invokevirtual 132, 3) := by decide +kernel
theorem dX7_look_14 : decode cX7_look 14 = .ok (.aload_n 0, 1) := by decide +kernel
theorem dX7_look_15 : decode cX7_look 15 = .ok (.iconst 0, 1) := by decide +kernel
theorem dX7_look_16 : decode cX7_look 16 = .ok (.putfield 135, 3) := by decide +kernel
theorem dX7_look_19 : decode cX7_look 19 = .ok (.aload_n 0, 1) := by decide +kernel
theorem dX7_look_20 : decode cX7_look 20 = .ok (.getfield 138, 3) := by decide +kernel
theorem dX7_look_23 : decode cX7_look 23 = .ok (.ifCond .le 35, 3) := by decide +kernel
theorem dX7_look_26 : decode cX7_look 26 = .ok (.aload_n 0, 1) := by decide +kernel
theorem dX7_look_27 : decode cX7_look 27 = .ok (.iconst 0, 1) := by decide +kernel
theorem dX7_look_28 : decode cX7_look 28 = .ok (.invokevirtual 123, 3) := by decide +kernel
theorem dX7_look_31 : decode cX7_look 31 = .ok (.ifCond .ne 27, 3) := by decide +kernel
theorem dX7_look_34 : decode cX7_look 34 = .ok (.iconst 0, 1) := by decide +kernel
theorem dX7_look_35 : decode cX7_look 35 = .ok (.istore_n 1, 1) := by decide +kernel
theorem dX7_look_36 : decode cX7_look 36 = .ok (.iload_n 1, 1) := by decide +kernel
theorem dX7_look_37 : decode cX7_look 37 = .ok (.aload_n 0, 1) := by decide +kernel
theorem dX7_look_38 : decode cX7_look 38 = .ok (.getfield 113, 3) := by decide +kernel
theorem dX7_look_41 : decode cX7_look 41 = .ok (.if_icmp .ge 14, 3) := by decide +kernel
theorem dX7_look_44 : decode cX7_look 44 = .ok (.aload_n 0, 1) := by decide +kernel
theorem dX7_look_45 : decode cX7_look 45 = .ok (.iload_n 1, 1) := by decide +kernel
theorem dX7_look_46 : decode cX7_look 46 = .ok (.invokevirtual 141, 3) := by decide +kernel
theorem dX7_look_49 : decode cX7_look 49 = .ok (.iinc 1 1, 3) := by decide +kernel
theorem dX7_look_52 : decode cX7_look 52 = .ok (.goto (-16), 3) := by decide +kernel
theorem dX7_look_55 : decode cX7_look 55 = .ok (.goto 120, 3) := by decide +kernel
theorem dX7_look_58 : decode cX7_look 58 = .ok (.aload_n 0, 1) := by decide +kernel
theorem dX7_look_59 : decode cX7_look 59 = .ok (.invokevirtual 145, 3) := by decide +kernel
theorem dX7_look_62 : decode cX7_look 62 = .ok (.ifCond .eq 113, 3) := by decide +kernel
theorem dX7_look_65 : decode cX7_look 65 = .ok (.aload_n 0, 1) := by decide +kernel
theorem dX7_look_66 : decode cX7_look 66 = .ok (.iconst 3, 1) := by decide +kernel
theorem dX7_look_67 : decode cX7_look 67 = .ok (.invokevirtual 149, 3) := by decide +kernel
theorem dX7_look_70 : decode cX7_look 70 = .ok (.lstore_n 1, 1) := by decide +kernel
theorem dX7_look_71 : decode cX7_look 71 = .ok (.iconst 0, 1) := by decide +kernel
theorem dX7_look_72 : decode cX7_look 72 = .ok (.istore_n 3, 1) := by decide +kernel
theorem dX7_look_73 : decode cX7_look 73 = .ok (.iload_n 3, 1) := by decide +kernel
theorem dX7_look_74 : decode cX7_look 74 = .ok (.aload_n 0, 1) := by decide +kernel
theorem dX7_look_75 : decode cX7_look 75 = .ok (.getfield 113, 3) := by decide +kernel
theorem dX7_look_78 : decode cX7_look 78 = .ok (.if_icmp .ge 97, 3) := by decide +kernel
theorem dX7_look_81 : decode cX7_look 81 = .ok (.lload_n 1, 1) := by decide +kernel
theorem dX7_look_82 : decode cX7_look 82 = .ok (.aload_n 0, 1) := by decide +kernel
theorem dX7_look_83 : decode cX7_look 83 = .ok (.iload_n 3, 1) := by decide +kernel
theorem dX7_look_84 : decode cX7_look 84 = .ok (.invokevirtual 153, 3) := by decide +kernel
theorem dX7_look_87 : decode cX7_look 87 = .ok (.lcmp, 1) := by decide +kernel
theorem dX7_look_88 : decode cX7_look 88 = .ok (.ifCond .ne 7, 3) := by decide +kernel
theorem dX7_look_91 : decode cX7_look 91 = .ok (.iconst 1, 1) := by decide +kernel
theorem dX7_look_92 : decode cX7_look 92 = .ok (.goto 4, 3) := by decide +kernel
theorem dX7_look_95 : decode cX7_look 95 = .ok (.iconst 0, 1) := by decide +kernel
theorem dX7_look_96 : decode cX7_look 96 = .ok (.istore 4, 2) := by decide +kernel
theorem dX7_look_98 : decode cX7_look 98 = .ok (.lload_n 1, 1) := by decide +kernel
theorem dX7_look_99 : decode cX7_look 99 = .ok (.ldc2_w 156, 3) := by decide +kernel
theorem dX7_look_102 : decode cX7_look 102 = .ok (.land, 1) := by decide +kernel
theorem dX7_look_103 : decode cX7_look 103 = .ok (.ldc2_w 156, 3) := by decide +kernel
theorem dX7_look_106 : decode cX7_look 106 = .ok (.lcmp, 1) := by decide +kernel
theorem dX7_look_107 : decode cX7_look 107 = .ok (.ifCond .ne 33, 3) := by decide +kernel
theorem dX7_look_110 : decode cX7_look 110 = .ok (.lload_n 1, 1) := by decide +kernel
theorem dX7_look_111 : decode cX7_look 111 = .ok (.bipush 32, 2) := by decide +kernel
theorem dX7_look_113 : decode cX7_look 113 = .ok (.lshr, 1) := by decide +kernel
theorem dX7_look_114 : decode cX7_look 114 = .ok (.ldc2_w 158, 3) := by decide +kernel
theorem dX7_look_117 : decode cX7_look 117 = .ok (.lcmp, 1) := by decide +kernel
theorem dX7_look_118 : decode cX7_look 118 = .ok (.ifCond .eq 18, 3) := by decide +kernel
theorem dX7_look_121 : decode cX7_look 121 = .ok (.lload_n 1, 1) := by decide +kernel
theorem dX7_look_122 : decode cX7_look 122 = .ok (.bipush 32, 2) := by decide +kernel
theorem dX7_look_124 : decode cX7_look 124 = .ok (.lshr, 1) := by decide +kernel
theorem dX7_look_125 : decode cX7_look 125 = .ok (.aload_n 0, 1) := by decide +kernel
theorem dX7_look_126 : decode cX7_look 126 = .ok (.getfield 7, 3) := by decide +kernel
theorem dX7_look_129 : decode cX7_look 129 = .ok (.iload_n 3, 1) := by decide +kernel
theorem dX7_look_130 : decode cX7_look 130 = .ok (.iaload, 1) := by decide +kernel
theorem dX7_look_131 : decode cX7_look 131 = .ok (.i2l, 1) := by decide +kernel
theorem dX7_look_132 : decode cX7_look 132 = .ok (.lcmp, 1) := by decide +kernel
theorem dX7_look_133 : decode cX7_look 133 = .ok (.ifCond .ne 7, 3) := by decide +kernel
theorem dX7_look_136 : decode cX7_look 136 = .ok (.iconst 1, 1) := by decide +kernel
theorem dX7_look_137 : decode cX7_look 137 = .ok (.goto 4, 3) := by decide +kernel
theorem dX7_look_140 : decode cX7_look 140 = .ok (.iconst 0, 1) := by decide +kernel
theorem dX7_look_141 : decode cX7_look 141 = .ok (.istore 5, 2) := by decide +kernel
theorem dX7_look_143 : decode cX7_look 143 = .ok (.iload 4, 2) := by decide +kernel
theorem dX7_look_145 : decode cX7_look 145 = .ok (.ifCond .ne 8, 3) := by decide +kernel
theorem dX7_look_148 : decode cX7_look 148 = .ok (.iload 5, 2) := by decide +kernel
theorem dX7_look_150 : decode cX7_look 150 = .ok (.ifCond .eq 19, 3) := by decide +kernel
theorem dX7_look_153 : decode cX7_look 153 = .ok (.aload_n 0, 1) := by decide +kernel
theorem dX7_look_154 : decode cX7_look 154 = .ok (.iconst 0, 1) := by decide +kernel
theorem dX7_look_155 : decode cX7_look 155 = .ok (.putfield 160, 3) := by decide +kernel
theorem dX7_look_158 : decode cX7_look 158 = .ok (.aload_n 0, 1) := by decide +kernel
theorem dX7_look_159 : decode cX7_look 159 = .ok (.iload_n 3, 1) := by decide +kernel
theorem dX7_look_160 : decode cX7_look 160 = .ok (.iload 4, 2) := by decide +kernel
theorem dX7_look_162 : decode cX7_look 162 = .ok (.invokevirtual 163, 3) := by decide +kernel
theorem dX7_look_165 : decode cX7_look 165 = .ok (.aload_n 0, 1) := by decide +kernel
theorem dX7_look_166 : decode cX7_look 166 = .ok (.invokevirtual 167, 3) := by decide +kernel
theorem dX7_look_169 : decode cX7_look 169 = .ok (.iinc 3 1, 3) := by decide +kernel
theorem dX7_look_172 : decode cX7_look 172 = .ok (.goto (-99), 3) := by decide +kernel
theorem dX7_look_175 : decode cX7_look 175 = .ok (.aload_n 0, 1) := by decide +kernel
theorem dX7_look_176 : decode cX7_look 176 = .ok (.getfield 135, 3) := by decide +kernel
theorem dX7_look_179 : decode cX7_look 179 = .ok (.ifCond .le 67, 3) := by decide +kernel
theorem dX7_look_182 : decode cX7_look 182 = .ok (.iconst 0, 1) := by decide +kernel
theorem dX7_look_183 : decode cX7_look 183 = .ok (.istore_n 1, 1) := by decide +kernel
theorem dX7_look_184 : decode cX7_look 184 = .ok (.iload_n 1, 1) := by decide +kernel
theorem dX7_look_185 : decode cX7_look 185 = .ok (.aload_n 0, 1) := by decide +kernel
theorem dX7_look_186 : decode cX7_look 186 = .ok (.getfield 170, 3) := by decide +kernel
theorem dX7_look_189 : decode cX7_look 189 = .ok (.if_icmp .ge 52, 3) := by decide +kernel
theorem dX7_look_192 : decode cX7_look 192 = .ok (.aload_n 0, 1) := by decide +kernel
theorem dX7_look_193 : decode cX7_look 193 = .ok (.getfield 76, 3) := by decide +kernel
theorem dX7_look_196 : decode cX7_look 196 = .ok (.iload_n 1, 1) := by decide +kernel
theorem dX7_look_197 : decode cX7_look 197 = .ok (.iaload, 1) := by decide +kernel
theorem dX7_look_198 : decode cX7_look 198 = .ok (.aload_n 0, 1) := by decide +kernel
theorem dX7_look_199 : decode cX7_look 199 = .ok (.getfield 135, 3) := by decide +kernel
theorem dX7_look_202 : decode cX7_look 202 = .ok (.if_icmp .ge 33, 3) := by decide +kernel
theorem dX7_look_205 : decode cX7_look 205 = .ok (.aload_n 0, 1) := by decide +kernel
theorem dX7_look_206 : decode cX7_look 206 = .ok (.getfield 70, 3) := by decide +kernel
theorem dX7_look_209 : decode cX7_look 209 = .ok (.aload_n 0, 1) := by decide +kernel
theorem dX7_look_210 : decode cX7_look 210 = .ok (.getfield 76, 3) := by decide +kernel
theorem dX7_look_213 : decode cX7_look 213 = .ok (.iload_n 1, 1) := by decide +kernel
theorem dX7_look_214 : decode cX7_look 214 = .ok (.iaload, 1) := by decide +kernel
theorem dX7_look_215 : decode cX7_look 215 = .ok (.aload_n 0, 1) := by decide +kernel
theorem dX7_look_216 : decode cX7_look 216 = .ok (.getfield 70, 3) := by decide +kernel
theorem dX7_look_219 : decode cX7_look 219 = .ok (.aload_n 0, 1) := by decide +kernel
theorem dX7_look_220 : decode cX7_look 220 = .ok (.getfield 76, 3) := by decide +kernel
theorem dX7_look_223 : decode cX7_look 223 = .ok (.iload_n 1, 1) := by decide +kernel
theorem dX7_look_224 : decode cX7_look 224 = .ok (.iaload, 1) := by decide +kernel
theorem dX7_look_225 : decode cX7_look 225 = .ok (.baload, 1) := by decide +kernel
theorem dX7_look_226 : decode cX7_look 226 = .ok (.aload_n 0, 1) := by decide +kernel
theorem dX7_look_227 : decode cX7_look 227 = .ok (.getfield 79, 3) := by decide +kernel
theorem dX7_look_230 : decode cX7_look 230 = .ok (.iload_n 1, 1) := by decide +kernel
theorem dX7_look_231 : decode cX7_look 231 = .ok (.iaload, 1) := by decide +kernel
theorem dX7_look_232 : decode cX7_look 232 = .ok (.ixor, 1) := by decide +kernel
theorem dX7_look_233 : decode cX7_look 233 = .ok (.i2b, 1) := by decide +kernel
theorem dX7_look_234 : decode cX7_look 234 = .ok (.bastore, 1) := by decide +kernel
theorem dX7_look_235 : decode cX7_look 235 = .ok (.iinc 1 1, 3) := by decide +kernel
theorem dX7_look_238 : decode cX7_look 238 = .ok (.goto (-54), 3) := by decide +kernel
theorem dX7_look_241 : decode cX7_look 241 = .ok (.aload_n 0, 1) := by decide +kernel
theorem dX7_look_242 : decode cX7_look 242 = .ok (.iconst 0, 1) := by decide +kernel
theorem dX7_look_243 : decode cX7_look 243 = .ok (.putfield 170, 3) := by decide +kernel
theorem dX7_look_246 : decode cX7_look 246 = .ok (.return_, 1) := by decide +kernel
theorem dX7_takeLevels_0 : decode cX7_takeLevels 0 = .ok (.iconst 0, 1) := by decide +kernel
theorem dX7_takeLevels_1 : decode cX7_takeLevels 1 = .ok (.istore_n 2, 1) := by decide +kernel
theorem dX7_takeLevels_2 : decode cX7_takeLevels 2 = .ok (.iload_n 2, 1) := by decide +kernel
theorem dX7_takeLevels_3 : decode cX7_takeLevels 3 = .ok (.aload_n 0, 1) := by decide +kernel
theorem dX7_takeLevels_4 : decode cX7_takeLevels 4 = .ok (.iload_n 1, 1) := by decide +kernel
theorem dX7_takeLevels_5 : decode cX7_takeLevels 5 = .ok (.invokevirtual 173, 3) := by decide +kernel
theorem dX7_takeLevels_8 : decode cX7_takeLevels 8 = .ok (.if_icmp .ge 48, 3) := by decide +kernel
theorem dX7_takeLevels_11 : decode cX7_takeLevels 11 = .ok (.aload_n 0, 1) := by decide +kernel
theorem dX7_takeLevels_12 : decode cX7_takeLevels 12 = .ok (.getfield 26, 3) := by decide +kernel
theorem dX7_takeLevels_15 : decode cX7_takeLevels 15 = .ok (.iload_n 1, 1) := by decide +kernel
theorem dX7_takeLevels_16 : decode cX7_takeLevels 16 = .ok (.iaload, 1) := by decide +kernel
theorem dX7_takeLevels_17 : decode cX7_takeLevels 17 = .ok (.iload_n 2, 1) := by decide +kernel
theorem dX7_takeLevels_18 : decode cX7_takeLevels 18 = .ok (.iadd, 1) := by decide +kernel
theorem dX7_takeLevels_19 : decode cX7_takeLevels 19 = .ok (.aload_n 0, 1) := by decide +kernel
theorem dX7_takeLevels_20 : decode cX7_takeLevels 20 = .ok (.getfield 138, 3) := by decide +kernel
theorem dX7_takeLevels_23 : decode cX7_takeLevels 23 = .ok (.if_icmp .ge 27, 3) := by decide +kernel
theorem dX7_takeLevels_26 : decode cX7_takeLevels 26 = .ok (.aload_n 0, 1) := by decide +kernel
theorem dX7_takeLevels_27 : decode cX7_takeLevels 27 = .ok (.getfield 46, 3) := by decide +kernel
theorem dX7_takeLevels_30 : decode cX7_takeLevels 30 = .ok (.sipush 512, 3) := by decide +kernel
theorem dX7_takeLevels_33 : decode cX7_takeLevels 33 = .ok (.iload_n 1, 1) := by decide +kernel
theorem dX7_takeLevels_34 : decode cX7_takeLevels 34 = .ok (.imul, 1) := by decide +kernel
theorem dX7_takeLevels_35 : decode cX7_takeLevels 35 = .ok (.iload_n 2, 1) := by decide +kernel
theorem dX7_takeLevels_36 : decode cX7_takeLevels 36 = .ok (.iadd, 1) := by decide +kernel
theorem dX7_takeLevels_37 : decode cX7_takeLevels 37 = .ok (.aload_n 0, 1) := by decide +kernel
theorem dX7_takeLevels_38 : decode cX7_takeLevels 38 = .ok (.aload_n 0, 1) := by decide +kernel
theorem dX7_takeLevels_39 : decode cX7_takeLevels 39 = .ok (.getfield 26, 3) := by decide +kernel
theorem dX7_takeLevels_42 : decode cX7_takeLevels 42 = .ok (.iload_n 1, 1) := by decide +kernel
theorem dX7_takeLevels_43 : decode cX7_takeLevels 43 = .ok (.iaload, 1) := by decide +kernel
theorem dX7_takeLevels_44 : decode cX7_takeLevels 44 = .ok (.iload_n 2, 1) := by decide +kernel
theorem dX7_takeLevels_45 : decode cX7_takeLevels 45 = .ok (.iadd, 1) := by decide +kernel
theorem dX7_takeLevels_46 : decode cX7_takeLevels 46 = .ok (.invokevirtual 123, 3) := by decide +kernel
theorem dX7_takeLevels_49 : decode cX7_takeLevels 49 = .ok (.iastore, 1) := by decide +kernel
theorem dX7_takeLevels_50 : decode cX7_takeLevels 50 = .ok (.iinc 2 1, 3) := by decide +kernel
theorem dX7_takeLevels_53 : decode cX7_takeLevels 53 = .ok (.goto (-51), 3) := by decide +kernel
theorem dX7_takeLevels_56 : decode cX7_takeLevels 56 = .ok (.aload_n 0, 1) := by decide +kernel
theorem dX7_takeLevels_57 : decode cX7_takeLevels 57 = .ok (.getfield 26, 3) := by decide +kernel
theorem dX7_takeLevels_60 : decode cX7_takeLevels 60 = .ok (.iload_n 1, 1) := by decide +kernel
theorem dX7_takeLevels_61 : decode cX7_takeLevels 61 = .ok (.iaload, 1) := by decide +kernel
theorem dX7_takeLevels_62 : decode cX7_takeLevels 62 = .ok (.aload_n 0, 1) := by decide +kernel
theorem dX7_takeLevels_63 : decode cX7_takeLevels 63 = .ok (.getfield 138, 3) := by decide +kernel
theorem dX7_takeLevels_66 : decode cX7_takeLevels 66 = .ok (.if_icmp .ge 13, 3) := by decide +kernel
theorem dX7_takeLevels_69 : decode cX7_takeLevels 69 = .ok (.aload_n 0, 1) := by decide +kernel
theorem dX7_takeLevels_70 : decode cX7_takeLevels 70 = .ok (.getfield 49, 3) := by decide +kernel
theorem dX7_takeLevels_73 : decode cX7_takeLevels 73 = .ok (.iload_n 1, 1) := by decide +kernel
theorem dX7_takeLevels_74 : decode cX7_takeLevels 74 = .ok (.aload_n 0, 1) := by decide +kernel
theorem dX7_takeLevels_75 : decode cX7_takeLevels 75 = .ok (.getfield 129, 3) := by decide +kernel
theorem dX7_takeLevels_78 : decode cX7_takeLevels 78 = .ok (.iastore, 1) := by decide +kernel
theorem dX7_takeLevels_79 : decode cX7_takeLevels 79 = .ok (.return_, 1) := by decide +kernel
theorem dX7_isPacket_0 : decode cX7_isPacket 0 = .ok (.aload_n 0, 1) := by decide +kernel
theorem dX7_isPacket_1 : decode cX7_isPacket 1 = .ok (.getfield 138, 3) := by decide +kernel
theorem dX7_isPacket_4 : decode cX7_isPacket 4 = .ok (.bipush 26, 2) := by decide +kernel
theorem dX7_isPacket_6 : decode cX7_isPacket 6 = .ok (.if_icmp .lt 64, 3) := by decide +kernel
theorem dX7_isPacket_9 : decode cX7_isPacket 9 = .ok (.aload_n 0, 1) := by decide +kernel
theorem dX7_isPacket_10 : decode cX7_isPacket 10 = .ok (.iconst 0, 1) := by decide +kernel
theorem dX7_isPacket_11 : decode cX7_isPacket 11 = .ok (.invokevirtual 123, 3) := by decide +kernel
theorem dX7_isPacket_14 : decode cX7_isPacket 14 = .ok (.sipush 204, 3) := by decide +kernel
theorem dX7_isPacket_17 : decode cX7_isPacket 17 = .ok (.if_icmp .ne 53, 3) := by decide +kernel
theorem dX7_isPacket_20 : decode cX7_isPacket 20 = .ok (.aload_n 0, 1) := by decide +kernel
theorem dX7_isPacket_21 : decode cX7_isPacket 21 = .ok (.iconst 1, 1) := by decide +kernel
theorem dX7_isPacket_22 : decode cX7_isPacket 22 = .ok (.invokevirtual 123, 3) := by decide +kernel
theorem dX7_isPacket_25 : decode cX7_isPacket 25 = .ok (.iconst 1, 1) := by decide +kernel
theorem dX7_isPacket_26 : decode cX7_isPacket 26 = .ok (.if_icmp .ne 44, 3) := by decide +kernel
theorem dX7_isPacket_29 : decode cX7_isPacket 29 = .ok (.aload_n 0, 1) := by decide +kernel
theorem dX7_isPacket_30 : decode cX7_isPacket 30 = .ok (.iconst 2, 1) := by decide +kernel
theorem dX7_isPacket_31 : decode cX7_isPacket 31 = .ok (.invokevirtual 123, 3) := by decide +kernel
theorem dX7_isPacket_34 : decode cX7_isPacket 34 = .ok (.bipush 24, 2) := by decide +kernel
theorem dX7_isPacket_36 : decode cX7_isPacket 36 = .ok (.if_icmp .lt 34, 3) := by decide +kernel
theorem dX7_isPacket_39 : decode cX7_isPacket 39 = .ok (.aload_n 0, 1) := by decide +kernel
theorem dX7_isPacket_40 : decode cX7_isPacket 40 = .ok (.getfield 138, 3) := by decide +kernel
theorem dX7_isPacket_43 : decode cX7_isPacket 43 = .ok (.aload_n 0, 1) := by decide +kernel
theorem dX7_isPacket_44 : decode cX7_isPacket 44 = .ok (.iconst 2, 1) := by decide +kernel
theorem dX7_isPacket_45 : decode cX7_isPacket 45 = .ok (.invokevirtual 123, 3) := by decide +kernel
theorem dX7_isPacket_48 : decode cX7_isPacket 48 = .ok (.iconst 2, 1) := by decide +kernel
theorem dX7_isPacket_49 : decode cX7_isPacket 49 = .ok (.iadd, 1) := by decide +kernel
theorem dX7_isPacket_50 : decode cX7_isPacket 50 = .ok (.if_icmp .ne 20, 3) := by decide +kernel
theorem dX7_isPacket_53 : decode cX7_isPacket 53 = .ok (.aload_n 0, 1) := by decide +kernel
theorem dX7_isPacket_54 : decode cX7_isPacket 54 = .ok (.bipush 23, 2) := by decide +kernel
theorem dX7_isPacket_56 : decode cX7_isPacket 56 = .ok (.invokevirtual 123, 3) := by decide +kernel
theorem dX7_isPacket_59 : decode cX7_isPacket 59 = .ok (.aload_n 0, 1) := by decide +kernel
theorem dX7_isPacket_60 : decode cX7_isPacket 60 = .ok (.iconst 2, 1) := by decide +kernel
theorem dX7_isPacket_61 : decode cX7_isPacket 61 = .ok (.invokevirtual 123, 3) := by decide +kernel
theorem dX7_isPacket_64 : decode cX7_isPacket 64 = .ok (.bipush 24, 2) := by decide +kernel
theorem dX7_isPacket_66 : decode cX7_isPacket 66 = .ok (.isub, 1) := by decide +kernel
theorem dX7_isPacket_67 : decode cX7_isPacket 67 = .ok (.if_icmp .eq 5, 3) := by decide +kernel
theorem dX7_isPacket_70 : decode cX7_isPacket 70 = .ok (.iconst 0, 1) := by decide +kernel
theorem dX7_isPacket_71 : decode cX7_isPacket 71 = .ok (.ireturn, 1) := by decide +kernel
theorem dX7_isPacket_72 : decode cX7_isPacket 72 = .ok (.iconst 0, 1) := by decide +kernel
theorem dX7_isPacket_73 : decode cX7_isPacket 73 = .ok (.istore_n 1, 1) := by decide +kernel
theorem dX7_isPacket_74 : decode cX7_isPacket 74 = .ok (.iconst 0, 1) := by decide +kernel
theorem dX7_isPacket_75 : decode cX7_isPacket 75 = .ok (.istore_n 2, 1) := by decide +kernel
theorem dX7_isPacket_76 : decode cX7_isPacket 76 = .ok (.iload_n 2, 1) := by decide +kernel
theorem dX7_isPacket_77 : decode cX7_isPacket 77 = .ok (.aload_n 0, 1) := by decide +kernel
theorem dX7_isPacket_78 : decode cX7_isPacket 78 = .ok (.iconst 2, 1) := by decide +kernel
theorem dX7_isPacket_79 : decode cX7_isPacket 79 = .ok (.invokevirtual 123, 3) := by decide +kernel
theorem dX7_isPacket_82 : decode cX7_isPacket 82 = .ok (.if_icmp .ge 17, 3) := by decide +kernel
theorem dX7_isPacket_85 : decode cX7_isPacket 85 = .ok (.iload_n 1, 1) := by decide +kernel
theorem dX7_isPacket_86 : decode cX7_isPacket 86 = .ok (.aload_n 0, 1) := by decide +kernel
theorem dX7_isPacket_87 : decode cX7_isPacket 87 = .ok (.iload_n 2, 1) := by decide +kernel
theorem dX7_isPacket_88 : decode cX7_isPacket 88 = .ok (.invokevirtual 123, 3) := by decide +kernel
theorem dX7_isPacket_91 : decode cX7_isPacket 91 = .ok (.iadd, 1) := by decide +kernel
theorem dX7_isPacket_92 : decode cX7_isPacket 92 = .ok (.istore_n 1, 1) := by decide +kernel
theorem dX7_isPacket_93 : decode cX7_isPacket 93 = .ok (.iinc 2 1, 3) := by decide +kernel
theorem dX7_isPacket_96 : decode cX7_isPacket 96 = .ok (.goto (-20), 3) := by decide +kernel
theorem dX7_isPacket_99 : decode cX7_isPacket 99 = .ok (.iload_n 1, 1) := by decide +kernel
theorem dX7_isPacket_100 : decode cX7_isPacket 100 = .ok (.ldc 176, 2) := by decide +kernel
theorem dX7_isPacket_102 : decode cX7_isPacket 102 = .ok (.irem, 1) := by decide +kernel
theorem dX7_isPacket_103 : decode cX7_isPacket 103 = .ok (.aload_n 0, 1) := by decide +kernel
theorem dX7_isPacket_104 : decode cX7_isPacket 104 = .ok (.aload_n 0, 1) := by decide +kernel
theorem dX7_isPacket_105 : decode cX7_isPacket 105 = .ok (.iconst 2, 1) := by decide +kernel
theorem dX7_isPacket_106 : decode cX7_isPacket 106 = .ok (.invokevirtual 123, 3) := by decide +kernel
theorem dX7_isPacket_109 : decode cX7_isPacket 109 = .ok (.invokevirtual 177, 3) := by decide +kernel
theorem dX7_isPacket_112 : decode cX7_isPacket 112 = .ok (.if_icmp .ne 7, 3) := by decide +kernel
theorem dX7_isPacket_115 : decode cX7_isPacket 115 = .ok (.iconst 1, 1) := by decide +kernel
theorem dX7_isPacket_116 : decode cX7_isPacket 116 = .ok (.goto 4, 3) := by decide +kernel
theorem dX7_isPacket_119 : decode cX7_isPacket 119 = .ok (.iconst 0, 1) := by decide +kernel
theorem dX7_isPacket_120 : decode cX7_isPacket 120 = .ok (.ireturn, 1) := by decide +kernel
theorem dX7_fall_0 : decode cX7_fall 0 = .ok (.iconst 0, 1) := by decide +kernel
theorem dX7_fall_1 : decode cX7_fall 1 = .ok (.istore_n 1, 1) := by decide +kernel
theorem dX7_fall_2 : decode cX7_fall 2 = .ok (.iload_n 1, 1) := by decide +kernel
theorem dX7_fall_3 : decode cX7_fall 3 = .ok (.aload_n 0, 1) := by decide +kernel
theorem dX7_fall_4 : decode cX7_fall 4 = .ok (.getfield 160, 3) := by decide +kernel
theorem dX7_fall_7 : decode cX7_fall 7 = .ok (.if_icmp .ge 44, 3) := by decide +kernel
theorem dX7_fall_10 : decode cX7_fall 10 = .ok (.iload_n 1, 1) := by decide +kernel
theorem dX7_fall_11 : decode cX7_fall 11 = .ok (.aload_n 0, 1) := by decide +kernel
theorem dX7_fall_12 : decode cX7_fall 12 = .ok (.getfield 135, 3) := by decide +kernel
theorem dX7_fall_15 : decode cX7_fall 15 = .ok (.if_icmp .lt 10, 3) := by decide +kernel
theorem dX7_fall_18 : decode cX7_fall 18 = .ok (.aload_n 0, 1) := by decide +kernel
theorem dX7_fall_19 : decode cX7_fall 19 = .ok (.getfield 70, 3) := by decide +kernel
theorem dX7_fall_22 : decode cX7_fall 22 = .ok (.iload_n 1, 1) := by decide +kernel
theorem dX7_fall_23 : decode cX7_fall 23 = .ok (.iconst 0, 1) := by decide +kernel
theorem dX7_fall_24 : decode cX7_fall 24 = .ok (.bastore, 1) := by decide +kernel
theorem dX7_fall_25 : decode cX7_fall 25 = .ok (.aload_n 0, 1) := by decide +kernel
theorem dX7_fall_26 : decode cX7_fall 26 = .ok (.getfield 70, 3) := by decide +kernel
theorem dX7_fall_29 : decode cX7_fall 29 = .ok (.iload_n 1, 1) := by decide +kernel
theorem dX7_fall_30 : decode cX7_fall 30 = .ok (.aload_n 0, 1) := by decide +kernel
theorem dX7_fall_31 : decode cX7_fall 31 = .ok (.getfield 70, 3) := by decide +kernel
theorem dX7_fall_34 : decode cX7_fall 34 = .ok (.iload_n 1, 1) := by decide +kernel
theorem dX7_fall_35 : decode cX7_fall 35 = .ok (.baload, 1) := by decide +kernel
theorem dX7_fall_36 : decode cX7_fall 36 = .ok (.aload_n 0, 1) := by decide +kernel
theorem dX7_fall_37 : decode cX7_fall 37 = .ok (.getfield 73, 3) := by decide +kernel
theorem dX7_fall_40 : decode cX7_fall 40 = .ok (.iload_n 1, 1) := by decide +kernel
theorem dX7_fall_41 : decode cX7_fall 41 = .ok (.baload, 1) := by decide +kernel
theorem dX7_fall_42 : decode cX7_fall 42 = .ok (.ior, 1) := by decide +kernel
theorem dX7_fall_43 : decode cX7_fall 43 = .ok (.i2b, 1) := by decide +kernel
theorem dX7_fall_44 : decode cX7_fall 44 = .ok (.bastore, 1) := by decide +kernel
theorem dX7_fall_45 : decode cX7_fall 45 = .ok (.iinc 1 1, 3) := by decide +kernel
theorem dX7_fall_48 : decode cX7_fall 48 = .ok (.goto (-46), 3) := by decide +kernel
theorem dX7_fall_51 : decode cX7_fall 51 = .ok (.aload_n 0, 1) := by decide +kernel
theorem dX7_fall_52 : decode cX7_fall 52 = .ok (.aload_n 0, 1) := by decide +kernel
theorem dX7_fall_53 : decode cX7_fall 53 = .ok (.getfield 160, 3) := by decide +kernel
theorem dX7_fall_56 : decode cX7_fall 56 = .ok (.aload_n 0, 1) := by decide +kernel
theorem dX7_fall_57 : decode cX7_fall 57 = .ok (.getfield 135, 3) := by decide +kernel
theorem dX7_fall_60 : decode cX7_fall 60 = .ok (.if_icmp .le 10, 3) := by decide +kernel
theorem dX7_fall_63 : decode cX7_fall 63 = .ok (.aload_n 0, 1) := by decide +kernel
theorem dX7_fall_64 : decode cX7_fall 64 = .ok (.getfield 160, 3) := by decide +kernel
theorem dX7_fall_67 : decode cX7_fall 67 = .ok (.goto 7, 3) := by decide +kernel
theorem dX7_fall_70 : decode cX7_fall 70 = .ok (.aload_n 0, 1) := by decide +kernel
theorem dX7_fall_71 : decode cX7_fall 71 = .ok (.getfield 135, 3) := by decide +kernel
theorem dX7_fall_74 : decode cX7_fall 74 = .ok (.putfield 135, 3) := by decide +kernel
theorem dX7_fall_77 : decode cX7_fall 77 = .ok (.return_, 1) := by decide +kernel
theorem dX7_put_0 : decode cX7_put 0 = .ok (.aload_n 0, 1) := by decide +kernel
theorem dX7_put_1 : decode cX7_put 1 = .ok (.getfield 73, 3) := by decide +kernel
theorem dX7_put_4 : decode cX7_put 4 = .ok (.aload_n 0, 1) := by decide +kernel
theorem dX7_put_5 : decode cX7_put 5 = .ok (.getfield 160, 3) := by decide +kernel
theorem dX7_put_8 : decode cX7_put 8 = .ok (.iload_n 1, 1) := by decide +kernel
theorem dX7_put_9 : decode cX7_put 9 = .ok (.i2b, 1) := by decide +kernel
theorem dX7_put_10 : decode cX7_put 10 = .ok (.bastore, 1) := by decide +kernel
theorem dX7_put_11 : decode cX7_put 11 = .ok (.aload_n 0, 1) := by decide +kernel
theorem dX7_put_12 : decode cX7_put 12 = .ok (.dup, 1) := by decide +kernel
theorem dX7_put_13 : decode cX7_put 13 = .ok (.getfield 160, 3) := by decide +kernel
theorem dX7_put_16 : decode cX7_put 16 = .ok (.iconst 1, 1) := by decide +kernel
theorem dX7_put_17 : decode cX7_put 17 = .ok (.iadd, 1) := by decide +kernel
theorem dX7_put_18 : decode cX7_put 18 = .ok (.putfield 160, 3) := by decide +kernel
theorem dX7_put_21 : decode cX7_put 21 = .ok (.return_, 1) := by decide +kernel
theorem dX7_putTwo_0 : decode cX7_putTwo 0 = .ok (.aload_n 0, 1) := by decide +kernel
theorem dX7_putTwo_1 : decode cX7_putTwo 1 = .ok (.iload_n 1, 1) := by decide +kernel
theorem dX7_putTwo_2 : decode cX7_putTwo 2 = .ok (.bipush 8, 2) := by decide +kernel
theorem dX7_putTwo_4 : decode cX7_putTwo 4 = .ok (.ishr, 1) := by decide +kernel
theorem dX7_putTwo_5 : decode cX7_putTwo 5 = .ok (.invokevirtual 180, 3) := by decide +kernel
theorem dX7_putTwo_8 : decode cX7_putTwo 8 = .ok (.aload_n 0, 1) := by decide +kernel
theorem dX7_putTwo_9 : decode cX7_putTwo 9 = .ok (.iload_n 1, 1) := by decide +kernel
theorem dX7_putTwo_10 : decode cX7_putTwo 10 = .ok (.invokevirtual 180, 3) := by decide +kernel
theorem dX7_putTwo_13 : decode cX7_putTwo 13 = .ok (.return_, 1) := by decide +kernel
theorem dX7_putId_0 : decode cX7_putId 0 = .ok (.bipush 40, 2) := by decide +kernel
theorem dX7_putId_2 : decode cX7_putId 2 = .ok (.istore_n 3, 1) := by decide +kernel
theorem dX7_putId_3 : decode cX7_putId 3 = .ok (.iload_n 3, 1) := by decide +kernel
theorem dX7_putId_4 : decode cX7_putId 4 = .ok (.ifCond .lt 17, 3) := by decide +kernel
theorem dX7_putId_7 : decode cX7_putId 7 = .ok (.aload_n 0, 1) := by decide +kernel
theorem dX7_putId_8 : decode cX7_putId 8 = .ok (.lload_n 1, 1) := by decide +kernel
theorem dX7_putId_9 : decode cX7_putId 9 = .ok (.iload_n 3, 1) := by decide +kernel
theorem dX7_putId_10 : decode cX7_putId 10 = .ok (.lshr, 1) := by decide +kernel
theorem dX7_putId_11 : decode cX7_putId 11 = .ok (.l2i, 1) := by decide +kernel
theorem dX7_putId_12 : decode cX7_putId 12 = .ok (.invokevirtual 180, 3) := by decide +kernel
theorem dX7_putId_15 : decode cX7_putId 15 = .ok (.iinc 3 (-8), 3) := by decide +kernel
theorem dX7_putId_18 : decode cX7_putId 18 = .ok (.goto (-15), 3) := by decide +kernel
theorem dX7_putId_21 : decode cX7_putId 21 = .ok (.return_, 1) := by decide +kernel
theorem dX7_begin_0 : decode cX7_begin 0 = .ok (.aload_n 0, 1) := by decide +kernel
theorem dX7_begin_1 : decode cX7_begin 1 = .ok (.iconst 0, 1) := by decide +kernel
theorem dX7_begin_2 : decode cX7_begin 2 = .ok (.putfield 160, 3) := by decide +kernel
theorem dX7_begin_5 : decode cX7_begin 5 = .ok (.aload_n 0, 1) := by decide +kernel
theorem dX7_begin_6 : decode cX7_begin 6 = .ok (.sipush 204, 3) := by decide +kernel
theorem dX7_begin_9 : decode cX7_begin 9 = .ok (.invokevirtual 180, 3) := by decide +kernel
theorem dX7_begin_12 : decode cX7_begin 12 = .ok (.aload_n 0, 1) := by decide +kernel
theorem dX7_begin_13 : decode cX7_begin 13 = .ok (.iconst 1, 1) := by decide +kernel
theorem dX7_begin_14 : decode cX7_begin 14 = .ok (.invokevirtual 180, 3) := by decide +kernel
theorem dX7_begin_17 : decode cX7_begin 17 = .ok (.aload_n 0, 1) := by decide +kernel
theorem dX7_begin_18 : decode cX7_begin 18 = .ok (.iconst 0, 1) := by decide +kernel
theorem dX7_begin_19 : decode cX7_begin 19 = .ok (.invokevirtual 180, 3) := by decide +kernel
theorem dX7_begin_22 : decode cX7_begin 22 = .ok (.bipush 9, 2) := by decide +kernel
theorem dX7_begin_24 : decode cX7_begin 24 = .ok (.istore 5, 2) := by decide +kernel
theorem dX7_begin_26 : decode cX7_begin 26 = .ok (.iload 5, 2) := by decide +kernel
theorem dX7_begin_28 : decode cX7_begin 28 = .ok (.bipush 15, 2) := by decide +kernel
theorem dX7_begin_30 : decode cX7_begin 30 = .ok (.if_icmp .ge 19, 3) := by decide +kernel
theorem dX7_begin_33 : decode cX7_begin 33 = .ok (.aload_n 0, 1) := by decide +kernel
theorem dX7_begin_34 : decode cX7_begin 34 = .ok (.aload_n 0, 1) := by decide +kernel
theorem dX7_begin_35 : decode cX7_begin 35 = .ok (.iload 5, 2) := by decide +kernel
theorem dX7_begin_37 : decode cX7_begin 37 = .ok (.invokevirtual 123, 3) := by decide +kernel
theorem dX7_begin_40 : decode cX7_begin 40 = .ok (.invokevirtual 180, 3) := by decide +kernel
theorem dX7_begin_43 : decode cX7_begin 43 = .ok (.iinc 5 1, 3) := by decide +kernel
theorem dX7_begin_46 : decode cX7_begin 46 = .ok (.goto (-20), 3) := by decide +kernel
theorem dX7_begin_49 : decode cX7_begin 49 = .ok (.aload_n 0, 1) := by decide +kernel
theorem dX7_begin_50 : decode cX7_begin 50 = .ok (.aload_n 0, 1) := by decide +kernel
theorem dX7_begin_51 : decode cX7_begin 51 = .ok (.iload_n 1, 1) := by decide +kernel
theorem dX7_begin_52 : decode cX7_begin 52 = .ok (.invokevirtual 153, 3) := by decide +kernel
theorem dX7_begin_55 : decode cX7_begin 55 = .ok (.invokevirtual 183, 3) := by decide +kernel
theorem dX7_begin_58 : decode cX7_begin 58 = .ok (.aload_n 0, 1) := by decide +kernel
theorem dX7_begin_59 : decode cX7_begin 59 = .ok (.aload_n 0, 1) := by decide +kernel
theorem dX7_begin_60 : decode cX7_begin 60 = .ok (.bipush 15, 2) := by decide +kernel
theorem dX7_begin_62 : decode cX7_begin 62 = .ok (.invokevirtual 123, 3) := by decide +kernel
theorem dX7_begin_65 : decode cX7_begin 65 = .ok (.invokevirtual 180, 3) := by decide +kernel
theorem dX7_begin_68 : decode cX7_begin 68 = .ok (.aload_n 0, 1) := by decide +kernel
theorem dX7_begin_69 : decode cX7_begin 69 = .ok (.iload_n 2, 1) := by decide +kernel
theorem dX7_begin_70 : decode cX7_begin 70 = .ok (.invokevirtual 180, 3) := by decide +kernel
theorem dX7_begin_73 : decode cX7_begin 73 = .ok (.aload_n 0, 1) := by decide +kernel
theorem dX7_begin_74 : decode cX7_begin 74 = .ok (.iconst 0, 1) := by decide +kernel
theorem dX7_begin_75 : decode cX7_begin 75 = .ok (.invokevirtual 180, 3) := by decide +kernel
theorem dX7_begin_78 : decode cX7_begin 78 = .ok (.aload_n 0, 1) := by decide +kernel
theorem dX7_begin_79 : decode cX7_begin 79 = .ok (.aload_n 0, 1) := by decide +kernel
theorem dX7_begin_80 : decode cX7_begin 80 = .ok (.bipush 18, 2) := by decide +kernel
theorem dX7_begin_82 : decode cX7_begin 82 = .ok (.invokevirtual 177, 3) := by decide +kernel
theorem dX7_begin_85 : decode cX7_begin 85 = .ok (.invokevirtual 187, 3) := by decide +kernel
theorem dX7_begin_88 : decode cX7_begin 88 = .ok (.aload_n 0, 1) := by decide +kernel
theorem dX7_begin_89 : decode cX7_begin 89 = .ok (.iload_n 3, 1) := by decide +kernel
theorem dX7_begin_90 : decode cX7_begin 90 = .ok (.invokevirtual 180, 3) := by decide +kernel
theorem dX7_begin_93 : decode cX7_begin 93 = .ok (.aload_n 0, 1) := by decide +kernel
theorem dX7_begin_94 : decode cX7_begin 94 = .ok (.iload 4, 2) := by decide +kernel
theorem dX7_begin_96 : decode cX7_begin 96 = .ok (.invokevirtual 187, 3) := by decide +kernel
theorem dX7_begin_99 : decode cX7_begin 99 = .ok (.aload_n 0, 1) := by decide +kernel
theorem dX7_begin_100 : decode cX7_begin 100 = .ok (.iconst 0, 1) := by decide +kernel
theorem dX7_begin_101 : decode cX7_begin 101 = .ok (.invokevirtual 180, 3) := by decide +kernel
theorem dX7_begin_104 : decode cX7_begin 104 = .ok (.return_, 1) := by decide +kernel
theorem dX7_finish_0 : decode cX7_finish 0 = .ok (.aload_n 0, 1) := by decide +kernel
theorem dX7_finish_1 : decode cX7_finish 1 = .ok (.getfield 73, 3) := by decide +kernel
theorem dX7_finish_4 : decode cX7_finish 4 = .ok (.bipush 17, 2) := by decide +kernel
theorem dX7_finish_6 : decode cX7_finish 6 = .ok (.aload_n 0, 1) := by decide +kernel
theorem dX7_finish_7 : decode cX7_finish 7 = .ok (.iload_n 1, 1) := by decide +kernel
theorem dX7_finish_8 : decode cX7_finish 8 = .ok (.invokevirtual 190, 3) := by decide +kernel
theorem dX7_finish_11 : decode cX7_finish 11 = .ok (.i2b, 1) := by decide +kernel
theorem dX7_finish_12 : decode cX7_finish 12 = .ok (.bastore, 1) := by decide +kernel
theorem dX7_finish_13 : decode cX7_finish 13 = .ok (.aload_n 0, 1) := by decide +kernel
theorem dX7_finish_14 : decode cX7_finish 14 = .ok (.getfield 73, 3) := by decide +kernel
theorem dX7_finish_17 : decode cX7_finish 17 = .ok (.iconst 2, 1) := by decide +kernel
theorem dX7_finish_18 : decode cX7_finish 18 = .ok (.aload_n 0, 1) := by decide +kernel
theorem dX7_finish_19 : decode cX7_finish 19 = .ok (.getfield 160, 3) := by decide +kernel
theorem dX7_finish_22 : decode cX7_finish 22 = .ok (.i2b, 1) := by decide +kernel
theorem dX7_finish_23 : decode cX7_finish 23 = .ok (.bastore, 1) := by decide +kernel
theorem dX7_finish_24 : decode cX7_finish 24 = .ok (.aload_n 0, 1) := by decide +kernel
theorem dX7_finish_25 : decode cX7_finish 25 = .ok (.getfield 73, 3) := by decide +kernel
theorem dX7_finish_28 : decode cX7_finish 28 = .ok (.bipush 23, 2) := by decide +kernel
theorem dX7_finish_30 : decode cX7_finish 30 = .ok (.aload_n 0, 1) := by decide +kernel
theorem dX7_finish_31 : decode cX7_finish 31 = .ok (.getfield 160, 3) := by decide +kernel
theorem dX7_finish_34 : decode cX7_finish 34 = .ok (.bipush 24, 2) := by decide +kernel
theorem dX7_finish_36 : decode cX7_finish 36 = .ok (.isub, 1) := by decide +kernel
theorem dX7_finish_37 : decode cX7_finish 37 = .ok (.i2b, 1) := by decide +kernel
theorem dX7_finish_38 : decode cX7_finish 38 = .ok (.bastore, 1) := by decide +kernel
theorem dX7_finish_39 : decode cX7_finish 39 = .ok (.iconst 0, 1) := by decide +kernel
theorem dX7_finish_40 : decode cX7_finish 40 = .ok (.istore_n 2, 1) := by decide +kernel
theorem dX7_finish_41 : decode cX7_finish 41 = .ok (.iconst 0, 1) := by decide +kernel
theorem dX7_finish_42 : decode cX7_finish 42 = .ok (.istore_n 3, 1) := by decide +kernel
theorem dX7_finish_43 : decode cX7_finish 43 = .ok (.iload_n 3, 1) := by decide +kernel
theorem dX7_finish_44 : decode cX7_finish 44 = .ok (.aload_n 0, 1) := by decide +kernel
theorem dX7_finish_45 : decode cX7_finish 45 = .ok (.getfield 160, 3) := by decide +kernel
theorem dX7_finish_48 : decode cX7_finish 48 = .ok (.if_icmp .ge 22, 3) := by decide +kernel
theorem dX7_finish_51 : decode cX7_finish 51 = .ok (.iload_n 2, 1) := by decide +kernel
theorem dX7_finish_52 : decode cX7_finish 52 = .ok (.aload_n 0, 1) := by decide +kernel
theorem dX7_finish_53 : decode cX7_finish 53 = .ok (.getfield 73, 3) := by decide +kernel
theorem dX7_finish_56 : decode cX7_finish 56 = .ok (.iload_n 3, 1) := by decide +kernel
theorem dX7_finish_57 : decode cX7_finish 57 = .ok (.baload, 1) := by decide +kernel
theorem dX7_finish_58 : decode cX7_finish 58 = .ok (.sipush 255, 3) := by decide +kernel
theorem dX7_finish_61 : decode cX7_finish 61 = .ok (.iand, 1) := by decide +kernel
theorem dX7_finish_62 : decode cX7_finish 62 = .ok (.iadd, 1) := by decide +kernel
theorem dX7_finish_63 : decode cX7_finish 63 = .ok (.istore_n 2, 1) := by decide +kernel
theorem dX7_finish_64 : decode cX7_finish 64 = .ok (.iinc 3 1, 3) := by decide +kernel
theorem dX7_finish_67 : decode cX7_finish 67 = .ok (.goto (-24), 3) := by decide +kernel
theorem dX7_finish_70 : decode cX7_finish 70 = .ok (.aload_n 0, 1) := by decide +kernel
theorem dX7_finish_71 : decode cX7_finish 71 = .ok (.iload_n 2, 1) := by decide +kernel
theorem dX7_finish_72 : decode cX7_finish 72 = .ok (.invokevirtual 187, 3) := by decide +kernel
theorem dX7_finish_75 : decode cX7_finish 75 = .ok (.return_, 1) := by decide +kernel
theorem dX7_hear_0 : decode cX7_hear 0 = .ok (.aload_n 0, 1) := by decide +kernel
theorem dX7_hear_1 : decode cX7_hear 1 = .ok (.bipush 20, 2) := by decide +kernel
theorem dX7_hear_3 : decode cX7_hear 3 = .ok (.invokevirtual 123, 3) := by decide +kernel
theorem dX7_hear_6 : decode cX7_hear 6 = .ok (.lookupswitch 101 #[(16, 34), (32, 43), (48, 65)], 34) := by decide +kernel
theorem dX7_hear_40 : decode cX7_hear 40 = .ok (.aload_n 0, 1) := by decide +kernel
theorem dX7_hear_41 : decode cX7_hear 41 = .ok (.iload_n 1, 1) := by decide +kernel
theorem dX7_hear_42 : decode cX7_hear 42 = .ok (.iload_n 2, 1) := by decide +kernel
theorem dX7_hear_43 : decode cX7_hear 43 = .ok (.invokevirtual 193, 3) := by decide +kernel
theorem dX7_hear_46 : decode cX7_hear 46 = .ok (.goto 61, 3) := by decide +kernel
theorem dX7_hear_49 : decode cX7_hear 49 = .ok (.iload_n 2, 1) := by decide +kernel
theorem dX7_hear_50 : decode cX7_hear 50 = .ok (.ifCond .eq 57, 3) := by decide +kernel
theorem dX7_hear_53 : decode cX7_hear 53 = .ok (.aload_n 0, 1) := by decide +kernel
theorem dX7_hear_54 : decode cX7_hear 54 = .ok (.getfield 43, 3) := by decide +kernel
theorem dX7_hear_57 : decode cX7_hear 57 = .ok (.iload_n 1, 1) := by decide +kernel
theorem dX7_hear_58 : decode cX7_hear 58 = .ok (.dup2, 1) := by decide +kernel
theorem dX7_hear_59 : decode cX7_hear 59 = .ok (.iaload, 1) := by decide +kernel
theorem dX7_hear_60 : decode cX7_hear 60 = .ok (.iconst 1, 1) := by decide +kernel
theorem dX7_hear_61 : decode cX7_hear 61 = .ok (.iadd, 1) := by decide +kernel
theorem dX7_hear_62 : decode cX7_hear 62 = .ok (.iastore, 1) := by decide +kernel
theorem dX7_hear_63 : decode cX7_hear 63 = .ok (.aload_n 0, 1) := by decide +kernel
theorem dX7_hear_64 : decode cX7_hear 64 = .ok (.iload_n 1, 1) := by decide +kernel
theorem dX7_hear_65 : decode cX7_hear 65 = .ok (.invokevirtual 196, 3) := by decide +kernel
theorem dX7_hear_68 : decode cX7_hear 68 = .ok (.goto 39, 3) := by decide +kernel
theorem dX7_hear_71 : decode cX7_hear 71 = .ok (.aload_n 0, 1) := by decide +kernel
theorem dX7_hear_72 : decode cX7_hear 72 = .ok (.getfield 43, 3) := by decide +kernel
theorem dX7_hear_75 : decode cX7_hear 75 = .ok (.iload_n 1, 1) := by decide +kernel
theorem dX7_hear_76 : decode cX7_hear 76 = .ok (.iload_n 2, 1) := by decide +kernel
theorem dX7_hear_77 : decode cX7_hear 77 = .ok (.ifCond .eq 14, 3) := by decide +kernel
theorem dX7_hear_80 : decode cX7_hear 80 = .ok (.aload_n 0, 1) := by decide +kernel
theorem dX7_hear_81 : decode cX7_hear 81 = .ok (.getfield 43, 3) := by decide +kernel
theorem dX7_hear_84 : decode cX7_hear 84 = .ok (.iload_n 1, 1) := by decide +kernel
theorem dX7_hear_85 : decode cX7_hear 85 = .ok (.iaload, 1) := by decide +kernel
theorem dX7_hear_86 : decode cX7_hear 86 = .ok (.iconst 1, 1) := by decide +kernel
theorem dX7_hear_87 : decode cX7_hear 87 = .ok (.iadd, 1) := by decide +kernel
theorem dX7_hear_88 : decode cX7_hear 88 = .ok (.goto 9, 3) := by decide +kernel
theorem dX7_hear_91 : decode cX7_hear 91 = .ok (.aload_n 0, 1) := by decide +kernel
theorem dX7_hear_92 : decode cX7_hear 92 = .ok (.getfield 43, 3) := by decide +kernel
theorem dX7_hear_95 : decode cX7_hear 95 = .ok (.iload_n 1, 1) := by decide +kernel
theorem dX7_hear_96 : decode cX7_hear 96 = .ok (.iaload, 1) := by decide +kernel
theorem dX7_hear_97 : decode cX7_hear 97 = .ok (.iastore, 1) := by decide +kernel
theorem dX7_hear_98 : decode cX7_hear 98 = .ok (.aload_n 0, 1) := by decide +kernel
theorem dX7_hear_99 : decode cX7_hear 99 = .ok (.iload_n 1, 1) := by decide +kernel
theorem dX7_hear_100 : decode cX7_hear 100 = .ok (.iload_n 2, 1) := by decide +kernel
theorem dX7_hear_101 : decode cX7_hear 101 = .ok (.invokevirtual 199, 3) := by decide +kernel
theorem dX7_hear_104 : decode cX7_hear 104 = .ok (.goto 3, 3) := by decide +kernel
theorem dX7_hear_107 : decode cX7_hear 107 = .ok (.return_, 1) := by decide +kernel
theorem dX7_hearSearch_0 : decode cX7_hearSearch 0 = .ok (.aload_n 0, 1) := by decide +kernel
theorem dX7_hearSearch_1 : decode cX7_hearSearch 1 = .ok (.bipush 21, 2) := by decide +kernel
theorem dX7_hearSearch_3 : decode cX7_hearSearch 3 = .ok (.invokevirtual 177, 3) := by decide +kernel
theorem dX7_hearSearch_6 : decode cX7_hearSearch 6 = .ok (.istore_n 3, 1) := by decide +kernel
theorem dX7_hearSearch_7 : decode cX7_hearSearch 7 = .ok (.aload_n 0, 1) := by decide +kernel
theorem dX7_hearSearch_8 : decode cX7_hearSearch 8 = .ok (.bipush 23, 2) := by decide +kernel
theorem dX7_hearSearch_10 : decode cX7_hearSearch 10 = .ok (.invokevirtual 123, 3) := by decide +kernel
theorem dX7_hearSearch_13 : decode cX7_hearSearch 13 = .ok (.istore 4, 2) := by decide +kernel
theorem dX7_hearSearch_15 : decode cX7_hearSearch 15 = .ok (.iload_n 3, 1) := by decide +kernel
theorem dX7_hearSearch_16 : decode cX7_hearSearch 16 = .ok (.iconst 1, 1) := by decide +kernel
theorem dX7_hearSearch_17 : decode cX7_hearSearch 17 = .ok (.if_icmp .ne 59, 3) := by decide +kernel
theorem dX7_hearSearch_20 : decode cX7_hearSearch 20 = .ok (.iload 4, 2) := by decide +kernel
theorem dX7_hearSearch_22 : decode cX7_hearSearch 22 = .ok (.bipush 12, 2) := by decide +kernel
theorem dX7_hearSearch_24 : decode cX7_hearSearch 24 = .ok (.if_icmp .ne 52, 3) := by decide +kernel
theorem dX7_hearSearch_27 : decode cX7_hearSearch 27 = .ok (.aload_n 0, 1) := by decide +kernel
theorem dX7_hearSearch_28 : decode cX7_hearSearch 28 = .ok (.iload_n 1, 1) := by decide +kernel
theorem dX7_hearSearch_29 : decode cX7_hearSearch 29 = .ok (.invokevirtual 153, 3) := by decide +kernel
theorem dX7_hearSearch_32 : decode cX7_hearSearch 32 = .ok (.lstore 5, 2) := by decide +kernel
theorem dX7_hearSearch_34 : decode cX7_hearSearch 34 = .ok (.aload_n 0, 1) := by decide +kernel
theorem dX7_hearSearch_35 : decode cX7_hearSearch 35 = .ok (.getfield 29, 3) := by decide +kernel
theorem dX7_hearSearch_38 : decode cX7_hearSearch 38 = .ok (.iload_n 1, 1) := by decide +kernel
theorem dX7_hearSearch_39 : decode cX7_hearSearch 39 = .ok (.baload, 1) := by decide +kernel
theorem dX7_hearSearch_40 : decode cX7_hearSearch 40 = .ok (.ifCond .ne 33, 3) := by decide +kernel
theorem dX7_hearSearch_43 : decode cX7_hearSearch 43 = .ok (.lload 5, 2) := by decide +kernel
theorem dX7_hearSearch_45 : decode cX7_hearSearch 45 = .ok (.aload_n 0, 1) := by decide +kernel
theorem dX7_hearSearch_46 : decode cX7_hearSearch 46 = .ok (.bipush 24, 2) := by decide +kernel
theorem dX7_hearSearch_48 : decode cX7_hearSearch 48 = .ok (.invokevirtual 149, 3) := by decide +kernel
theorem dX7_hearSearch_51 : decode cX7_hearSearch 51 = .ok (.lcmp, 1) := by decide +kernel
theorem dX7_hearSearch_52 : decode cX7_hearSearch 52 = .ok (.ifCond .lt 21, 3) := by decide +kernel
theorem dX7_hearSearch_55 : decode cX7_hearSearch 55 = .ok (.lload 5, 2) := by decide +kernel
theorem dX7_hearSearch_57 : decode cX7_hearSearch 57 = .ok (.aload_n 0, 1) := by decide +kernel
theorem dX7_hearSearch_58 : decode cX7_hearSearch 58 = .ok (.bipush 30, 2) := by decide +kernel
theorem dX7_hearSearch_60 : decode cX7_hearSearch 60 = .ok (.invokevirtual 149, 3) := by decide +kernel
theorem dX7_hearSearch_63 : decode cX7_hearSearch 63 = .ok (.lcmp, 1) := by decide +kernel
theorem dX7_hearSearch_64 : decode cX7_hearSearch 64 = .ok (.ifCond .gt 9, 3) := by decide +kernel
theorem dX7_hearSearch_67 : decode cX7_hearSearch 67 = .ok (.aload_n 0, 1) := by decide +kernel
theorem dX7_hearSearch_68 : decode cX7_hearSearch 68 = .ok (.lload 5, 2) := by decide +kernel
theorem dX7_hearSearch_70 : decode cX7_hearSearch 70 = .ok (.invokevirtual 202, 3) := by decide +kernel
theorem dX7_hearSearch_73 : decode cX7_hearSearch 73 = .ok (.goto 57, 3) := by decide +kernel
theorem dX7_hearSearch_76 : decode cX7_hearSearch 76 = .ok (.iload_n 3, 1) := by decide +kernel
theorem dX7_hearSearch_77 : decode cX7_hearSearch 77 = .ok (.iconst 2, 1) := by decide +kernel
theorem dX7_hearSearch_78 : decode cX7_hearSearch 78 = .ok (.if_icmp .eq 8, 3) := by decide +kernel
theorem dX7_hearSearch_81 : decode cX7_hearSearch 81 = .ok (.iload_n 3, 1) := by decide +kernel
theorem dX7_hearSearch_82 : decode cX7_hearSearch 82 = .ok (.iconst 3, 1) := by decide +kernel
theorem dX7_hearSearch_83 : decode cX7_hearSearch 83 = .ok (.if_icmp .ne 47, 3) := by decide +kernel
theorem dX7_hearSearch_86 : decode cX7_hearSearch 86 = .ok (.iload 4, 2) := by decide +kernel
theorem dX7_hearSearch_88 : decode cX7_hearSearch 88 = .ok (.ifCond .ne 42, 3) := by decide +kernel
theorem dX7_hearSearch_91 : decode cX7_hearSearch 91 = .ok (.aload_n 0, 1) := by decide +kernel
theorem dX7_hearSearch_92 : decode cX7_hearSearch 92 = .ok (.getfield 29, 3) := by decide +kernel
theorem dX7_hearSearch_95 : decode cX7_hearSearch 95 = .ok (.iload_n 1, 1) := by decide +kernel
theorem dX7_hearSearch_96 : decode cX7_hearSearch 96 = .ok (.iload_n 3, 1) := by decide +kernel
theorem dX7_hearSearch_97 : decode cX7_hearSearch 97 = .ok (.iconst 2, 1) := by decide +kernel
theorem dX7_hearSearch_98 : decode cX7_hearSearch 98 = .ok (.if_icmp .ne 7, 3) := by decide +kernel
theorem dX7_hearSearch_101 : decode cX7_hearSearch 101 = .ok (.iconst 1, 1) := by decide +kernel
theorem dX7_hearSearch_102 : decode cX7_hearSearch 102 = .ok (.goto 4, 3) := by decide +kernel
theorem dX7_hearSearch_105 : decode cX7_hearSearch 105 = .ok (.iconst 0, 1) := by decide +kernel
theorem dX7_hearSearch_106 : decode cX7_hearSearch 106 = .ok (.bastore, 1) := by decide +kernel
theorem dX7_hearSearch_107 : decode cX7_hearSearch 107 = .ok (.iload_n 2, 1) := by decide +kernel
theorem dX7_hearSearch_108 : decode cX7_hearSearch 108 = .ok (.ifCond .eq 22, 3) := by decide +kernel
theorem dX7_hearSearch_111 : decode cX7_hearSearch 111 = .ok (.aload_n 0, 1) := by decide +kernel
theorem dX7_hearSearch_112 : decode cX7_hearSearch 112 = .ok (.iload_n 1, 1) := by decide +kernel
theorem dX7_hearSearch_113 : decode cX7_hearSearch 113 = .ok (.iconst 0, 1) := by decide +kernel
theorem dX7_hearSearch_114 : decode cX7_hearSearch 114 = .ok (.bipush 17, 2) := by decide +kernel
theorem dX7_hearSearch_116 : decode cX7_hearSearch 116 = .ok (.iload_n 3, 1) := by decide +kernel
theorem dX7_hearSearch_117 : decode cX7_hearSearch 117 = .ok (.invokevirtual 205, 3) := by decide +kernel
theorem dX7_hearSearch_120 : decode cX7_hearSearch 120 = .ok (.aload_n 0, 1) := by decide +kernel
theorem dX7_hearSearch_121 : decode cX7_hearSearch 121 = .ok (.iconst 0, 1) := by decide +kernel
theorem dX7_hearSearch_122 : decode cX7_hearSearch 122 = .ok (.invokevirtual 187, 3) := by decide +kernel
theorem dX7_hearSearch_125 : decode cX7_hearSearch 125 = .ok (.aload_n 0, 1) := by decide +kernel
theorem dX7_hearSearch_126 : decode cX7_hearSearch 126 = .ok (.iload_n 1, 1) := by decide +kernel
theorem dX7_hearSearch_127 : decode cX7_hearSearch 127 = .ok (.invokevirtual 209, 3) := by decide +kernel
theorem dX7_hearSearch_130 : decode cX7_hearSearch 130 = .ok (.return_, 1) := by decide +kernel
theorem dX7_show_0 : decode cX7_show 0 = .ok (.aload_n 0, 1) := by decide +kernel
theorem dX7_show_1 : decode cX7_show 1 = .ok (.iconst 0, 1) := by decide +kernel
theorem dX7_show_2 : decode cX7_show 2 = .ok (.putfield 160, 3) := by decide +kernel
theorem dX7_show_5 : decode cX7_show 5 = .ok (.iconst 0, 1) := by decide +kernel
theorem dX7_show_6 : decode cX7_show 6 = .ok (.istore_n 3, 1) := by decide +kernel
theorem dX7_show_7 : decode cX7_show 7 = .ok (.iload_n 3, 1) := by decide +kernel
theorem dX7_show_8 : decode cX7_show 8 = .ok (.bipush 7, 2) := by decide +kernel
theorem dX7_show_10 : decode cX7_show 10 = .ok (.if_icmp .ge 16, 3) := by decide +kernel
theorem dX7_show_13 : decode cX7_show 13 = .ok (.aload_n 0, 1) := by decide +kernel
theorem dX7_show_14 : decode cX7_show 14 = .ok (.sipush 254, 3) := by decide +kernel
theorem dX7_show_17 : decode cX7_show 17 = .ok (.invokevirtual 180, 3) := by decide +kernel
theorem dX7_show_20 : decode cX7_show 20 = .ok (.iinc 3 1, 3) := by decide +kernel
theorem dX7_show_23 : decode cX7_show 23 = .ok (.goto (-16), 3) := by decide +kernel
theorem dX7_show_26 : decode cX7_show 26 = .ok (.aload_n 0, 1) := by decide +kernel
theorem dX7_show_27 : decode cX7_show 27 = .ok (.sipush 170, 3) := by decide +kernel
theorem dX7_show_30 : decode cX7_show 30 = .ok (.invokevirtual 180, 3) := by decide +kernel
theorem dX7_show_33 : decode cX7_show 33 = .ok (.iconst 0, 1) := by decide +kernel
theorem dX7_show_34 : decode cX7_show 34 = .ok (.istore_n 3, 1) := by decide +kernel
theorem dX7_show_35 : decode cX7_show 35 = .ok (.bipush 40, 2) := by decide +kernel
theorem dX7_show_37 : decode cX7_show 37 = .ok (.istore 4, 2) := by decide +kernel
theorem dX7_show_39 : decode cX7_show 39 = .ok (.iload 4, 2) := by decide +kernel
theorem dX7_show_41 : decode cX7_show 41 = .ok (.ifCond .lt 54, 3) := by decide +kernel
theorem dX7_show_44 : decode cX7_show 44 = .ok (.lload_n 1, 1) := by decide +kernel
theorem dX7_show_45 : decode cX7_show 45 = .ok (.iload 4, 2) := by decide +kernel
theorem dX7_show_47 : decode cX7_show 47 = .ok (.lshr, 1) := by decide +kernel
theorem dX7_show_48 : decode cX7_show 48 = .ok (.l2i, 1) := by decide +kernel
theorem dX7_show_49 : decode cX7_show 49 = .ok (.sipush 255, 3) := by decide +kernel
theorem dX7_show_52 : decode cX7_show 52 = .ok (.iand, 1) := by decide +kernel
theorem dX7_show_53 : decode cX7_show 53 = .ok (.istore 5, 2) := by decide +kernel
theorem dX7_show_55 : decode cX7_show 55 = .ok (.aload_n 0, 1) := by decide +kernel
theorem dX7_show_56 : decode cX7_show 56 = .ok (.iload 5, 2) := by decide +kernel
theorem dX7_show_58 : decode cX7_show 58 = .ok (.sipush 170, 3) := by decide +kernel
theorem dX7_show_61 : decode cX7_show 61 = .ok (.ior, 1) := by decide +kernel
theorem dX7_show_62 : decode cX7_show 62 = .ok (.invokevirtual 180, 3) := by decide +kernel
theorem dX7_show_65 : decode cX7_show 65 = .ok (.aload_n 0, 1) := by decide +kernel
theorem dX7_show_66 : decode cX7_show 66 = .ok (.iload 5, 2) := by decide +kernel
theorem dX7_show_68 : decode cX7_show 68 = .ok (.bipush 85, 2) := by decide +kernel
theorem dX7_show_70 : decode cX7_show 70 = .ok (.ior, 1) := by decide +kernel
theorem dX7_show_71 : decode cX7_show 71 = .ok (.invokevirtual 180, 3) := by decide +kernel
theorem dX7_show_74 : decode cX7_show 74 = .ok (.iload_n 3, 1) := by decide +kernel
theorem dX7_show_75 : decode cX7_show 75 = .ok (.iload 5, 2) := by decide +kernel
theorem dX7_show_77 : decode cX7_show 77 = .ok (.sipush 170, 3) := by decide +kernel
theorem dX7_show_80 : decode cX7_show 80 = .ok (.ior, 1) := by decide +kernel
theorem dX7_show_81 : decode cX7_show 81 = .ok (.iadd, 1) := by decide +kernel
theorem dX7_show_82 : decode cX7_show 82 = .ok (.iload 5, 2) := by decide +kernel
theorem dX7_show_84 : decode cX7_show 84 = .ok (.bipush 85, 2) := by decide +kernel
theorem dX7_show_86 : decode cX7_show 86 = .ok (.ior, 1) := by decide +kernel
theorem dX7_show_87 : decode cX7_show 87 = .ok (.iadd, 1) := by decide +kernel
theorem dX7_show_88 : decode cX7_show 88 = .ok (.istore_n 3, 1) := by decide +kernel
theorem dX7_show_89 : decode cX7_show 89 = .ok (.iinc 4 (-8), 3) := by decide +kernel
theorem dX7_show_92 : decode cX7_show 92 = .ok (.goto (-53), 3) := by decide +kernel
theorem dX7_show_95 : decode cX7_show 95 = .ok (.aload_n 0, 1) := by decide +kernel
theorem dX7_show_96 : decode cX7_show 96 = .ok (.iload_n 3, 1) := by decide +kernel
theorem dX7_show_97 : decode cX7_show 97 = .ok (.bipush 8, 2) := by decide +kernel
theorem dX7_show_99 : decode cX7_show 99 = .ok (.ishr, 1) := by decide +kernel
theorem dX7_show_100 : decode cX7_show 100 = .ok (.sipush 255, 3) := by decide +kernel
theorem dX7_show_103 : decode cX7_show 103 = .ok (.iand, 1) := by decide +kernel
theorem dX7_show_104 : decode cX7_show 104 = .ok (.sipush 170, 3) := by decide +kernel
theorem dX7_show_107 : decode cX7_show 107 = .ok (.ior, 1) := by decide +kernel
theorem dX7_show_108 : decode cX7_show 108 = .ok (.invokevirtual 180, 3) := by decide +kernel
theorem dX7_show_111 : decode cX7_show 111 = .ok (.aload_n 0, 1) := by decide +kernel
theorem dX7_show_112 : decode cX7_show 112 = .ok (.iload_n 3, 1) := by decide +kernel
theorem dX7_show_113 : decode cX7_show 113 = .ok (.bipush 8, 2) := by decide +kernel
theorem dX7_show_115 : decode cX7_show 115 = .ok (.ishr, 1) := by decide +kernel
theorem dX7_show_116 : decode cX7_show 116 = .ok (.sipush 255, 3) := by decide +kernel
theorem dX7_show_119 : decode cX7_show 119 = .ok (.iand, 1) := by decide +kernel
theorem dX7_show_120 : decode cX7_show 120 = .ok (.bipush 85, 2) := by decide +kernel
theorem dX7_show_122 : decode cX7_show 122 = .ok (.ior, 1) := by decide +kernel
theorem dX7_show_123 : decode cX7_show 123 = .ok (.invokevirtual 180, 3) := by decide +kernel
theorem dX7_show_126 : decode cX7_show 126 = .ok (.aload_n 0, 1) := by decide +kernel
theorem dX7_show_127 : decode cX7_show 127 = .ok (.iload_n 3, 1) := by decide +kernel
theorem dX7_show_128 : decode cX7_show 128 = .ok (.sipush 255, 3) := by decide +kernel
theorem dX7_show_131 : decode cX7_show 131 = .ok (.iand, 1) := by decide +kernel
theorem dX7_show_132 : decode cX7_show 132 = .ok (.sipush 170, 3) := by decide +kernel
theorem dX7_show_135 : decode cX7_show 135 = .ok (.ior, 1) := by decide +kernel
theorem dX7_show_136 : decode cX7_show 136 = .ok (.invokevirtual 180, 3) := by decide +kernel
theorem dX7_show_139 : decode cX7_show 139 = .ok (.aload_n 0, 1) := by decide +kernel
theorem dX7_show_140 : decode cX7_show 140 = .ok (.iload_n 3, 1) := by decide +kernel
theorem dX7_show_141 : decode cX7_show 141 = .ok (.sipush 255, 3) := by decide +kernel
theorem dX7_show_144 : decode cX7_show 144 = .ok (.iand, 1) := by decide +kernel
theorem dX7_show_145 : decode cX7_show 145 = .ok (.bipush 85, 2) := by decide +kernel
theorem dX7_show_147 : decode cX7_show 147 = .ok (.ior, 1) := by decide +kernel
theorem dX7_show_148 : decode cX7_show 148 = .ok (.invokevirtual 180, 3) := by decide +kernel
theorem dX7_show_151 : decode cX7_show 151 = .ok (.return_, 1) := by decide +kernel
theorem dX7_refuse_0 : decode cX7_refuse 0 = .ok (.iload_n 2, 1) := by decide +kernel
theorem dX7_refuse_1 : decode cX7_refuse 1 = .ok (.ifCond .eq 33, 3) := by decide +kernel
theorem dX7_refuse_4 : decode cX7_refuse 4 = .ok (.aload_n 0, 1) := by decide +kernel
theorem dX7_refuse_5 : decode cX7_refuse 5 = .ok (.iload_n 1, 1) := by decide +kernel
theorem dX7_refuse_6 : decode cX7_refuse 6 = .ok (.iconst 2, 1) := by decide +kernel
theorem dX7_refuse_7 : decode cX7_refuse 7 = .ok (.aload_n 0, 1) := by decide +kernel
theorem dX7_refuse_8 : decode cX7_refuse 8 = .ok (.bipush 20, 2) := by decide +kernel
theorem dX7_refuse_10 : decode cX7_refuse 10 = .ok (.invokevirtual 123, 3) := by decide +kernel
theorem dX7_refuse_13 : decode cX7_refuse 13 = .ok (.iconst 1, 1) := by decide +kernel
theorem dX7_refuse_14 : decode cX7_refuse 14 = .ok (.iadd, 1) := by decide +kernel
theorem dX7_refuse_15 : decode cX7_refuse 15 = .ok (.aload_n 0, 1) := by decide +kernel
theorem dX7_refuse_16 : decode cX7_refuse 16 = .ok (.bipush 21, 2) := by decide +kernel
theorem dX7_refuse_18 : decode cX7_refuse 18 = .ok (.invokevirtual 177, 3) := by decide +kernel
theorem dX7_refuse_21 : decode cX7_refuse 21 = .ok (.invokevirtual 205, 3) := by decide +kernel
theorem dX7_refuse_24 : decode cX7_refuse 24 = .ok (.aload_n 0, 1) := by decide +kernel
theorem dX7_refuse_25 : decode cX7_refuse 25 = .ok (.iload_n 3, 1) := by decide +kernel
theorem dX7_refuse_26 : decode cX7_refuse 26 = .ok (.invokevirtual 187, 3) := by decide +kernel
theorem dX7_refuse_29 : decode cX7_refuse 29 = .ok (.aload_n 0, 1) := by decide +kernel
theorem dX7_refuse_30 : decode cX7_refuse 30 = .ok (.iload_n 1, 1) := by decide +kernel
theorem dX7_refuse_31 : decode cX7_refuse 31 = .ok (.invokevirtual 209, 3) := by decide +kernel
theorem dX7_refuse_34 : decode cX7_refuse 34 = .ok (.return_, 1) := by decide +kernel
theorem dX7_isMatter_0 : decode cX7_isMatter 0 = .ok (.iload_n 0, 1) := by decide +kernel
theorem dX7_isMatter_1 : decode cX7_isMatter 1 = .ok (.bipush 80, 2) := by decide +kernel
theorem dX7_isMatter_3 : decode cX7_isMatter 3 = .ok (.if_icmp .eq 50, 3) := by decide +kernel
theorem dX7_isMatter_6 : decode cX7_isMatter 6 = .ok (.iload_n 0, 1) := by decide +kernel
theorem dX7_isMatter_7 : decode cX7_isMatter 7 = .ok (.bipush 96, 2) := by decide +kernel
theorem dX7_isMatter_9 : decode cX7_isMatter 9 = .ok (.if_icmp .eq 44, 3) := by decide +kernel
theorem dX7_isMatter_12 : decode cX7_isMatter 12 = .ok (.iload_n 0, 1) := by decide +kernel
theorem dX7_isMatter_13 : decode cX7_isMatter 13 = .ok (.sipush 128, 3) := by decide +kernel
theorem dX7_isMatter_16 : decode cX7_isMatter 16 = .ok (.if_icmp .eq 37, 3) := by decide +kernel
theorem dX7_isMatter_19 : decode cX7_isMatter 19 = .ok (.iload_n 0, 1) := by decide +kernel
theorem dX7_isMatter_20 : decode cX7_isMatter 20 = .ok (.sipush 130, 3) := by decide +kernel
theorem dX7_isMatter_23 : decode cX7_isMatter 23 = .ok (.if_icmp .eq 30, 3) := by decide +kernel
theorem dX7_isMatter_26 : decode cX7_isMatter 26 = .ok (.iload_n 0, 1) := by decide +kernel
theorem dX7_isMatter_27 : decode cX7_isMatter 27 = .ok (.sipush 224, 3) := by decide +kernel
theorem dX7_isMatter_30 : decode cX7_isMatter 30 = .ok (.if_icmp .eq 23, 3) := by decide +kernel
theorem dX7_isMatter_33 : decode cX7_isMatter 33 = .ok (.iload_n 0, 1) := by decide +kernel
theorem dX7_isMatter_34 : decode cX7_isMatter 34 = .ok (.sipush 240, 3) := by decide +kernel
theorem dX7_isMatter_37 : decode cX7_isMatter 37 = .ok (.if_icmp .eq 16, 3) := by decide +kernel
theorem dX7_isMatter_40 : decode cX7_isMatter 40 = .ok (.iload_n 0, 1) := by decide +kernel
theorem dX7_isMatter_41 : decode cX7_isMatter 41 = .ok (.sipush 4096, 3) := by decide +kernel
theorem dX7_isMatter_44 : decode cX7_isMatter 44 = .ok (.if_icmp .eq 9, 3) := by decide +kernel
theorem dX7_isMatter_47 : decode cX7_isMatter 47 = .ok (.iload_n 0, 1) := by decide +kernel
theorem dX7_isMatter_48 : decode cX7_isMatter 48 = .ok (.bipush 32, 2) := by decide +kernel
theorem dX7_isMatter_50 : decode cX7_isMatter 50 = .ok (.if_icmp .ne 7, 3) := by decide +kernel
theorem dX7_isMatter_53 : decode cX7_isMatter 53 = .ok (.iconst 1, 1) := by decide +kernel
theorem dX7_isMatter_54 : decode cX7_isMatter 54 = .ok (.goto 4, 3) := by decide +kernel
theorem dX7_isMatter_57 : decode cX7_isMatter 57 = .ok (.iconst 0, 1) := by decide +kernel
theorem dX7_isMatter_58 : decode cX7_isMatter 58 = .ok (.ireturn, 1) := by decide +kernel
theorem dX7_get_0 : decode cX7_get 0 = .ok (.aload_n 0, 1) := by decide +kernel
theorem dX7_get_1 : decode cX7_get 1 = .ok (.bipush 21, 2) := by decide +kernel
theorem dX7_get_3 : decode cX7_get 3 = .ok (.invokevirtual 177, 3) := by decide +kernel
theorem dX7_get_6 : decode cX7_get 6 = .ok (.istore_n 2, 1) := by decide +kernel
theorem dX7_get_7 : decode cX7_get 7 = .ok (.aload_n 0, 1) := by decide +kernel
theorem dX7_get_8 : decode cX7_get 8 = .ok (.bipush 18, 2) := by decide +kernel
theorem dX7_get_10 : decode cX7_get 10 = .ok (.invokevirtual 177, 3) := by decide +kernel
theorem dX7_get_13 : decode cX7_get 13 = .ok (.ifCond .eq 14, 3) := by decide +kernel
theorem dX7_get_16 : decode cX7_get 16 = .ok (.aload_n 0, 1) := by decide +kernel
theorem dX7_get_17 : decode cX7_get 17 = .ok (.iload_n 1, 1) := by decide +kernel
theorem dX7_get_18 : decode cX7_get 18 = .ok (.iconst 1, 1) := by decide +kernel
theorem dX7_get_19 : decode cX7_get 19 = .ok (.bipush 9, 2) := by decide +kernel
theorem dX7_get_21 : decode cX7_get 21 = .ok (.invokevirtual 212, 3) := by decide +kernel
theorem dX7_get_24 : decode cX7_get 24 = .ok (.goto 84, 3) := by decide +kernel
theorem dX7_get_27 : decode cX7_get 27 = .ok (.iload_n 2, 1) := by decide +kernel
theorem dX7_get_28 : decode cX7_get 28 = .ok (.invokestatic 216, 3) := by decide +kernel
theorem dX7_get_31 : decode cX7_get 31 = .ok (.ifCond .ne 13, 3) := by decide +kernel
theorem dX7_get_34 : decode cX7_get 34 = .ok (.aload_n 0, 1) := by decide +kernel
theorem dX7_get_35 : decode cX7_get 35 = .ok (.iload_n 1, 1) := by decide +kernel
theorem dX7_get_36 : decode cX7_get 36 = .ok (.iconst 1, 1) := by decide +kernel
theorem dX7_get_37 : decode cX7_get 37 = .ok (.iconst 0, 1) := by decide +kernel
theorem dX7_get_38 : decode cX7_get 38 = .ok (.invokevirtual 212, 3) := by decide +kernel
theorem dX7_get_41 : decode cX7_get 41 = .ok (.goto 67, 3) := by decide +kernel
theorem dX7_get_44 : decode cX7_get 44 = .ok (.aload_n 0, 1) := by decide +kernel
theorem dX7_get_45 : decode cX7_get 45 = .ok (.bipush 23, 2) := by decide +kernel
theorem dX7_get_47 : decode cX7_get 47 = .ok (.invokevirtual 123, 3) := by decide +kernel
theorem dX7_get_50 : decode cX7_get 50 = .ok (.iload_n 2, 1) := by decide +kernel
theorem dX7_get_51 : decode cX7_get 51 = .ok (.bipush 32, 2) := by decide +kernel
theorem dX7_get_53 : decode cX7_get 53 = .ok (.if_icmp .ne 7, 3) := by decide +kernel
theorem dX7_get_56 : decode cX7_get 56 = .ok (.iconst 1, 1) := by decide +kernel
theorem dX7_get_57 : decode cX7_get 57 = .ok (.goto 4, 3) := by decide +kernel
theorem dX7_get_60 : decode cX7_get 60 = .ok (.iconst 0, 1) := by decide +kernel
theorem dX7_get_61 : decode cX7_get 61 = .ok (.if_icmp .eq 13, 3) := by decide +kernel
theorem dX7_get_64 : decode cX7_get 64 = .ok (.aload_n 0, 1) := by decide +kernel
theorem dX7_get_65 : decode cX7_get 65 = .ok (.iload_n 1, 1) := by decide +kernel
theorem dX7_get_66 : decode cX7_get 66 = .ok (.iconst 1, 1) := by decide +kernel
theorem dX7_get_67 : decode cX7_get 67 = .ok (.iconst 1, 1) := by decide +kernel
theorem dX7_get_68 : decode cX7_get 68 = .ok (.invokevirtual 212, 3) := by decide +kernel
theorem dX7_get_71 : decode cX7_get 71 = .ok (.goto 37, 3) := by decide +kernel
theorem dX7_get_74 : decode cX7_get 74 = .ok (.iload_n 2, 1) := by decide +kernel
theorem dX7_get_75 : decode cX7_get 75 = .ok (.bipush 32, 2) := by decide +kernel
theorem dX7_get_77 : decode cX7_get 77 = .ok (.if_icmp .ne 11, 3) := by decide +kernel
theorem dX7_get_80 : decode cX7_get 80 = .ok (.aload_n 0, 1) := by decide +kernel
theorem dX7_get_81 : decode cX7_get 81 = .ok (.iload_n 1, 1) := by decide +kernel
theorem dX7_get_82 : decode cX7_get 82 = .ok (.invokevirtual 220, 3) := by decide +kernel
theorem dX7_get_85 : decode cX7_get 85 = .ok (.goto 23, 3) := by decide +kernel
theorem dX7_get_88 : decode cX7_get 88 = .ok (.aload_n 0, 1) := by decide +kernel
theorem dX7_get_89 : decode cX7_get 89 = .ok (.iload_n 1, 1) := by decide +kernel
theorem dX7_get_90 : decode cX7_get 90 = .ok (.iconst 0, 1) := by decide +kernel
theorem dX7_get_91 : decode cX7_get 91 = .ok (.bipush 33, 2) := by decide +kernel
theorem dX7_get_93 : decode cX7_get 93 = .ok (.iload_n 2, 1) := by decide +kernel
theorem dX7_get_94 : decode cX7_get 94 = .ok (.invokevirtual 205, 3) := by decide +kernel
theorem dX7_get_97 : decode cX7_get 97 = .ok (.aload_n 0, 1) := by decide +kernel
theorem dX7_get_98 : decode cX7_get 98 = .ok (.iload_n 1, 1) := by decide +kernel
theorem dX7_get_99 : decode cX7_get 99 = .ok (.iload_n 2, 1) := by decide +kernel
theorem dX7_get_100 : decode cX7_get 100 = .ok (.invokevirtual 223, 3) := by decide +kernel
theorem dX7_get_103 : decode cX7_get 103 = .ok (.aload_n 0, 1) := by decide +kernel
theorem dX7_get_104 : decode cX7_get 104 = .ok (.iload_n 1, 1) := by decide +kernel
theorem dX7_get_105 : decode cX7_get 105 = .ok (.invokevirtual 209, 3) := by decide +kernel
theorem dX7_get_108 : decode cX7_get 108 = .ok (.return_, 1) := by decide +kernel
theorem dX7_tell_0 : decode cX7_tell 0 = .ok (.iload_n 2, 1) := by decide +kernel
theorem dX7_tell_1 : decode cX7_tell 1 = .ok (.lookupswitch 363 #[(80, 59), (96, 115), (128, 210), (130, 291), (224, 327), (240, 350)], 59) := by decide +kernel
theorem dX7_tell_60 : decode cX7_tell 60 = .ok (.aload_n 0, 1) := by decide +kernel
theorem dX7_tell_61 : decode cX7_tell 61 = .ok (.bipush 80, 2) := by decide +kernel
theorem dX7_tell_63 : decode cX7_tell 63 = .ok (.invokevirtual 187, 3) := by decide +kernel
theorem dX7_tell_66 : decode cX7_tell 66 = .ok (.aload_n 0, 1) := by decide +kernel
theorem dX7_tell_67 : decode cX7_tell 67 = .ok (.bipush 96, 2) := by decide +kernel
theorem dX7_tell_69 : decode cX7_tell 69 = .ok (.invokevirtual 187, 3) := by decide +kernel
theorem dX7_tell_72 : decode cX7_tell 72 = .ok (.aload_n 0, 1) := by decide +kernel
theorem dX7_tell_73 : decode cX7_tell 73 = .ok (.sipush 128, 3) := by decide +kernel
theorem dX7_tell_76 : decode cX7_tell 76 = .ok (.invokevirtual 187, 3) := by decide +kernel
theorem dX7_tell_79 : decode cX7_tell 79 = .ok (.aload_n 0, 1) := by decide +kernel
theorem dX7_tell_80 : decode cX7_tell 80 = .ok (.sipush 130, 3) := by decide +kernel
theorem dX7_tell_83 : decode cX7_tell 83 = .ok (.invokevirtual 187, 3) := by decide +kernel
theorem dX7_tell_86 : decode cX7_tell 86 = .ok (.aload_n 0, 1) := by decide +kernel
theorem dX7_tell_87 : decode cX7_tell 87 = .ok (.sipush 224, 3) := by decide +kernel
theorem dX7_tell_90 : decode cX7_tell 90 = .ok (.invokevirtual 187, 3) := by decide +kernel
theorem dX7_tell_93 : decode cX7_tell 93 = .ok (.aload_n 0, 1) := by decide +kernel
theorem dX7_tell_94 : decode cX7_tell 94 = .ok (.sipush 240, 3) := by decide +kernel
theorem dX7_tell_97 : decode cX7_tell 97 = .ok (.invokevirtual 187, 3) := by decide +kernel
theorem dX7_tell_100 : decode cX7_tell 100 = .ok (.aload_n 0, 1) := by decide +kernel
theorem dX7_tell_101 : decode cX7_tell 101 = .ok (.sipush 4096, 3) := by decide +kernel
theorem dX7_tell_104 : decode cX7_tell 104 = .ok (.invokevirtual 187, 3) := by decide +kernel
theorem dX7_tell_107 : decode cX7_tell 107 = .ok (.aload_n 0, 1) := by decide +kernel
theorem dX7_tell_108 : decode cX7_tell 108 = .ok (.bipush 32, 2) := by decide +kernel
theorem dX7_tell_110 : decode cX7_tell 110 = .ok (.invokevirtual 187, 3) := by decide +kernel
theorem dX7_tell_113 : decode cX7_tell 113 = .ok (.goto 269, 3) := by decide +kernel
theorem dX7_tell_116 : decode cX7_tell 116 = .ok (.aload_n 0, 1) := by decide +kernel
theorem dX7_tell_117 : decode cX7_tell 117 = .ok (.aload_n 0, 1) := by decide +kernel
theorem dX7_tell_118 : decode cX7_tell 118 = .ok (.getfield 7, 3) := by decide +kernel
theorem dX7_tell_121 : decode cX7_tell 121 = .ok (.iload_n 1, 1) := by decide +kernel
theorem dX7_tell_122 : decode cX7_tell 122 = .ok (.iaload, 1) := by decide +kernel
theorem dX7_tell_123 : decode cX7_tell 123 = .ok (.invokevirtual 187, 3) := by decide +kernel
theorem dX7_tell_126 : decode cX7_tell 126 = .ok (.aload_n 0, 1) := by decide +kernel
theorem dX7_tell_127 : decode cX7_tell 127 = .ok (.aload_n 0, 1) := by decide +kernel
theorem dX7_tell_128 : decode cX7_tell 128 = .ok (.getfield 13, 3) := by decide +kernel
theorem dX7_tell_131 : decode cX7_tell 131 = .ok (.iload_n 1, 1) := by decide +kernel
theorem dX7_tell_132 : decode cX7_tell 132 = .ok (.laload, 1) := by decide +kernel
theorem dX7_tell_133 : decode cX7_tell 133 = .ok (.bipush 16, 2) := by decide +kernel
theorem dX7_tell_135 : decode cX7_tell 135 = .ok (.lshr, 1) := by decide +kernel
theorem dX7_tell_136 : decode cX7_tell 136 = .ok (.l2i, 1) := by decide +kernel
theorem dX7_tell_137 : decode cX7_tell 137 = .ok (.invokevirtual 187, 3) := by decide +kernel
theorem dX7_tell_140 : decode cX7_tell 140 = .ok (.aload_n 0, 1) := by decide +kernel
theorem dX7_tell_141 : decode cX7_tell 141 = .ok (.aload_n 0, 1) := by decide +kernel
theorem dX7_tell_142 : decode cX7_tell 142 = .ok (.getfield 13, 3) := by decide +kernel
theorem dX7_tell_145 : decode cX7_tell 145 = .ok (.iload_n 1, 1) := by decide +kernel
theorem dX7_tell_146 : decode cX7_tell 146 = .ok (.laload, 1) := by decide +kernel
theorem dX7_tell_147 : decode cX7_tell 147 = .ok (.l2i, 1) := by decide +kernel
theorem dX7_tell_148 : decode cX7_tell 148 = .ok (.invokevirtual 187, 3) := by decide +kernel
theorem dX7_tell_151 : decode cX7_tell 151 = .ok (.aload_n 0, 1) := by decide +kernel
theorem dX7_tell_152 : decode cX7_tell 152 = .ok (.aload_n 0, 1) := by decide +kernel
theorem dX7_tell_153 : decode cX7_tell 153 = .ok (.iload_n 1, 1) := by decide +kernel
theorem dX7_tell_154 : decode cX7_tell 154 = .ok (.invokevirtual 173, 3) := by decide +kernel
theorem dX7_tell_157 : decode cX7_tell 157 = .ok (.invokevirtual 187, 3) := by decide +kernel
theorem dX7_tell_160 : decode cX7_tell 160 = .ok (.aload_n 0, 1) := by decide +kernel
theorem dX7_tell_161 : decode cX7_tell 161 = .ok (.aload_n 0, 1) := by decide +kernel
theorem dX7_tell_162 : decode cX7_tell 162 = .ok (.getfield 23, 3) := by decide +kernel
theorem dX7_tell_165 : decode cX7_tell 165 = .ok (.iload_n 1, 1) := by decide +kernel
theorem dX7_tell_166 : decode cX7_tell 166 = .ok (.iaload, 1) := by decide +kernel
theorem dX7_tell_167 : decode cX7_tell 167 = .ok (.invokevirtual 180, 3) := by decide +kernel
theorem dX7_tell_170 : decode cX7_tell 170 = .ok (.aload_n 0, 1) := by decide +kernel
theorem dX7_tell_171 : decode cX7_tell 171 = .ok (.aload_n 0, 1) := by decide +kernel
theorem dX7_tell_172 : decode cX7_tell 172 = .ok (.getfield 20, 3) := by decide +kernel
theorem dX7_tell_175 : decode cX7_tell 175 = .ok (.iload_n 1, 1) := by decide +kernel
theorem dX7_tell_176 : decode cX7_tell 176 = .ok (.iaload, 1) := by decide +kernel
theorem dX7_tell_177 : decode cX7_tell 177 = .ok (.invokevirtual 180, 3) := by decide +kernel
theorem dX7_tell_180 : decode cX7_tell 180 = .ok (.aload_n 0, 1) := by decide +kernel
theorem dX7_tell_181 : decode cX7_tell 181 = .ok (.aload_n 0, 1) := by decide +kernel
theorem dX7_tell_182 : decode cX7_tell 182 = .ok (.getfield 26, 3) := by decide +kernel
theorem dX7_tell_185 : decode cX7_tell 185 = .ok (.iload_n 1, 1) := by decide +kernel
theorem dX7_tell_186 : decode cX7_tell 186 = .ok (.iaload, 1) := by decide +kernel
theorem dX7_tell_187 : decode cX7_tell 187 = .ok (.invokevirtual 187, 3) := by decide +kernel
theorem dX7_tell_190 : decode cX7_tell 190 = .ok (.aload_n 0, 1) := by decide +kernel
theorem dX7_tell_191 : decode cX7_tell 191 = .ok (.iconst 0, 1) := by decide +kernel
theorem dX7_tell_192 : decode cX7_tell 192 = .ok (.invokevirtual 187, 3) := by decide +kernel
theorem dX7_tell_195 : decode cX7_tell 195 = .ok (.aload_n 0, 1) := by decide +kernel
theorem dX7_tell_196 : decode cX7_tell 196 = .ok (.aload_n 0, 1) := by decide +kernel
theorem dX7_tell_197 : decode cX7_tell 197 = .ok (.getfield 43, 3) := by decide +kernel
theorem dX7_tell_200 : decode cX7_tell 200 = .ok (.iload_n 1, 1) := by decide +kernel
theorem dX7_tell_201 : decode cX7_tell 201 = .ok (.iaload, 1) := by decide +kernel
theorem dX7_tell_202 : decode cX7_tell 202 = .ok (.ldc 176, 2) := by decide +kernel
theorem dX7_tell_204 : decode cX7_tell 204 = .ok (.irem, 1) := by decide +kernel
theorem dX7_tell_205 : decode cX7_tell 205 = .ok (.invokevirtual 187, 3) := by decide +kernel
theorem dX7_tell_208 : decode cX7_tell 208 = .ok (.goto 174, 3) := by decide +kernel
theorem dX7_tell_211 : decode cX7_tell 211 = .ok (.aload_n 0, 1) := by decide +kernel
theorem dX7_tell_212 : decode cX7_tell 212 = .ok (.bipush 76, 2) := by decide +kernel
theorem dX7_tell_214 : decode cX7_tell 214 = .ok (.invokevirtual 180, 3) := by decide +kernel
theorem dX7_tell_217 : decode cX7_tell 217 = .ok (.aload_n 0, 1) := by decide +kernel
theorem dX7_tell_218 : decode cX7_tell 218 = .ok (.bipush 65, 2) := by decide +kernel
theorem dX7_tell_220 : decode cX7_tell 220 = .ok (.invokevirtual 180, 3) := by decide +kernel
theorem dX7_tell_223 : decode cX7_tell 223 = .ok (.aload_n 0, 1) := by decide +kernel
theorem dX7_tell_224 : decode cX7_tell 224 = .ok (.bipush 77, 2) := by decide +kernel
theorem dX7_tell_226 : decode cX7_tell 226 = .ok (.invokevirtual 180, 3) := by decide +kernel
theorem dX7_tell_229 : decode cX7_tell 229 = .ok (.aload_n 0, 1) := by decide +kernel
theorem dX7_tell_230 : decode cX7_tell 230 = .ok (.bipush 80, 2) := by decide +kernel
theorem dX7_tell_232 : decode cX7_tell 232 = .ok (.invokevirtual 180, 3) := by decide +kernel
theorem dX7_tell_235 : decode cX7_tell 235 = .ok (.bipush 28, 2) := by decide +kernel
theorem dX7_tell_237 : decode cX7_tell 237 = .ok (.istore_n 3, 1) := by decide +kernel
theorem dX7_tell_238 : decode cX7_tell 238 = .ok (.iload_n 3, 1) := by decide +kernel
theorem dX7_tell_239 : decode cX7_tell 239 = .ok (.ifCond .lt 50, 3) := by decide +kernel
theorem dX7_tell_242 : decode cX7_tell 242 = .ok (.aload_n 0, 1) := by decide +kernel
theorem dX7_tell_243 : decode cX7_tell 243 = .ok (.getfield 13, 3) := by decide +kernel
theorem dX7_tell_246 : decode cX7_tell 246 = .ok (.iload_n 1, 1) := by decide +kernel
theorem dX7_tell_247 : decode cX7_tell 247 = .ok (.laload, 1) := by decide +kernel
theorem dX7_tell_248 : decode cX7_tell 248 = .ok (.iload_n 3, 1) := by decide +kernel
theorem dX7_tell_249 : decode cX7_tell 249 = .ok (.lshr, 1) := by decide +kernel
theorem dX7_tell_250 : decode cX7_tell 250 = .ok (.l2i, 1) := by decide +kernel
theorem dX7_tell_251 : decode cX7_tell 251 = .ok (.bipush 15, 2) := by decide +kernel
theorem dX7_tell_253 : decode cX7_tell 253 = .ok (.iand, 1) := by decide +kernel
theorem dX7_tell_254 : decode cX7_tell 254 = .ok (.istore 4, 2) := by decide +kernel
theorem dX7_tell_256 : decode cX7_tell 256 = .ok (.aload_n 0, 1) := by decide +kernel
theorem dX7_tell_257 : decode cX7_tell 257 = .ok (.iload 4, 2) := by decide +kernel
theorem dX7_tell_259 : decode cX7_tell 259 = .ok (.bipush 10, 2) := by decide +kernel
theorem dX7_tell_261 : decode cX7_tell 261 = .ok (.if_icmp .ge 11, 3) := by decide +kernel
theorem dX7_tell_264 : decode cX7_tell 264 = .ok (.bipush 48, 2) := by decide +kernel
theorem dX7_tell_266 : decode cX7_tell 266 = .ok (.iload 4, 2) := by decide +kernel
theorem dX7_tell_268 : decode cX7_tell 268 = .ok (.iadd, 1) := by decide +kernel
theorem dX7_tell_269 : decode cX7_tell 269 = .ok (.goto 11, 3) := by decide +kernel
theorem dX7_tell_272 : decode cX7_tell 272 = .ok (.bipush 65, 2) := by decide +kernel
theorem dX7_tell_274 : decode cX7_tell 274 = .ok (.iload 4, 2) := by decide +kernel
theorem dX7_tell_276 : decode cX7_tell 276 = .ok (.iadd, 1) := by decide +kernel
theorem dX7_tell_277 : decode cX7_tell 277 = .ok (.bipush 10, 2) := by decide +kernel
theorem dX7_tell_279 : decode cX7_tell 279 = .ok (.isub, 1) := by decide +kernel
theorem dX7_tell_280 : decode cX7_tell 280 = .ok (.invokevirtual 180, 3) := by decide +kernel
theorem dX7_tell_283 : decode cX7_tell 283 = .ok (.iinc 3 (-4), 3) := by decide +kernel
theorem dX7_tell_286 : decode cX7_tell 286 = .ok (.goto (-48), 3) := by decide +kernel
theorem dX7_tell_289 : decode cX7_tell 289 = .ok (.goto 93, 3) := by decide +kernel
theorem dX7_tell_292 : decode cX7_tell 292 = .ok (.iconst 0, 1) := by decide +kernel
theorem dX7_tell_293 : decode cX7_tell 293 = .ok (.istore_n 3, 1) := by decide +kernel
theorem dX7_tell_294 : decode cX7_tell 294 = .ok (.iload_n 3, 1) := by decide +kernel
theorem dX7_tell_295 : decode cX7_tell 295 = .ok (.aload_n 0, 1) := by decide +kernel
theorem dX7_tell_296 : decode cX7_tell 296 = .ok (.getfield 36, 3) := by decide +kernel
theorem dX7_tell_299 : decode cX7_tell 299 = .ok (.iload_n 1, 1) := by decide +kernel
theorem dX7_tell_300 : decode cX7_tell 300 = .ok (.iaload, 1) := by decide +kernel
theorem dX7_tell_301 : decode cX7_tell 301 = .ok (.if_icmp .ge 24, 3) := by decide +kernel
theorem dX7_tell_304 : decode cX7_tell 304 = .ok (.aload_n 0, 1) := by decide +kernel
theorem dX7_tell_305 : decode cX7_tell 305 = .ok (.aload_n 0, 1) := by decide +kernel
theorem dX7_tell_306 : decode cX7_tell 306 = .ok (.getfield 39, 3) := by decide +kernel
theorem dX7_tell_309 : decode cX7_tell 309 = .ok (.bipush 32, 2) := by decide +kernel
theorem dX7_tell_311 : decode cX7_tell 311 = .ok (.iload_n 1, 1) := by decide +kernel
theorem dX7_tell_312 : decode cX7_tell 312 = .ok (.imul, 1) := by decide +kernel
theorem dX7_tell_313 : decode cX7_tell 313 = .ok (.iload_n 3, 1) := by decide +kernel
theorem dX7_tell_314 : decode cX7_tell 314 = .ok (.iadd, 1) := by decide +kernel
theorem dX7_tell_315 : decode cX7_tell 315 = .ok (.baload, 1) := by decide +kernel
theorem dX7_tell_316 : decode cX7_tell 316 = .ok (.invokevirtual 180, 3) := by decide +kernel
theorem dX7_tell_319 : decode cX7_tell 319 = .ok (.iinc 3 1, 3) := by decide +kernel
theorem dX7_tell_322 : decode cX7_tell 322 = .ok (.goto (-28), 3) := by decide +kernel
theorem dX7_tell_325 : decode cX7_tell 325 = .ok (.goto 57, 3) := by decide +kernel
theorem dX7_tell_328 : decode cX7_tell 328 = .ok (.aload_n 0, 1) := by decide +kernel
theorem dX7_tell_329 : decode cX7_tell 329 = .ok (.aload_n 0, 1) := by decide +kernel
theorem dX7_tell_330 : decode cX7_tell 330 = .ok (.getfield 23, 3) := by decide +kernel
theorem dX7_tell_333 : decode cX7_tell 333 = .ok (.iload_n 1, 1) := by decide +kernel
theorem dX7_tell_334 : decode cX7_tell 334 = .ok (.iaload, 1) := by decide +kernel
theorem dX7_tell_335 : decode cX7_tell 335 = .ok (.invokevirtual 180, 3) := by decide +kernel
theorem dX7_tell_338 : decode cX7_tell 338 = .ok (.aload_n 0, 1) := by decide +kernel
theorem dX7_tell_339 : decode cX7_tell 339 = .ok (.aload_n 0, 1) := by decide +kernel
theorem dX7_tell_340 : decode cX7_tell 340 = .ok (.getfield 20, 3) := by decide +kernel
theorem dX7_tell_343 : decode cX7_tell 343 = .ok (.iload_n 1, 1) := by decide +kernel
theorem dX7_tell_344 : decode cX7_tell 344 = .ok (.iaload, 1) := by decide +kernel
theorem dX7_tell_345 : decode cX7_tell 345 = .ok (.invokevirtual 180, 3) := by decide +kernel
theorem dX7_tell_348 : decode cX7_tell 348 = .ok (.goto 34, 3) := by decide +kernel
theorem dX7_tell_351 : decode cX7_tell 351 = .ok (.aload_n 0, 1) := by decide +kernel
theorem dX7_tell_352 : decode cX7_tell 352 = .ok (.aload_n 0, 1) := by decide +kernel
theorem dX7_tell_353 : decode cX7_tell 353 = .ok (.getfield 26, 3) := by decide +kernel
theorem dX7_tell_356 : decode cX7_tell 356 = .ok (.iload_n 1, 1) := by decide +kernel
theorem dX7_tell_357 : decode cX7_tell 357 = .ok (.iaload, 1) := by decide +kernel
theorem dX7_tell_358 : decode cX7_tell 358 = .ok (.invokevirtual 187, 3) := by decide +kernel
theorem dX7_tell_361 : decode cX7_tell 361 = .ok (.goto 21, 3) := by decide +kernel
theorem dX7_tell_364 : decode cX7_tell 364 = .ok (.aload_n 0, 1) := by decide +kernel
theorem dX7_tell_365 : decode cX7_tell 365 = .ok (.aload_n 0, 1) := by decide +kernel
theorem dX7_tell_366 : decode cX7_tell 366 = .ok (.getfield 33, 3) := by decide +kernel
theorem dX7_tell_369 : decode cX7_tell 369 = .ok (.iload_n 1, 1) := by decide +kernel
theorem dX7_tell_370 : decode cX7_tell 370 = .ok (.baload, 1) := by decide +kernel
theorem dX7_tell_371 : decode cX7_tell 371 = .ok (.ifCond .eq 7, 3) := by decide +kernel
theorem dX7_tell_374 : decode cX7_tell 374 = .ok (.iconst 1, 1) := by decide +kernel
theorem dX7_tell_375 : decode cX7_tell 375 = .ok (.goto 4, 3) := by decide +kernel
theorem dX7_tell_378 : decode cX7_tell 378 = .ok (.iconst 0, 1) := by decide +kernel
theorem dX7_tell_379 : decode cX7_tell 379 = .ok (.invokevirtual 180, 3) := by decide +kernel
theorem dX7_tell_382 : decode cX7_tell 382 = .ok (.return_, 1) := by decide +kernel
theorem dX7_getWaiting_0 : decode cX7_getWaiting 0 = .ok (.iconst (-1), 1) := by decide +kernel
theorem dX7_getWaiting_1 : decode cX7_getWaiting 1 = .ok (.istore_n 2, 1) := by decide +kernel
theorem dX7_getWaiting_2 : decode cX7_getWaiting 2 = .ok (.aload_n 0, 1) := by decide +kernel
theorem dX7_getWaiting_3 : decode cX7_getWaiting 3 = .ok (.getfield 52, 3) := by decide +kernel
theorem dX7_getWaiting_6 : decode cX7_getWaiting 6 = .ok (.iload_n 1, 1) := by decide +kernel
theorem dX7_getWaiting_7 : decode cX7_getWaiting 7 = .ok (.iaload, 1) := by decide +kernel
theorem dX7_getWaiting_8 : decode cX7_getWaiting 8 = .ok (.iconst 1, 1) := by decide +kernel
theorem dX7_getWaiting_9 : decode cX7_getWaiting 9 = .ok (.isub, 1) := by decide +kernel
theorem dX7_getWaiting_10 : decode cX7_getWaiting 10 = .ok (.istore_n 3, 1) := by decide +kernel
theorem dX7_getWaiting_11 : decode cX7_getWaiting 11 = .ok (.iload_n 3, 1) := by decide +kernel
theorem dX7_getWaiting_12 : decode cX7_getWaiting 12 = .ok (.ifCond .lt 28, 3) := by decide +kernel
theorem dX7_getWaiting_15 : decode cX7_getWaiting 15 = .ok (.aload_n 0, 1) := by decide +kernel
theorem dX7_getWaiting_16 : decode cX7_getWaiting 16 = .ok (.getfield 55, 3) := by decide +kernel
theorem dX7_getWaiting_19 : decode cX7_getWaiting 19 = .ok (.iconst 4, 1) := by decide +kernel
theorem dX7_getWaiting_20 : decode cX7_getWaiting 20 = .ok (.iload_n 1, 1) := by decide +kernel
theorem dX7_getWaiting_21 : decode cX7_getWaiting 21 = .ok (.imul, 1) := by decide +kernel
theorem dX7_getWaiting_22 : decode cX7_getWaiting 22 = .ok (.iload_n 3, 1) := by decide +kernel
theorem dX7_getWaiting_23 : decode cX7_getWaiting 23 = .ok (.iadd, 1) := by decide +kernel
theorem dX7_getWaiting_24 : decode cX7_getWaiting 24 = .ok (.iaload, 1) := by decide +kernel
theorem dX7_getWaiting_25 : decode cX7_getWaiting 25 = .ok (.ifCond .ne 7, 3) := by decide +kernel
theorem dX7_getWaiting_28 : decode cX7_getWaiting 28 = .ok (.iload_n 3, 1) := by decide +kernel
theorem dX7_getWaiting_29 : decode cX7_getWaiting 29 = .ok (.goto 4, 3) := by decide +kernel
theorem dX7_getWaiting_32 : decode cX7_getWaiting 32 = .ok (.iload_n 2, 1) := by decide +kernel
theorem dX7_getWaiting_33 : decode cX7_getWaiting 33 = .ok (.istore_n 2, 1) := by decide +kernel
theorem dX7_getWaiting_34 : decode cX7_getWaiting 34 = .ok (.iinc 3 (-1), 3) := by decide +kernel
theorem dX7_getWaiting_37 : decode cX7_getWaiting 37 = .ok (.goto (-26), 3) := by decide +kernel
theorem dX7_getWaiting_40 : decode cX7_getWaiting 40 = .ok (.iload_n 2, 1) := by decide +kernel
theorem dX7_getWaiting_41 : decode cX7_getWaiting 41 = .ok (.iconst (-1), 1) := by decide +kernel
theorem dX7_getWaiting_42 : decode cX7_getWaiting 42 = .ok (.if_icmp .ne 19, 3) := by decide +kernel
theorem dX7_getWaiting_45 : decode cX7_getWaiting 45 = .ok (.aload_n 0, 1) := by decide +kernel
theorem dX7_getWaiting_46 : decode cX7_getWaiting 46 = .ok (.iload_n 1, 1) := by decide +kernel
theorem dX7_getWaiting_47 : decode cX7_getWaiting 47 = .ok (.iconst 0, 1) := by decide +kernel
theorem dX7_getWaiting_48 : decode cX7_getWaiting 48 = .ok (.bipush 33, 2) := by decide +kernel
theorem dX7_getWaiting_50 : decode cX7_getWaiting 50 = .ok (.bipush 32, 2) := by decide +kernel
theorem dX7_getWaiting_52 : decode cX7_getWaiting 52 = .ok (.invokevirtual 205, 3) := by decide +kernel
theorem dX7_getWaiting_55 : decode cX7_getWaiting 55 = .ok (.aload_n 0, 1) := by decide +kernel
theorem dX7_getWaiting_56 : decode cX7_getWaiting 56 = .ok (.iload_n 1, 1) := by decide +kernel
theorem dX7_getWaiting_57 : decode cX7_getWaiting 57 = .ok (.invokevirtual 209, 3) := by decide +kernel
theorem dX7_getWaiting_60 : decode cX7_getWaiting 60 = .ok (.return_, 1) := by decide +kernel
theorem dX7_getWaiting_61 : decode cX7_getWaiting 61 = .ok (.aload_n 0, 1) := by decide +kernel
theorem dX7_getWaiting_62 : decode cX7_getWaiting 62 = .ok (.getfield 52, 3) := by decide +kernel
theorem dX7_getWaiting_65 : decode cX7_getWaiting 65 = .ok (.iload_n 1, 1) := by decide +kernel
theorem dX7_getWaiting_66 : decode cX7_getWaiting 66 = .ok (.dup2, 1) := by decide +kernel
theorem dX7_getWaiting_67 : decode cX7_getWaiting 67 = .ok (.iaload, 1) := by decide +kernel
theorem dX7_getWaiting_68 : decode cX7_getWaiting 68 = .ok (.iconst 1, 1) := by decide +kernel
theorem dX7_getWaiting_69 : decode cX7_getWaiting 69 = .ok (.isub, 1) := by decide +kernel
theorem dX7_getWaiting_70 : decode cX7_getWaiting 70 = .ok (.iastore, 1) := by decide +kernel
theorem dX7_getWaiting_71 : decode cX7_getWaiting 71 = .ok (.iload_n 2, 1) := by decide +kernel
theorem dX7_getWaiting_72 : decode cX7_getWaiting 72 = .ok (.istore_n 3, 1) := by decide +kernel
theorem dX7_getWaiting_73 : decode cX7_getWaiting 73 = .ok (.iload_n 3, 1) := by decide +kernel
theorem dX7_getWaiting_74 : decode cX7_getWaiting 74 = .ok (.aload_n 0, 1) := by decide +kernel
theorem dX7_getWaiting_75 : decode cX7_getWaiting 75 = .ok (.getfield 52, 3) := by decide +kernel
theorem dX7_getWaiting_78 : decode cX7_getWaiting 78 = .ok (.iload_n 1, 1) := by decide +kernel
theorem dX7_getWaiting_79 : decode cX7_getWaiting 79 = .ok (.iaload, 1) := by decide +kernel
theorem dX7_getWaiting_80 : decode cX7_getWaiting 80 = .ok (.if_icmp .ge 93, 3) := by decide +kernel
theorem dX7_getWaiting_83 : decode cX7_getWaiting 83 = .ok (.iconst 4, 1) := by decide +kernel
theorem dX7_getWaiting_84 : decode cX7_getWaiting 84 = .ok (.iload_n 1, 1) := by decide +kernel
theorem dX7_getWaiting_85 : decode cX7_getWaiting 85 = .ok (.imul, 1) := by decide +kernel
theorem dX7_getWaiting_86 : decode cX7_getWaiting 86 = .ok (.iload_n 3, 1) := by decide +kernel
theorem dX7_getWaiting_87 : decode cX7_getWaiting 87 = .ok (.iadd, 1) := by decide +kernel
theorem dX7_getWaiting_88 : decode cX7_getWaiting 88 = .ok (.istore 4, 2) := by decide +kernel
theorem dX7_getWaiting_90 : decode cX7_getWaiting 90 = .ok (.aload_n 0, 1) := by decide +kernel
theorem dX7_getWaiting_91 : decode cX7_getWaiting 91 = .ok (.getfield 55, 3) := by decide +kernel
theorem dX7_getWaiting_94 : decode cX7_getWaiting 94 = .ok (.iload 4, 2) := by decide +kernel
theorem dX7_getWaiting_96 : decode cX7_getWaiting 96 = .ok (.aload_n 0, 1) := by decide +kernel
theorem dX7_getWaiting_97 : decode cX7_getWaiting 97 = .ok (.getfield 55, 3) := by decide +kernel
theorem dX7_getWaiting_100 : decode cX7_getWaiting 100 = .ok (.iload 4, 2) := by decide +kernel
theorem dX7_getWaiting_102 : decode cX7_getWaiting 102 = .ok (.iconst 1, 1) := by decide +kernel
theorem dX7_getWaiting_103 : decode cX7_getWaiting 103 = .ok (.iadd, 1) := by decide +kernel
theorem dX7_getWaiting_104 : decode cX7_getWaiting 104 = .ok (.iaload, 1) := by decide +kernel
theorem dX7_getWaiting_105 : decode cX7_getWaiting 105 = .ok (.iastore, 1) := by decide +kernel
theorem dX7_getWaiting_106 : decode cX7_getWaiting 106 = .ok (.aload_n 0, 1) := by decide +kernel
theorem dX7_getWaiting_107 : decode cX7_getWaiting 107 = .ok (.getfield 58, 3) := by decide +kernel
theorem dX7_getWaiting_110 : decode cX7_getWaiting 110 = .ok (.iload 4, 2) := by decide +kernel
theorem dX7_getWaiting_112 : decode cX7_getWaiting 112 = .ok (.aload_n 0, 1) := by decide +kernel
theorem dX7_getWaiting_113 : decode cX7_getWaiting 113 = .ok (.getfield 58, 3) := by decide +kernel
theorem dX7_getWaiting_116 : decode cX7_getWaiting 116 = .ok (.iload 4, 2) := by decide +kernel
theorem dX7_getWaiting_118 : decode cX7_getWaiting 118 = .ok (.iconst 1, 1) := by decide +kernel
theorem dX7_getWaiting_119 : decode cX7_getWaiting 119 = .ok (.iadd, 1) := by decide +kernel
theorem dX7_getWaiting_120 : decode cX7_getWaiting 120 = .ok (.iaload, 1) := by decide +kernel
theorem dX7_getWaiting_121 : decode cX7_getWaiting 121 = .ok (.iastore, 1) := by decide +kernel
theorem dX7_getWaiting_122 : decode cX7_getWaiting 122 = .ok (.iconst 0, 1) := by decide +kernel
theorem dX7_getWaiting_123 : decode cX7_getWaiting 123 = .ok (.istore 5, 2) := by decide +kernel
