/-! The constructors, walked by a program at the places where each runs. -/
theorem dX7_init_0 : decode cX7_init 0 = .ok (.aload_n 0, 1) := by decide +kernel
theorem dX7_init_1 : decode cX7_init 1 = .ok (.invokespecial 3, 3) := by decide +kernel
theorem dX7_init_4 : decode cX7_init 4 = .ok (.aload_n 0, 1) := by decide +kernel
theorem dX7_init_5 : decode cX7_init 5 = .ok (.sipush 480, 3) := by decide +kernel
theorem dX7_init_8 : decode cX7_init 8 = .ok (.newarray .int, 2) := by decide +kernel
theorem dX7_init_10 : decode cX7_init 10 = .ok (.putfield 11, 3) := by decide +kernel
theorem dX7_init_13 : decode cX7_init 13 = .ok (.aload_n 0, 1) := by decide +kernel
theorem dX7_init_14 : decode cX7_init 14 = .ok (.new 15, 3) := by decide +kernel
theorem dX7_init_17 : decode cX7_init 17 = .ok (.dup, 1) := by decide +kernel
theorem dX7_init_18 : decode cX7_init 18 = .ok (.invokespecial 17, 3) := by decide +kernel
theorem dX7_init_21 : decode cX7_init 21 = .ok (.putfield 18, 3) := by decide +kernel
theorem dX7_init_24 : decode cX7_init 24 = .ok (.aload_n 0, 1) := by decide +kernel
theorem dX7_init_25 : decode cX7_init 25 = .ok (.new 15, 3) := by decide +kernel
theorem dX7_init_28 : decode cX7_init 28 = .ok (.dup, 1) := by decide +kernel
theorem dX7_init_29 : decode cX7_init 29 = .ok (.invokespecial 17, 3) := by decide +kernel
theorem dX7_init_32 : decode cX7_init 32 = .ok (.putfield 22, 3) := by decide +kernel
theorem dX7_init_35 : decode cX7_init 35 = .ok (.aload_n 0, 1) := by decide +kernel
theorem dX7_init_36 : decode cX7_init 36 = .ok (.iconst 3, 1) := by decide +kernel
theorem dX7_init_37 : decode cX7_init 37 = .ok (.anewarray 15, 3) := by decide +kernel
theorem dX7_init_40 : decode cX7_init 40 = .ok (.putfield 25, 3) := by decide +kernel
theorem dX7_init_43 : decode cX7_init 43 = .ok (.aload_n 0, 1) := by decide +kernel
theorem dX7_init_44 : decode cX7_init 44 = .ok (.new 29, 3) := by decide +kernel
theorem dX7_init_47 : decode cX7_init 47 = .ok (.dup, 1) := by decide +kernel
theorem dX7_init_48 : decode cX7_init 48 = .ok (.invokespecial 31, 3) := by decide +kernel
theorem dX7_init_51 : decode cX7_init 51 = .ok (.putfield 32, 3) := by decide +kernel
theorem dX7_init_54 : decode cX7_init 54 = .ok (.aload_n 0, 1) := by decide +kernel
theorem dX7_init_55 : decode cX7_init 55 = .ok (.new 29, 3) := by decide +kernel
theorem dX7_init_58 : decode cX7_init 58 = .ok (.dup, 1) := by decide +kernel
theorem dX7_init_59 : decode cX7_init 59 = .ok (.invokespecial 31, 3) := by decide +kernel
theorem dX7_init_62 : decode cX7_init 62 = .ok (.putfield 36, 3) := by decide +kernel
theorem dX7_init_65 : decode cX7_init 65 = .ok (.aload_n 0, 1) := by decide +kernel
theorem dX7_init_66 : decode cX7_init 66 = .ok (.new 39, 3) := by decide +kernel
theorem dX7_init_69 : decode cX7_init 69 = .ok (.dup, 1) := by decide +kernel
theorem dX7_init_70 : decode cX7_init 70 = .ok (.invokespecial 41, 3) := by decide +kernel
theorem dX7_init_73 : decode cX7_init 73 = .ok (.putfield 42, 3) := by decide +kernel
theorem dX7_init_76 : decode cX7_init 76 = .ok (.aload_n 0, 1) := by decide +kernel
theorem dX7_init_77 : decode cX7_init 77 = .ok (.iconst 1, 1) := by decide +kernel
theorem dX7_init_78 : decode cX7_init 78 = .ok (.putfield 46, 3) := by decide +kernel
theorem dX7_init_81 : decode cX7_init 81 = .ok (.aload_n 0, 1) := by decide +kernel
theorem dX7_init_82 : decode cX7_init 82 = .ok (.iconst 4, 1) := by decide +kernel
theorem dX7_init_83 : decode cX7_init 83 = .ok (.newarray .int, 2) := by decide +kernel
theorem dX7_init_85 : decode cX7_init 85 = .ok (.putfield 50, 3) := by decide +kernel
theorem dX7_init_88 : decode cX7_init 88 = .ok (.aload_n 0, 1) := by decide +kernel
theorem dX7_init_89 : decode cX7_init 89 = .ok (.iconst 4, 1) := by decide +kernel
theorem dX7_init_90 : decode cX7_init 90 = .ok (.newarray .int, 2) := by decide +kernel
theorem dX7_init_92 : decode cX7_init 92 = .ok (.putfield 53, 3) := by decide +kernel
theorem dX7_init_95 : decode cX7_init 95 = .ok (.aload_n 0, 1) := by decide +kernel
theorem dX7_init_96 : decode cX7_init 96 = .ok (.bipush 12, 2) := by decide +kernel
theorem dX7_init_98 : decode cX7_init 98 = .ok (.newarray .int, 2) := by decide +kernel
theorem dX7_init_100 : decode cX7_init 100 = .ok (.putfield 56, 3) := by decide +kernel
theorem dX7_init_103 : decode cX7_init 103 = .ok (.aload_n 0, 1) := by decide +kernel
theorem dX7_init_104 : decode cX7_init 104 = .ok (.new 59, 3) := by decide +kernel
theorem dX7_init_107 : decode cX7_init 107 = .ok (.dup, 1) := by decide +kernel
theorem dX7_init_108 : decode cX7_init 108 = .ok (.invokespecial 61, 3) := by decide +kernel
theorem dX7_init_111 : decode cX7_init 111 = .ok (.putfield 62, 3) := by decide +kernel
theorem dX7_init_114 : decode cX7_init 114 = .ok (.aload_n 0, 1) := by decide +kernel
theorem dX7_init_115 : decode cX7_init 115 = .ok (.new 66, 3) := by decide +kernel
theorem dX7_init_118 : decode cX7_init 118 = .ok (.dup, 1) := by decide +kernel
theorem dX7_init_119 : decode cX7_init 119 = .ok (.invokespecial 68, 3) := by decide +kernel
theorem dX7_init_122 : decode cX7_init 122 = .ok (.putfield 69, 3) := by decide +kernel
theorem dX7_init_125 : decode cX7_init 125 = .ok (.iconst 0, 1) := by decide +kernel
theorem dX7_init_126 : decode cX7_init 126 = .ok (.istore_n 1, 1) := by decide +kernel
theorem dX7_init_127 : decode cX7_init 127 = .ok (.iload_n 1, 1) := by decide +kernel
theorem dX7_init_128 : decode cX7_init 128 = .ok (.iconst 3, 1) := by decide +kernel
theorem dX7_init_129 : decode cX7_init 129 = .ok (.if_icmp .ge 22, 3) := by decide +kernel
theorem dX7_init_132 : decode cX7_init 132 = .ok (.aload_n 0, 1) := by decide +kernel
theorem dX7_init_133 : decode cX7_init 133 = .ok (.getfield 25, 3) := by decide +kernel
theorem dX7_init_136 : decode cX7_init 136 = .ok (.iload_n 1, 1) := by decide +kernel
theorem dX7_init_137 : decode cX7_init 137 = .ok (.new 15, 3) := by decide +kernel
theorem dX7_init_140 : decode cX7_init 140 = .ok (.dup, 1) := by decide +kernel
theorem dX7_init_141 : decode cX7_init 141 = .ok (.invokespecial 17, 3) := by decide +kernel
theorem dX7_init_144 : decode cX7_init 144 = .ok (.aastore, 1) := by decide +kernel
theorem dX7_init_145 : decode cX7_init 145 = .ok (.iinc 1 1, 3) := by decide +kernel
theorem dX7_init_148 : decode cX7_init 148 = .ok (.goto (-21), 3) := by decide +kernel
theorem dX7_init_151 : decode cX7_init 151 = .ok (.iconst 0, 1) := by decide +kernel
theorem dX7_init_152 : decode cX7_init 152 = .ok (.istore_n 1, 1) := by decide +kernel
theorem dX7_init_153 : decode cX7_init 153 = .ok (.iload_n 1, 1) := by decide +kernel
theorem dX7_init_154 : decode cX7_init 154 = .ok (.iconst 4, 1) := by decide +kernel
theorem dX7_init_155 : decode cX7_init 155 = .ok (.if_icmp .ge 45, 3) := by decide +kernel
theorem dX7_init_158 : decode cX7_init 158 = .ok (.aload_n 0, 1) := by decide +kernel
theorem dX7_init_159 : decode cX7_init 159 = .ok (.getfield 50, 3) := by decide +kernel
theorem dX7_init_162 : decode cX7_init 162 = .ok (.iload_n 1, 1) := by decide +kernel
theorem dX7_init_163 : decode cX7_init 163 = .ok (.iload_n 1, 1) := by decide +kernel
theorem dX7_init_164 : decode cX7_init 164 = .ok (.iconst 2, 1) := by decide +kernel
theorem dX7_init_165 : decode cX7_init 165 = .ok (.irem, 1) := by decide +kernel
theorem dX7_init_166 : decode cX7_init 166 = .ok (.ifCond .ne 7, 3) := by decide +kernel
theorem dX7_init_169 : decode cX7_init 169 = .ok (.iconst 3, 1) := by decide +kernel
theorem dX7_init_170 : decode cX7_init 170 = .ok (.goto 5, 3) := by decide +kernel
theorem dX7_init_173 : decode cX7_init 173 = .ok (.bipush 20, 2) := by decide +kernel
theorem dX7_init_175 : decode cX7_init 175 = .ok (.iastore, 1) := by decide +kernel
theorem dX7_init_176 : decode cX7_init 176 = .ok (.aload_n 0, 1) := by decide +kernel
theorem dX7_init_177 : decode cX7_init 177 = .ok (.getfield 53, 3) := by decide +kernel
theorem dX7_init_180 : decode cX7_init 180 = .ok (.iload_n 1, 1) := by decide +kernel
theorem dX7_init_181 : decode cX7_init 181 = .ok (.iload_n 1, 1) := by decide +kernel
theorem dX7_init_182 : decode cX7_init 182 = .ok (.iconst 2, 1) := by decide +kernel
theorem dX7_init_183 : decode cX7_init 183 = .ok (.idiv, 1) := by decide +kernel
theorem dX7_init_184 : decode cX7_init 184 = .ok (.ifCond .ne 7, 3) := by decide +kernel
theorem dX7_init_187 : decode cX7_init 187 = .ok (.iconst 3, 1) := by decide +kernel
theorem dX7_init_188 : decode cX7_init 188 = .ok (.goto 5, 3) := by decide +kernel
theorem dX7_init_191 : decode cX7_init 191 = .ok (.bipush 20, 2) := by decide +kernel
theorem dX7_init_193 : decode cX7_init 193 = .ok (.iastore, 1) := by decide +kernel
theorem dX7_init_194 : decode cX7_init 194 = .ok (.iinc 1 1, 3) := by decide +kernel
theorem dX7_init_197 : decode cX7_init 197 = .ok (.goto (-44), 3) := by decide +kernel
theorem dX7_init_200 : decode cX7_init 200 = .ok (.aload_n 0, 1) := by decide +kernel
theorem dX7_init_201 : decode cX7_init 201 = .ok (.getfield 18, 3) := by decide +kernel
theorem dX7_init_204 : decode cX7_init 204 = .ok (.bipush 24, 2) := by decide +kernel
theorem dX7_init_206 : decode cX7_init 206 = .ok (.bipush 24, 2) := by decide +kernel
theorem dX7_init_208 : decode cX7_init 208 = .ok (.invokevirtual 73, 3) := by decide +kernel
theorem dX7_init_211 : decode cX7_init 211 = .ok (.return_, 1) := by decide +kernel
theorem dX6_init_0 : decode cX6_init 0 = .ok (.aload_n 0, 1) := by decide +kernel
theorem dX6_init_1 : decode cX6_init 1 = .ok (.invokespecial 3, 3) := by decide +kernel
theorem dX6_init_4 : decode cX6_init 4 = .ok (.aload_n 0, 1) := by decide +kernel
theorem dX6_init_5 : decode cX6_init 5 = .ok (.sipush 1600, 3) := by decide +kernel
theorem dX6_init_8 : decode cX6_init 8 = .ok (.newarray .int, 2) := by decide +kernel
theorem dX6_init_10 : decode cX6_init 10 = .ok (.putfield 9, 3) := by decide +kernel
theorem dX6_init_13 : decode cX6_init 13 = .ok (.aload_n 0, 1) := by decide +kernel
theorem dX6_init_14 : decode cX6_init 14 = .ok (.bipush 10, 2) := by decide +kernel
theorem dX6_init_16 : decode cX6_init 16 = .ok (.newarray .int, 2) := by decide +kernel
theorem dX6_init_18 : decode cX6_init 18 = .ok (.putfield 15, 3) := by decide +kernel
theorem dX6_init_21 : decode cX6_init 21 = .ok (.return_, 1) := by decide +kernel
theorem dX1_init_0 : decode cX1_init 0 = .ok (.aload_n 0, 1) := by decide +kernel
theorem dX1_init_1 : decode cX1_init 1 = .ok (.invokespecial 3, 3) := by decide +kernel
theorem dX1_init_4 : decode cX1_init 4 = .ok (.aload_n 0, 1) := by decide +kernel
theorem dX1_init_5 : decode cX1_init 5 = .ok (.bipush 12, 2) := by decide +kernel
theorem dX1_init_7 : decode cX1_init 7 = .ok (.newarray .boolean, 2) := by decide +kernel
theorem dX1_init_9 : decode cX1_init 9 = .ok (.putfield 9, 3) := by decide +kernel
theorem dX1_init_12 : decode cX1_init 12 = .ok (.aload_n 0, 1) := by decide +kernel
theorem dX1_init_13 : decode cX1_init 13 = .ok (.bipush 12, 2) := by decide +kernel
theorem dX1_init_15 : decode cX1_init 15 = .ok (.newarray .int, 2) := by decide +kernel
theorem dX1_init_17 : decode cX1_init 17 = .ok (.putfield 15, 3) := by decide +kernel
theorem dX1_init_20 : decode cX1_init 20 = .ok (.aload_n 0, 1) := by decide +kernel
theorem dX1_init_21 : decode cX1_init 21 = .ok (.bipush 12, 2) := by decide +kernel
theorem dX1_init_23 : decode cX1_init 23 = .ok (.newarray .int, 2) := by decide +kernel
theorem dX1_init_25 : decode cX1_init 25 = .ok (.putfield 19, 3) := by decide +kernel
theorem dX1_init_28 : decode cX1_init 28 = .ok (.aload_n 0, 1) := by decide +kernel
theorem dX1_init_29 : decode cX1_init 29 = .ok (.bipush 12, 2) := by decide +kernel
theorem dX1_init_31 : decode cX1_init 31 = .ok (.newarray .int, 2) := by decide +kernel
theorem dX1_init_33 : decode cX1_init 33 = .ok (.putfield 22, 3) := by decide +kernel
theorem dX1_init_36 : decode cX1_init 36 = .ok (.aload_n 0, 1) := by decide +kernel
theorem dX1_init_37 : decode cX1_init 37 = .ok (.bipush 12, 2) := by decide +kernel
theorem dX1_init_39 : decode cX1_init 39 = .ok (.newarray .int, 2) := by decide +kernel
theorem dX1_init_41 : decode cX1_init 41 = .ok (.putfield 25, 3) := by decide +kernel
theorem dX1_init_44 : decode cX1_init 44 = .ok (.aload_n 0, 1) := by decide +kernel
theorem dX1_init_45 : decode cX1_init 45 = .ok (.bipush 72, 2) := by decide +kernel
theorem dX1_init_47 : decode cX1_init 47 = .ok (.newarray .int, 2) := by decide +kernel
theorem dX1_init_49 : decode cX1_init 49 = .ok (.putfield 28, 3) := by decide +kernel
theorem dX1_init_52 : decode cX1_init 52 = .ok (.aload_n 0, 1) := by decide +kernel
theorem dX1_init_53 : decode cX1_init 53 = .ok (.bipush 72, 2) := by decide +kernel
theorem dX1_init_55 : decode cX1_init 55 = .ok (.newarray .int, 2) := by decide +kernel
theorem dX1_init_57 : decode cX1_init 57 = .ok (.putfield 31, 3) := by decide +kernel
theorem dX1_init_60 : decode cX1_init 60 = .ok (.return_, 1) := by decide +kernel
theorem dX2_init_0 : decode cX2_init 0 = .ok (.aload_n 0, 1) := by decide +kernel
theorem dX2_init_1 : decode cX2_init 1 = .ok (.invokespecial 3, 3) := by decide +kernel
theorem dX2_init_4 : decode cX2_init 4 = .ok (.aload_n 0, 1) := by decide +kernel
theorem dX2_init_5 : decode cX2_init 5 = .ok (.sipush 400, 3) := by decide +kernel
theorem dX2_init_8 : decode cX2_init 8 = .ok (.newarray .int, 2) := by decide +kernel
theorem dX2_init_10 : decode cX2_init 10 = .ok (.putfield 9, 3) := by decide +kernel
theorem dX2_init_13 : decode cX2_init 13 = .ok (.return_, 1) := by decide +kernel
theorem dX3_init_0 : decode cX3_init 0 = .ok (.aload_n 0, 1) := by decide +kernel
theorem dX3_init_1 : decode cX3_init 1 = .ok (.invokespecial 3, 3) := by decide +kernel
theorem dX3_init_4 : decode cX3_init 4 = .ok (.aload_n 0, 1) := by decide +kernel
theorem dX3_init_5 : decode cX3_init 5 = .ok (.bipush 7, 2) := by decide +kernel
theorem dX3_init_7 : decode cX3_init 7 = .ok (.newarray .int, 2) := by decide +kernel
theorem dX3_init_9 : decode cX3_init 9 = .ok (.dup, 1) := by decide +kernel
theorem dX3_init_10 : decode cX3_init 10 = .ok (.iconst 0, 1) := by decide +kernel
theorem dX3_init_11 : decode cX3_init 11 = .ok (.iconst 5, 1) := by decide +kernel
theorem dX3_init_12 : decode cX3_init 12 = .ok (.iastore, 1) := by decide +kernel
theorem dX3_init_13 : decode cX3_init 13 = .ok (.dup, 1) := by decide +kernel
theorem dX3_init_14 : decode cX3_init 14 = .ok (.iconst 1, 1) := by decide +kernel
theorem dX3_init_15 : decode cX3_init 15 = .ok (.iconst 2, 1) := by decide +kernel
theorem dX3_init_16 : decode cX3_init 16 = .ok (.iastore, 1) := by decide +kernel
theorem dX3_init_17 : decode cX3_init 17 = .ok (.dup, 1) := by decide +kernel
theorem dX3_init_18 : decode cX3_init 18 = .ok (.iconst 2, 1) := by decide +kernel
theorem dX3_init_19 : decode cX3_init 19 = .ok (.bipush 6, 2) := by decide +kernel
theorem dX3_init_21 : decode cX3_init 21 = .ok (.iastore, 1) := by decide +kernel
theorem dX3_init_22 : decode cX3_init 22 = .ok (.dup, 1) := by decide +kernel
theorem dX3_init_23 : decode cX3_init 23 = .ok (.iconst 3, 1) := by decide +kernel
theorem dX3_init_24 : decode cX3_init 24 = .ok (.bipush 6, 2) := by decide +kernel
theorem dX3_init_26 : decode cX3_init 26 = .ok (.iastore, 1) := by decide +kernel
theorem dX3_init_27 : decode cX3_init 27 = .ok (.dup, 1) := by decide +kernel
theorem dX3_init_28 : decode cX3_init 28 = .ok (.iconst 4, 1) := by decide +kernel
theorem dX3_init_29 : decode cX3_init 29 = .ok (.iconst 4, 1) := by decide +kernel
theorem dX3_init_30 : decode cX3_init 30 = .ok (.iastore, 1) := by decide +kernel
theorem dX3_init_31 : decode cX3_init 31 = .ok (.dup, 1) := by decide +kernel
theorem dX3_init_32 : decode cX3_init 32 = .ok (.iconst 5, 1) := by decide +kernel
theorem dX3_init_33 : decode cX3_init 33 = .ok (.iconst 3, 1) := by decide +kernel
theorem dX3_init_34 : decode cX3_init 34 = .ok (.iastore, 1) := by decide +kernel
theorem dX3_init_35 : decode cX3_init 35 = .ok (.dup, 1) := by decide +kernel
theorem dX3_init_36 : decode cX3_init 36 = .ok (.bipush 6, 2) := by decide +kernel
theorem dX3_init_38 : decode cX3_init 38 = .ok (.iconst 0, 1) := by decide +kernel
theorem dX3_init_39 : decode cX3_init 39 = .ok (.iastore, 1) := by decide +kernel
theorem dX3_init_40 : decode cX3_init 40 = .ok (.putfield 9, 3) := by decide +kernel
theorem dX3_init_43 : decode cX3_init 43 = .ok (.aload_n 0, 1) := by decide +kernel
theorem dX3_init_44 : decode cX3_init 44 = .ok (.new 15, 3) := by decide +kernel
theorem dX3_init_47 : decode cX3_init 47 = .ok (.dup, 1) := by decide +kernel
theorem dX3_init_48 : decode cX3_init 48 = .ok (.invokespecial 17, 3) := by decide +kernel
theorem dX3_init_51 : decode cX3_init 51 = .ok (.putfield 18, 3) := by decide +kernel
theorem dX3_init_54 : decode cX3_init 54 = .ok (.aload_n 0, 1) := by decide +kernel
theorem dX3_init_55 : decode cX3_init 55 = .ok (.iconst 4, 1) := by decide +kernel
theorem dX3_init_56 : decode cX3_init 56 = .ok (.newarray .int, 2) := by decide +kernel
theorem dX3_init_58 : decode cX3_init 58 = .ok (.putfield 22, 3) := by decide +kernel
theorem dX3_init_61 : decode cX3_init 61 = .ok (.aload_n 0, 1) := by decide +kernel
theorem dX3_init_62 : decode cX3_init 62 = .ok (.new 25, 3) := by decide +kernel
theorem dX3_init_65 : decode cX3_init 65 = .ok (.dup, 1) := by decide +kernel
theorem dX3_init_66 : decode cX3_init 66 = .ok (.invokespecial 27, 3) := by decide +kernel
theorem dX3_init_69 : decode cX3_init 69 = .ok (.putfield 28, 3) := by decide +kernel
theorem dX3_init_72 : decode cX3_init 72 = .ok (.aload_n 0, 1) := by decide +kernel
theorem dX3_init_73 : decode cX3_init 73 = .ok (.bipush 72, 2) := by decide +kernel
theorem dX3_init_75 : decode cX3_init 75 = .ok (.newarray .int, 2) := by decide +kernel
theorem dX3_init_77 : decode cX3_init 77 = .ok (.putfield 32, 3) := by decide +kernel
theorem dX3_init_80 : decode cX3_init 80 = .ok (.aload_n 0, 1) := by decide +kernel
theorem dX3_init_81 : decode cX3_init 81 = .ok (.bipush 72, 2) := by decide +kernel
theorem dX3_init_83 : decode cX3_init 83 = .ok (.newarray .int, 2) := by decide +kernel
theorem dX3_init_85 : decode cX3_init 85 = .ok (.putfield 35, 3) := by decide +kernel
theorem dX3_init_88 : decode cX3_init 88 = .ok (.aload_n 0, 1) := by decide +kernel
theorem dX3_init_89 : decode cX3_init 89 = .ok (.bipush 12, 2) := by decide +kernel
theorem dX3_init_91 : decode cX3_init 91 = .ok (.newarray .int, 2) := by decide +kernel
theorem dX3_init_93 : decode cX3_init 93 = .ok (.putfield 38, 3) := by decide +kernel
theorem dX3_init_96 : decode cX3_init 96 = .ok (.aload_n 0, 1) := by decide +kernel
theorem dX3_init_97 : decode cX3_init 97 = .ok (.bipush 12, 2) := by decide +kernel
theorem dX3_init_99 : decode cX3_init 99 = .ok (.newarray .int, 2) := by decide +kernel
theorem dX3_init_101 : decode cX3_init 101 = .ok (.putfield 41, 3) := by decide +kernel
theorem dX3_init_104 : decode cX3_init 104 = .ok (.aload_n 0, 1) := by decide +kernel
theorem dX3_init_105 : decode cX3_init 105 = .ok (.bipush 12, 2) := by decide +kernel
theorem dX3_init_107 : decode cX3_init 107 = .ok (.newarray .int, 2) := by decide +kernel
theorem dX3_init_109 : decode cX3_init 109 = .ok (.putfield 44, 3) := by decide +kernel
theorem dX3_init_112 : decode cX3_init 112 = .ok (.aload_n 0, 1) := by decide +kernel
theorem dX3_init_113 : decode cX3_init 113 = .ok (.bipush 12, 2) := by decide +kernel
theorem dX3_init_115 : decode cX3_init 115 = .ok (.newarray .int, 2) := by decide +kernel
theorem dX3_init_117 : decode cX3_init 117 = .ok (.putfield 47, 3) := by decide +kernel
theorem dX3_init_120 : decode cX3_init 120 = .ok (.aload_n 0, 1) := by decide +kernel
theorem dX3_init_121 : decode cX3_init 121 = .ok (.bipush 12, 2) := by decide +kernel
theorem dX3_init_123 : decode cX3_init 123 = .ok (.newarray .int, 2) := by decide +kernel
theorem dX3_init_125 : decode cX3_init 125 = .ok (.putfield 50, 3) := by decide +kernel
theorem dX3_init_128 : decode cX3_init 128 = .ok (.return_, 1) := by decide +kernel
theorem dX0_init_0 : decode cX0_init 0 = .ok (.aload_n 0, 1) := by decide +kernel
theorem dX0_init_1 : decode cX0_init 1 = .ok (.invokespecial 3, 3) := by decide +kernel
theorem dX0_init_4 : decode cX0_init 4 = .ok (.aload_n 0, 1) := by decide +kernel
theorem dX0_init_5 : decode cX0_init 5 = .ok (.sipush 800, 3) := by decide +kernel
theorem dX0_init_8 : decode cX0_init 8 = .ok (.newarray .int, 2) := by decide +kernel
theorem dX0_init_10 : decode cX0_init 10 = .ok (.putfield 11, 3) := by decide +kernel
theorem dX0_init_13 : decode cX0_init 13 = .ok (.aload_n 0, 1) := by decide +kernel
theorem dX0_init_14 : decode cX0_init 14 = .ok (.sipush 800, 3) := by decide +kernel
theorem dX0_init_17 : decode cX0_init 17 = .ok (.newarray .int, 2) := by decide +kernel
theorem dX0_init_19 : decode cX0_init 19 = .ok (.putfield 15, 3) := by decide +kernel
theorem dX0_init_22 : decode cX0_init 22 = .ok (.aload_n 0, 1) := by decide +kernel
theorem dX0_init_23 : decode cX0_init 23 = .ok (.sipush 800, 3) := by decide +kernel
theorem dX0_init_26 : decode cX0_init 26 = .ok (.newarray .int, 2) := by decide +kernel
theorem dX0_init_28 : decode cX0_init 28 = .ok (.putfield 18, 3) := by decide +kernel
theorem dX0_init_31 : decode cX0_init 31 = .ok (.aload_n 0, 1) := by decide +kernel
theorem dX0_init_32 : decode cX0_init 32 = .ok (.sipush 800, 3) := by decide +kernel
theorem dX0_init_35 : decode cX0_init 35 = .ok (.newarray .int, 2) := by decide +kernel
theorem dX0_init_37 : decode cX0_init 37 = .ok (.putfield 21, 3) := by decide +kernel
theorem dX0_init_40 : decode cX0_init 40 = .ok (.aload_n 0, 1) := by decide +kernel
theorem dX0_init_41 : decode cX0_init 41 = .ok (.sipush 800, 3) := by decide +kernel
theorem dX0_init_44 : decode cX0_init 44 = .ok (.newarray .int, 2) := by decide +kernel
theorem dX0_init_46 : decode cX0_init 46 = .ok (.putfield 24, 3) := by decide +kernel
theorem dX0_init_49 : decode cX0_init 49 = .ok (.aload_n 0, 1) := by decide +kernel
theorem dX0_init_50 : decode cX0_init 50 = .ok (.sipush 800, 3) := by decide +kernel
theorem dX0_init_53 : decode cX0_init 53 = .ok (.newarray .int, 2) := by decide +kernel
theorem dX0_init_55 : decode cX0_init 55 = .ok (.putfield 27, 3) := by decide +kernel
theorem dX0_init_58 : decode cX0_init 58 = .ok (.aload_n 0, 1) := by decide +kernel
theorem dX0_init_59 : decode cX0_init 59 = .ok (.sipush 800, 3) := by decide +kernel
theorem dX0_init_62 : decode cX0_init 62 = .ok (.newarray .int, 2) := by decide +kernel
theorem dX0_init_64 : decode cX0_init 64 = .ok (.putfield 30, 3) := by decide +kernel
theorem dX0_init_67 : decode cX0_init 67 = .ok (.aload_n 0, 1) := by decide +kernel
theorem dX0_init_68 : decode cX0_init 68 = .ok (.sipush 800, 3) := by decide +kernel
theorem dX0_init_71 : decode cX0_init 71 = .ok (.newarray .int, 2) := by decide +kernel
theorem dX0_init_73 : decode cX0_init 73 = .ok (.putfield 33, 3) := by decide +kernel
theorem dX0_init_76 : decode cX0_init 76 = .ok (.aload_n 0, 1) := by decide +kernel
theorem dX0_init_77 : decode cX0_init 77 = .ok (.sipush 1600, 3) := by decide +kernel
theorem dX0_init_80 : decode cX0_init 80 = .ok (.newarray .int, 2) := by decide +kernel
theorem dX0_init_82 : decode cX0_init 82 = .ok (.putfield 36, 3) := by decide +kernel
theorem dX0_init_85 : decode cX0_init 85 = .ok (.aload_n 0, 1) := by decide +kernel
theorem dX0_init_86 : decode cX0_init 86 = .ok (.sipush 1600, 3) := by decide +kernel
theorem dX0_init_89 : decode cX0_init 89 = .ok (.newarray .byte, 2) := by decide +kernel
theorem dX0_init_91 : decode cX0_init 91 = .ok (.putfield 39, 3) := by decide +kernel
theorem dX0_init_94 : decode cX0_init 94 = .ok (.return_, 1) := by decide +kernel
theorem dX5_init_0 : decode cX5_init 0 = .ok (.aload_n 0, 1) := by decide +kernel
theorem dX5_init_1 : decode cX5_init 1 = .ok (.invokespecial 3, 3) := by decide +kernel
theorem dX5_init_4 : decode cX5_init 4 = .ok (.aload_n 0, 1) := by decide +kernel
theorem dX5_init_5 : decode cX5_init 5 = .ok (.iconst 4, 1) := by decide +kernel
theorem dX5_init_6 : decode cX5_init 6 = .ok (.newarray .long, 2) := by decide +kernel
theorem dX5_init_8 : decode cX5_init 8 = .ok (.putfield 9, 3) := by decide +kernel
theorem dX5_init_11 : decode cX5_init 11 = .ok (.aload_n 0, 1) := by decide +kernel
theorem dX5_init_12 : decode cX5_init 12 = .ok (.iconst 4, 1) := by decide +kernel
theorem dX5_init_13 : decode cX5_init 13 = .ok (.newarray .long, 2) := by decide +kernel
theorem dX5_init_15 : decode cX5_init 15 = .ok (.putfield 15, 3) := by decide +kernel
theorem dX5_init_18 : decode cX5_init 18 = .ok (.aload_n 0, 1) := by decide +kernel
theorem dX5_init_19 : decode cX5_init 19 = .ok (.iconst 4, 1) := by decide +kernel
theorem dX5_init_20 : decode cX5_init 20 = .ok (.newarray .long, 2) := by decide +kernel
theorem dX5_init_22 : decode cX5_init 22 = .ok (.putfield 18, 3) := by decide +kernel
theorem dX5_init_25 : decode cX5_init 25 = .ok (.aload_n 0, 1) := by decide +kernel
theorem dX5_init_26 : decode cX5_init 26 = .ok (.iconst 4, 1) := by decide +kernel
theorem dX5_init_27 : decode cX5_init 27 = .ok (.newarray .long, 2) := by decide +kernel
theorem dX5_init_29 : decode cX5_init 29 = .ok (.putfield 21, 3) := by decide +kernel
theorem dX5_init_32 : decode cX5_init 32 = .ok (.aload_n 0, 1) := by decide +kernel
theorem dX5_init_33 : decode cX5_init 33 = .ok (.iconst 4, 1) := by decide +kernel
theorem dX5_init_34 : decode cX5_init 34 = .ok (.newarray .long, 2) := by decide +kernel
theorem dX5_init_36 : decode cX5_init 36 = .ok (.putfield 24, 3) := by decide +kernel
theorem dX5_init_39 : decode cX5_init 39 = .ok (.return_, 1) := by decide +kernel
theorem dX4_init_0 : decode cX4_init 0 = .ok (.aload_n 0, 1) := by decide +kernel
theorem dX4_init_1 : decode cX4_init 1 = .ok (.invokespecial 3, 3) := by decide +kernel
theorem dX4_init_4 : decode cX4_init 4 = .ok (.aload_n 0, 1) := by decide +kernel
theorem dX4_init_5 : decode cX4_init 5 = .ok (.bipush 16, 2) := by decide +kernel
theorem dX4_init_7 : decode cX4_init 7 = .ok (.newarray .int, 2) := by decide +kernel
theorem dX4_init_9 : decode cX4_init 9 = .ok (.putfield 9, 3) := by decide +kernel
theorem dX4_init_12 : decode cX4_init 12 = .ok (.aload_n 0, 1) := by decide +kernel
theorem dX4_init_13 : decode cX4_init 13 = .ok (.bipush 16, 2) := by decide +kernel
theorem dX4_init_15 : decode cX4_init 15 = .ok (.newarray .int, 2) := by decide +kernel
theorem dX4_init_17 : decode cX4_init 17 = .ok (.putfield 15, 3) := by decide +kernel
theorem dX4_init_20 : decode cX4_init 20 = .ok (.aload_n 0, 1) := by decide +kernel
theorem dX4_init_21 : decode cX4_init 21 = .ok (.bipush 16, 2) := by decide +kernel
theorem dX4_init_23 : decode cX4_init 23 = .ok (.newarray .int, 2) := by decide +kernel
theorem dX4_init_25 : decode cX4_init 25 = .ok (.putfield 18, 3) := by decide +kernel
theorem dX4_init_28 : decode cX4_init 28 = .ok (.aload_n 0, 1) := by decide +kernel
theorem dX4_init_29 : decode cX4_init 29 = .ok (.sipush 192, 3) := by decide +kernel
theorem dX4_init_32 : decode cX4_init 32 = .ok (.newarray .int, 2) := by decide +kernel
theorem dX4_init_34 : decode cX4_init 34 = .ok (.putfield 21, 3) := by decide +kernel
theorem dX4_init_37 : decode cX4_init 37 = .ok (.aload_n 0, 1) := by decide +kernel
theorem dX4_init_38 : decode cX4_init 38 = .ok (.bipush 16, 2) := by decide +kernel
theorem dX4_init_40 : decode cX4_init 40 = .ok (.newarray .int, 2) := by decide +kernel
theorem dX4_init_42 : decode cX4_init 42 = .ok (.putfield 24, 3) := by decide +kernel
theorem dX4_init_45 : decode cX4_init 45 = .ok (.return_, 1) := by decide +kernel
theorem fval_a {g : GG} {σ : SS} {c ci k v : Nat} {t : FieldType} (h : tyC ci k = .array t) (hv : 1 ≤ v) : fval g (sR σ c k v) c ci k = .ref (ad g v) := by
  unfold fval; rw [h]; show rv g (gR (sR σ c k v) c k) = _; rw [gR_sR, if_pos ⟨rfl, rfl⟩, rv_pos g hv]
def mX6_init : MM := (yX6_init, cX6_init, 1, none, { frames := 1, cells := 2, slots := 1610, locals := 20 })
def iX6_init_3 (σ : SS) : SS := (sR (sR σ 3 2 4) 3 3 5)
set_option maxRecDepth 20000 in
set_option maxHeartbeats 4000000 in
theorem ct_X6_init_3 {g : GG} {σ : SS} (hZ : Zr σ 3) : Ct g mX6_init [.ref (ad g 3)] 3 σ none 5 (iX6_init_3 σ) ∧ Zr (iX6_init_3 σ) 5 := by
  have hZ5 := hZ.mono (m := 4) (nle rfl)
  have hZ7 := hZ5.sR (c := 3) (k := 2) (v := 4) (nle rfl)
  have hZ11 := hZ7.mono (m := 5) (nle rfl)
  have hZ13 := hZ11.sR (c := 3) (k := 3) (v := 5) (nle rfl)
  refine ⟨?_, hZ13⟩
  refine Ct.of (by decide +kernel) (nle rfl) fun _ => ?_
  change RR g mX6_init (FinR g mX6_init none 5 (iX6_init_3 σ)) (3, 0, 0) 0 [(0, .ref (ad g 3))] [] σ
  refine r_aload_n (pc := 0) (j := 0) dX6_init_0 rfl rfl ?_
  refine r_objI (pc := 1) tw_1_30 tw_1_23 tw_1_24 ⟨nle rfl, nle rfl⟩ (nle rfl) dX6_init_1 ?_
  refine r_aload_n (pc := 4) (j := 0) dX6_init_4 rfl rfl ?_
  refine r_sipush (pc := 5) (v := (1600 : Int32)) dX6_init_5 rfl ?_
  refine r_newi (pc := 8) (atype := .int) (n := 3) (kd := 20) (t0 := 0) (N := 1600) (by decide) rfl (by decide) rfl rfl hZ tw_1_50 (by decide) rfl (nle rfl) ⟨nle rfl, nle rfl⟩ dX6_init_8 (cellE_i rfl) (fun _ _ h1 h2 => Option.some.inj (h2.symm.trans h1)) ?_
  refine r_putF (pc := 10) (c0 := 3) (σ1 := (sR σ 3 2 4)) (C := RX6) (T := TX6) (N := 4) (kf := 2) (m0 := 0) (ty0 := tyX6) rfl inG6 tyX6_ok nmX6 (by decide) rfl tw_1_38 rfl rfl rfl rfl rfl rfl rfl (by decide) (by decide) rfl (fldsC_set (fval_a rfl (by decide)) (fun j h => fval_sR h) (by decide)) oth_sR (fun h => absurd h (by decide)) dX6_init_10 ?_
  refine r_aload_n (pc := 13) (j := 0) dX6_init_13 rfl rfl ?_
  refine r_bipush (pc := 14) (v := (10 : Int32)) dX6_init_14 rfl ?_
  refine r_newi (pc := 16) (atype := .int) (n := 4) (kd := 20) (t0 := 0) (N := 10) (by decide) rfl (by decide) rfl rfl hZ7 tw_1_50 (by decide) rfl (nle rfl) ⟨nle rfl, nle rfl⟩ dX6_init_16 (cellE_i rfl) (fun _ _ h1 h2 => Option.some.inj (h2.symm.trans h1)) ?_
  refine r_putF (pc := 18) (c0 := 3) (σ1 := (sR (sR σ 3 2 4) 3 3 5)) (C := RX6) (T := TX6) (N := 4) (kf := 3) (m0 := 0) (ty0 := tyX6) rfl inG6 tyX6_ok nmX6 (by decide) rfl tw_1_40 rfl rfl rfl rfl rfl rfl rfl (by decide) (by decide) rfl (fldsC_set (fval_a rfl (by decide)) (fun j h => fval_sR h) (by decide)) oth_sR (fun h => absurd h (by decide)) dX6_init_18 ?_
  exact r_vret (pc := 21) rfl rfl ⟨Nat.le_refl _, Nat.le_refl _⟩ dX6_init_21

def iX6_init_6 (σ : SS) : SS := (sR (sR σ 6 2 7) 6 3 8)
set_option maxRecDepth 20000 in
set_option maxHeartbeats 4000000 in
theorem ct_X6_init_6 {g : GG} {σ : SS} (hZ : Zr σ 6) : Ct g mX6_init [.ref (ad g 6)] 6 σ none 8 (iX6_init_6 σ) ∧ Zr (iX6_init_6 σ) 8 := by
  have hZ5 := hZ.mono (m := 7) (nle rfl)
  have hZ7 := hZ5.sR (c := 6) (k := 2) (v := 7) (nle rfl)
  have hZ11 := hZ7.mono (m := 8) (nle rfl)
  have hZ13 := hZ11.sR (c := 6) (k := 3) (v := 8) (nle rfl)
  refine ⟨?_, hZ13⟩
  refine Ct.of (by decide +kernel) (nle rfl) fun _ => ?_
  change RR g mX6_init (FinR g mX6_init none 8 (iX6_init_6 σ)) (6, 0, 0) 0 [(0, .ref (ad g 6))] [] σ
  refine r_aload_n (pc := 0) (j := 0) dX6_init_0 rfl rfl ?_
  refine r_objI (pc := 1) tw_1_30 tw_1_23 tw_1_24 ⟨nle rfl, nle rfl⟩ (nle rfl) dX6_init_1 ?_
  refine r_aload_n (pc := 4) (j := 0) dX6_init_4 rfl rfl ?_
  refine r_sipush (pc := 5) (v := (1600 : Int32)) dX6_init_5 rfl ?_
  refine r_newi (pc := 8) (atype := .int) (n := 6) (kd := 20) (t0 := 0) (N := 1600) (by decide) rfl (by decide) rfl rfl hZ tw_1_50 (by decide) rfl (nle rfl) ⟨nle rfl, nle rfl⟩ dX6_init_8 (cellE_i rfl) (fun _ _ h1 h2 => Option.some.inj (h2.symm.trans h1)) ?_
  refine r_putF (pc := 10) (c0 := 6) (σ1 := (sR σ 6 2 7)) (C := RX6) (T := TX6) (N := 4) (kf := 2) (m0 := 0) (ty0 := tyX6) rfl inG6 tyX6_ok nmX6 (by decide) rfl tw_1_38 rfl rfl rfl rfl rfl rfl rfl (by decide) (by decide) rfl (fldsC_set (fval_a rfl (by decide)) (fun j h => fval_sR h) (by decide)) oth_sR (fun h => absurd h (by decide)) dX6_init_10 ?_
  refine r_aload_n (pc := 13) (j := 0) dX6_init_13 rfl rfl ?_
  refine r_bipush (pc := 14) (v := (10 : Int32)) dX6_init_14 rfl ?_
  refine r_newi (pc := 16) (atype := .int) (n := 7) (kd := 20) (t0 := 0) (N := 10) (by decide) rfl (by decide) rfl rfl hZ7 tw_1_50 (by decide) rfl (nle rfl) ⟨nle rfl, nle rfl⟩ dX6_init_16 (cellE_i rfl) (fun _ _ h1 h2 => Option.some.inj (h2.symm.trans h1)) ?_
  refine r_putF (pc := 18) (c0 := 6) (σ1 := (sR (sR σ 6 2 7) 6 3 8)) (C := RX6) (T := TX6) (N := 4) (kf := 3) (m0 := 0) (ty0 := tyX6) rfl inG6 tyX6_ok nmX6 (by decide) rfl tw_1_40 rfl rfl rfl rfl rfl rfl rfl (by decide) (by decide) rfl (fldsC_set (fval_a rfl (by decide)) (fun j h => fval_sR h) (by decide)) oth_sR (fun h => absurd h (by decide)) dX6_init_18 ?_
  exact r_vret (pc := 21) rfl rfl ⟨Nat.le_refl _, Nat.le_refl _⟩ dX6_init_21

def mX1_init : MM := (yX1_init, cX1_init, 1, none, { frames := 1, cells := 7, slots := 204, locals := 20 })
def iX1_init_10 (σ : SS) : SS := (sR (sR (sR (sR (sR (sR (sR σ 10 7 11) 10 8 12) 10 9 13) 10 10 14) 10 11 15) 10 12 16) 10 13 17)
set_option maxRecDepth 20000 in
set_option maxHeartbeats 4000000 in
theorem ct_X1_init_10 {g : GG} {σ : SS} (hZ : Zr σ 10) : Ct g mX1_init [.ref (ad g 10)] 10 σ none 17 (iX1_init_10 σ) ∧ Zr (iX1_init_10 σ) 17 := by
  have hZ5 := hZ.mono (m := 11) (nle rfl)
  have hZ7 := hZ5.sR (c := 10) (k := 7) (v := 11) (nle rfl)
  have hZ11 := hZ7.mono (m := 12) (nle rfl)
  have hZ13 := hZ11.sR (c := 10) (k := 8) (v := 12) (nle rfl)
  have hZ17 := hZ13.mono (m := 13) (nle rfl)
  have hZ19 := hZ17.sR (c := 10) (k := 9) (v := 13) (nle rfl)
  have hZ23 := hZ19.mono (m := 14) (nle rfl)
  have hZ25 := hZ23.sR (c := 10) (k := 10) (v := 14) (nle rfl)
  have hZ29 := hZ25.mono (m := 15) (nle rfl)
  have hZ31 := hZ29.sR (c := 10) (k := 11) (v := 15) (nle rfl)
  have hZ35 := hZ31.mono (m := 16) (nle rfl)
  have hZ37 := hZ35.sR (c := 10) (k := 12) (v := 16) (nle rfl)
  have hZ41 := hZ37.mono (m := 17) (nle rfl)
  have hZ43 := hZ41.sR (c := 10) (k := 13) (v := 17) (nle rfl)
  refine ⟨?_, hZ43⟩
  refine Ct.of (by decide +kernel) (nle rfl) fun _ => ?_
  change RR g mX1_init (FinR g mX1_init none 17 (iX1_init_10 σ)) (10, 0, 0) 0 [(0, .ref (ad g 10))] [] σ
  refine r_aload_n (pc := 0) (j := 0) dX1_init_0 rfl rfl ?_
  refine r_objI (pc := 1) tw_1_57 tw_1_23 tw_1_24 ⟨nle rfl, nle rfl⟩ (nle rfl) dX1_init_1 ?_
  refine r_aload_n (pc := 4) (j := 0) dX1_init_4 rfl rfl ?_
  refine r_bipush (pc := 5) (v := (12 : Int32)) dX1_init_5 rfl ?_
  refine r_newi (pc := 7) (atype := .boolean) (n := 10) (kd := 22) (t0 := 2) (N := 12) (by decide) rfl (by decide) rfl rfl hZ tw_1_137 (by decide) rfl (nle rfl) ⟨nle rfl, nle rfl⟩ dX1_init_7 (cellE_z rfl) (fun _ _ h1 h2 => Option.some.inj (h2.symm.trans h1)) ?_
  refine r_putF (pc := 9) (c0 := 10) (σ1 := (sR σ 10 7 11)) (C := RX1) (T := TX1) (N := 14) (kf := 7) (m0 := 0) (ty0 := tyX1) rfl inG1 tyX1_ok nmX1 (by decide) rfl tw_1_84 rfl rfl rfl rfl rfl rfl rfl (by decide) (by decide) rfl (fldsC_set (fval_a rfl (by decide)) (fun j h => fval_sR h) (by decide)) oth_sR (fun h => absurd h (by decide)) dX1_init_9 ?_
  refine r_aload_n (pc := 12) (j := 0) dX1_init_12 rfl rfl ?_
  refine r_bipush (pc := 13) (v := (12 : Int32)) dX1_init_13 rfl ?_
  refine r_newi (pc := 15) (atype := .int) (n := 11) (kd := 20) (t0 := 0) (N := 12) (by decide) rfl (by decide) rfl rfl hZ7 tw_1_50 (by decide) rfl (nle rfl) ⟨nle rfl, nle rfl⟩ dX1_init_15 (cellE_i rfl) (fun _ _ h1 h2 => Option.some.inj (h2.symm.trans h1)) ?_
  refine r_putF (pc := 17) (c0 := 10) (σ1 := (sR (sR σ 10 7 11) 10 8 12)) (C := RX1) (T := TX1) (N := 14) (kf := 8) (m0 := 0) (ty0 := tyX1) rfl inG1 tyX1_ok nmX1 (by decide) rfl tw_1_87 rfl rfl rfl rfl rfl rfl rfl (by decide) (by decide) rfl (fldsC_set (fval_a rfl (by decide)) (fun j h => fval_sR h) (by decide)) oth_sR (fun h => absurd h (by decide)) dX1_init_17 ?_
  refine r_aload_n (pc := 20) (j := 0) dX1_init_20 rfl rfl ?_
  refine r_bipush (pc := 21) (v := (12 : Int32)) dX1_init_21 rfl ?_
  refine r_newi (pc := 23) (atype := .int) (n := 12) (kd := 20) (t0 := 0) (N := 12) (by decide) rfl (by decide) rfl rfl hZ13 tw_1_50 (by decide) rfl (nle rfl) ⟨nle rfl, nle rfl⟩ dX1_init_23 (cellE_i rfl) (fun _ _ h1 h2 => Option.some.inj (h2.symm.trans h1)) ?_
  refine r_putF (pc := 25) (c0 := 10) (σ1 := (sR (sR (sR σ 10 7 11) 10 8 12) 10 9 13)) (C := RX1) (T := TX1) (N := 14) (kf := 9) (m0 := 0) (ty0 := tyX1) rfl inG1 tyX1_ok nmX1 (by decide) rfl tw_1_90 rfl rfl rfl rfl rfl rfl rfl (by decide) (by decide) rfl (fldsC_set (fval_a rfl (by decide)) (fun j h => fval_sR h) (by decide)) oth_sR (fun h => absurd h (by decide)) dX1_init_25 ?_
  refine r_aload_n (pc := 28) (j := 0) dX1_init_28 rfl rfl ?_
  refine r_bipush (pc := 29) (v := (12 : Int32)) dX1_init_29 rfl ?_
  refine r_newi (pc := 31) (atype := .int) (n := 13) (kd := 20) (t0 := 0) (N := 12) (by decide) rfl (by decide) rfl rfl hZ19 tw_1_50 (by decide) rfl (nle rfl) ⟨nle rfl, nle rfl⟩ dX1_init_31 (cellE_i rfl) (fun _ _ h1 h2 => Option.some.inj (h2.symm.trans h1)) ?_
  refine r_putF (pc := 33) (c0 := 10) (σ1 := (sR (sR (sR (sR σ 10 7 11) 10 8 12) 10 9 13) 10 10 14)) (C := RX1) (T := TX1) (N := 14) (kf := 10) (m0 := 0) (ty0 := tyX1) rfl inG1 tyX1_ok nmX1 (by decide) rfl tw_1_94 rfl rfl rfl rfl rfl rfl rfl (by decide) (by decide) rfl (fldsC_set (fval_a rfl (by decide)) (fun j h => fval_sR h) (by decide)) oth_sR (fun h => absurd h (by decide)) dX1_init_33 ?_
  refine r_aload_n (pc := 36) (j := 0) dX1_init_36 rfl rfl ?_
  refine r_bipush (pc := 37) (v := (12 : Int32)) dX1_init_37 rfl ?_
  refine r_newi (pc := 39) (atype := .int) (n := 14) (kd := 20) (t0 := 0) (N := 12) (by decide) rfl (by decide) rfl rfl hZ25 tw_1_50 (by decide) rfl (nle rfl) ⟨nle rfl, nle rfl⟩ dX1_init_39 (cellE_i rfl) (fun _ _ h1 h2 => Option.some.inj (h2.symm.trans h1)) ?_
  refine r_putF (pc := 41) (c0 := 10) (σ1 := (sR (sR (sR (sR (sR σ 10 7 11) 10 8 12) 10 9 13) 10 10 14) 10 11 15)) (C := RX1) (T := TX1) (N := 14) (kf := 11) (m0 := 0) (ty0 := tyX1) rfl inG1 tyX1_ok nmX1 (by decide) rfl tw_1_98 rfl rfl rfl rfl rfl rfl rfl (by decide) (by decide) rfl (fldsC_set (fval_a rfl (by decide)) (fun j h => fval_sR h) (by decide)) oth_sR (fun h => absurd h (by decide)) dX1_init_41 ?_
  refine r_aload_n (pc := 44) (j := 0) dX1_init_44 rfl rfl ?_
  refine r_bipush (pc := 45) (v := (72 : Int32)) dX1_init_45 rfl ?_
  refine r_newi (pc := 47) (atype := .int) (n := 15) (kd := 20) (t0 := 0) (N := 72) (by decide) rfl (by decide) rfl rfl hZ31 tw_1_50 (by decide) rfl (nle rfl) ⟨nle rfl, nle rfl⟩ dX1_init_47 (cellE_i rfl) (fun _ _ h1 h2 => Option.some.inj (h2.symm.trans h1)) ?_
  refine r_putF (pc := 49) (c0 := 10) (σ1 := (sR (sR (sR (sR (sR (sR σ 10 7 11) 10 8 12) 10 9 13) 10 10 14) 10 11 15) 10 12 16)) (C := RX1) (T := TX1) (N := 14) (kf := 12) (m0 := 0) (ty0 := tyX1) rfl inG1 tyX1_ok nmX1 (by decide) rfl tw_1_102 rfl rfl rfl rfl rfl rfl rfl (by decide) (by decide) rfl (fldsC_set (fval_a rfl (by decide)) (fun j h => fval_sR h) (by decide)) oth_sR (fun h => absurd h (by decide)) dX1_init_49 ?_
  refine r_aload_n (pc := 52) (j := 0) dX1_init_52 rfl rfl ?_
  refine r_bipush (pc := 53) (v := (72 : Int32)) dX1_init_53 rfl ?_
  refine r_newi (pc := 55) (atype := .int) (n := 16) (kd := 20) (t0 := 0) (N := 72) (by decide) rfl (by decide) rfl rfl hZ37 tw_1_50 (by decide) rfl (nle rfl) ⟨nle rfl, nle rfl⟩ dX1_init_55 (cellE_i rfl) (fun _ _ h1 h2 => Option.some.inj (h2.symm.trans h1)) ?_
  refine r_putF (pc := 57) (c0 := 10) (σ1 := (sR (sR (sR (sR (sR (sR (sR σ 10 7 11) 10 8 12) 10 9 13) 10 10 14) 10 11 15) 10 12 16) 10 13 17)) (C := RX1) (T := TX1) (N := 14) (kf := 13) (m0 := 0) (ty0 := tyX1) rfl inG1 tyX1_ok nmX1 (by decide) rfl tw_1_105 rfl rfl rfl rfl rfl rfl rfl (by decide) (by decide) rfl (fldsC_set (fval_a rfl (by decide)) (fun j h => fval_sR h) (by decide)) oth_sR (fun h => absurd h (by decide)) dX1_init_57 ?_
  exact r_vret (pc := 60) rfl rfl ⟨Nat.le_refl _, Nat.le_refl _⟩ dX1_init_60

def iX1_init_18 (σ : SS) : SS := (sR (sR (sR (sR (sR (sR (sR σ 18 7 19) 18 8 20) 18 9 21) 18 10 22) 18 11 23) 18 12 24) 18 13 25)
set_option maxRecDepth 20000 in
set_option maxHeartbeats 4000000 in
theorem ct_X1_init_18 {g : GG} {σ : SS} (hZ : Zr σ 18) : Ct g mX1_init [.ref (ad g 18)] 18 σ none 25 (iX1_init_18 σ) ∧ Zr (iX1_init_18 σ) 25 := by
  have hZ5 := hZ.mono (m := 19) (nle rfl)
  have hZ7 := hZ5.sR (c := 18) (k := 7) (v := 19) (nle rfl)
  have hZ11 := hZ7.mono (m := 20) (nle rfl)
  have hZ13 := hZ11.sR (c := 18) (k := 8) (v := 20) (nle rfl)
  have hZ17 := hZ13.mono (m := 21) (nle rfl)
  have hZ19 := hZ17.sR (c := 18) (k := 9) (v := 21) (nle rfl)
  have hZ23 := hZ19.mono (m := 22) (nle rfl)
  have hZ25 := hZ23.sR (c := 18) (k := 10) (v := 22) (nle rfl)
  have hZ29 := hZ25.mono (m := 23) (nle rfl)
  have hZ31 := hZ29.sR (c := 18) (k := 11) (v := 23) (nle rfl)
  have hZ35 := hZ31.mono (m := 24) (nle rfl)
  have hZ37 := hZ35.sR (c := 18) (k := 12) (v := 24) (nle rfl)
  have hZ41 := hZ37.mono (m := 25) (nle rfl)
  have hZ43 := hZ41.sR (c := 18) (k := 13) (v := 25) (nle rfl)
  refine ⟨?_, hZ43⟩
  refine Ct.of (by decide +kernel) (nle rfl) fun _ => ?_
  change RR g mX1_init (FinR g mX1_init none 25 (iX1_init_18 σ)) (18, 0, 0) 0 [(0, .ref (ad g 18))] [] σ
  refine r_aload_n (pc := 0) (j := 0) dX1_init_0 rfl rfl ?_
  refine r_objI (pc := 1) tw_1_57 tw_1_23 tw_1_24 ⟨nle rfl, nle rfl⟩ (nle rfl) dX1_init_1 ?_
  refine r_aload_n (pc := 4) (j := 0) dX1_init_4 rfl rfl ?_
  refine r_bipush (pc := 5) (v := (12 : Int32)) dX1_init_5 rfl ?_
  refine r_newi (pc := 7) (atype := .boolean) (n := 18) (kd := 22) (t0 := 2) (N := 12) (by decide) rfl (by decide) rfl rfl hZ tw_1_137 (by decide) rfl (nle rfl) ⟨nle rfl, nle rfl⟩ dX1_init_7 (cellE_z rfl) (fun _ _ h1 h2 => Option.some.inj (h2.symm.trans h1)) ?_
  refine r_putF (pc := 9) (c0 := 18) (σ1 := (sR σ 18 7 19)) (C := RX1) (T := TX1) (N := 14) (kf := 7) (m0 := 0) (ty0 := tyX1) rfl inG1 tyX1_ok nmX1 (by decide) rfl tw_1_84 rfl rfl rfl rfl rfl rfl rfl (by decide) (by decide) rfl (fldsC_set (fval_a rfl (by decide)) (fun j h => fval_sR h) (by decide)) oth_sR (fun h => absurd h (by decide)) dX1_init_9 ?_
  refine r_aload_n (pc := 12) (j := 0) dX1_init_12 rfl rfl ?_
  refine r_bipush (pc := 13) (v := (12 : Int32)) dX1_init_13 rfl ?_
  refine r_newi (pc := 15) (atype := .int) (n := 19) (kd := 20) (t0 := 0) (N := 12) (by decide) rfl (by decide) rfl rfl hZ7 tw_1_50 (by decide) rfl (nle rfl) ⟨nle rfl, nle rfl⟩ dX1_init_15 (cellE_i rfl) (fun _ _ h1 h2 => Option.some.inj (h2.symm.trans h1)) ?_
  refine r_putF (pc := 17) (c0 := 18) (σ1 := (sR (sR σ 18 7 19) 18 8 20)) (C := RX1) (T := TX1) (N := 14) (kf := 8) (m0 := 0) (ty0 := tyX1) rfl inG1 tyX1_ok nmX1 (by decide) rfl tw_1_87 rfl rfl rfl rfl rfl rfl rfl (by decide) (by decide) rfl (fldsC_set (fval_a rfl (by decide)) (fun j h => fval_sR h) (by decide)) oth_sR (fun h => absurd h (by decide)) dX1_init_17 ?_
  refine r_aload_n (pc := 20) (j := 0) dX1_init_20 rfl rfl ?_
  refine r_bipush (pc := 21) (v := (12 : Int32)) dX1_init_21 rfl ?_
  refine r_newi (pc := 23) (atype := .int) (n := 20) (kd := 20) (t0 := 0) (N := 12) (by decide) rfl (by decide) rfl rfl hZ13 tw_1_50 (by decide) rfl (nle rfl) ⟨nle rfl, nle rfl⟩ dX1_init_23 (cellE_i rfl) (fun _ _ h1 h2 => Option.some.inj (h2.symm.trans h1)) ?_
  refine r_putF (pc := 25) (c0 := 18) (σ1 := (sR (sR (sR σ 18 7 19) 18 8 20) 18 9 21)) (C := RX1) (T := TX1) (N := 14) (kf := 9) (m0 := 0) (ty0 := tyX1) rfl inG1 tyX1_ok nmX1 (by decide) rfl tw_1_90 rfl rfl rfl rfl rfl rfl rfl (by decide) (by decide) rfl (fldsC_set (fval_a rfl (by decide)) (fun j h => fval_sR h) (by decide)) oth_sR (fun h => absurd h (by decide)) dX1_init_25 ?_
  refine r_aload_n (pc := 28) (j := 0) dX1_init_28 rfl rfl ?_
  refine r_bipush (pc := 29) (v := (12 : Int32)) dX1_init_29 rfl ?_
  refine r_newi (pc := 31) (atype := .int) (n := 21) (kd := 20) (t0 := 0) (N := 12) (by decide) rfl (by decide) rfl rfl hZ19 tw_1_50 (by decide) rfl (nle rfl) ⟨nle rfl, nle rfl⟩ dX1_init_31 (cellE_i rfl) (fun _ _ h1 h2 => Option.some.inj (h2.symm.trans h1)) ?_
  refine r_putF (pc := 33) (c0 := 18) (σ1 := (sR (sR (sR (sR σ 18 7 19) 18 8 20) 18 9 21) 18 10 22)) (C := RX1) (T := TX1) (N := 14) (kf := 10) (m0 := 0) (ty0 := tyX1) rfl inG1 tyX1_ok nmX1 (by decide) rfl tw_1_94 rfl rfl rfl rfl rfl rfl rfl (by decide) (by decide) rfl (fldsC_set (fval_a rfl (by decide)) (fun j h => fval_sR h) (by decide)) oth_sR (fun h => absurd h (by decide)) dX1_init_33 ?_
  refine r_aload_n (pc := 36) (j := 0) dX1_init_36 rfl rfl ?_
  refine r_bipush (pc := 37) (v := (12 : Int32)) dX1_init_37 rfl ?_
  refine r_newi (pc := 39) (atype := .int) (n := 22) (kd := 20) (t0 := 0) (N := 12) (by decide) rfl (by decide) rfl rfl hZ25 tw_1_50 (by decide) rfl (nle rfl) ⟨nle rfl, nle rfl⟩ dX1_init_39 (cellE_i rfl) (fun _ _ h1 h2 => Option.some.inj (h2.symm.trans h1)) ?_
  refine r_putF (pc := 41) (c0 := 18) (σ1 := (sR (sR (sR (sR (sR σ 18 7 19) 18 8 20) 18 9 21) 18 10 22) 18 11 23)) (C := RX1) (T := TX1) (N := 14) (kf := 11) (m0 := 0) (ty0 := tyX1) rfl inG1 tyX1_ok nmX1 (by decide) rfl tw_1_98 rfl rfl rfl rfl rfl rfl rfl (by decide) (by decide) rfl (fldsC_set (fval_a rfl (by decide)) (fun j h => fval_sR h) (by decide)) oth_sR (fun h => absurd h (by decide)) dX1_init_41 ?_
  refine r_aload_n (pc := 44) (j := 0) dX1_init_44 rfl rfl ?_
  refine r_bipush (pc := 45) (v := (72 : Int32)) dX1_init_45 rfl ?_
  refine r_newi (pc := 47) (atype := .int) (n := 23) (kd := 20) (t0 := 0) (N := 72) (by decide) rfl (by decide) rfl rfl hZ31 tw_1_50 (by decide) rfl (nle rfl) ⟨nle rfl, nle rfl⟩ dX1_init_47 (cellE_i rfl) (fun _ _ h1 h2 => Option.some.inj (h2.symm.trans h1)) ?_
  refine r_putF (pc := 49) (c0 := 18) (σ1 := (sR (sR (sR (sR (sR (sR σ 18 7 19) 18 8 20) 18 9 21) 18 10 22) 18 11 23) 18 12 24)) (C := RX1) (T := TX1) (N := 14) (kf := 12) (m0 := 0) (ty0 := tyX1) rfl inG1 tyX1_ok nmX1 (by decide) rfl tw_1_102 rfl rfl rfl rfl rfl rfl rfl (by decide) (by decide) rfl (fldsC_set (fval_a rfl (by decide)) (fun j h => fval_sR h) (by decide)) oth_sR (fun h => absurd h (by decide)) dX1_init_49 ?_
  refine r_aload_n (pc := 52) (j := 0) dX1_init_52 rfl rfl ?_
  refine r_bipush (pc := 53) (v := (72 : Int32)) dX1_init_53 rfl ?_
  refine r_newi (pc := 55) (atype := .int) (n := 24) (kd := 20) (t0 := 0) (N := 72) (by decide) rfl (by decide) rfl rfl hZ37 tw_1_50 (by decide) rfl (nle rfl) ⟨nle rfl, nle rfl⟩ dX1_init_55 (cellE_i rfl) (fun _ _ h1 h2 => Option.some.inj (h2.symm.trans h1)) ?_
  refine r_putF (pc := 57) (c0 := 18) (σ1 := (sR (sR (sR (sR (sR (sR (sR σ 18 7 19) 18 8 20) 18 9 21) 18 10 22) 18 11 23) 18 12 24) 18 13 25)) (C := RX1) (T := TX1) (N := 14) (kf := 13) (m0 := 0) (ty0 := tyX1) rfl inG1 tyX1_ok nmX1 (by decide) rfl tw_1_105 rfl rfl rfl rfl rfl rfl rfl (by decide) (by decide) rfl (fldsC_set (fval_a rfl (by decide)) (fun j h => fval_sR h) (by decide)) oth_sR (fun h => absurd h (by decide)) dX1_init_57 ?_
  exact r_vret (pc := 60) rfl rfl ⟨Nat.le_refl _, Nat.le_refl _⟩ dX1_init_60

def mX2_init : MM := (yX2_init, cX2_init, 1, none, { frames := 1, cells := 1, slots := 400, locals := 20 })
def iX2_init_26 (σ : SS) : SS := (sR σ 26 0 27)
set_option maxRecDepth 20000 in
set_option maxHeartbeats 4000000 in
theorem ct_X2_init_26 {g : GG} {σ : SS} (hZ : Zr σ 26) : Ct g mX2_init [.ref (ad g 26)] 26 σ none 27 (iX2_init_26 σ) ∧ Zr (iX2_init_26 σ) 27 := by
  have hZ5 := hZ.mono (m := 27) (nle rfl)
  have hZ7 := hZ5.sR (c := 26) (k := 0) (v := 27) (nle rfl)
  refine ⟨?_, hZ7⟩
  refine Ct.of (by decide +kernel) (nle rfl) fun _ => ?_
  change RR g mX2_init (FinR g mX2_init none 27 (iX2_init_26 σ)) (26, 0, 0) 0 [(0, .ref (ad g 26))] [] σ
  refine r_aload_n (pc := 0) (j := 0) dX2_init_0 rfl rfl ?_
  refine r_objI (pc := 1) tw_1_143 tw_1_23 tw_1_24 ⟨nle rfl, nle rfl⟩ (nle rfl) dX2_init_1 ?_
  refine r_aload_n (pc := 4) (j := 0) dX2_init_4 rfl rfl ?_
  refine r_sipush (pc := 5) (v := (400 : Int32)) dX2_init_5 rfl ?_
  refine r_newi (pc := 8) (atype := .int) (n := 26) (kd := 20) (t0 := 0) (N := 400) (by decide) rfl (by decide) rfl rfl hZ tw_1_50 (by decide) rfl (nle rfl) ⟨nle rfl, nle rfl⟩ dX2_init_8 (cellE_i rfl) (fun _ _ h1 h2 => Option.some.inj (h2.symm.trans h1)) ?_
  refine r_putF (pc := 10) (c0 := 26) (σ1 := (sR σ 26 0 27)) (C := RX2) (T := TX2) (N := 8) (kf := 0) (m0 := 0) (ty0 := tyX2) rfl inG2 tyX2_ok nmX2 (by decide) rfl tw_1_144 rfl rfl rfl rfl rfl rfl rfl (by decide) (by decide) rfl (fldsC_set (fval_a rfl (by decide)) (fun j h => fval_sR h) (by decide)) oth_sR (fun h => absurd h (by decide)) dX2_init_10 ?_
  exact r_vret (pc := 13) rfl rfl ⟨Nat.le_refl _, Nat.le_refl _⟩ dX2_init_13

def mX0_init : MM := (yX0_init, cX0_init, 1, none, { frames := 1, cells := 10, slots := 9600, locals := 20 })
def iX0_init_33 (σ : SS) : SS := (sR (sR (sR (sR (sR (sR (sR (sR (sR (sR σ 33 1 34) 33 2 35) 33 3 36) 33 4 37) 33 5 38) 33 6 39) 33 7 40) 33 8 41) 33 9 42) 33 10 43)
set_option maxRecDepth 20000 in
set_option maxHeartbeats 4000000 in
theorem ct_X0_init_33 {g : GG} {σ : SS} (hZ : Zr σ 33) : Ct g mX0_init [.ref (ad g 33)] 33 σ none 43 (iX0_init_33 σ) ∧ Zr (iX0_init_33 σ) 43 := by
  have hZ5 := hZ.mono (m := 34) (nle rfl)
  have hZ7 := hZ5.sR (c := 33) (k := 1) (v := 34) (nle rfl)
  have hZ11 := hZ7.mono (m := 35) (nle rfl)
  have hZ13 := hZ11.sR (c := 33) (k := 2) (v := 35) (nle rfl)
  have hZ17 := hZ13.mono (m := 36) (nle rfl)
  have hZ19 := hZ17.sR (c := 33) (k := 3) (v := 36) (nle rfl)
  have hZ23 := hZ19.mono (m := 37) (nle rfl)
  have hZ25 := hZ23.sR (c := 33) (k := 4) (v := 37) (nle rfl)
  have hZ29 := hZ25.mono (m := 38) (nle rfl)
  have hZ31 := hZ29.sR (c := 33) (k := 5) (v := 38) (nle rfl)
  have hZ35 := hZ31.mono (m := 39) (nle rfl)
  have hZ37 := hZ35.sR (c := 33) (k := 6) (v := 39) (nle rfl)
  have hZ41 := hZ37.mono (m := 40) (nle rfl)
  have hZ43 := hZ41.sR (c := 33) (k := 7) (v := 40) (nle rfl)
  have hZ47 := hZ43.mono (m := 41) (nle rfl)
  have hZ49 := hZ47.sR (c := 33) (k := 8) (v := 41) (nle rfl)
  have hZ53 := hZ49.mono (m := 42) (nle rfl)
  have hZ55 := hZ53.sR (c := 33) (k := 9) (v := 42) (nle rfl)
  have hZ59 := hZ55.mono (m := 43) (nle rfl)
  have hZ61 := hZ59.sR (c := 33) (k := 10) (v := 43) (nle rfl)
  refine ⟨?_, hZ61⟩
  refine Ct.of (by decide +kernel) (nle rfl) fun _ => ?_
  change RR g mX0_init (FinR g mX0_init none 43 (iX0_init_33 σ)) (33, 0, 0) 0 [(0, .ref (ad g 33))] [] σ
  refine r_aload_n (pc := 0) (j := 0) dX0_init_0 rfl rfl ?_
  refine r_objI (pc := 1) tw_1_180 tw_1_23 tw_1_24 ⟨nle rfl, nle rfl⟩ (nle rfl) dX0_init_1 ?_
  refine r_aload_n (pc := 4) (j := 0) dX0_init_4 rfl rfl ?_
  refine r_sipush (pc := 5) (v := (800 : Int32)) dX0_init_5 rfl ?_
  refine r_newi (pc := 8) (atype := .int) (n := 33) (kd := 20) (t0 := 0) (N := 800) (by decide) rfl (by decide) rfl rfl hZ tw_1_50 (by decide) rfl (nle rfl) ⟨nle rfl, nle rfl⟩ dX0_init_8 (cellE_i rfl) (fun _ _ h1 h2 => Option.some.inj (h2.symm.trans h1)) ?_
  refine r_putF (pc := 10) (c0 := 33) (σ1 := (sR σ 33 1 34)) (C := RX0) (T := TX0) (N := 11) (kf := 1) (m0 := 0) (ty0 := tyX0) rfl inG0 tyX0_ok nmX0 (by decide) rfl tw_1_183 rfl rfl rfl rfl rfl rfl rfl (by decide) (by decide) rfl (fldsC_set (fval_a rfl (by decide)) (fun j h => fval_sR h) (by decide)) oth_sR (fun h => absurd h (by decide)) dX0_init_10 ?_
  refine r_aload_n (pc := 13) (j := 0) dX0_init_13 rfl rfl ?_
  refine r_sipush (pc := 14) (v := (800 : Int32)) dX0_init_14 rfl ?_
  refine r_newi (pc := 17) (atype := .int) (n := 34) (kd := 20) (t0 := 0) (N := 800) (by decide) rfl (by decide) rfl rfl hZ7 tw_1_50 (by decide) rfl (nle rfl) ⟨nle rfl, nle rfl⟩ dX0_init_17 (cellE_i rfl) (fun _ _ h1 h2 => Option.some.inj (h2.symm.trans h1)) ?_
  refine r_putF (pc := 19) (c0 := 33) (σ1 := (sR (sR σ 33 1 34) 33 2 35)) (C := RX0) (T := TX0) (N := 11) (kf := 2) (m0 := 0) (ty0 := tyX0) rfl inG0 tyX0_ok nmX0 (by decide) rfl tw_1_186 rfl rfl rfl rfl rfl rfl rfl (by decide) (by decide) rfl (fldsC_set (fval_a rfl (by decide)) (fun j h => fval_sR h) (by decide)) oth_sR (fun h => absurd h (by decide)) dX0_init_19 ?_
  refine r_aload_n (pc := 22) (j := 0) dX0_init_22 rfl rfl ?_
  refine r_sipush (pc := 23) (v := (800 : Int32)) dX0_init_23 rfl ?_
  refine r_newi (pc := 26) (atype := .int) (n := 35) (kd := 20) (t0 := 0) (N := 800) (by decide) rfl (by decide) rfl rfl hZ13 tw_1_50 (by decide) rfl (nle rfl) ⟨nle rfl, nle rfl⟩ dX0_init_26 (cellE_i rfl) (fun _ _ h1 h2 => Option.some.inj (h2.symm.trans h1)) ?_
  refine r_putF (pc := 28) (c0 := 33) (σ1 := (sR (sR (sR σ 33 1 34) 33 2 35) 33 3 36)) (C := RX0) (T := TX0) (N := 11) (kf := 3) (m0 := 0) (ty0 := tyX0) rfl inG0 tyX0_ok nmX0 (by decide) rfl tw_1_189 rfl rfl rfl rfl rfl rfl rfl (by decide) (by decide) rfl (fldsC_set (fval_a rfl (by decide)) (fun j h => fval_sR h) (by decide)) oth_sR (fun h => absurd h (by decide)) dX0_init_28 ?_
  refine r_aload_n (pc := 31) (j := 0) dX0_init_31 rfl rfl ?_
  refine r_sipush (pc := 32) (v := (800 : Int32)) dX0_init_32 rfl ?_
  refine r_newi (pc := 35) (atype := .int) (n := 36) (kd := 20) (t0 := 0) (N := 800) (by decide) rfl (by decide) rfl rfl hZ19 tw_1_50 (by decide) rfl (nle rfl) ⟨nle rfl, nle rfl⟩ dX0_init_35 (cellE_i rfl) (fun _ _ h1 h2 => Option.some.inj (h2.symm.trans h1)) ?_
  refine r_putF (pc := 37) (c0 := 33) (σ1 := (sR (sR (sR (sR σ 33 1 34) 33 2 35) 33 3 36) 33 4 37)) (C := RX0) (T := TX0) (N := 11) (kf := 4) (m0 := 0) (ty0 := tyX0) rfl inG0 tyX0_ok nmX0 (by decide) rfl tw_1_192 rfl rfl rfl rfl rfl rfl rfl (by decide) (by decide) rfl (fldsC_set (fval_a rfl (by decide)) (fun j h => fval_sR h) (by decide)) oth_sR (fun h => absurd h (by decide)) dX0_init_37 ?_
  refine r_aload_n (pc := 40) (j := 0) dX0_init_40 rfl rfl ?_
  refine r_sipush (pc := 41) (v := (800 : Int32)) dX0_init_41 rfl ?_
  refine r_newi (pc := 44) (atype := .int) (n := 37) (kd := 20) (t0 := 0) (N := 800) (by decide) rfl (by decide) rfl rfl hZ25 tw_1_50 (by decide) rfl (nle rfl) ⟨nle rfl, nle rfl⟩ dX0_init_44 (cellE_i rfl) (fun _ _ h1 h2 => Option.some.inj (h2.symm.trans h1)) ?_
  refine r_putF (pc := 46) (c0 := 33) (σ1 := (sR (sR (sR (sR (sR σ 33 1 34) 33 2 35) 33 3 36) 33 4 37) 33 5 38)) (C := RX0) (T := TX0) (N := 11) (kf := 5) (m0 := 0) (ty0 := tyX0) rfl inG0 tyX0_ok nmX0 (by decide) rfl tw_1_194 rfl rfl rfl rfl rfl rfl rfl (by decide) (by decide) rfl (fldsC_set (fval_a rfl (by decide)) (fun j h => fval_sR h) (by decide)) oth_sR (fun h => absurd h (by decide)) dX0_init_46 ?_
  refine r_aload_n (pc := 49) (j := 0) dX0_init_49 rfl rfl ?_
  refine r_sipush (pc := 50) (v := (800 : Int32)) dX0_init_50 rfl ?_
  refine r_newi (pc := 53) (atype := .int) (n := 38) (kd := 20) (t0 := 0) (N := 800) (by decide) rfl (by decide) rfl rfl hZ31 tw_1_50 (by decide) rfl (nle rfl) ⟨nle rfl, nle rfl⟩ dX0_init_53 (cellE_i rfl) (fun _ _ h1 h2 => Option.some.inj (h2.symm.trans h1)) ?_
  refine r_putF (pc := 55) (c0 := 33) (σ1 := (sR (sR (sR (sR (sR (sR σ 33 1 34) 33 2 35) 33 3 36) 33 4 37) 33 5 38) 33 6 39)) (C := RX0) (T := TX0) (N := 11) (kf := 6) (m0 := 0) (ty0 := tyX0) rfl inG0 tyX0_ok nmX0 (by decide) rfl tw_1_196 rfl rfl rfl rfl rfl rfl rfl (by decide) (by decide) rfl (fldsC_set (fval_a rfl (by decide)) (fun j h => fval_sR h) (by decide)) oth_sR (fun h => absurd h (by decide)) dX0_init_55 ?_
  refine r_aload_n (pc := 58) (j := 0) dX0_init_58 rfl rfl ?_
  refine r_sipush (pc := 59) (v := (800 : Int32)) dX0_init_59 rfl ?_
  refine r_newi (pc := 62) (atype := .int) (n := 39) (kd := 20) (t0 := 0) (N := 800) (by decide) rfl (by decide) rfl rfl hZ37 tw_1_50 (by decide) rfl (nle rfl) ⟨nle rfl, nle rfl⟩ dX0_init_62 (cellE_i rfl) (fun _ _ h1 h2 => Option.some.inj (h2.symm.trans h1)) ?_
  refine r_putF (pc := 64) (c0 := 33) (σ1 := (sR (sR (sR (sR (sR (sR (sR σ 33 1 34) 33 2 35) 33 3 36) 33 4 37) 33 5 38) 33 6 39) 33 7 40)) (C := RX0) (T := TX0) (N := 11) (kf := 7) (m0 := 0) (ty0 := tyX0) rfl inG0 tyX0_ok nmX0 (by decide) rfl tw_1_198 rfl rfl rfl rfl rfl rfl rfl (by decide) (by decide) rfl (fldsC_set (fval_a rfl (by decide)) (fun j h => fval_sR h) (by decide)) oth_sR (fun h => absurd h (by decide)) dX0_init_64 ?_
  refine r_aload_n (pc := 67) (j := 0) dX0_init_67 rfl rfl ?_
  refine r_sipush (pc := 68) (v := (800 : Int32)) dX0_init_68 rfl ?_
  refine r_newi (pc := 71) (atype := .int) (n := 40) (kd := 20) (t0 := 0) (N := 800) (by decide) rfl (by decide) rfl rfl hZ43 tw_1_50 (by decide) rfl (nle rfl) ⟨nle rfl, nle rfl⟩ dX0_init_71 (cellE_i rfl) (fun _ _ h1 h2 => Option.some.inj (h2.symm.trans h1)) ?_
  refine r_putF (pc := 73) (c0 := 33) (σ1 := (sR (sR (sR (sR (sR (sR (sR (sR σ 33 1 34) 33 2 35) 33 3 36) 33 4 37) 33 5 38) 33 6 39) 33 7 40) 33 8 41)) (C := RX0) (T := TX0) (N := 11) (kf := 8) (m0 := 0) (ty0 := tyX0) rfl inG0 tyX0_ok nmX0 (by decide) rfl tw_1_200 rfl rfl rfl rfl rfl rfl rfl (by decide) (by decide) rfl (fldsC_set (fval_a rfl (by decide)) (fun j h => fval_sR h) (by decide)) oth_sR (fun h => absurd h (by decide)) dX0_init_73 ?_
  refine r_aload_n (pc := 76) (j := 0) dX0_init_76 rfl rfl ?_
  refine r_sipush (pc := 77) (v := (1600 : Int32)) dX0_init_77 rfl ?_
  refine r_newi (pc := 80) (atype := .int) (n := 41) (kd := 20) (t0 := 0) (N := 1600) (by decide) rfl (by decide) rfl rfl hZ49 tw_1_50 (by decide) rfl (nle rfl) ⟨nle rfl, nle rfl⟩ dX0_init_80 (cellE_i rfl) (fun _ _ h1 h2 => Option.some.inj (h2.symm.trans h1)) ?_
  refine r_putF (pc := 82) (c0 := 33) (σ1 := (sR (sR (sR (sR (sR (sR (sR (sR (sR σ 33 1 34) 33 2 35) 33 3 36) 33 4 37) 33 5 38) 33 6 39) 33 7 40) 33 8 41) 33 9 42)) (C := RX0) (T := TX0) (N := 11) (kf := 9) (m0 := 0) (ty0 := tyX0) rfl inG0 tyX0_ok nmX0 (by decide) rfl tw_1_202 rfl rfl rfl rfl rfl rfl rfl (by decide) (by decide) rfl (fldsC_set (fval_a rfl (by decide)) (fun j h => fval_sR h) (by decide)) oth_sR (fun h => absurd h (by decide)) dX0_init_82 ?_
  refine r_aload_n (pc := 85) (j := 0) dX0_init_85 rfl rfl ?_
  refine r_sipush (pc := 86) (v := (1600 : Int32)) dX0_init_86 rfl ?_
  refine r_newi (pc := 89) (atype := .byte) (n := 42) (kd := 21) (t0 := 1) (N := 1600) (by decide) rfl (by decide) rfl rfl hZ55 tw_1_227 (by decide) rfl (nle rfl) ⟨nle rfl, nle rfl⟩ dX0_init_89 (cellE_b rfl) (fun _ _ h1 h2 => Option.some.inj (h2.symm.trans h1)) ?_
  refine r_putF (pc := 91) (c0 := 33) (σ1 := (sR (sR (sR (sR (sR (sR (sR (sR (sR (sR σ 33 1 34) 33 2 35) 33 3 36) 33 4 37) 33 5 38) 33 6 39) 33 7 40) 33 8 41) 33 9 42) 33 10 43)) (C := RX0) (T := TX0) (N := 11) (kf := 10) (m0 := 0) (ty0 := tyX0) rfl inG0 tyX0_ok nmX0 (by decide) rfl tw_1_203 rfl rfl rfl rfl rfl rfl rfl (by decide) (by decide) rfl (fldsC_set (fval_a rfl (by decide)) (fun j h => fval_sR h) (by decide)) oth_sR (fun h => absurd h (by decide)) dX0_init_91 ?_
  exact r_vret (pc := 94) rfl rfl ⟨Nat.le_refl _, Nat.le_refl _⟩ dX0_init_94

def mX5_init : MM := (yX5_init, cX5_init, 1, none, { frames := 1, cells := 5, slots := 20, locals := 20 })
def iX5_init_45 (σ : SS) : SS := (sR (sR (sR (sR (sR σ 45 0 46) 45 1 47) 45 2 48) 45 3 49) 45 4 50)
set_option maxRecDepth 20000 in
set_option maxHeartbeats 4000000 in
theorem ct_X5_init_45 {g : GG} {σ : SS} (hZ : Zr σ 45) : Ct g mX5_init [.ref (ad g 45)] 45 σ none 50 (iX5_init_45 σ) ∧ Zr (iX5_init_45 σ) 50 := by
  have hZ5 := hZ.mono (m := 46) (nle rfl)
  have hZ7 := hZ5.sR (c := 45) (k := 0) (v := 46) (nle rfl)
  have hZ11 := hZ7.mono (m := 47) (nle rfl)
  have hZ13 := hZ11.sR (c := 45) (k := 1) (v := 47) (nle rfl)
  have hZ17 := hZ13.mono (m := 48) (nle rfl)
  have hZ19 := hZ17.sR (c := 45) (k := 2) (v := 48) (nle rfl)
  have hZ23 := hZ19.mono (m := 49) (nle rfl)
  have hZ25 := hZ23.sR (c := 45) (k := 3) (v := 49) (nle rfl)
  have hZ29 := hZ25.mono (m := 50) (nle rfl)
  have hZ31 := hZ29.sR (c := 45) (k := 4) (v := 50) (nle rfl)
  refine ⟨?_, hZ31⟩
  refine Ct.of (by decide +kernel) (nle rfl) fun _ => ?_
  change RR g mX5_init (FinR g mX5_init none 50 (iX5_init_45 σ)) (45, 0, 0) 0 [(0, .ref (ad g 45))] [] σ
  refine r_aload_n (pc := 0) (j := 0) dX5_init_0 rfl rfl ?_
  refine r_objI (pc := 1) tw_1_233 tw_1_23 tw_1_24 ⟨nle rfl, nle rfl⟩ (nle rfl) dX5_init_1 ?_
  refine r_aload_n (pc := 4) (j := 0) dX5_init_4 rfl rfl ?_
  refine r_iconst (pc := 5) (v := (4 : Int32)) dX5_init_5 rfl ?_
  refine r_newl (pc := 6) (n := 45) (N := 4) (by decide) rfl hZ tw_2_19 (by decide) rfl (nle rfl) ⟨nle rfl, nle rfl⟩ dX5_init_6 ?_
  refine r_putF (pc := 8) (c0 := 45) (σ1 := (sR σ 45 0 46)) (C := RX5) (T := TX5) (N := 8) (kf := 0) (m0 := 0) (ty0 := tyX5) rfl inG5 tyX5_ok nmX5 (by decide) rfl tw_1_234 rfl rfl rfl rfl rfl rfl rfl (by decide) (by decide) rfl (fldsC_set (fval_a rfl (by decide)) (fun j h => fval_sR h) (by decide)) oth_sR (fun h => absurd h (by decide)) dX5_init_8 ?_
  refine r_aload_n (pc := 11) (j := 0) dX5_init_11 rfl rfl ?_
  refine r_iconst (pc := 12) (v := (4 : Int32)) dX5_init_12 rfl ?_
  refine r_newl (pc := 13) (n := 46) (N := 4) (by decide) rfl hZ7 tw_2_19 (by decide) rfl (nle rfl) ⟨nle rfl, nle rfl⟩ dX5_init_13 ?_
  refine r_putF (pc := 15) (c0 := 45) (σ1 := (sR (sR σ 45 0 46) 45 1 47)) (C := RX5) (T := TX5) (N := 8) (kf := 1) (m0 := 0) (ty0 := tyX5) rfl inG5 tyX5_ok nmX5 (by decide) rfl tw_1_235 rfl rfl rfl rfl rfl rfl rfl (by decide) (by decide) rfl (fldsC_set (fval_a rfl (by decide)) (fun j h => fval_sR h) (by decide)) oth_sR (fun h => absurd h (by decide)) dX5_init_15 ?_
  refine r_aload_n (pc := 18) (j := 0) dX5_init_18 rfl rfl ?_
  refine r_iconst (pc := 19) (v := (4 : Int32)) dX5_init_19 rfl ?_
  refine r_newl (pc := 20) (n := 47) (N := 4) (by decide) rfl hZ13 tw_2_19 (by decide) rfl (nle rfl) ⟨nle rfl, nle rfl⟩ dX5_init_20 ?_
  refine r_putF (pc := 22) (c0 := 45) (σ1 := (sR (sR (sR σ 45 0 46) 45 1 47) 45 2 48)) (C := RX5) (T := TX5) (N := 8) (kf := 2) (m0 := 0) (ty0 := tyX5) rfl inG5 tyX5_ok nmX5 (by decide) rfl tw_1_236 rfl rfl rfl rfl rfl rfl rfl (by decide) (by decide) rfl (fldsC_set (fval_a rfl (by decide)) (fun j h => fval_sR h) (by decide)) oth_sR (fun h => absurd h (by decide)) dX5_init_22 ?_
  refine r_aload_n (pc := 25) (j := 0) dX5_init_25 rfl rfl ?_
  refine r_iconst (pc := 26) (v := (4 : Int32)) dX5_init_26 rfl ?_
  refine r_newl (pc := 27) (n := 48) (N := 4) (by decide) rfl hZ19 tw_2_19 (by decide) rfl (nle rfl) ⟨nle rfl, nle rfl⟩ dX5_init_27 ?_
  refine r_putF (pc := 29) (c0 := 45) (σ1 := (sR (sR (sR (sR σ 45 0 46) 45 1 47) 45 2 48) 45 3 49)) (C := RX5) (T := TX5) (N := 8) (kf := 3) (m0 := 0) (ty0 := tyX5) rfl inG5 tyX5_ok nmX5 (by decide) rfl tw_1_237 rfl rfl rfl rfl rfl rfl rfl (by decide) (by decide) rfl (fldsC_set (fval_a rfl (by decide)) (fun j h => fval_sR h) (by decide)) oth_sR (fun h => absurd h (by decide)) dX5_init_29 ?_
  refine r_aload_n (pc := 32) (j := 0) dX5_init_32 rfl rfl ?_
  refine r_iconst (pc := 33) (v := (4 : Int32)) dX5_init_33 rfl ?_
  refine r_newl (pc := 34) (n := 49) (N := 4) (by decide) rfl hZ25 tw_2_19 (by decide) rfl (nle rfl) ⟨nle rfl, nle rfl⟩ dX5_init_34 ?_
  refine r_putF (pc := 36) (c0 := 45) (σ1 := (sR (sR (sR (sR (sR σ 45 0 46) 45 1 47) 45 2 48) 45 3 49) 45 4 50)) (C := RX5) (T := TX5) (N := 8) (kf := 4) (m0 := 0) (ty0 := tyX5) rfl inG5 tyX5_ok nmX5 (by decide) rfl tw_1_238 rfl rfl rfl rfl rfl rfl rfl (by decide) (by decide) rfl (fldsC_set (fval_a rfl (by decide)) (fun j h => fval_sR h) (by decide)) oth_sR (fun h => absurd h (by decide)) dX5_init_36 ?_
  exact r_vret (pc := 39) rfl rfl ⟨Nat.le_refl _, Nat.le_refl _⟩ dX5_init_39

def mX3_init : MM := (yX3_init, cX3_init, 1, none, { frames := 2, cells := 26, slots := 9854, locals := 40 })
def iX3_init_31 (σ : SS) : SS := (sR (sR (sR (sR (sR (sR (sR (sR (iX5_init_45 (sR (sR (iX0_init_33 (sR (sI (sI (sI (sI (sI (sI (sI σ 32 0 (5 : Int32)) 32 1 (2 : Int32)) 32 2 (6 : Int32)) 32 3 (6 : Int32)) 32 4 (4 : Int32)) 32 5 (3 : Int32)) 32 6 (0 : Int32)) 31 0 32)) 31 1 33) 31 2 44)) 31 3 45) 31 4 51) 31 5 52) 31 7 53) 31 8 54) 31 9 55) 31 10 56) 31 11 57)
set_option maxRecDepth 20000 in
set_option maxHeartbeats 4000000 in
theorem ct_X3_init_31 {g : GG} {σ : SS} (hZ : Zr σ 31) : Ct g mX3_init [.ref (ad g 31)] 31 σ none 57 (iX3_init_31 σ) ∧ Zr (iX3_init_31 σ) 57 := by
  have hZ5 := hZ.mono (m := 32) (nle rfl)
  have hZ11 := hZ5.sI (c := 32) (k := 0) (v := (5 : Int32)) (nle rfl)
  have hZ17 := hZ11.sI (c := 32) (k := 1) (v := (2 : Int32)) (nle rfl)
  have hZ23 := hZ17.sI (c := 32) (k := 2) (v := (6 : Int32)) (nle rfl)
  have hZ29 := hZ23.sI (c := 32) (k := 3) (v := (6 : Int32)) (nle rfl)
  have hZ35 := hZ29.sI (c := 32) (k := 4) (v := (4 : Int32)) (nle rfl)
  have hZ41 := hZ35.sI (c := 32) (k := 5) (v := (3 : Int32)) (nle rfl)
  have hZ47 := hZ41.sI (c := 32) (k := 6) (v := (0 : Int32)) (nle rfl)
  have hZ49 := hZ47.sR (c := 31) (k := 0) (v := 32) (nle rfl)
  have hZ52 := hZ49.mono (m := 33) (nle rfl)
  have ct48_38 := ct_X0_init_33 (g := g) hZ52
  have hZ58 := ct48_38.2.sR (c := 31) (k := 1) (v := 33) (nle rfl)
  have hZ62 := hZ58.mono (m := 44) (nle rfl)
  have hZ64 := hZ62.sR (c := 31) (k := 2) (v := 44) (nle rfl)
  have hZ67 := hZ64.mono (m := 45) (nle rfl)
  have ct66_47 := ct_X5_init_45 (g := g) hZ67
  have hZ73 := ct66_47.2.sR (c := 31) (k := 3) (v := 45) (nle rfl)
  have hZ77 := hZ73.mono (m := 51) (nle rfl)
  have hZ79 := hZ77.sR (c := 31) (k := 4) (v := 51) (nle rfl)
  have hZ83 := hZ79.mono (m := 52) (nle rfl)
  have hZ85 := hZ83.sR (c := 31) (k := 5) (v := 52) (nle rfl)
  have hZ89 := hZ85.mono (m := 53) (nle rfl)
  have hZ91 := hZ89.sR (c := 31) (k := 7) (v := 53) (nle rfl)
  have hZ95 := hZ91.mono (m := 54) (nle rfl)
  have hZ97 := hZ95.sR (c := 31) (k := 8) (v := 54) (nle rfl)
  have hZ101 := hZ97.mono (m := 55) (nle rfl)
  have hZ103 := hZ101.sR (c := 31) (k := 9) (v := 55) (nle rfl)
  have hZ107 := hZ103.mono (m := 56) (nle rfl)
  have hZ109 := hZ107.sR (c := 31) (k := 10) (v := 56) (nle rfl)
  have hZ113 := hZ109.mono (m := 57) (nle rfl)
  have hZ115 := hZ113.sR (c := 31) (k := 11) (v := 57) (nle rfl)
  refine ⟨?_, hZ115⟩
  refine Ct.of (by decide +kernel) (nle rfl) fun _ => ?_
  change RR g mX3_init (FinR g mX3_init none 57 (iX3_init_31 σ)) (31, 0, 0) 0 [(0, .ref (ad g 31))] [] σ
  refine r_aload_n (pc := 0) (j := 0) dX3_init_0 rfl rfl ?_
  refine r_objI (pc := 1) tw_1_174 tw_1_23 tw_1_24 ⟨nle rfl, nle rfl⟩ (nle rfl) dX3_init_1 ?_
  refine r_aload_n (pc := 4) (j := 0) dX3_init_4 rfl rfl ?_
  refine r_bipush (pc := 5) (v := (7 : Int32)) dX3_init_5 rfl ?_
  refine r_newi (pc := 7) (atype := .int) (n := 31) (kd := 20) (t0 := 0) (N := 7) (by decide) rfl (by decide) rfl rfl hZ tw_1_50 (by decide) rfl (nle rfl) ⟨nle rfl, nle rfl⟩ dX3_init_7 (cellE_i rfl) (fun _ _ h1 h2 => Option.some.inj (h2.symm.trans h1)) ?_
  refine r_dup (pc := 9) dX3_init_9 rfl ?_
  refine r_iconst (pc := 10) (v := (0 : Int32)) dX3_init_10 rfl ?_
  refine r_iconst (pc := 11) (v := (5 : Int32)) dX3_init_11 rfl ?_
  refine r_iast (pc := 12) (c0 := 32) (n := 7) rfl (by decide) (by decide) dX3_init_12 ?_
  change RR _ _ _ _ _ _ _ (sI σ 32 0 (5 : Int32))
  refine r_dup (pc := 13) dX3_init_13 rfl ?_
  refine r_iconst (pc := 14) (v := (1 : Int32)) dX3_init_14 rfl ?_
  refine r_iconst (pc := 15) (v := (2 : Int32)) dX3_init_15 rfl ?_
  refine r_iast (pc := 16) (c0 := 32) (n := 7) rfl (by decide) (by decide) dX3_init_16 ?_
  change RR _ _ _ _ _ _ _ (sI (sI σ 32 0 (5 : Int32)) 32 1 (2 : Int32))
  refine r_dup (pc := 17) dX3_init_17 rfl ?_
  refine r_iconst (pc := 18) (v := (2 : Int32)) dX3_init_18 rfl ?_
  refine r_bipush (pc := 19) (v := (6 : Int32)) dX3_init_19 rfl ?_
  refine r_iast (pc := 21) (c0 := 32) (n := 7) rfl (by decide) (by decide) dX3_init_21 ?_
  change RR _ _ _ _ _ _ _ (sI (sI (sI σ 32 0 (5 : Int32)) 32 1 (2 : Int32)) 32 2 (6 : Int32))
  refine r_dup (pc := 22) dX3_init_22 rfl ?_
  refine r_iconst (pc := 23) (v := (3 : Int32)) dX3_init_23 rfl ?_
  refine r_bipush (pc := 24) (v := (6 : Int32)) dX3_init_24 rfl ?_
  refine r_iast (pc := 26) (c0 := 32) (n := 7) rfl (by decide) (by decide) dX3_init_26 ?_
  change RR _ _ _ _ _ _ _ (sI (sI (sI (sI σ 32 0 (5 : Int32)) 32 1 (2 : Int32)) 32 2 (6 : Int32)) 32 3 (6 : Int32))
  refine r_dup (pc := 27) dX3_init_27 rfl ?_
  refine r_iconst (pc := 28) (v := (4 : Int32)) dX3_init_28 rfl ?_
  refine r_iconst (pc := 29) (v := (4 : Int32)) dX3_init_29 rfl ?_
  refine r_iast (pc := 30) (c0 := 32) (n := 7) rfl (by decide) (by decide) dX3_init_30 ?_
  change RR _ _ _ _ _ _ _ (sI (sI (sI (sI (sI σ 32 0 (5 : Int32)) 32 1 (2 : Int32)) 32 2 (6 : Int32)) 32 3 (6 : Int32)) 32 4 (4 : Int32))
  refine r_dup (pc := 31) dX3_init_31 rfl ?_
  refine r_iconst (pc := 32) (v := (5 : Int32)) dX3_init_32 rfl ?_
  refine r_iconst (pc := 33) (v := (3 : Int32)) dX3_init_33 rfl ?_
  refine r_iast (pc := 34) (c0 := 32) (n := 7) rfl (by decide) (by decide) dX3_init_34 ?_
  change RR _ _ _ _ _ _ _ (sI (sI (sI (sI (sI (sI σ 32 0 (5 : Int32)) 32 1 (2 : Int32)) 32 2 (6 : Int32)) 32 3 (6 : Int32)) 32 4 (4 : Int32)) 32 5 (3 : Int32))
  refine r_dup (pc := 35) dX3_init_35 rfl ?_
  refine r_bipush (pc := 36) (v := (6 : Int32)) dX3_init_36 rfl ?_
  refine r_iconst (pc := 38) (v := (0 : Int32)) dX3_init_38 rfl ?_
  refine r_iast (pc := 39) (c0 := 32) (n := 7) rfl (by decide) (by decide) dX3_init_39 ?_
  change RR _ _ _ _ _ _ _ (sI (sI (sI (sI (sI (sI (sI σ 32 0 (5 : Int32)) 32 1 (2 : Int32)) 32 2 (6 : Int32)) 32 3 (6 : Int32)) 32 4 (4 : Int32)) 32 5 (3 : Int32)) 32 6 (0 : Int32))
  refine r_putF (pc := 40) (c0 := 31) (σ1 := (sR (sI (sI (sI (sI (sI (sI (sI σ 32 0 (5 : Int32)) 32 1 (2 : Int32)) 32 2 (6 : Int32)) 32 3 (6 : Int32)) 32 4 (4 : Int32)) 32 5 (3 : Int32)) 32 6 (0 : Int32)) 31 0 32)) (C := RX3) (T := TX3) (N := 12) (kf := 0) (m0 := 0) (ty0 := tyX3) rfl inG3 tyX3_ok nmX3 (by decide) rfl tw_2_20 rfl rfl rfl rfl rfl rfl rfl (by decide) (by decide) rfl (fldsC_set (fval_a rfl (by decide)) (fun j h => fval_sR h) (by decide)) oth_sR (fun h => absurd h (by decide)) dX3_init_40 ?_
  refine r_aload_n (pc := 43) (j := 0) dX3_init_43 rfl rfl ?_
  refine r_new (pc := 44) (n := 32) (ci := 0) (by decide) rfl (by decide) rfl inG0 tyX0_ok (by decide +kernel) rfl hZ49 tw_1_175 tw_1_176 tw_1_6 ⟨nle rfl, nle rfl⟩ dX3_init_44 ?_
  refine r_dup (pc := 47) dX3_init_47 rfl ?_
  refine r_callIN (pc := 48) (N := mX0_init) (n1 := 43) ct48_38.1 (List.mem_of_getElem? (i := 4) rfl) rfl rfl tw_1_179 tw_1_6 tw_1_178 ⟨by decide, by decide, rfl⟩ ⟨nle rfl, nle rfl⟩ (nle rfl) dX3_init_48 ⟨nle rfl, nle rfl⟩ ?_
  change RR _ _ _ (43, 12, 9618) _ _ _ _
  refine r_putF (pc := 51) (c0 := 31) (σ1 := (sR (iX0_init_33 (sR (sI (sI (sI (sI (sI (sI (sI σ 32 0 (5 : Int32)) 32 1 (2 : Int32)) 32 2 (6 : Int32)) 32 3 (6 : Int32)) 32 4 (4 : Int32)) 32 5 (3 : Int32)) 32 6 (0 : Int32)) 31 0 32)) 31 1 33)) (C := RX3) (T := TX3) (N := 12) (kf := 1) (m0 := 0) (ty0 := tyX3) rfl inG3 tyX3_ok nmX3 (by decide) rfl tw_2_22 rfl rfl rfl rfl rfl rfl rfl (by decide) (by decide) rfl (fldsC_set (fval_r rfl (by decide)) (fun j h => fval_sR h) (by decide)) oth_sR (fun h => absurd h (by decide)) dX3_init_51 ?_
  refine r_aload_n (pc := 54) (j := 0) dX3_init_54 rfl rfl ?_
  refine r_iconst (pc := 55) (v := (4 : Int32)) dX3_init_55 rfl ?_
  refine r_newi (pc := 56) (atype := .int) (n := 43) (kd := 20) (t0 := 0) (N := 4) (by decide) rfl (by decide) rfl rfl hZ58 tw_1_50 (by decide) rfl (nle rfl) ⟨nle rfl, nle rfl⟩ dX3_init_56 (cellE_i rfl) (fun _ _ h1 h2 => Option.some.inj (h2.symm.trans h1)) ?_
  refine r_putF (pc := 58) (c0 := 31) (σ1 := (sR (sR (iX0_init_33 (sR (sI (sI (sI (sI (sI (sI (sI σ 32 0 (5 : Int32)) 32 1 (2 : Int32)) 32 2 (6 : Int32)) 32 3 (6 : Int32)) 32 4 (4 : Int32)) 32 5 (3 : Int32)) 32 6 (0 : Int32)) 31 0 32)) 31 1 33) 31 2 44)) (C := RX3) (T := TX3) (N := 12) (kf := 2) (m0 := 0) (ty0 := tyX3) rfl inG3 tyX3_ok nmX3 (by decide) rfl tw_2_24 rfl rfl rfl rfl rfl rfl rfl (by decide) (by decide) rfl (fldsC_set (fval_a rfl (by decide)) (fun j h => fval_sR h) (by decide)) oth_sR (fun h => absurd h (by decide)) dX3_init_58 ?_
  refine r_aload_n (pc := 61) (j := 0) dX3_init_61 rfl rfl ?_
  refine r_new (pc := 62) (n := 44) (ci := 5) (by decide) rfl (by decide) rfl inG5 tyX5_ok (by decide +kernel) rfl hZ64 tw_1_228 tw_1_229 tw_1_7 ⟨nle rfl, nle rfl⟩ dX3_init_62 ?_
  refine r_dup (pc := 65) dX3_init_65 rfl ?_
  refine r_callIN (pc := 66) (N := mX5_init) (n1 := 50) ct66_47.1 (List.mem_of_getElem? (i := 5) rfl) rfl rfl tw_1_232 tw_1_7 tw_1_231 ⟨by decide, by decide, rfl⟩ ⟨nle rfl, nle rfl⟩ (nle rfl) dX3_init_66 ⟨nle rfl, nle rfl⟩ ?_
  change RR _ _ _ (50, 19, 9650) _ _ _ _
  refine r_putF (pc := 69) (c0 := 31) (σ1 := (sR (iX5_init_45 (sR (sR (iX0_init_33 (sR (sI (sI (sI (sI (sI (sI (sI σ 32 0 (5 : Int32)) 32 1 (2 : Int32)) 32 2 (6 : Int32)) 32 3 (6 : Int32)) 32 4 (4 : Int32)) 32 5 (3 : Int32)) 32 6 (0 : Int32)) 31 0 32)) 31 1 33) 31 2 44)) 31 3 45)) (C := RX3) (T := TX3) (N := 12) (kf := 3) (m0 := 0) (ty0 := tyX3) rfl inG3 tyX3_ok nmX3 (by decide) rfl tw_2_26 rfl rfl rfl rfl rfl rfl rfl (by decide) (by decide) rfl (fldsC_set (fval_r rfl (by decide)) (fun j h => fval_sR h) (by decide)) oth_sR (fun h => absurd h (by decide)) dX3_init_69 ?_
  refine r_aload_n (pc := 72) (j := 0) dX3_init_72 rfl rfl ?_
  refine r_bipush (pc := 73) (v := (72 : Int32)) dX3_init_73 rfl ?_
  refine r_newi (pc := 75) (atype := .int) (n := 50) (kd := 20) (t0 := 0) (N := 72) (by decide) rfl (by decide) rfl rfl hZ73 tw_1_50 (by decide) rfl (nle rfl) ⟨nle rfl, nle rfl⟩ dX3_init_75 (cellE_i rfl) (fun _ _ h1 h2 => Option.some.inj (h2.symm.trans h1)) ?_
  refine r_putF (pc := 77) (c0 := 31) (σ1 := (sR (sR (iX5_init_45 (sR (sR (iX0_init_33 (sR (sI (sI (sI (sI (sI (sI (sI σ 32 0 (5 : Int32)) 32 1 (2 : Int32)) 32 2 (6 : Int32)) 32 3 (6 : Int32)) 32 4 (4 : Int32)) 32 5 (3 : Int32)) 32 6 (0 : Int32)) 31 0 32)) 31 1 33) 31 2 44)) 31 3 45) 31 4 51)) (C := RX3) (T := TX3) (N := 12) (kf := 4) (m0 := 0) (ty0 := tyX3) rfl inG3 tyX3_ok nmX3 (by decide) rfl tw_2_28 rfl rfl rfl rfl rfl rfl rfl (by decide) (by decide) rfl (fldsC_set (fval_a rfl (by decide)) (fun j h => fval_sR h) (by decide)) oth_sR (fun h => absurd h (by decide)) dX3_init_77 ?_
  refine r_aload_n (pc := 80) (j := 0) dX3_init_80 rfl rfl ?_
  refine r_bipush (pc := 81) (v := (72 : Int32)) dX3_init_81 rfl ?_
  refine r_newi (pc := 83) (atype := .int) (n := 51) (kd := 20) (t0 := 0) (N := 72) (by decide) rfl (by decide) rfl rfl hZ79 tw_1_50 (by decide) rfl (nle rfl) ⟨nle rfl, nle rfl⟩ dX3_init_83 (cellE_i rfl) (fun _ _ h1 h2 => Option.some.inj (h2.symm.trans h1)) ?_
  refine r_putF (pc := 85) (c0 := 31) (σ1 := (sR (sR (sR (iX5_init_45 (sR (sR (iX0_init_33 (sR (sI (sI (sI (sI (sI (sI (sI σ 32 0 (5 : Int32)) 32 1 (2 : Int32)) 32 2 (6 : Int32)) 32 3 (6 : Int32)) 32 4 (4 : Int32)) 32 5 (3 : Int32)) 32 6 (0 : Int32)) 31 0 32)) 31 1 33) 31 2 44)) 31 3 45) 31 4 51) 31 5 52)) (C := RX3) (T := TX3) (N := 12) (kf := 5) (m0 := 0) (ty0 := tyX3) rfl inG3 tyX3_ok nmX3 (by decide) rfl tw_2_30 rfl rfl rfl rfl rfl rfl rfl (by decide) (by decide) rfl (fldsC_set (fval_a rfl (by decide)) (fun j h => fval_sR h) (by decide)) oth_sR (fun h => absurd h (by decide)) dX3_init_85 ?_
  refine r_aload_n (pc := 88) (j := 0) dX3_init_88 rfl rfl ?_
  refine r_bipush (pc := 89) (v := (12 : Int32)) dX3_init_89 rfl ?_
  refine r_newi (pc := 91) (atype := .int) (n := 52) (kd := 20) (t0 := 0) (N := 12) (by decide) rfl (by decide) rfl rfl hZ85 tw_1_50 (by decide) rfl (nle rfl) ⟨nle rfl, nle rfl⟩ dX3_init_91 (cellE_i rfl) (fun _ _ h1 h2 => Option.some.inj (h2.symm.trans h1)) ?_
  refine r_putF (pc := 93) (c0 := 31) (σ1 := (sR (sR (sR (sR (iX5_init_45 (sR (sR (iX0_init_33 (sR (sI (sI (sI (sI (sI (sI (sI σ 32 0 (5 : Int32)) 32 1 (2 : Int32)) 32 2 (6 : Int32)) 32 3 (6 : Int32)) 32 4 (4 : Int32)) 32 5 (3 : Int32)) 32 6 (0 : Int32)) 31 0 32)) 31 1 33) 31 2 44)) 31 3 45) 31 4 51) 31 5 52) 31 7 53)) (C := RX3) (T := TX3) (N := 12) (kf := 7) (m0 := 0) (ty0 := tyX3) rfl inG3 tyX3_ok nmX3 (by decide) rfl tw_2_33 rfl rfl rfl rfl rfl rfl rfl (by decide) (by decide) rfl (fldsC_set (fval_a rfl (by decide)) (fun j h => fval_sR h) (by decide)) oth_sR (fun h => absurd h (by decide)) dX3_init_93 ?_
  refine r_aload_n (pc := 96) (j := 0) dX3_init_96 rfl rfl ?_
  refine r_bipush (pc := 97) (v := (12 : Int32)) dX3_init_97 rfl ?_
  refine r_newi (pc := 99) (atype := .int) (n := 53) (kd := 20) (t0 := 0) (N := 12) (by decide) rfl (by decide) rfl rfl hZ91 tw_1_50 (by decide) rfl (nle rfl) ⟨nle rfl, nle rfl⟩ dX3_init_99 (cellE_i rfl) (fun _ _ h1 h2 => Option.some.inj (h2.symm.trans h1)) ?_
  refine r_putF (pc := 101) (c0 := 31) (σ1 := (sR (sR (sR (sR (sR (iX5_init_45 (sR (sR (iX0_init_33 (sR (sI (sI (sI (sI (sI (sI (sI σ 32 0 (5 : Int32)) 32 1 (2 : Int32)) 32 2 (6 : Int32)) 32 3 (6 : Int32)) 32 4 (4 : Int32)) 32 5 (3 : Int32)) 32 6 (0 : Int32)) 31 0 32)) 31 1 33) 31 2 44)) 31 3 45) 31 4 51) 31 5 52) 31 7 53) 31 8 54)) (C := RX3) (T := TX3) (N := 12) (kf := 8) (m0 := 0) (ty0 := tyX3) rfl inG3 tyX3_ok nmX3 (by decide) rfl tw_2_36 rfl rfl rfl rfl rfl rfl rfl (by decide) (by decide) rfl (fldsC_set (fval_a rfl (by decide)) (fun j h => fval_sR h) (by decide)) oth_sR (fun h => absurd h (by decide)) dX3_init_101 ?_
  refine r_aload_n (pc := 104) (j := 0) dX3_init_104 rfl rfl ?_
  refine r_bipush (pc := 105) (v := (12 : Int32)) dX3_init_105 rfl ?_
  refine r_newi (pc := 107) (atype := .int) (n := 54) (kd := 20) (t0 := 0) (N := 12) (by decide) rfl (by decide) rfl rfl hZ97 tw_1_50 (by decide) rfl (nle rfl) ⟨nle rfl, nle rfl⟩ dX3_init_107 (cellE_i rfl) (fun _ _ h1 h2 => Option.some.inj (h2.symm.trans h1)) ?_
  refine r_putF (pc := 109) (c0 := 31) (σ1 := (sR (sR (sR (sR (sR (sR (iX5_init_45 (sR (sR (iX0_init_33 (sR (sI (sI (sI (sI (sI (sI (sI σ 32 0 (5 : Int32)) 32 1 (2 : Int32)) 32 2 (6 : Int32)) 32 3 (6 : Int32)) 32 4 (4 : Int32)) 32 5 (3 : Int32)) 32 6 (0 : Int32)) 31 0 32)) 31 1 33) 31 2 44)) 31 3 45) 31 4 51) 31 5 52) 31 7 53) 31 8 54) 31 9 55)) (C := RX3) (T := TX3) (N := 12) (kf := 9) (m0 := 0) (ty0 := tyX3) rfl inG3 tyX3_ok nmX3 (by decide) rfl tw_2_39 rfl rfl rfl rfl rfl rfl rfl (by decide) (by decide) rfl (fldsC_set (fval_a rfl (by decide)) (fun j h => fval_sR h) (by decide)) oth_sR (fun h => absurd h (by decide)) dX3_init_109 ?_
  refine r_aload_n (pc := 112) (j := 0) dX3_init_112 rfl rfl ?_
  refine r_bipush (pc := 113) (v := (12 : Int32)) dX3_init_113 rfl ?_
  refine r_newi (pc := 115) (atype := .int) (n := 55) (kd := 20) (t0 := 0) (N := 12) (by decide) rfl (by decide) rfl rfl hZ103 tw_1_50 (by decide) rfl (nle rfl) ⟨nle rfl, nle rfl⟩ dX3_init_115 (cellE_i rfl) (fun _ _ h1 h2 => Option.some.inj (h2.symm.trans h1)) ?_
  refine r_putF (pc := 117) (c0 := 31) (σ1 := (sR (sR (sR (sR (sR (sR (sR (iX5_init_45 (sR (sR (iX0_init_33 (sR (sI (sI (sI (sI (sI (sI (sI σ 32 0 (5 : Int32)) 32 1 (2 : Int32)) 32 2 (6 : Int32)) 32 3 (6 : Int32)) 32 4 (4 : Int32)) 32 5 (3 : Int32)) 32 6 (0 : Int32)) 31 0 32)) 31 1 33) 31 2 44)) 31 3 45) 31 4 51) 31 5 52) 31 7 53) 31 8 54) 31 9 55) 31 10 56)) (C := RX3) (T := TX3) (N := 12) (kf := 10) (m0 := 0) (ty0 := tyX3) rfl inG3 tyX3_ok nmX3 (by decide) rfl tw_2_41 rfl rfl rfl rfl rfl rfl rfl (by decide) (by decide) rfl (fldsC_set (fval_a rfl (by decide)) (fun j h => fval_sR h) (by decide)) oth_sR (fun h => absurd h (by decide)) dX3_init_117 ?_
  refine r_aload_n (pc := 120) (j := 0) dX3_init_120 rfl rfl ?_
  refine r_bipush (pc := 121) (v := (12 : Int32)) dX3_init_121 rfl ?_
  refine r_newi (pc := 123) (atype := .int) (n := 56) (kd := 20) (t0 := 0) (N := 12) (by decide) rfl (by decide) rfl rfl hZ109 tw_1_50 (by decide) rfl (nle rfl) ⟨nle rfl, nle rfl⟩ dX3_init_123 (cellE_i rfl) (fun _ _ h1 h2 => Option.some.inj (h2.symm.trans h1)) ?_
  refine r_putF (pc := 125) (c0 := 31) (σ1 := (sR (sR (sR (sR (sR (sR (sR (sR (iX5_init_45 (sR (sR (iX0_init_33 (sR (sI (sI (sI (sI (sI (sI (sI σ 32 0 (5 : Int32)) 32 1 (2 : Int32)) 32 2 (6 : Int32)) 32 3 (6 : Int32)) 32 4 (4 : Int32)) 32 5 (3 : Int32)) 32 6 (0 : Int32)) 31 0 32)) 31 1 33) 31 2 44)) 31 3 45) 31 4 51) 31 5 52) 31 7 53) 31 8 54) 31 9 55) 31 10 56) 31 11 57)) (C := RX3) (T := TX3) (N := 12) (kf := 11) (m0 := 0) (ty0 := tyX3) rfl inG3 tyX3_ok nmX3 (by decide) rfl tw_2_43 rfl rfl rfl rfl rfl rfl rfl (by decide) (by decide) rfl (fldsC_set (fval_a rfl (by decide)) (fun j h => fval_sR h) (by decide)) oth_sR (fun h => absurd h (by decide)) dX3_init_125 ?_
  exact r_vret (pc := 128) rfl rfl ⟨Nat.le_refl _, Nat.le_refl _⟩ dX3_init_128

def mX4_init : MM := (yX4_init, cX4_init, 1, none, { frames := 1, cells := 5, slots := 256, locals := 20 })
def iX4_init_58 (σ : SS) : SS := (sR (sR (sR (sR (sR σ 58 1 59) 58 2 60) 58 3 61) 58 4 62) 58 5 63)
set_option maxRecDepth 20000 in
set_option maxHeartbeats 4000000 in
theorem ct_X4_init_58 {g : GG} {σ : SS} (hZ : Zr σ 58) : Ct g mX4_init [.ref (ad g 58)] 58 σ none 63 (iX4_init_58 σ) ∧ Zr (iX4_init_58 σ) 63 := by
  have hZ5 := hZ.mono (m := 59) (nle rfl)
  have hZ7 := hZ5.sR (c := 58) (k := 1) (v := 59) (nle rfl)
  have hZ11 := hZ7.mono (m := 60) (nle rfl)
  have hZ13 := hZ11.sR (c := 58) (k := 2) (v := 60) (nle rfl)
  have hZ17 := hZ13.mono (m := 61) (nle rfl)
  have hZ19 := hZ17.sR (c := 58) (k := 3) (v := 61) (nle rfl)
  have hZ23 := hZ19.mono (m := 62) (nle rfl)
  have hZ25 := hZ23.sR (c := 58) (k := 4) (v := 62) (nle rfl)
  have hZ29 := hZ25.mono (m := 63) (nle rfl)
  have hZ31 := hZ29.sR (c := 58) (k := 5) (v := 63) (nle rfl)
  refine ⟨?_, hZ31⟩
  refine Ct.of (by decide +kernel) (nle rfl) fun _ => ?_
  change RR g mX4_init (FinR g mX4_init none 63 (iX4_init_58 σ)) (58, 0, 0) 0 [(0, .ref (ad g 58))] [] σ
  refine r_aload_n (pc := 0) (j := 0) dX4_init_0 rfl rfl ?_
  refine r_objI (pc := 1) tw_2_75 tw_1_23 tw_1_24 ⟨nle rfl, nle rfl⟩ (nle rfl) dX4_init_1 ?_
  refine r_aload_n (pc := 4) (j := 0) dX4_init_4 rfl rfl ?_
  refine r_bipush (pc := 5) (v := (16 : Int32)) dX4_init_5 rfl ?_
  refine r_newi (pc := 7) (atype := .int) (n := 58) (kd := 20) (t0 := 0) (N := 16) (by decide) rfl (by decide) rfl rfl hZ tw_1_50 (by decide) rfl (nle rfl) ⟨nle rfl, nle rfl⟩ dX4_init_7 (cellE_i rfl) (fun _ _ h1 h2 => Option.some.inj (h2.symm.trans h1)) ?_
  refine r_putF (pc := 9) (c0 := 58) (σ1 := (sR σ 58 1 59)) (C := RX4) (T := TX4) (N := 6) (kf := 1) (m0 := 0) (ty0 := tyX4) rfl inG4 tyX4_ok nmX4 (by decide) rfl tw_2_78 rfl rfl rfl rfl rfl rfl rfl (by decide) (by decide) rfl (fldsC_set (fval_a rfl (by decide)) (fun j h => fval_sR h) (by decide)) oth_sR (fun h => absurd h (by decide)) dX4_init_9 ?_
  refine r_aload_n (pc := 12) (j := 0) dX4_init_12 rfl rfl ?_
  refine r_bipush (pc := 13) (v := (16 : Int32)) dX4_init_13 rfl ?_
  refine r_newi (pc := 15) (atype := .int) (n := 59) (kd := 20) (t0 := 0) (N := 16) (by decide) rfl (by decide) rfl rfl hZ7 tw_1_50 (by decide) rfl (nle rfl) ⟨nle rfl, nle rfl⟩ dX4_init_15 (cellE_i rfl) (fun _ _ h1 h2 => Option.some.inj (h2.symm.trans h1)) ?_
  refine r_putF (pc := 17) (c0 := 58) (σ1 := (sR (sR σ 58 1 59) 58 2 60)) (C := RX4) (T := TX4) (N := 6) (kf := 2) (m0 := 0) (ty0 := tyX4) rfl inG4 tyX4_ok nmX4 (by decide) rfl tw_2_79 rfl rfl rfl rfl rfl rfl rfl (by decide) (by decide) rfl (fldsC_set (fval_a rfl (by decide)) (fun j h => fval_sR h) (by decide)) oth_sR (fun h => absurd h (by decide)) dX4_init_17 ?_
  refine r_aload_n (pc := 20) (j := 0) dX4_init_20 rfl rfl ?_
  refine r_bipush (pc := 21) (v := (16 : Int32)) dX4_init_21 rfl ?_
  refine r_newi (pc := 23) (atype := .int) (n := 60) (kd := 20) (t0 := 0) (N := 16) (by decide) rfl (by decide) rfl rfl hZ13 tw_1_50 (by decide) rfl (nle rfl) ⟨nle rfl, nle rfl⟩ dX4_init_23 (cellE_i rfl) (fun _ _ h1 h2 => Option.some.inj (h2.symm.trans h1)) ?_
  refine r_putF (pc := 25) (c0 := 58) (σ1 := (sR (sR (sR σ 58 1 59) 58 2 60) 58 3 61)) (C := RX4) (T := TX4) (N := 6) (kf := 3) (m0 := 0) (ty0 := tyX4) rfl inG4 tyX4_ok nmX4 (by decide) rfl tw_2_80 rfl rfl rfl rfl rfl rfl rfl (by decide) (by decide) rfl (fldsC_set (fval_a rfl (by decide)) (fun j h => fval_sR h) (by decide)) oth_sR (fun h => absurd h (by decide)) dX4_init_25 ?_
  refine r_aload_n (pc := 28) (j := 0) dX4_init_28 rfl rfl ?_
  refine r_sipush (pc := 29) (v := (192 : Int32)) dX4_init_29 rfl ?_
  refine r_newi (pc := 32) (atype := .int) (n := 61) (kd := 20) (t0 := 0) (N := 192) (by decide) rfl (by decide) rfl rfl hZ19 tw_1_50 (by decide) rfl (nle rfl) ⟨nle rfl, nle rfl⟩ dX4_init_32 (cellE_i rfl) (fun _ _ h1 h2 => Option.some.inj (h2.symm.trans h1)) ?_
  refine r_putF (pc := 34) (c0 := 58) (σ1 := (sR (sR (sR (sR σ 58 1 59) 58 2 60) 58 3 61) 58 4 62)) (C := RX4) (T := TX4) (N := 6) (kf := 4) (m0 := 0) (ty0 := tyX4) rfl inG4 tyX4_ok nmX4 (by decide) rfl tw_2_81 rfl rfl rfl rfl rfl rfl rfl (by decide) (by decide) rfl (fldsC_set (fval_a rfl (by decide)) (fun j h => fval_sR h) (by decide)) oth_sR (fun h => absurd h (by decide)) dX4_init_34 ?_
  refine r_aload_n (pc := 37) (j := 0) dX4_init_37 rfl rfl ?_
  refine r_bipush (pc := 38) (v := (16 : Int32)) dX4_init_38 rfl ?_
  refine r_newi (pc := 40) (atype := .int) (n := 62) (kd := 20) (t0 := 0) (N := 16) (by decide) rfl (by decide) rfl rfl hZ25 tw_1_50 (by decide) rfl (nle rfl) ⟨nle rfl, nle rfl⟩ dX4_init_40 (cellE_i rfl) (fun _ _ h1 h2 => Option.some.inj (h2.symm.trans h1)) ?_
  refine r_putF (pc := 42) (c0 := 58) (σ1 := (sR (sR (sR (sR (sR σ 58 1 59) 58 2 60) 58 3 61) 58 4 62) 58 5 63)) (C := RX4) (T := TX4) (N := 6) (kf := 5) (m0 := 0) (ty0 := tyX4) rfl inG4 tyX4_ok nmX4 (by decide) rfl tw_2_82 rfl rfl rfl rfl rfl rfl rfl (by decide) (by decide) rfl (fldsC_set (fval_a rfl (by decide)) (fun j h => fval_sR h) (by decide)) oth_sR (fun h => absurd h (by decide)) dX4_init_42 ?_
  exact r_vret (pc := 45) rfl rfl ⟨Nat.le_refl _, Nat.le_refl _⟩ dX4_init_45

def iX6_init_64 (σ : SS) : SS := (sR (sR σ 64 2 65) 64 3 66)
set_option maxRecDepth 20000 in
set_option maxHeartbeats 4000000 in
theorem ct_X6_init_64 {g : GG} {σ : SS} (hZ : Zr σ 64) : Ct g mX6_init [.ref (ad g 64)] 64 σ none 66 (iX6_init_64 σ) ∧ Zr (iX6_init_64 σ) 66 := by
  have hZ5 := hZ.mono (m := 65) (nle rfl)
  have hZ7 := hZ5.sR (c := 64) (k := 2) (v := 65) (nle rfl)
  have hZ11 := hZ7.mono (m := 66) (nle rfl)
  have hZ13 := hZ11.sR (c := 64) (k := 3) (v := 66) (nle rfl)
  refine ⟨?_, hZ13⟩
  refine Ct.of (by decide +kernel) (nle rfl) fun _ => ?_
  change RR g mX6_init (FinR g mX6_init none 66 (iX6_init_64 σ)) (64, 0, 0) 0 [(0, .ref (ad g 64))] [] σ
  refine r_aload_n (pc := 0) (j := 0) dX6_init_0 rfl rfl ?_
  refine r_objI (pc := 1) tw_1_30 tw_1_23 tw_1_24 ⟨nle rfl, nle rfl⟩ (nle rfl) dX6_init_1 ?_
  refine r_aload_n (pc := 4) (j := 0) dX6_init_4 rfl rfl ?_
  refine r_sipush (pc := 5) (v := (1600 : Int32)) dX6_init_5 rfl ?_
  refine r_newi (pc := 8) (atype := .int) (n := 64) (kd := 20) (t0 := 0) (N := 1600) (by decide) rfl (by decide) rfl rfl hZ tw_1_50 (by decide) rfl (nle rfl) ⟨nle rfl, nle rfl⟩ dX6_init_8 (cellE_i rfl) (fun _ _ h1 h2 => Option.some.inj (h2.symm.trans h1)) ?_
  refine r_putF (pc := 10) (c0 := 64) (σ1 := (sR σ 64 2 65)) (C := RX6) (T := TX6) (N := 4) (kf := 2) (m0 := 0) (ty0 := tyX6) rfl inG6 tyX6_ok nmX6 (by decide) rfl tw_1_38 rfl rfl rfl rfl rfl rfl rfl (by decide) (by decide) rfl (fldsC_set (fval_a rfl (by decide)) (fun j h => fval_sR h) (by decide)) oth_sR (fun h => absurd h (by decide)) dX6_init_10 ?_
  refine r_aload_n (pc := 13) (j := 0) dX6_init_13 rfl rfl ?_
  refine r_bipush (pc := 14) (v := (10 : Int32)) dX6_init_14 rfl ?_
  refine r_newi (pc := 16) (atype := .int) (n := 65) (kd := 20) (t0 := 0) (N := 10) (by decide) rfl (by decide) rfl rfl hZ7 tw_1_50 (by decide) rfl (nle rfl) ⟨nle rfl, nle rfl⟩ dX6_init_16 (cellE_i rfl) (fun _ _ h1 h2 => Option.some.inj (h2.symm.trans h1)) ?_
  refine r_putF (pc := 18) (c0 := 64) (σ1 := (sR (sR σ 64 2 65) 64 3 66)) (C := RX6) (T := TX6) (N := 4) (kf := 3) (m0 := 0) (ty0 := tyX6) rfl inG6 tyX6_ok nmX6 (by decide) rfl tw_1_40 rfl rfl rfl rfl rfl rfl rfl (by decide) (by decide) rfl (fldsC_set (fval_a rfl (by decide)) (fun j h => fval_sR h) (by decide)) oth_sR (fun h => absurd h (by decide)) dX6_init_18 ?_
  exact r_vret (pc := 21) rfl rfl ⟨Nat.le_refl _, Nat.le_refl _⟩ dX6_init_21

def iX6_init_67 (σ : SS) : SS := (sR (sR σ 67 2 68) 67 3 69)
set_option maxRecDepth 20000 in
set_option maxHeartbeats 4000000 in
theorem ct_X6_init_67 {g : GG} {σ : SS} (hZ : Zr σ 67) : Ct g mX6_init [.ref (ad g 67)] 67 σ none 69 (iX6_init_67 σ) ∧ Zr (iX6_init_67 σ) 69 := by
  have hZ5 := hZ.mono (m := 68) (nle rfl)
  have hZ7 := hZ5.sR (c := 67) (k := 2) (v := 68) (nle rfl)
  have hZ11 := hZ7.mono (m := 69) (nle rfl)
  have hZ13 := hZ11.sR (c := 67) (k := 3) (v := 69) (nle rfl)
  refine ⟨?_, hZ13⟩
  refine Ct.of (by decide +kernel) (nle rfl) fun _ => ?_
  change RR g mX6_init (FinR g mX6_init none 69 (iX6_init_67 σ)) (67, 0, 0) 0 [(0, .ref (ad g 67))] [] σ
  refine r_aload_n (pc := 0) (j := 0) dX6_init_0 rfl rfl ?_
  refine r_objI (pc := 1) tw_1_30 tw_1_23 tw_1_24 ⟨nle rfl, nle rfl⟩ (nle rfl) dX6_init_1 ?_
  refine r_aload_n (pc := 4) (j := 0) dX6_init_4 rfl rfl ?_
  refine r_sipush (pc := 5) (v := (1600 : Int32)) dX6_init_5 rfl ?_
  refine r_newi (pc := 8) (atype := .int) (n := 67) (kd := 20) (t0 := 0) (N := 1600) (by decide) rfl (by decide) rfl rfl hZ tw_1_50 (by decide) rfl (nle rfl) ⟨nle rfl, nle rfl⟩ dX6_init_8 (cellE_i rfl) (fun _ _ h1 h2 => Option.some.inj (h2.symm.trans h1)) ?_
  refine r_putF (pc := 10) (c0 := 67) (σ1 := (sR σ 67 2 68)) (C := RX6) (T := TX6) (N := 4) (kf := 2) (m0 := 0) (ty0 := tyX6) rfl inG6 tyX6_ok nmX6 (by decide) rfl tw_1_38 rfl rfl rfl rfl rfl rfl rfl (by decide) (by decide) rfl (fldsC_set (fval_a rfl (by decide)) (fun j h => fval_sR h) (by decide)) oth_sR (fun h => absurd h (by decide)) dX6_init_10 ?_
  refine r_aload_n (pc := 13) (j := 0) dX6_init_13 rfl rfl ?_
  refine r_bipush (pc := 14) (v := (10 : Int32)) dX6_init_14 rfl ?_
  refine r_newi (pc := 16) (atype := .int) (n := 68) (kd := 20) (t0 := 0) (N := 10) (by decide) rfl (by decide) rfl rfl hZ7 tw_1_50 (by decide) rfl (nle rfl) ⟨nle rfl, nle rfl⟩ dX6_init_16 (cellE_i rfl) (fun _ _ h1 h2 => Option.some.inj (h2.symm.trans h1)) ?_
  refine r_putF (pc := 18) (c0 := 67) (σ1 := (sR (sR σ 67 2 68) 67 3 69)) (C := RX6) (T := TX6) (N := 4) (kf := 3) (m0 := 0) (ty0 := tyX6) rfl inG6 tyX6_ok nmX6 (by decide) rfl tw_1_40 rfl rfl rfl rfl rfl rfl rfl (by decide) (by decide) rfl (fldsC_set (fval_a rfl (by decide)) (fun j h => fval_sR h) (by decide)) oth_sR (fun h => absurd h (by decide)) dX6_init_18 ?_
  exact r_vret (pc := 21) rfl rfl ⟨Nat.le_refl _, Nat.le_refl _⟩ dX6_init_21

def iX6_init_70 (σ : SS) : SS := (sR (sR σ 70 2 71) 70 3 72)
set_option maxRecDepth 20000 in
set_option maxHeartbeats 4000000 in
theorem ct_X6_init_70 {g : GG} {σ : SS} (hZ : Zr σ 70) : Ct g mX6_init [.ref (ad g 70)] 70 σ none 72 (iX6_init_70 σ) ∧ Zr (iX6_init_70 σ) 72 := by
  have hZ5 := hZ.mono (m := 71) (nle rfl)
  have hZ7 := hZ5.sR (c := 70) (k := 2) (v := 71) (nle rfl)
  have hZ11 := hZ7.mono (m := 72) (nle rfl)
  have hZ13 := hZ11.sR (c := 70) (k := 3) (v := 72) (nle rfl)
  refine ⟨?_, hZ13⟩
  refine Ct.of (by decide +kernel) (nle rfl) fun _ => ?_
  change RR g mX6_init (FinR g mX6_init none 72 (iX6_init_70 σ)) (70, 0, 0) 0 [(0, .ref (ad g 70))] [] σ
  refine r_aload_n (pc := 0) (j := 0) dX6_init_0 rfl rfl ?_
  refine r_objI (pc := 1) tw_1_30 tw_1_23 tw_1_24 ⟨nle rfl, nle rfl⟩ (nle rfl) dX6_init_1 ?_
  refine r_aload_n (pc := 4) (j := 0) dX6_init_4 rfl rfl ?_
  refine r_sipush (pc := 5) (v := (1600 : Int32)) dX6_init_5 rfl ?_
  refine r_newi (pc := 8) (atype := .int) (n := 70) (kd := 20) (t0 := 0) (N := 1600) (by decide) rfl (by decide) rfl rfl hZ tw_1_50 (by decide) rfl (nle rfl) ⟨nle rfl, nle rfl⟩ dX6_init_8 (cellE_i rfl) (fun _ _ h1 h2 => Option.some.inj (h2.symm.trans h1)) ?_
  refine r_putF (pc := 10) (c0 := 70) (σ1 := (sR σ 70 2 71)) (C := RX6) (T := TX6) (N := 4) (kf := 2) (m0 := 0) (ty0 := tyX6) rfl inG6 tyX6_ok nmX6 (by decide) rfl tw_1_38 rfl rfl rfl rfl rfl rfl rfl (by decide) (by decide) rfl (fldsC_set (fval_a rfl (by decide)) (fun j h => fval_sR h) (by decide)) oth_sR (fun h => absurd h (by decide)) dX6_init_10 ?_
  refine r_aload_n (pc := 13) (j := 0) dX6_init_13 rfl rfl ?_
  refine r_bipush (pc := 14) (v := (10 : Int32)) dX6_init_14 rfl ?_
  refine r_newi (pc := 16) (atype := .int) (n := 71) (kd := 20) (t0 := 0) (N := 10) (by decide) rfl (by decide) rfl rfl hZ7 tw_1_50 (by decide) rfl (nle rfl) ⟨nle rfl, nle rfl⟩ dX6_init_16 (cellE_i rfl) (fun _ _ h1 h2 => Option.some.inj (h2.symm.trans h1)) ?_
  refine r_putF (pc := 18) (c0 := 70) (σ1 := (sR (sR σ 70 2 71) 70 3 72)) (C := RX6) (T := TX6) (N := 4) (kf := 3) (m0 := 0) (ty0 := tyX6) rfl inG6 tyX6_ok nmX6 (by decide) rfl tw_1_40 rfl rfl rfl rfl rfl rfl rfl (by decide) (by decide) rfl (fldsC_set (fval_a rfl (by decide)) (fun j h => fval_sR h) (by decide)) oth_sR (fun h => absurd h (by decide)) dX6_init_18 ?_
  exact r_vret (pc := 21) rfl rfl ⟨Nat.le_refl _, Nat.le_refl _⟩ dX6_init_21

def iX6_empty_3 (σ : SS) : SS := (flI (sI (sI σ 3 0 (24 : Int32)) 3 1 (24 : Int32)) 4 1600 (0 : Int32))
set_option maxRecDepth 20000 in
set_option maxHeartbeats 4000000 in
theorem ct_X6_empty_3 {g : GG} {σ : SS} (hZ : Zr σ 72) (hR3_2 : gR σ 3 2 = 4) : Ct g mX6_empty [.ref (ad g 3), .int (24 : Int32), .int (24 : Int32)] 72 σ none 72 (iX6_empty_3 σ) ∧ Zr (iX6_empty_3 σ) 72 := by
  have hZ3 := hZ.sI (c := 3) (k := 0) (v := (24 : Int32)) (nle rfl)
  have hZ7 := hZ3.sI (c := 3) (k := 1) (v := (24 : Int32)) (nle rfl)
  have hZ13 := hZ7.fl (c := 4) (k := 1600) (v := (0 : Int32)) (nle rfl)
  refine ⟨?_, hZ13⟩
  refine Ct.of (by decide +kernel) (nle rfl) fun _ => ?_
  change RR g mX6_empty (FinR g mX6_empty none 72 (iX6_empty_3 σ)) (72, 0, 0) 0 [(0, .ref (ad g 3)), (1, .int (24 : Int32)), (2, .int (24 : Int32))] [] σ
  refine r_aload_n (pc := 0) (j := 0) dX6_empty_0 rfl rfl ?_
  refine r_iload_n (pc := 1) (j := 1) dX6_empty_1 rfl rfl ?_
  refine r_putf (pc := 2) (c0 := 3) (σ1 := (sI σ 3 0 (24 : Int32))) (C := RX6) (T := TX6) (N := 4) (kf := 0) (n := 0) (ty0 := tyX6) rfl inG6 tyX6_ok nmX6 (by decide) rfl tw_1_31 rfl rfl rfl rfl rfl (by decide) (by decide) rfl (fldsC_set (fval_i (by decide)) (fun j h => fval_sI h) (by decide)) oth_sI (fun h => absurd h (by decide)) dX6_empty_2 ?_
  refine r_aload_n (pc := 5) (j := 0) dX6_empty_5 rfl rfl ?_
  refine r_iload_n (pc := 6) (j := 2) dX6_empty_6 rfl rfl ?_
  refine r_putf (pc := 7) (c0 := 3) (σ1 := (sI (sI σ 3 0 (24 : Int32)) 3 1 (24 : Int32))) (C := RX6) (T := TX6) (N := 4) (kf := 1) (n := 0) (ty0 := tyX6) rfl inG6 tyX6_ok nmX6 (by decide) rfl tw_1_36 rfl rfl rfl rfl rfl (by decide) (by decide) rfl (fldsC_set (fval_i (by decide)) (fun j h => fval_sI h) (by decide)) oth_sI (fun h => absurd h (by decide)) dX6_empty_7 ?_
  refine r_aload_n (pc := 10) (j := 0) dX6_empty_10 rfl rfl ?_
  refine r_getf (pc := 11) (c0 := 3) (ci := 6) (C := RX6) (T := TX6) (N := 4) (kf := 2) (n := 0) (v := .ref (ad g 4)) rfl inG6 (by decide) rfl tw_1_38 rfl (by decide) (by decide) ((fldsC_at (by decide)).trans (by show some (rv g (gR (sI (sI σ 3 0 (24 : Int32)) 3 1 (24 : Int32)) 3 2)) = _; rw [show gR (sI (sI σ 3 0 (24 : Int32)) 3 1 (24 : Int32)) 3 2 = 4 from hR3_2, rv_pos g (by decide)])) dX6_empty_11 ?_
  refine r_iconst (pc := 14) (v := (0 : Int32)) dX6_empty_14 rfl ?_
  refine r_callS (pc := 15) (N := mJ7_fill_53178) (nn := 2) (n1 := 72) (o1 := none) (As := [.ref (ad g 4), .int (0 : Int32)]) (fillI_ct (n := 1600) rfl (by decide)) tw_2_102 tw_1_9 tw_2_100 tw_2_101 ⟨by decide, by decide, rfl⟩ ⟨nle rfl, nle rfl⟩ rfl (nle rfl) dX6_empty_15 ⟨nle rfl, nle rfl⟩ rfl fun _ => ?_
  change RR _ _ _ (72, 0, 0) _ _ _ _
  exact r_vret (pc := 18) rfl rfl ⟨Nat.le_refl _, Nat.le_refl _⟩ dX6_empty_18

def mX7_init : MM := (yX7_init, cX7_init, 2, none, { frames := 3, cells := 71, slots := 19545, locals := 60 })
def iX7_init_1 (σ : SS) : SS := (iX6_empty_3 (sI (sI (sI (sI (sI (sI (sI (sI (sR (iX6_init_70 (sR (iX6_init_67 (sR (iX6_init_64 (sR (iX4_init_58 (sR (iX3_init_31 (sR (sR (sR (sI (sR (iX2_init_26 (sR (iX1_init_18 (sR (iX1_init_10 (sR (sR (iX6_init_6 (sR (iX6_init_3 (sR σ 1 0 2)) 1 2 3)) 1 3 6) 1 4 9)) 1 5 10)) 1 6 18)) 1 7 26) 1 8 (1 : Int32)) 1 9 28) 1 10 29) 1 11 30)) 1 12 31)) 1 13 58)) 9 0 64)) 9 1 67)) 9 2 70) 28 0 (3 : Int32)) 29 0 (3 : Int32)) 28 1 (20 : Int32)) 29 1 (3 : Int32)) 28 2 (3 : Int32)) 29 2 (20 : Int32)) 28 3 (20 : Int32)) 29 3 (20 : Int32)))
set_option maxRecDepth 20000 in
set_option maxHeartbeats 4000000 in
theorem ct_X7_init_1 {g : GG} {σ : SS} (hZ : Zr σ 1) : Ct g mX7_init [.ref (ad g 1)] 1 σ none 72 (iX7_init_1 σ) ∧ Zr (iX7_init_1 σ) 72 := by
  have hZ5 := hZ.mono (m := 2) (nle rfl)
  have hZ7 := hZ5.sR (c := 1) (k := 0) (v := 2) (nle rfl)
  have hZ10 := hZ7.mono (m := 3) (nle rfl)
  have ct18_10 := ct_X6_init_3 (g := g) hZ10
  have hZ16 := ct18_10.2.sR (c := 1) (k := 2) (v := 3) (nle rfl)
  have hZ19 := hZ16.mono (m := 6) (nle rfl)
  have ct29_15 := ct_X6_init_6 (g := g) hZ19
  have hZ25 := ct29_15.2.sR (c := 1) (k := 3) (v := 6) (nle rfl)
  have hZ29 := hZ25.mono (m := 9) (nle rfl)
  have hZ31 := hZ29.sR (c := 1) (k := 4) (v := 9) (nle rfl)
  have hZ34 := hZ31.mono (m := 10) (nle rfl)
  have ct48_24 := ct_X1_init_10 (g := g) hZ34
  have hZ40 := ct48_24.2.sR (c := 1) (k := 5) (v := 10) (nle rfl)
  have hZ43 := hZ40.mono (m := 18) (nle rfl)
  have ct59_29 := ct_X1_init_18 (g := g) hZ43
  have hZ49 := ct59_29.2.sR (c := 1) (k := 6) (v := 18) (nle rfl)
  have hZ52 := hZ49.mono (m := 26) (nle rfl)
  have ct70_34 := ct_X2_init_26 (g := g) hZ52
  have hZ58 := ct70_34.2.sR (c := 1) (k := 7) (v := 26) (nle rfl)
  have hZ62 := hZ58.sI (c := 1) (k := 8) (v := (1 : Int32)) (nle rfl)
  have hZ66 := hZ62.mono (m := 28) (nle rfl)
  have hZ68 := hZ66.sR (c := 1) (k := 9) (v := 28) (nle rfl)
  have hZ72 := hZ68.mono (m := 29) (nle rfl)
  have hZ74 := hZ72.sR (c := 1) (k := 10) (v := 29) (nle rfl)
  have hZ78 := hZ74.mono (m := 30) (nle rfl)
  have hZ80 := hZ78.sR (c := 1) (k := 11) (v := 30) (nle rfl)
  have hZ83 := hZ80.mono (m := 31) (nle rfl)
  have ct108_54 := ct_X3_init_31 (g := g) hZ83
  have hZ89 := ct108_54.2.sR (c := 1) (k := 12) (v := 31) (nle rfl)
  have hZ92 := hZ89.mono (m := 58) (nle rfl)
  have ct119_59 := ct_X4_init_58 (g := g) hZ92
  have hZ98 := ct119_59.2.sR (c := 1) (k := 13) (v := 58) (nle rfl)
  have hZ108 := hZ98.mono (m := 64) (nle rfl)
  have ct141_71 := ct_X6_init_64 (g := g) hZ108
  have hZ115 := ct141_71.2.sR (c := 9) (k := 0) (v := 64) (nle rfl)
  have hZ125 := hZ115.mono (m := 67) (nle rfl)
  have ct141_83 := ct_X6_init_67 (g := g) hZ125
  have hZ132 := ct141_83.2.sR (c := 9) (k := 1) (v := 67) (nle rfl)
  have hZ142 := hZ132.mono (m := 70) (nle rfl)
  have ct141_95 := ct_X6_init_70 (g := g) hZ142
  have hZ149 := ct141_95.2.sR (c := 9) (k := 2) (v := 70) (nle rfl)
  have hZ172 := hZ149.sI (c := 28) (k := 0) (v := (3 : Int32)) (nle rfl)
  have hZ185 := hZ172.sI (c := 29) (k := 0) (v := (3 : Int32)) (nle rfl)
  have hZ202 := hZ185.sI (c := 28) (k := 1) (v := (20 : Int32)) (nle rfl)
  have hZ215 := hZ202.sI (c := 29) (k := 1) (v := (3 : Int32)) (nle rfl)
  have hZ233 := hZ215.sI (c := 28) (k := 2) (v := (3 : Int32)) (nle rfl)
  have hZ245 := hZ233.sI (c := 29) (k := 2) (v := (20 : Int32)) (nle rfl)
  have hZ262 := hZ245.sI (c := 28) (k := 3) (v := (20 : Int32)) (nle rfl)
  have hZ274 := hZ262.sI (c := 29) (k := 3) (v := (20 : Int32)) (nle rfl)
  have ct208 := ct_X6_empty_3 (g := g) hZ274 rfl
  refine ⟨?_, ct208.2⟩
  refine Ct.of (by decide +kernel) (nle rfl) fun _ => ?_
  change RR g mX7_init (FinR g mX7_init none 72 (iX7_init_1 σ)) (1, 0, 0) 0 [(0, .ref (ad g 1))] [] σ
  refine r_aload_n (pc := 0) (j := 0) dX7_init_0 rfl rfl ?_
  refine r_objI (pc := 1) tw_1_22 tw_1_23 tw_1_24 ⟨nle rfl, nle rfl⟩ (nle rfl) dX7_init_1 ?_
  refine r_aload_n (pc := 4) (j := 0) dX7_init_4 rfl rfl ?_
  refine r_sipush (pc := 5) (v := (480 : Int32)) dX7_init_5 rfl ?_
  refine r_newi (pc := 8) (atype := .int) (n := 1) (kd := 20) (t0 := 0) (N := 480) (by decide) rfl (by decide) rfl rfl hZ tw_1_50 (by decide) rfl (nle rfl) ⟨nle rfl, nle rfl⟩ dX7_init_8 (cellE_i rfl) (fun _ _ h1 h2 => Option.some.inj (h2.symm.trans h1)) ?_
  refine r_putF (pc := 10) (c0 := 1) (σ1 := (sR σ 1 0 2)) (C := RX7) (T := TX7) (N := 14) (kf := 0) (m0 := 0) (ty0 := tyX7) rfl inG7 tyX7_ok nmX7 (by decide) rfl tw_2_103 rfl rfl rfl rfl rfl rfl rfl (by decide) (by decide) rfl (fldsC_set (fval_a rfl (by decide)) (fun j h => fval_sR h) (by decide)) oth_sR (fun h => absurd h (by decide)) dX7_init_10 ?_
  refine r_aload_n (pc := 13) (j := 0) dX7_init_13 rfl rfl ?_
  refine r_new (pc := 14) (n := 2) (ci := 6) (by decide) rfl (by decide) rfl inG6 tyX6_ok (by decide +kernel) rfl hZ7 tw_1_25 tw_1_26 tw_1_2 ⟨nle rfl, nle rfl⟩ dX7_init_14 ?_
  refine r_dup (pc := 17) dX7_init_17 rfl ?_
  refine r_callIN (pc := 18) (N := mX6_init) (n1 := 5) ct18_10.1 (List.mem_of_getElem? (i := 0) rfl) rfl rfl tw_1_29 tw_1_2 tw_1_28 ⟨by decide, by decide, rfl⟩ ⟨nle rfl, nle rfl⟩ (nle rfl) dX7_init_18 ⟨nle rfl, nle rfl⟩ ?_
  change RR _ _ _ (5, 4, 2094) _ _ _ _
  refine r_putf (pc := 21) (c0 := 1) (σ1 := (sR (iX6_init_3 (sR σ 1 0 2)) 1 2 3)) (C := RX7) (T := TX7) (N := 14) (kf := 2) (n := 0) (ty0 := tyX7) rfl inG7 tyX7_ok nmX7 (by decide) rfl tw_2_105 rfl rfl rfl rfl rfl (by decide) (by decide) rfl (fldsC_set (fval_r rfl (by decide)) (fun j h => fval_sR h) (by decide)) oth_sR (fun h => absurd h (by decide)) dX7_init_21 ?_
  refine r_aload_n (pc := 24) (j := 0) dX7_init_24 rfl rfl ?_
  refine r_new (pc := 25) (n := 5) (ci := 6) (by decide) rfl (by decide) rfl inG6 tyX6_ok (by decide +kernel) rfl hZ16 tw_1_25 tw_1_26 tw_1_2 ⟨nle rfl, nle rfl⟩ dX7_init_25 ?_
  refine r_dup (pc := 28) dX7_init_28 rfl ?_
  refine r_callIN (pc := 29) (N := mX6_init) (n1 := 8) ct29_15.1 (List.mem_of_getElem? (i := 0) rfl) rfl rfl tw_1_29 tw_1_2 tw_1_28 ⟨by decide, by decide, rfl⟩ ⟨nle rfl, nle rfl⟩ (nle rfl) dX7_init_29 ⟨nle rfl, nle rfl⟩ ?_
  change RR _ _ _ (8, 7, 3708) _ _ _ _
  refine r_putf (pc := 32) (c0 := 1) (σ1 := (sR (iX6_init_6 (sR (iX6_init_3 (sR σ 1 0 2)) 1 2 3)) 1 3 6)) (C := RX7) (T := TX7) (N := 14) (kf := 3) (n := 0) (ty0 := tyX7) rfl inG7 tyX7_ok nmX7 (by decide) rfl tw_2_106 rfl rfl rfl rfl rfl (by decide) (by decide) rfl (fldsC_set (fval_r rfl (by decide)) (fun j h => fval_sR h) (by decide)) oth_sR (fun h => absurd h (by decide)) dX7_init_32 ?_
  refine r_aload_n (pc := 35) (j := 0) dX7_init_35 rfl rfl ?_
  refine r_iconst (pc := 36) (v := (3 : Int32)) dX7_init_36 rfl ?_
  refine r_newq (pc := 37) (n := 8) (N := 3) (by decide) rfl hZ25 tw_1_25 (by decide) rfl (nle rfl) ⟨nle rfl, nle rfl⟩ dX7_init_37 ?_
  refine r_putF (pc := 40) (c0 := 1) (σ1 := (sR (sR (iX6_init_6 (sR (iX6_init_3 (sR σ 1 0 2)) 1 2 3)) 1 3 6) 1 4 9)) (C := RX7) (T := TX7) (N := 14) (kf := 4) (m0 := 0) (ty0 := tyX7) rfl inG7 tyX7_ok nmX7 (by decide) rfl tw_2_107 rfl rfl rfl rfl rfl rfl rfl (by decide) (by decide) rfl (fldsC_set (fval_a rfl (by decide)) (fun j h => fval_sR h) (by decide)) oth_sR (fun h => absurd h (by decide)) dX7_init_40 ?_
  refine r_aload_n (pc := 43) (j := 0) dX7_init_43 rfl rfl ?_
  refine r_new (pc := 44) (n := 9) (ci := 1) (by decide) rfl (by decide) rfl inG1 tyX1_ok (by decide +kernel) rfl hZ31 tw_1_52 tw_1_53 tw_1_3 ⟨nle rfl, nle rfl⟩ dX7_init_44 ?_
  refine r_dup (pc := 47) dX7_init_47 rfl ?_
  refine r_callIN (pc := 48) (N := mX1_init) (n1 := 17) ct48_24.1 (List.mem_of_getElem? (i := 1) rfl) rfl rfl tw_1_56 tw_1_3 tw_1_55 ⟨by decide, by decide, rfl⟩ ⟨nle rfl, nle rfl⟩ (nle rfl) dX7_init_48 ⟨nle rfl, nle rfl⟩ ?_
  change RR _ _ _ (17, 16, 3929) _ _ _ _
  refine r_putf (pc := 51) (c0 := 1) (σ1 := (sR (iX1_init_10 (sR (sR (iX6_init_6 (sR (iX6_init_3 (sR σ 1 0 2)) 1 2 3)) 1 3 6) 1 4 9)) 1 5 10)) (C := RX7) (T := TX7) (N := 14) (kf := 5) (n := 0) (ty0 := tyX7) rfl inG7 tyX7_ok nmX7 (by decide) rfl tw_2_108 rfl rfl rfl rfl rfl (by decide) (by decide) rfl (fldsC_set (fval_r rfl (by decide)) (fun j h => fval_sR h) (by decide)) oth_sR (fun h => absurd h (by decide)) dX7_init_51 ?_
  refine r_aload_n (pc := 54) (j := 0) dX7_init_54 rfl rfl ?_
  refine r_new (pc := 55) (n := 17) (ci := 1) (by decide) rfl (by decide) rfl inG1 tyX1_ok (by decide +kernel) rfl hZ40 tw_1_52 tw_1_53 tw_1_3 ⟨nle rfl, nle rfl⟩ dX7_init_55 ?_
  refine r_dup (pc := 58) dX7_init_58 rfl ?_
  refine r_callIN (pc := 59) (N := mX1_init) (n1 := 25) ct59_29.1 (List.mem_of_getElem? (i := 1) rfl) rfl rfl tw_1_56 tw_1_3 tw_1_55 ⟨by decide, by decide, rfl⟩ ⟨nle rfl, nle rfl⟩ (nle rfl) dX7_init_59 ⟨nle rfl, nle rfl⟩ ?_
  change RR _ _ _ (25, 24, 4147) _ _ _ _
  refine r_putf (pc := 62) (c0 := 1) (σ1 := (sR (iX1_init_18 (sR (iX1_init_10 (sR (sR (iX6_init_6 (sR (iX6_init_3 (sR σ 1 0 2)) 1 2 3)) 1 3 6) 1 4 9)) 1 5 10)) 1 6 18)) (C := RX7) (T := TX7) (N := 14) (kf := 6) (n := 0) (ty0 := tyX7) rfl inG7 tyX7_ok nmX7 (by decide) rfl tw_2_109 rfl rfl rfl rfl rfl (by decide) (by decide) rfl (fldsC_set (fval_r rfl (by decide)) (fun j h => fval_sR h) (by decide)) oth_sR (fun h => absurd h (by decide)) dX7_init_62 ?_
  refine r_aload_n (pc := 65) (j := 0) dX7_init_65 rfl rfl ?_
  refine r_new (pc := 66) (n := 25) (ci := 2) (by decide) rfl (by decide) rfl inG2 tyX2_ok (by decide +kernel) rfl hZ49 tw_1_138 tw_1_139 tw_1_4 ⟨nle rfl, nle rfl⟩ dX7_init_66 ?_
  refine r_dup (pc := 69) dX7_init_69 rfl ?_
  refine r_callIN (pc := 70) (N := mX2_init) (n1 := 27) ct70_34.1 (List.mem_of_getElem? (i := 2) rfl) rfl rfl tw_1_142 tw_1_4 tw_1_141 ⟨by decide, by decide, rfl⟩ ⟨nle rfl, nle rfl⟩ (nle rfl) dX7_init_70 ⟨nle rfl, nle rfl⟩ ?_
  change RR _ _ _ (27, 26, 4555) _ _ _ _
  refine r_putF (pc := 73) (c0 := 1) (σ1 := (sR (iX2_init_26 (sR (iX1_init_18 (sR (iX1_init_10 (sR (sR (iX6_init_6 (sR (iX6_init_3 (sR σ 1 0 2)) 1 2 3)) 1 3 6) 1 4 9)) 1 5 10)) 1 6 18)) 1 7 26)) (C := RX7) (T := TX7) (N := 14) (kf := 7) (m0 := 0) (ty0 := tyX7) rfl inG7 tyX7_ok nmX7 (by decide) rfl tw_2_110 rfl rfl rfl rfl rfl rfl rfl (by decide) (by decide) rfl (fldsC_set (fval_r rfl (by decide)) (fun j h => fval_sR h) (by decide)) oth_sR (fun h => absurd h (by decide)) dX7_init_73 ?_
  refine r_aload_n (pc := 76) (j := 0) dX7_init_76 rfl rfl ?_
  refine r_iconst (pc := 77) (v := (1 : Int32)) dX7_init_77 rfl ?_
  refine r_putf (pc := 78) (c0 := 1) (σ1 := (sI (sR (iX2_init_26 (sR (iX1_init_18 (sR (iX1_init_10 (sR (sR (iX6_init_6 (sR (iX6_init_3 (sR σ 1 0 2)) 1 2 3)) 1 3 6) 1 4 9)) 1 5 10)) 1 6 18)) 1 7 26) 1 8 (1 : Int32))) (C := RX7) (T := TX7) (N := 14) (kf := 8) (n := 0) (ty0 := tyX7) rfl inG7 tyX7_ok nmX7 (by decide) rfl tw_2_111 rfl rfl rfl rfl rfl (by decide) (by decide) rfl (fldsC_set (fval_i (by decide)) (fun j h => fval_sI h) (by decide)) oth_sI (fun h => absurd h (by decide)) dX7_init_78 ?_
  refine r_aload_n (pc := 81) (j := 0) dX7_init_81 rfl rfl ?_
  refine r_iconst (pc := 82) (v := (4 : Int32)) dX7_init_82 rfl ?_
  refine r_newi (pc := 83) (atype := .int) (n := 27) (kd := 20) (t0 := 0) (N := 4) (by decide) rfl (by decide) rfl rfl hZ62 tw_1_50 (by decide) rfl (nle rfl) ⟨nle rfl, nle rfl⟩ dX7_init_83 (cellE_i rfl) (fun _ _ h1 h2 => Option.some.inj (h2.symm.trans h1)) ?_
  refine r_putF (pc := 85) (c0 := 1) (σ1 := (sR (sI (sR (iX2_init_26 (sR (iX1_init_18 (sR (iX1_init_10 (sR (sR (iX6_init_6 (sR (iX6_init_3 (sR σ 1 0 2)) 1 2 3)) 1 3 6) 1 4 9)) 1 5 10)) 1 6 18)) 1 7 26) 1 8 (1 : Int32)) 1 9 28)) (C := RX7) (T := TX7) (N := 14) (kf := 9) (m0 := 0) (ty0 := tyX7) rfl inG7 tyX7_ok nmX7 (by decide) rfl tw_2_112 rfl rfl rfl rfl rfl rfl rfl (by decide) (by decide) rfl (fldsC_set (fval_a rfl (by decide)) (fun j h => fval_sR h) (by decide)) oth_sR (fun h => absurd h (by decide)) dX7_init_85 ?_
  refine r_aload_n (pc := 88) (j := 0) dX7_init_88 rfl rfl ?_
  refine r_iconst (pc := 89) (v := (4 : Int32)) dX7_init_89 rfl ?_
  refine r_newi (pc := 90) (atype := .int) (n := 28) (kd := 20) (t0 := 0) (N := 4) (by decide) rfl (by decide) rfl rfl hZ68 tw_1_50 (by decide) rfl (nle rfl) ⟨nle rfl, nle rfl⟩ dX7_init_90 (cellE_i rfl) (fun _ _ h1 h2 => Option.some.inj (h2.symm.trans h1)) ?_
  refine r_putF (pc := 92) (c0 := 1) (σ1 := (sR (sR (sI (sR (iX2_init_26 (sR (iX1_init_18 (sR (iX1_init_10 (sR (sR (iX6_init_6 (sR (iX6_init_3 (sR σ 1 0 2)) 1 2 3)) 1 3 6) 1 4 9)) 1 5 10)) 1 6 18)) 1 7 26) 1 8 (1 : Int32)) 1 9 28) 1 10 29)) (C := RX7) (T := TX7) (N := 14) (kf := 10) (m0 := 0) (ty0 := tyX7) rfl inG7 tyX7_ok nmX7 (by decide) rfl tw_2_113 rfl rfl rfl rfl rfl rfl rfl (by decide) (by decide) rfl (fldsC_set (fval_a rfl (by decide)) (fun j h => fval_sR h) (by decide)) oth_sR (fun h => absurd h (by decide)) dX7_init_92 ?_
  refine r_aload_n (pc := 95) (j := 0) dX7_init_95 rfl rfl ?_
  refine r_bipush (pc := 96) (v := (12 : Int32)) dX7_init_96 rfl ?_
  refine r_newi (pc := 98) (atype := .int) (n := 29) (kd := 20) (t0 := 0) (N := 12) (by decide) rfl (by decide) rfl rfl hZ74 tw_1_50 (by decide) rfl (nle rfl) ⟨nle rfl, nle rfl⟩ dX7_init_98 (cellE_i rfl) (fun _ _ h1 h2 => Option.some.inj (h2.symm.trans h1)) ?_
  refine r_putF (pc := 100) (c0 := 1) (σ1 := (sR (sR (sR (sI (sR (iX2_init_26 (sR (iX1_init_18 (sR (iX1_init_10 (sR (sR (iX6_init_6 (sR (iX6_init_3 (sR σ 1 0 2)) 1 2 3)) 1 3 6) 1 4 9)) 1 5 10)) 1 6 18)) 1 7 26) 1 8 (1 : Int32)) 1 9 28) 1 10 29) 1 11 30)) (C := RX7) (T := TX7) (N := 14) (kf := 11) (m0 := 0) (ty0 := tyX7) rfl inG7 tyX7_ok nmX7 (by decide) rfl tw_2_114 rfl rfl rfl rfl rfl rfl rfl (by decide) (by decide) rfl (fldsC_set (fval_a rfl (by decide)) (fun j h => fval_sR h) (by decide)) oth_sR (fun h => absurd h (by decide)) dX7_init_100 ?_
  refine r_aload_n (pc := 103) (j := 0) dX7_init_103 rfl rfl ?_
  refine r_new (pc := 104) (n := 30) (ci := 3) (by decide) rfl (by decide) rfl inG3 tyX3_ok (by decide +kernel) rfl hZ80 tw_1_169 tw_1_170 tw_1_5 ⟨nle rfl, nle rfl⟩ dX7_init_104 ?_
  refine r_dup (pc := 107) dX7_init_107 rfl ?_
  refine r_callIN (pc := 108) (N := mX3_init) (n1 := 57) ct108_54.1 (List.mem_of_getElem? (i := 3) rfl) rfl rfl tw_1_173 tw_1_5 tw_1_172 ⟨by decide, by decide, rfl⟩ ⟨nle rfl, nle rfl⟩ (nle rfl) dX7_init_108 ⟨nle rfl, nle rfl⟩ ?_
  change RR _ _ _ (57, 56, 14441) _ _ _ _
  refine r_putF (pc := 111) (c0 := 1) (σ1 := (sR (iX3_init_31 (sR (sR (sR (sI (sR (iX2_init_26 (sR (iX1_init_18 (sR (iX1_init_10 (sR (sR (iX6_init_6 (sR (iX6_init_3 (sR σ 1 0 2)) 1 2 3)) 1 3 6) 1 4 9)) 1 5 10)) 1 6 18)) 1 7 26) 1 8 (1 : Int32)) 1 9 28) 1 10 29) 1 11 30)) 1 12 31)) (C := RX7) (T := TX7) (N := 14) (kf := 12) (m0 := 0) (ty0 := tyX7) rfl inG7 tyX7_ok nmX7 (by decide) rfl tw_2_115 rfl rfl rfl rfl rfl rfl rfl (by decide) (by decide) rfl (fldsC_set (fval_r rfl (by decide)) (fun j h => fval_sR h) (by decide)) oth_sR (fun h => absurd h (by decide)) dX7_init_111 ?_
  refine r_aload_n (pc := 114) (j := 0) dX7_init_114 rfl rfl ?_
  refine r_new (pc := 115) (n := 57) (ci := 4) (by decide) rfl (by decide) rfl inG4 tyX4_ok (by decide +kernel) rfl hZ89 tw_2_70 tw_2_71 tw_1_8 ⟨nle rfl, nle rfl⟩ dX7_init_115 ?_
  refine r_dup (pc := 118) dX7_init_118 rfl ?_
  refine r_callIN (pc := 119) (N := mX4_init) (n1 := 63) ct119_59.1 (List.mem_of_getElem? (i := 6) rfl) rfl rfl tw_2_74 tw_1_8 tw_2_73 ⟨by decide, by decide, rfl⟩ ⟨nle rfl, nle rfl⟩ (nle rfl) dX7_init_119 ⟨nle rfl, nle rfl⟩ ?_
  change RR _ _ _ (63, 62, 14703) _ _ _ _
  refine r_putF (pc := 122) (c0 := 1) (σ1 := (sR (iX4_init_58 (sR (iX3_init_31 (sR (sR (sR (sI (sR (iX2_init_26 (sR (iX1_init_18 (sR (iX1_init_10 (sR (sR (iX6_init_6 (sR (iX6_init_3 (sR σ 1 0 2)) 1 2 3)) 1 3 6) 1 4 9)) 1 5 10)) 1 6 18)) 1 7 26) 1 8 (1 : Int32)) 1 9 28) 1 10 29) 1 11 30)) 1 12 31)) 1 13 58)) (C := RX7) (T := TX7) (N := 14) (kf := 13) (m0 := 0) (ty0 := tyX7) rfl inG7 tyX7_ok nmX7 (by decide) rfl tw_2_116 rfl rfl rfl rfl rfl rfl rfl (by decide) (by decide) rfl (fldsC_set (fval_r rfl (by decide)) (fun j h => fval_sR h) (by decide)) oth_sR (fun h => absurd h (by decide)) dX7_init_122 ?_
  refine r_iconst (pc := 125) (v := (0 : Int32)) dX7_init_125 rfl ?_
  refine r_istore_n (pc := 126) (ls1 := [(1, .int (0 : Int32)), (0, .ref (ad g 1))]) dX7_init_126 rfl (nle rfl) rfl ?_
  refine r_iload_n (pc := 127) (j := 0) dX7_init_127 rfl rfl ?_
  refine r_iconst (pc := 128) (v := (3 : Int32)) dX7_init_128 rfl ?_
  refine r_icmp_ge (pc := 129) (tgt := 151) dX7_init_129 rfl (fun h => absurd h (by decide)) (fun _ => ?_)
  refine r_aload_n (pc := 132) (j := 1) dX7_init_132 rfl rfl ?_
  refine r_getf (pc := 133) (c0 := 1) (ci := 7) (C := RX7) (T := TX7) (N := 14) (kf := 4) (n := 0) (v := .ref (ad g 9)) rfl inG7 (by decide) rfl tw_2_107 rfl (by decide) (by decide) ((fldsC_at (by decide)).trans (by show some (rv g (gR (sR (iX4_init_58 (sR (iX3_init_31 (sR (sR (sR (sI (sR (iX2_init_26 (sR (iX1_init_18 (sR (iX1_init_10 (sR (sR (iX6_init_6 (sR (iX6_init_3 (sR σ 1 0 2)) 1 2 3)) 1 3 6) 1 4 9)) 1 5 10)) 1 6 18)) 1 7 26) 1 8 (1 : Int32)) 1 9 28) 1 10 29) 1 11 30)) 1 12 31)) 1 13 58) 1 4)) = _; rw [show gR (sR (iX4_init_58 (sR (iX3_init_31 (sR (sR (sR (sI (sR (iX2_init_26 (sR (iX1_init_18 (sR (iX1_init_10 (sR (sR (iX6_init_6 (sR (iX6_init_3 (sR σ 1 0 2)) 1 2 3)) 1 3 6) 1 4 9)) 1 5 10)) 1 6 18)) 1 7 26) 1 8 (1 : Int32)) 1 9 28) 1 10 29) 1 11 30)) 1 12 31)) 1 13 58) 1 4 = 9 from rfl, rv_pos g (by decide)])) dX7_init_133 ?_
  refine r_iload_n (pc := 136) (j := 0) dX7_init_136 rfl rfl ?_
  refine r_new (pc := 137) (n := 63) (ci := 6) (by decide) rfl (by decide) rfl inG6 tyX6_ok (by decide +kernel) rfl hZ98 tw_1_25 tw_1_26 tw_1_2 ⟨nle rfl, nle rfl⟩ dX7_init_137 ?_
  refine r_dup (pc := 140) dX7_init_140 rfl ?_
  refine r_callIN (pc := 141) (N := mX6_init) (n1 := 66) ct141_71.1 (List.mem_of_getElem? (i := 0) rfl) rfl rfl tw_1_29 tw_1_2 tw_1_28 ⟨by decide, by decide, rfl⟩ ⟨nle rfl, nle rfl⟩ (nle rfl) dX7_init_141 ⟨nle rfl, nle rfl⟩ ?_
  change RR _ _ _ (66, 65, 16317) _ _ _ _
  refine r_aast (pc := 144) (c0 := 9) (c1 := 64) (n0 := 3) rfl (by decide) rfl (by decide) (by decide) (by decide) dX7_init_144 ?_
  change RR _ _ _ _ _ _ _ (sR (iX6_init_64 (sR (iX4_init_58 (sR (iX3_init_31 (sR (sR (sR (sI (sR (iX2_init_26 (sR (iX1_init_18 (sR (iX1_init_10 (sR (sR (iX6_init_6 (sR (iX6_init_3 (sR σ 1 0 2)) 1 2 3)) 1 3 6) 1 4 9)) 1 5 10)) 1 6 18)) 1 7 26) 1 8 (1 : Int32)) 1 9 28) 1 10 29) 1 11 30)) 1 12 31)) 1 13 58)) 9 0 64)
  refine r_iinc (pc := 145) (j := 0) (v := (1 : Int32)) (ls1 := [(1, .int (1 : Int32)), (0, .ref (ad g 1))]) dX7_init_145 rfl (by decide) (nle rfl) rfl ?_
  refine r_goto (pc := 148) (tgt := 127) dX7_init_148 rfl ?_
  refine r_iload_n (pc := 127) (j := 0) dX7_init_127 rfl rfl ?_
  refine r_iconst (pc := 128) (v := (3 : Int32)) dX7_init_128 rfl ?_
  refine r_icmp_ge (pc := 129) (tgt := 151) dX7_init_129 rfl (fun h => absurd h (by decide)) (fun _ => ?_)
  refine r_aload_n (pc := 132) (j := 1) dX7_init_132 rfl rfl ?_
  refine r_getf (pc := 133) (c0 := 1) (ci := 7) (C := RX7) (T := TX7) (N := 14) (kf := 4) (n := 0) (v := .ref (ad g 9)) rfl inG7 (by decide) rfl tw_2_107 rfl (by decide) (by decide) ((fldsC_at (by decide)).trans (by show some (rv g (gR (sR (iX6_init_64 (sR (iX4_init_58 (sR (iX3_init_31 (sR (sR (sR (sI (sR (iX2_init_26 (sR (iX1_init_18 (sR (iX1_init_10 (sR (sR (iX6_init_6 (sR (iX6_init_3 (sR σ 1 0 2)) 1 2 3)) 1 3 6) 1 4 9)) 1 5 10)) 1 6 18)) 1 7 26) 1 8 (1 : Int32)) 1 9 28) 1 10 29) 1 11 30)) 1 12 31)) 1 13 58)) 9 0 64) 1 4)) = _; rw [show gR (sR (iX6_init_64 (sR (iX4_init_58 (sR (iX3_init_31 (sR (sR (sR (sI (sR (iX2_init_26 (sR (iX1_init_18 (sR (iX1_init_10 (sR (sR (iX6_init_6 (sR (iX6_init_3 (sR σ 1 0 2)) 1 2 3)) 1 3 6) 1 4 9)) 1 5 10)) 1 6 18)) 1 7 26) 1 8 (1 : Int32)) 1 9 28) 1 10 29) 1 11 30)) 1 12 31)) 1 13 58)) 9 0 64) 1 4 = 9 from rfl, rv_pos g (by decide)])) dX7_init_133 ?_
  refine r_iload_n (pc := 136) (j := 0) dX7_init_136 rfl rfl ?_
  refine r_new (pc := 137) (n := 66) (ci := 6) (by decide) rfl (by decide) rfl inG6 tyX6_ok (by decide +kernel) rfl hZ115 tw_1_25 tw_1_26 tw_1_2 ⟨nle rfl, nle rfl⟩ dX7_init_137 ?_
  refine r_dup (pc := 140) dX7_init_140 rfl ?_
  refine r_callIN (pc := 141) (N := mX6_init) (n1 := 69) ct141_83.1 (List.mem_of_getElem? (i := 0) rfl) rfl rfl tw_1_29 tw_1_2 tw_1_28 ⟨by decide, by decide, rfl⟩ ⟨nle rfl, nle rfl⟩ (nle rfl) dX7_init_141 ⟨nle rfl, nle rfl⟩ ?_
  change RR _ _ _ (69, 68, 17931) _ _ _ _
  refine r_aast (pc := 144) (c0 := 9) (c1 := 67) (n0 := 3) rfl (by decide) rfl (by decide) (by decide) (by decide) dX7_init_144 ?_
  change RR _ _ _ _ _ _ _ (sR (iX6_init_67 (sR (iX6_init_64 (sR (iX4_init_58 (sR (iX3_init_31 (sR (sR (sR (sI (sR (iX2_init_26 (sR (iX1_init_18 (sR (iX1_init_10 (sR (sR (iX6_init_6 (sR (iX6_init_3 (sR σ 1 0 2)) 1 2 3)) 1 3 6) 1 4 9)) 1 5 10)) 1 6 18)) 1 7 26) 1 8 (1 : Int32)) 1 9 28) 1 10 29) 1 11 30)) 1 12 31)) 1 13 58)) 9 0 64)) 9 1 67)
  refine r_iinc (pc := 145) (j := 0) (v := (2 : Int32)) (ls1 := [(1, .int (2 : Int32)), (0, .ref (ad g 1))]) dX7_init_145 rfl (by decide) (nle rfl) rfl ?_
  refine r_goto (pc := 148) (tgt := 127) dX7_init_148 rfl ?_
  refine r_iload_n (pc := 127) (j := 0) dX7_init_127 rfl rfl ?_
  refine r_iconst (pc := 128) (v := (3 : Int32)) dX7_init_128 rfl ?_
  refine r_icmp_ge (pc := 129) (tgt := 151) dX7_init_129 rfl (fun h => absurd h (by decide)) (fun _ => ?_)
  refine r_aload_n (pc := 132) (j := 1) dX7_init_132 rfl rfl ?_
  refine r_getf (pc := 133) (c0 := 1) (ci := 7) (C := RX7) (T := TX7) (N := 14) (kf := 4) (n := 0) (v := .ref (ad g 9)) rfl inG7 (by decide) rfl tw_2_107 rfl (by decide) (by decide) ((fldsC_at (by decide)).trans (by show some (rv g (gR (sR (iX6_init_67 (sR (iX6_init_64 (sR (iX4_init_58 (sR (iX3_init_31 (sR (sR (sR (sI (sR (iX2_init_26 (sR (iX1_init_18 (sR (iX1_init_10 (sR (sR (iX6_init_6 (sR (iX6_init_3 (sR σ 1 0 2)) 1 2 3)) 1 3 6) 1 4 9)) 1 5 10)) 1 6 18)) 1 7 26) 1 8 (1 : Int32)) 1 9 28) 1 10 29) 1 11 30)) 1 12 31)) 1 13 58)) 9 0 64)) 9 1 67) 1 4)) = _; rw [show gR (sR (iX6_init_67 (sR (iX6_init_64 (sR (iX4_init_58 (sR (iX3_init_31 (sR (sR (sR (sI (sR (iX2_init_26 (sR (iX1_init_18 (sR (iX1_init_10 (sR (sR (iX6_init_6 (sR (iX6_init_3 (sR σ 1 0 2)) 1 2 3)) 1 3 6) 1 4 9)) 1 5 10)) 1 6 18)) 1 7 26) 1 8 (1 : Int32)) 1 9 28) 1 10 29) 1 11 30)) 1 12 31)) 1 13 58)) 9 0 64)) 9 1 67) 1 4 = 9 from rfl, rv_pos g (by decide)])) dX7_init_133 ?_
  refine r_iload_n (pc := 136) (j := 0) dX7_init_136 rfl rfl ?_
  refine r_new (pc := 137) (n := 69) (ci := 6) (by decide) rfl (by decide) rfl inG6 tyX6_ok (by decide +kernel) rfl hZ132 tw_1_25 tw_1_26 tw_1_2 ⟨nle rfl, nle rfl⟩ dX7_init_137 ?_
  refine r_dup (pc := 140) dX7_init_140 rfl ?_
  refine r_callIN (pc := 141) (N := mX6_init) (n1 := 72) ct141_95.1 (List.mem_of_getElem? (i := 0) rfl) rfl rfl tw_1_29 tw_1_2 tw_1_28 ⟨by decide, by decide, rfl⟩ ⟨nle rfl, nle rfl⟩ (nle rfl) dX7_init_141 ⟨nle rfl, nle rfl⟩ ?_
  change RR _ _ _ (72, 71, 19545) _ _ _ _
  refine r_aast (pc := 144) (c0 := 9) (c1 := 70) (n0 := 3) rfl (by decide) rfl (by decide) (by decide) (by decide) dX7_init_144 ?_
  change RR _ _ _ _ _ _ _ (sR (iX6_init_70 (sR (iX6_init_67 (sR (iX6_init_64 (sR (iX4_init_58 (sR (iX3_init_31 (sR (sR (sR (sI (sR (iX2_init_26 (sR (iX1_init_18 (sR (iX1_init_10 (sR (sR (iX6_init_6 (sR (iX6_init_3 (sR σ 1 0 2)) 1 2 3)) 1 3 6) 1 4 9)) 1 5 10)) 1 6 18)) 1 7 26) 1 8 (1 : Int32)) 1 9 28) 1 10 29) 1 11 30)) 1 12 31)) 1 13 58)) 9 0 64)) 9 1 67)) 9 2 70)
  refine r_iinc (pc := 145) (j := 0) (v := (3 : Int32)) (ls1 := [(1, .int (3 : Int32)), (0, .ref (ad g 1))]) dX7_init_145 rfl (by decide) (nle rfl) rfl ?_
  refine r_goto (pc := 148) (tgt := 127) dX7_init_148 rfl ?_
  refine r_iload_n (pc := 127) (j := 0) dX7_init_127 rfl rfl ?_
  refine r_iconst (pc := 128) (v := (3 : Int32)) dX7_init_128 rfl ?_
  refine r_icmp_ge (pc := 129) (tgt := 151) dX7_init_129 rfl (fun _ => ?_) (fun h => absurd (by decide) h)
  refine r_iconst (pc := 151) (v := (0 : Int32)) dX7_init_151 rfl ?_
  refine r_istore_n (pc := 152) (ls1 := [(1, .int (0 : Int32)), (0, .ref (ad g 1))]) dX7_init_152 rfl (nle rfl) rfl ?_
  refine r_iload_n (pc := 153) (j := 0) dX7_init_153 rfl rfl ?_
  refine r_iconst (pc := 154) (v := (4 : Int32)) dX7_init_154 rfl ?_
  refine r_icmp_ge (pc := 155) (tgt := 200) dX7_init_155 rfl (fun h => absurd h (by decide)) (fun _ => ?_)
  refine r_aload_n (pc := 158) (j := 1) dX7_init_158 rfl rfl ?_
  refine r_getf (pc := 159) (c0 := 1) (ci := 7) (C := RX7) (T := TX7) (N := 14) (kf := 9) (n := 0) (v := .ref (ad g 28)) rfl inG7 (by decide) rfl tw_2_112 rfl (by decide) (by decide) ((fldsC_at (by decide)).trans (by show some (rv g (gR (sR (iX6_init_70 (sR (iX6_init_67 (sR (iX6_init_64 (sR (iX4_init_58 (sR (iX3_init_31 (sR (sR (sR (sI (sR (iX2_init_26 (sR (iX1_init_18 (sR (iX1_init_10 (sR (sR (iX6_init_6 (sR (iX6_init_3 (sR σ 1 0 2)) 1 2 3)) 1 3 6) 1 4 9)) 1 5 10)) 1 6 18)) 1 7 26) 1 8 (1 : Int32)) 1 9 28) 1 10 29) 1 11 30)) 1 12 31)) 1 13 58)) 9 0 64)) 9 1 67)) 9 2 70) 1 9)) = _; rw [show gR (sR (iX6_init_70 (sR (iX6_init_67 (sR (iX6_init_64 (sR (iX4_init_58 (sR (iX3_init_31 (sR (sR (sR (sI (sR (iX2_init_26 (sR (iX1_init_18 (sR (iX1_init_10 (sR (sR (iX6_init_6 (sR (iX6_init_3 (sR σ 1 0 2)) 1 2 3)) 1 3 6) 1 4 9)) 1 5 10)) 1 6 18)) 1 7 26) 1 8 (1 : Int32)) 1 9 28) 1 10 29) 1 11 30)) 1 12 31)) 1 13 58)) 9 0 64)) 9 1 67)) 9 2 70) 1 9 = 28 from rfl, rv_pos g (by decide)])) dX7_init_159 ?_
  refine r_iload_n (pc := 162) (j := 0) dX7_init_162 rfl rfl ?_
  refine r_iload_n (pc := 163) (j := 0) dX7_init_163 rfl rfl ?_
  refine r_iconst (pc := 164) (v := (2 : Int32)) dX7_init_164 rfl ?_
  refine r_irem (pc := 165) dX7_init_165 (by decide) ?_
  rw [show irm (0 : Int32) (2 : Int32) = (0 : Int32) by decide +kernel]
  refine r_if_ne (pc := 166) (tgt := 173) dX7_init_166 rfl (fun h => absurd rfl h) (fun _ => ?_)
  refine r_iconst (pc := 169) (v := (3 : Int32)) dX7_init_169 rfl ?_
  refine r_goto (pc := 170) (tgt := 175) dX7_init_170 rfl ?_
  refine r_iast (pc := 175) (c0 := 28) (n := 4) rfl (by decide) (by decide) dX7_init_175 ?_
  change RR _ _ _ _ _ _ _ (sI (sR (iX6_init_70 (sR (iX6_init_67 (sR (iX6_init_64 (sR (iX4_init_58 (sR (iX3_init_31 (sR (sR (sR (sI (sR (iX2_init_26 (sR (iX1_init_18 (sR (iX1_init_10 (sR (sR (iX6_init_6 (sR (iX6_init_3 (sR σ 1 0 2)) 1 2 3)) 1 3 6) 1 4 9)) 1 5 10)) 1 6 18)) 1 7 26) 1 8 (1 : Int32)) 1 9 28) 1 10 29) 1 11 30)) 1 12 31)) 1 13 58)) 9 0 64)) 9 1 67)) 9 2 70) 28 0 (3 : Int32))
  refine r_aload_n (pc := 176) (j := 1) dX7_init_176 rfl rfl ?_
  refine r_getf (pc := 177) (c0 := 1) (ci := 7) (C := RX7) (T := TX7) (N := 14) (kf := 10) (n := 0) (v := .ref (ad g 29)) rfl inG7 (by decide) rfl tw_2_113 rfl (by decide) (by decide) ((fldsC_at (by decide)).trans (by show some (rv g (gR (sI (sR (iX6_init_70 (sR (iX6_init_67 (sR (iX6_init_64 (sR (iX4_init_58 (sR (iX3_init_31 (sR (sR (sR (sI (sR (iX2_init_26 (sR (iX1_init_18 (sR (iX1_init_10 (sR (sR (iX6_init_6 (sR (iX6_init_3 (sR σ 1 0 2)) 1 2 3)) 1 3 6) 1 4 9)) 1 5 10)) 1 6 18)) 1 7 26) 1 8 (1 : Int32)) 1 9 28) 1 10 29) 1 11 30)) 1 12 31)) 1 13 58)) 9 0 64)) 9 1 67)) 9 2 70) 28 0 (3 : Int32)) 1 10)) = _; rw [show gR (sI (sR (iX6_init_70 (sR (iX6_init_67 (sR (iX6_init_64 (sR (iX4_init_58 (sR (iX3_init_31 (sR (sR (sR (sI (sR (iX2_init_26 (sR (iX1_init_18 (sR (iX1_init_10 (sR (sR (iX6_init_6 (sR (iX6_init_3 (sR σ 1 0 2)) 1 2 3)) 1 3 6) 1 4 9)) 1 5 10)) 1 6 18)) 1 7 26) 1 8 (1 : Int32)) 1 9 28) 1 10 29) 1 11 30)) 1 12 31)) 1 13 58)) 9 0 64)) 9 1 67)) 9 2 70) 28 0 (3 : Int32)) 1 10 = 29 from rfl, rv_pos g (by decide)])) dX7_init_177 ?_
  refine r_iload_n (pc := 180) (j := 0) dX7_init_180 rfl rfl ?_
  refine r_iload_n (pc := 181) (j := 0) dX7_init_181 rfl rfl ?_
  refine r_iconst (pc := 182) (v := (2 : Int32)) dX7_init_182 rfl ?_
  refine r_idiv (pc := 183) dX7_init_183 (by decide) ?_
  rw [show (0 : Int32) / (2 : Int32) = (0 : Int32) by decide +kernel]
  refine r_if_ne (pc := 184) (tgt := 191) dX7_init_184 rfl (fun h => absurd rfl h) (fun _ => ?_)
  refine r_iconst (pc := 187) (v := (3 : Int32)) dX7_init_187 rfl ?_
  refine r_goto (pc := 188) (tgt := 193) dX7_init_188 rfl ?_
  refine r_iast (pc := 193) (c0 := 29) (n := 4) rfl (by decide) (by decide) dX7_init_193 ?_
  change RR _ _ _ _ _ _ _ (sI (sI (sR (iX6_init_70 (sR (iX6_init_67 (sR (iX6_init_64 (sR (iX4_init_58 (sR (iX3_init_31 (sR (sR (sR (sI (sR (iX2_init_26 (sR (iX1_init_18 (sR (iX1_init_10 (sR (sR (iX6_init_6 (sR (iX6_init_3 (sR σ 1 0 2)) 1 2 3)) 1 3 6) 1 4 9)) 1 5 10)) 1 6 18)) 1 7 26) 1 8 (1 : Int32)) 1 9 28) 1 10 29) 1 11 30)) 1 12 31)) 1 13 58)) 9 0 64)) 9 1 67)) 9 2 70) 28 0 (3 : Int32)) 29 0 (3 : Int32))
  refine r_iinc (pc := 194) (j := 0) (v := (1 : Int32)) (ls1 := [(1, .int (1 : Int32)), (0, .ref (ad g 1))]) dX7_init_194 rfl (by decide) (nle rfl) rfl ?_
  refine r_goto (pc := 197) (tgt := 153) dX7_init_197 rfl ?_
  refine r_iload_n (pc := 153) (j := 0) dX7_init_153 rfl rfl ?_
  refine r_iconst (pc := 154) (v := (4 : Int32)) dX7_init_154 rfl ?_
  refine r_icmp_ge (pc := 155) (tgt := 200) dX7_init_155 rfl (fun h => absurd h (by decide)) (fun _ => ?_)
  refine r_aload_n (pc := 158) (j := 1) dX7_init_158 rfl rfl ?_
  refine r_getf (pc := 159) (c0 := 1) (ci := 7) (C := RX7) (T := TX7) (N := 14) (kf := 9) (n := 0) (v := .ref (ad g 28)) rfl inG7 (by decide) rfl tw_2_112 rfl (by decide) (by decide) ((fldsC_at (by decide)).trans (by show some (rv g (gR (sI (sI (sR (iX6_init_70 (sR (iX6_init_67 (sR (iX6_init_64 (sR (iX4_init_58 (sR (iX3_init_31 (sR (sR (sR (sI (sR (iX2_init_26 (sR (iX1_init_18 (sR (iX1_init_10 (sR (sR (iX6_init_6 (sR (iX6_init_3 (sR σ 1 0 2)) 1 2 3)) 1 3 6) 1 4 9)) 1 5 10)) 1 6 18)) 1 7 26) 1 8 (1 : Int32)) 1 9 28) 1 10 29) 1 11 30)) 1 12 31)) 1 13 58)) 9 0 64)) 9 1 67)) 9 2 70) 28 0 (3 : Int32)) 29 0 (3 : Int32)) 1 9)) = _; rw [show gR (sI (sI (sR (iX6_init_70 (sR (iX6_init_67 (sR (iX6_init_64 (sR (iX4_init_58 (sR (iX3_init_31 (sR (sR (sR (sI (sR (iX2_init_26 (sR (iX1_init_18 (sR (iX1_init_10 (sR (sR (iX6_init_6 (sR (iX6_init_3 (sR σ 1 0 2)) 1 2 3)) 1 3 6) 1 4 9)) 1 5 10)) 1 6 18)) 1 7 26) 1 8 (1 : Int32)) 1 9 28) 1 10 29) 1 11 30)) 1 12 31)) 1 13 58)) 9 0 64)) 9 1 67)) 9 2 70) 28 0 (3 : Int32)) 29 0 (3 : Int32)) 1 9 = 28 from rfl, rv_pos g (by decide)])) dX7_init_159 ?_
  refine r_iload_n (pc := 162) (j := 0) dX7_init_162 rfl rfl ?_
  refine r_iload_n (pc := 163) (j := 0) dX7_init_163 rfl rfl ?_
  refine r_iconst (pc := 164) (v := (2 : Int32)) dX7_init_164 rfl ?_
  refine r_irem (pc := 165) dX7_init_165 (by decide) ?_
  rw [show irm (1 : Int32) (2 : Int32) = (1 : Int32) by decide +kernel]
  refine r_if_ne (pc := 166) (tgt := 173) dX7_init_166 rfl (fun _ => ?_) (fun h => absurd h (by decide))
  refine r_bipush (pc := 173) (v := (20 : Int32)) dX7_init_173 rfl ?_
  refine r_iast (pc := 175) (c0 := 28) (n := 4) rfl (by decide) (by decide) dX7_init_175 ?_
  change RR _ _ _ _ _ _ _ (sI (sI (sI (sR (iX6_init_70 (sR (iX6_init_67 (sR (iX6_init_64 (sR (iX4_init_58 (sR (iX3_init_31 (sR (sR (sR (sI (sR (iX2_init_26 (sR (iX1_init_18 (sR (iX1_init_10 (sR (sR (iX6_init_6 (sR (iX6_init_3 (sR σ 1 0 2)) 1 2 3)) 1 3 6) 1 4 9)) 1 5 10)) 1 6 18)) 1 7 26) 1 8 (1 : Int32)) 1 9 28) 1 10 29) 1 11 30)) 1 12 31)) 1 13 58)) 9 0 64)) 9 1 67)) 9 2 70) 28 0 (3 : Int32)) 29 0 (3 : Int32)) 28 1 (20 : Int32))
  refine r_aload_n (pc := 176) (j := 1) dX7_init_176 rfl rfl ?_
  refine r_getf (pc := 177) (c0 := 1) (ci := 7) (C := RX7) (T := TX7) (N := 14) (kf := 10) (n := 0) (v := .ref (ad g 29)) rfl inG7 (by decide) rfl tw_2_113 rfl (by decide) (by decide) ((fldsC_at (by decide)).trans (by show some (rv g (gR (sI (sI (sI (sR (iX6_init_70 (sR (iX6_init_67 (sR (iX6_init_64 (sR (iX4_init_58 (sR (iX3_init_31 (sR (sR (sR (sI (sR (iX2_init_26 (sR (iX1_init_18 (sR (iX1_init_10 (sR (sR (iX6_init_6 (sR (iX6_init_3 (sR σ 1 0 2)) 1 2 3)) 1 3 6) 1 4 9)) 1 5 10)) 1 6 18)) 1 7 26) 1 8 (1 : Int32)) 1 9 28) 1 10 29) 1 11 30)) 1 12 31)) 1 13 58)) 9 0 64)) 9 1 67)) 9 2 70) 28 0 (3 : Int32)) 29 0 (3 : Int32)) 28 1 (20 : Int32)) 1 10)) = _; rw [show gR (sI (sI (sI (sR (iX6_init_70 (sR (iX6_init_67 (sR (iX6_init_64 (sR (iX4_init_58 (sR (iX3_init_31 (sR (sR (sR (sI (sR (iX2_init_26 (sR (iX1_init_18 (sR (iX1_init_10 (sR (sR (iX6_init_6 (sR (iX6_init_3 (sR σ 1 0 2)) 1 2 3)) 1 3 6) 1 4 9)) 1 5 10)) 1 6 18)) 1 7 26) 1 8 (1 : Int32)) 1 9 28) 1 10 29) 1 11 30)) 1 12 31)) 1 13 58)) 9 0 64)) 9 1 67)) 9 2 70) 28 0 (3 : Int32)) 29 0 (3 : Int32)) 28 1 (20 : Int32)) 1 10 = 29 from rfl, rv_pos g (by decide)])) dX7_init_177 ?_
  refine r_iload_n (pc := 180) (j := 0) dX7_init_180 rfl rfl ?_
  refine r_iload_n (pc := 181) (j := 0) dX7_init_181 rfl rfl ?_
  refine r_iconst (pc := 182) (v := (2 : Int32)) dX7_init_182 rfl ?_
  refine r_idiv (pc := 183) dX7_init_183 (by decide) ?_
  rw [show (1 : Int32) / (2 : Int32) = (0 : Int32) by decide +kernel]
  refine r_if_ne (pc := 184) (tgt := 191) dX7_init_184 rfl (fun h => absurd rfl h) (fun _ => ?_)
  refine r_iconst (pc := 187) (v := (3 : Int32)) dX7_init_187 rfl ?_
  refine r_goto (pc := 188) (tgt := 193) dX7_init_188 rfl ?_
  refine r_iast (pc := 193) (c0 := 29) (n := 4) rfl (by decide) (by decide) dX7_init_193 ?_
  change RR _ _ _ _ _ _ _ (sI (sI (sI (sI (sR (iX6_init_70 (sR (iX6_init_67 (sR (iX6_init_64 (sR (iX4_init_58 (sR (iX3_init_31 (sR (sR (sR (sI (sR (iX2_init_26 (sR (iX1_init_18 (sR (iX1_init_10 (sR (sR (iX6_init_6 (sR (iX6_init_3 (sR σ 1 0 2)) 1 2 3)) 1 3 6) 1 4 9)) 1 5 10)) 1 6 18)) 1 7 26) 1 8 (1 : Int32)) 1 9 28) 1 10 29) 1 11 30)) 1 12 31)) 1 13 58)) 9 0 64)) 9 1 67)) 9 2 70) 28 0 (3 : Int32)) 29 0 (3 : Int32)) 28 1 (20 : Int32)) 29 1 (3 : Int32))
  refine r_iinc (pc := 194) (j := 0) (v := (2 : Int32)) (ls1 := [(1, .int (2 : Int32)), (0, .ref (ad g 1))]) dX7_init_194 rfl (by decide) (nle rfl) rfl ?_
  refine r_goto (pc := 197) (tgt := 153) dX7_init_197 rfl ?_
  refine r_iload_n (pc := 153) (j := 0) dX7_init_153 rfl rfl ?_
  refine r_iconst (pc := 154) (v := (4 : Int32)) dX7_init_154 rfl ?_
  refine r_icmp_ge (pc := 155) (tgt := 200) dX7_init_155 rfl (fun h => absurd h (by decide)) (fun _ => ?_)
  refine r_aload_n (pc := 158) (j := 1) dX7_init_158 rfl rfl ?_
  refine r_getf (pc := 159) (c0 := 1) (ci := 7) (C := RX7) (T := TX7) (N := 14) (kf := 9) (n := 0) (v := .ref (ad g 28)) rfl inG7 (by decide) rfl tw_2_112 rfl (by decide) (by decide) ((fldsC_at (by decide)).trans (by show some (rv g (gR (sI (sI (sI (sI (sR (iX6_init_70 (sR (iX6_init_67 (sR (iX6_init_64 (sR (iX4_init_58 (sR (iX3_init_31 (sR (sR (sR (sI (sR (iX2_init_26 (sR (iX1_init_18 (sR (iX1_init_10 (sR (sR (iX6_init_6 (sR (iX6_init_3 (sR σ 1 0 2)) 1 2 3)) 1 3 6) 1 4 9)) 1 5 10)) 1 6 18)) 1 7 26) 1 8 (1 : Int32)) 1 9 28) 1 10 29) 1 11 30)) 1 12 31)) 1 13 58)) 9 0 64)) 9 1 67)) 9 2 70) 28 0 (3 : Int32)) 29 0 (3 : Int32)) 28 1 (20 : Int32)) 29 1 (3 : Int32)) 1 9)) = _; rw [show gR (sI (sI (sI (sI (sR (iX6_init_70 (sR (iX6_init_67 (sR (iX6_init_64 (sR (iX4_init_58 (sR (iX3_init_31 (sR (sR (sR (sI (sR (iX2_init_26 (sR (iX1_init_18 (sR (iX1_init_10 (sR (sR (iX6_init_6 (sR (iX6_init_3 (sR σ 1 0 2)) 1 2 3)) 1 3 6) 1 4 9)) 1 5 10)) 1 6 18)) 1 7 26) 1 8 (1 : Int32)) 1 9 28) 1 10 29) 1 11 30)) 1 12 31)) 1 13 58)) 9 0 64)) 9 1 67)) 9 2 70) 28 0 (3 : Int32)) 29 0 (3 : Int32)) 28 1 (20 : Int32)) 29 1 (3 : Int32)) 1 9 = 28 from rfl, rv_pos g (by decide)])) dX7_init_159 ?_
  refine r_iload_n (pc := 162) (j := 0) dX7_init_162 rfl rfl ?_
  refine r_iload_n (pc := 163) (j := 0) dX7_init_163 rfl rfl ?_
  refine r_iconst (pc := 164) (v := (2 : Int32)) dX7_init_164 rfl ?_
  refine r_irem (pc := 165) dX7_init_165 (by decide) ?_
  rw [show irm (2 : Int32) (2 : Int32) = (0 : Int32) by decide +kernel]
  refine r_if_ne (pc := 166) (tgt := 173) dX7_init_166 rfl (fun h => absurd rfl h) (fun _ => ?_)
  refine r_iconst (pc := 169) (v := (3 : Int32)) dX7_init_169 rfl ?_
  refine r_goto (pc := 170) (tgt := 175) dX7_init_170 rfl ?_
  refine r_iast (pc := 175) (c0 := 28) (n := 4) rfl (by decide) (by decide) dX7_init_175 ?_
  change RR _ _ _ _ _ _ _ (sI (sI (sI (sI (sI (sR (iX6_init_70 (sR (iX6_init_67 (sR (iX6_init_64 (sR (iX4_init_58 (sR (iX3_init_31 (sR (sR (sR (sI (sR (iX2_init_26 (sR (iX1_init_18 (sR (iX1_init_10 (sR (sR (iX6_init_6 (sR (iX6_init_3 (sR σ 1 0 2)) 1 2 3)) 1 3 6) 1 4 9)) 1 5 10)) 1 6 18)) 1 7 26) 1 8 (1 : Int32)) 1 9 28) 1 10 29) 1 11 30)) 1 12 31)) 1 13 58)) 9 0 64)) 9 1 67)) 9 2 70) 28 0 (3 : Int32)) 29 0 (3 : Int32)) 28 1 (20 : Int32)) 29 1 (3 : Int32)) 28 2 (3 : Int32))
  refine r_aload_n (pc := 176) (j := 1) dX7_init_176 rfl rfl ?_
  refine r_getf (pc := 177) (c0 := 1) (ci := 7) (C := RX7) (T := TX7) (N := 14) (kf := 10) (n := 0) (v := .ref (ad g 29)) rfl inG7 (by decide) rfl tw_2_113 rfl (by decide) (by decide) ((fldsC_at (by decide)).trans (by show some (rv g (gR (sI (sI (sI (sI (sI (sR (iX6_init_70 (sR (iX6_init_67 (sR (iX6_init_64 (sR (iX4_init_58 (sR (iX3_init_31 (sR (sR (sR (sI (sR (iX2_init_26 (sR (iX1_init_18 (sR (iX1_init_10 (sR (sR (iX6_init_6 (sR (iX6_init_3 (sR σ 1 0 2)) 1 2 3)) 1 3 6) 1 4 9)) 1 5 10)) 1 6 18)) 1 7 26) 1 8 (1 : Int32)) 1 9 28) 1 10 29) 1 11 30)) 1 12 31)) 1 13 58)) 9 0 64)) 9 1 67)) 9 2 70) 28 0 (3 : Int32)) 29 0 (3 : Int32)) 28 1 (20 : Int32)) 29 1 (3 : Int32)) 28 2 (3 : Int32)) 1 10)) = _; rw [show gR (sI (sI (sI (sI (sI (sR (iX6_init_70 (sR (iX6_init_67 (sR (iX6_init_64 (sR (iX4_init_58 (sR (iX3_init_31 (sR (sR (sR (sI (sR (iX2_init_26 (sR (iX1_init_18 (sR (iX1_init_10 (sR (sR (iX6_init_6 (sR (iX6_init_3 (sR σ 1 0 2)) 1 2 3)) 1 3 6) 1 4 9)) 1 5 10)) 1 6 18)) 1 7 26) 1 8 (1 : Int32)) 1 9 28) 1 10 29) 1 11 30)) 1 12 31)) 1 13 58)) 9 0 64)) 9 1 67)) 9 2 70) 28 0 (3 : Int32)) 29 0 (3 : Int32)) 28 1 (20 : Int32)) 29 1 (3 : Int32)) 28 2 (3 : Int32)) 1 10 = 29 from rfl, rv_pos g (by decide)])) dX7_init_177 ?_
  refine r_iload_n (pc := 180) (j := 0) dX7_init_180 rfl rfl ?_
  refine r_iload_n (pc := 181) (j := 0) dX7_init_181 rfl rfl ?_
  refine r_iconst (pc := 182) (v := (2 : Int32)) dX7_init_182 rfl ?_
  refine r_idiv (pc := 183) dX7_init_183 (by decide) ?_
  rw [show (2 : Int32) / (2 : Int32) = (1 : Int32) by decide +kernel]
  refine r_if_ne (pc := 184) (tgt := 191) dX7_init_184 rfl (fun _ => ?_) (fun h => absurd h (by decide))
  refine r_bipush (pc := 191) (v := (20 : Int32)) dX7_init_191 rfl ?_
  refine r_iast (pc := 193) (c0 := 29) (n := 4) rfl (by decide) (by decide) dX7_init_193 ?_
  change RR _ _ _ _ _ _ _ (sI (sI (sI (sI (sI (sI (sR (iX6_init_70 (sR (iX6_init_67 (sR (iX6_init_64 (sR (iX4_init_58 (sR (iX3_init_31 (sR (sR (sR (sI (sR (iX2_init_26 (sR (iX1_init_18 (sR (iX1_init_10 (sR (sR (iX6_init_6 (sR (iX6_init_3 (sR σ 1 0 2)) 1 2 3)) 1 3 6) 1 4 9)) 1 5 10)) 1 6 18)) 1 7 26) 1 8 (1 : Int32)) 1 9 28) 1 10 29) 1 11 30)) 1 12 31)) 1 13 58)) 9 0 64)) 9 1 67)) 9 2 70) 28 0 (3 : Int32)) 29 0 (3 : Int32)) 28 1 (20 : Int32)) 29 1 (3 : Int32)) 28 2 (3 : Int32)) 29 2 (20 : Int32))
  refine r_iinc (pc := 194) (j := 0) (v := (3 : Int32)) (ls1 := [(1, .int (3 : Int32)), (0, .ref (ad g 1))]) dX7_init_194 rfl (by decide) (nle rfl) rfl ?_
  refine r_goto (pc := 197) (tgt := 153) dX7_init_197 rfl ?_
  refine r_iload_n (pc := 153) (j := 0) dX7_init_153 rfl rfl ?_
  refine r_iconst (pc := 154) (v := (4 : Int32)) dX7_init_154 rfl ?_
  refine r_icmp_ge (pc := 155) (tgt := 200) dX7_init_155 rfl (fun h => absurd h (by decide)) (fun _ => ?_)
  refine r_aload_n (pc := 158) (j := 1) dX7_init_158 rfl rfl ?_
  refine r_getf (pc := 159) (c0 := 1) (ci := 7) (C := RX7) (T := TX7) (N := 14) (kf := 9) (n := 0) (v := .ref (ad g 28)) rfl inG7 (by decide) rfl tw_2_112 rfl (by decide) (by decide) ((fldsC_at (by decide)).trans (by show some (rv g (gR (sI (sI (sI (sI (sI (sI (sR (iX6_init_70 (sR (iX6_init_67 (sR (iX6_init_64 (sR (iX4_init_58 (sR (iX3_init_31 (sR (sR (sR (sI (sR (iX2_init_26 (sR (iX1_init_18 (sR (iX1_init_10 (sR (sR (iX6_init_6 (sR (iX6_init_3 (sR σ 1 0 2)) 1 2 3)) 1 3 6) 1 4 9)) 1 5 10)) 1 6 18)) 1 7 26) 1 8 (1 : Int32)) 1 9 28) 1 10 29) 1 11 30)) 1 12 31)) 1 13 58)) 9 0 64)) 9 1 67)) 9 2 70) 28 0 (3 : Int32)) 29 0 (3 : Int32)) 28 1 (20 : Int32)) 29 1 (3 : Int32)) 28 2 (3 : Int32)) 29 2 (20 : Int32)) 1 9)) = _; rw [show gR (sI (sI (sI (sI (sI (sI (sR (iX6_init_70 (sR (iX6_init_67 (sR (iX6_init_64 (sR (iX4_init_58 (sR (iX3_init_31 (sR (sR (sR (sI (sR (iX2_init_26 (sR (iX1_init_18 (sR (iX1_init_10 (sR (sR (iX6_init_6 (sR (iX6_init_3 (sR σ 1 0 2)) 1 2 3)) 1 3 6) 1 4 9)) 1 5 10)) 1 6 18)) 1 7 26) 1 8 (1 : Int32)) 1 9 28) 1 10 29) 1 11 30)) 1 12 31)) 1 13 58)) 9 0 64)) 9 1 67)) 9 2 70) 28 0 (3 : Int32)) 29 0 (3 : Int32)) 28 1 (20 : Int32)) 29 1 (3 : Int32)) 28 2 (3 : Int32)) 29 2 (20 : Int32)) 1 9 = 28 from rfl, rv_pos g (by decide)])) dX7_init_159 ?_
  refine r_iload_n (pc := 162) (j := 0) dX7_init_162 rfl rfl ?_
  refine r_iload_n (pc := 163) (j := 0) dX7_init_163 rfl rfl ?_
  refine r_iconst (pc := 164) (v := (2 : Int32)) dX7_init_164 rfl ?_
  refine r_irem (pc := 165) dX7_init_165 (by decide) ?_
  rw [show irm (3 : Int32) (2 : Int32) = (1 : Int32) by decide +kernel]
  refine r_if_ne (pc := 166) (tgt := 173) dX7_init_166 rfl (fun _ => ?_) (fun h => absurd h (by decide))
  refine r_bipush (pc := 173) (v := (20 : Int32)) dX7_init_173 rfl ?_
  refine r_iast (pc := 175) (c0 := 28) (n := 4) rfl (by decide) (by decide) dX7_init_175 ?_
  change RR _ _ _ _ _ _ _ (sI (sI (sI (sI (sI (sI (sI (sR (iX6_init_70 (sR (iX6_init_67 (sR (iX6_init_64 (sR (iX4_init_58 (sR (iX3_init_31 (sR (sR (sR (sI (sR (iX2_init_26 (sR (iX1_init_18 (sR (iX1_init_10 (sR (sR (iX6_init_6 (sR (iX6_init_3 (sR σ 1 0 2)) 1 2 3)) 1 3 6) 1 4 9)) 1 5 10)) 1 6 18)) 1 7 26) 1 8 (1 : Int32)) 1 9 28) 1 10 29) 1 11 30)) 1 12 31)) 1 13 58)) 9 0 64)) 9 1 67)) 9 2 70) 28 0 (3 : Int32)) 29 0 (3 : Int32)) 28 1 (20 : Int32)) 29 1 (3 : Int32)) 28 2 (3 : Int32)) 29 2 (20 : Int32)) 28 3 (20 : Int32))
  refine r_aload_n (pc := 176) (j := 1) dX7_init_176 rfl rfl ?_
  refine r_getf (pc := 177) (c0 := 1) (ci := 7) (C := RX7) (T := TX7) (N := 14) (kf := 10) (n := 0) (v := .ref (ad g 29)) rfl inG7 (by decide) rfl tw_2_113 rfl (by decide) (by decide) ((fldsC_at (by decide)).trans (by show some (rv g (gR (sI (sI (sI (sI (sI (sI (sI (sR (iX6_init_70 (sR (iX6_init_67 (sR (iX6_init_64 (sR (iX4_init_58 (sR (iX3_init_31 (sR (sR (sR (sI (sR (iX2_init_26 (sR (iX1_init_18 (sR (iX1_init_10 (sR (sR (iX6_init_6 (sR (iX6_init_3 (sR σ 1 0 2)) 1 2 3)) 1 3 6) 1 4 9)) 1 5 10)) 1 6 18)) 1 7 26) 1 8 (1 : Int32)) 1 9 28) 1 10 29) 1 11 30)) 1 12 31)) 1 13 58)) 9 0 64)) 9 1 67)) 9 2 70) 28 0 (3 : Int32)) 29 0 (3 : Int32)) 28 1 (20 : Int32)) 29 1 (3 : Int32)) 28 2 (3 : Int32)) 29 2 (20 : Int32)) 28 3 (20 : Int32)) 1 10)) = _; rw [show gR (sI (sI (sI (sI (sI (sI (sI (sR (iX6_init_70 (sR (iX6_init_67 (sR (iX6_init_64 (sR (iX4_init_58 (sR (iX3_init_31 (sR (sR (sR (sI (sR (iX2_init_26 (sR (iX1_init_18 (sR (iX1_init_10 (sR (sR (iX6_init_6 (sR (iX6_init_3 (sR σ 1 0 2)) 1 2 3)) 1 3 6) 1 4 9)) 1 5 10)) 1 6 18)) 1 7 26) 1 8 (1 : Int32)) 1 9 28) 1 10 29) 1 11 30)) 1 12 31)) 1 13 58)) 9 0 64)) 9 1 67)) 9 2 70) 28 0 (3 : Int32)) 29 0 (3 : Int32)) 28 1 (20 : Int32)) 29 1 (3 : Int32)) 28 2 (3 : Int32)) 29 2 (20 : Int32)) 28 3 (20 : Int32)) 1 10 = 29 from rfl, rv_pos g (by decide)])) dX7_init_177 ?_
  refine r_iload_n (pc := 180) (j := 0) dX7_init_180 rfl rfl ?_
  refine r_iload_n (pc := 181) (j := 0) dX7_init_181 rfl rfl ?_
  refine r_iconst (pc := 182) (v := (2 : Int32)) dX7_init_182 rfl ?_
  refine r_idiv (pc := 183) dX7_init_183 (by decide) ?_
  rw [show (3 : Int32) / (2 : Int32) = (1 : Int32) by decide +kernel]
  refine r_if_ne (pc := 184) (tgt := 191) dX7_init_184 rfl (fun _ => ?_) (fun h => absurd h (by decide))
  refine r_bipush (pc := 191) (v := (20 : Int32)) dX7_init_191 rfl ?_
  refine r_iast (pc := 193) (c0 := 29) (n := 4) rfl (by decide) (by decide) dX7_init_193 ?_
  change RR _ _ _ _ _ _ _ (sI (sI (sI (sI (sI (sI (sI (sI (sR (iX6_init_70 (sR (iX6_init_67 (sR (iX6_init_64 (sR (iX4_init_58 (sR (iX3_init_31 (sR (sR (sR (sI (sR (iX2_init_26 (sR (iX1_init_18 (sR (iX1_init_10 (sR (sR (iX6_init_6 (sR (iX6_init_3 (sR σ 1 0 2)) 1 2 3)) 1 3 6) 1 4 9)) 1 5 10)) 1 6 18)) 1 7 26) 1 8 (1 : Int32)) 1 9 28) 1 10 29) 1 11 30)) 1 12 31)) 1 13 58)) 9 0 64)) 9 1 67)) 9 2 70) 28 0 (3 : Int32)) 29 0 (3 : Int32)) 28 1 (20 : Int32)) 29 1 (3 : Int32)) 28 2 (3 : Int32)) 29 2 (20 : Int32)) 28 3 (20 : Int32)) 29 3 (20 : Int32))
  refine r_iinc (pc := 194) (j := 0) (v := (4 : Int32)) (ls1 := [(1, .int (4 : Int32)), (0, .ref (ad g 1))]) dX7_init_194 rfl (by decide) (nle rfl) rfl ?_
  refine r_goto (pc := 197) (tgt := 153) dX7_init_197 rfl ?_
  refine r_iload_n (pc := 153) (j := 0) dX7_init_153 rfl rfl ?_
  refine r_iconst (pc := 154) (v := (4 : Int32)) dX7_init_154 rfl ?_
  refine r_icmp_ge (pc := 155) (tgt := 200) dX7_init_155 rfl (fun _ => ?_) (fun h => absurd (by decide) h)
  refine r_aload_n (pc := 200) (j := 1) dX7_init_200 rfl rfl ?_
  refine r_getf (pc := 201) (c0 := 1) (ci := 7) (C := RX7) (T := TX7) (N := 14) (kf := 2) (n := 0) (v := .ref (ad g 3)) rfl inG7 (by decide) rfl tw_2_105 rfl (by decide) (by decide) ((fldsC_at (by decide)).trans (by show some (rv g (gR (sI (sI (sI (sI (sI (sI (sI (sI (sR (iX6_init_70 (sR (iX6_init_67 (sR (iX6_init_64 (sR (iX4_init_58 (sR (iX3_init_31 (sR (sR (sR (sI (sR (iX2_init_26 (sR (iX1_init_18 (sR (iX1_init_10 (sR (sR (iX6_init_6 (sR (iX6_init_3 (sR σ 1 0 2)) 1 2 3)) 1 3 6) 1 4 9)) 1 5 10)) 1 6 18)) 1 7 26) 1 8 (1 : Int32)) 1 9 28) 1 10 29) 1 11 30)) 1 12 31)) 1 13 58)) 9 0 64)) 9 1 67)) 9 2 70) 28 0 (3 : Int32)) 29 0 (3 : Int32)) 28 1 (20 : Int32)) 29 1 (3 : Int32)) 28 2 (3 : Int32)) 29 2 (20 : Int32)) 28 3 (20 : Int32)) 29 3 (20 : Int32)) 1 2)) = _; rw [show gR (sI (sI (sI (sI (sI (sI (sI (sI (sR (iX6_init_70 (sR (iX6_init_67 (sR (iX6_init_64 (sR (iX4_init_58 (sR (iX3_init_31 (sR (sR (sR (sI (sR (iX2_init_26 (sR (iX1_init_18 (sR (iX1_init_10 (sR (sR (iX6_init_6 (sR (iX6_init_3 (sR σ 1 0 2)) 1 2 3)) 1 3 6) 1 4 9)) 1 5 10)) 1 6 18)) 1 7 26) 1 8 (1 : Int32)) 1 9 28) 1 10 29) 1 11 30)) 1 12 31)) 1 13 58)) 9 0 64)) 9 1 67)) 9 2 70) 28 0 (3 : Int32)) 29 0 (3 : Int32)) 28 1 (20 : Int32)) 29 1 (3 : Int32)) 28 2 (3 : Int32)) 29 2 (20 : Int32)) 28 3 (20 : Int32)) 29 3 (20 : Int32)) 1 2 = 3 from rfl, rv_pos g (by decide)])) dX7_init_201 ?_
  refine r_bipush (pc := 204) (v := (24 : Int32)) dX7_init_204 rfl ?_
  refine r_bipush (pc := 206) (v := (24 : Int32)) dX7_init_206 rfl ?_
  refine r_callV (pc := 208) (N := mX6_empty) (nn := 2) (n1 := 72) (o1 := none) (As := [.int (24 : Int32), .int (24 : Int32)]) ct208.1 (ci := 6) (rfl : shp 3 = (6, 0)) (by decide) (by decide) rfl rfl tw_2_99 tw_1_2 tw_2_96 tw_2_97 tw_2_98 ⟨by decide, by decide, rfl⟩ ⟨nle rfl, nle rfl⟩ rfl (nle rfl) dX7_init_208 ⟨nle rfl, nle rfl⟩ rfl fun _ => ?_
  change RR _ _ _ (72, 71, 19545) _ _ _ _
  exact r_vret (pc := 211) rfl rfl ⟨Nat.le_refl _, Nat.le_refl _⟩ dX7_init_211

