theorem dX0_init_0 : decode cX0_init 0 = .ok (.aload_n 0, 1) := by decide +kernel
theorem dX0_init_1 : decode cX0_init 1 = .ok (.invokespecial 3, 3) := by decide +kernel
theorem dX0_init_4 : decode cX0_init 4 = .ok (.aload_n 0, 1) := by decide +kernel
theorem dX0_init_5 : decode cX0_init 5 = .ok (.sipush 300, 3) := by decide +kernel
theorem dX0_init_8 : decode cX0_init 8 = .ok (.newarray .int, 2) := by decide +kernel
theorem dX0_init_10 : decode cX0_init 10 = .ok (.putfield 9, 3) := by decide +kernel
theorem dX0_init_13 : decode cX0_init 13 = .ok (.aload_n 0, 1) := by decide +kernel
theorem dX0_init_14 : decode cX0_init 14 = .ok (.iconst 0, 1) := by decide +kernel
theorem dX0_init_15 : decode cX0_init 15 = .ok (.putfield 15, 3) := by decide +kernel
theorem dX0_init_18 : decode cX0_init 18 = .ok (.aload_n 0, 1) := by decide +kernel
theorem dX0_init_19 : decode cX0_init 19 = .ok (.iconst 0, 1) := by decide +kernel
theorem dX0_init_20 : decode cX0_init 20 = .ok (.putfield 19, 3) := by decide +kernel
theorem dX0_init_23 : decode cX0_init 23 = .ok (.aload_n 0, 1) := by decide +kernel
theorem dX0_init_24 : decode cX0_init 24 = .ok (.iconst 0, 1) := by decide +kernel
theorem dX0_init_25 : decode cX0_init 25 = .ok (.putfield 22, 3) := by decide +kernel
theorem dX0_init_28 : decode cX0_init 28 = .ok (.aload_n 0, 1) := by decide +kernel
theorem dX0_init_29 : decode cX0_init 29 = .ok (.iconst 0, 1) := by decide +kernel
theorem dX0_init_30 : decode cX0_init 30 = .ok (.putfield 25, 3) := by decide +kernel
theorem dX0_init_33 : decode cX0_init 33 = .ok (.aload_n 0, 1) := by decide +kernel
theorem dX0_init_34 : decode cX0_init 34 = .ok (.iconst 0, 1) := by decide +kernel
theorem dX0_init_35 : decode cX0_init 35 = .ok (.putfield 28, 3) := by decide +kernel
theorem dX0_init_38 : decode cX0_init 38 = .ok (.aload_n 0, 1) := by decide +kernel
theorem dX0_init_39 : decode cX0_init 39 = .ok (.iconst 0, 1) := by decide +kernel
theorem dX0_init_40 : decode cX0_init 40 = .ok (.putfield 31, 3) := by decide +kernel
theorem dX0_init_43 : decode cX0_init 43 = .ok (.return_, 1) := by decide +kernel
theorem dX0_answer_0 : decode cX0_answer 0 = .ok (.iconst 0, 1) := by decide +kernel
theorem dX0_answer_1 : decode cX0_answer 1 = .ok (.istore_n 3, 1) := by decide +kernel
theorem dX0_answer_2 : decode cX0_answer 2 = .ok (.iconst 0, 1) := by decide +kernel
theorem dX0_answer_3 : decode cX0_answer 3 = .ok (.istore 4, 2) := by decide +kernel
theorem dX0_answer_5 : decode cX0_answer 5 = .ok (.iload 4, 2) := by decide +kernel
theorem dX0_answer_7 : decode cX0_answer 7 = .ok (.iload_n 2, 1) := by decide +kernel
theorem dX0_answer_8 : decode cX0_answer 8 = .ok (.if_icmp .ge 162, 3) := by decide +kernel
theorem dX0_answer_11 : decode cX0_answer 11 = .ok (.iload 4, 2) := by decide +kernel
theorem dX0_answer_13 : decode cX0_answer 13 = .ok (.aload_n 1, 1) := by decide +kernel
theorem dX0_answer_14 : decode cX0_answer 14 = .ok (.arraylength, 1) := by decide +kernel
theorem dX0_answer_15 : decode cX0_answer 15 = .ok (.if_icmp .ge 155, 3) := by decide +kernel
theorem dX0_answer_18 : decode cX0_answer 18 = .ok (.aload_n 1, 1) := by decide +kernel
theorem dX0_answer_19 : decode cX0_answer 19 = .ok (.iload 4, 2) := by decide +kernel
theorem dX0_answer_21 : decode cX0_answer 21 = .ok (.iaload, 1) := by decide +kernel
theorem dX0_answer_22 : decode cX0_answer 22 = .ok (.istore 5, 2) := by decide +kernel
theorem dX0_answer_24 : decode cX0_answer 24 = .ok (.iload 5, 2) := by decide +kernel
theorem dX0_answer_26 : decode cX0_answer 26 = .ok (.bipush (-17), 2) := by decide +kernel
theorem dX0_answer_28 : decode cX0_answer 28 = .ok (.if_icmp .lt 40, 3) := by decide +kernel
theorem dX0_answer_31 : decode cX0_answer 31 = .ok (.iload_n 3, 1) := by decide +kernel
theorem dX0_answer_32 : decode cX0_answer 32 = .ok (.aload_n 0, 1) := by decide +kernel
theorem dX0_answer_33 : decode cX0_answer 33 = .ok (.getfield 9, 3) := by decide +kernel
theorem dX0_answer_36 : decode cX0_answer 36 = .ok (.arraylength, 1) := by decide +kernel
theorem dX0_answer_37 : decode cX0_answer 37 = .ok (.if_icmp .ge 127, 3) := by decide +kernel
theorem dX0_answer_40 : decode cX0_answer 40 = .ok (.aload_n 0, 1) := by decide +kernel
theorem dX0_answer_41 : decode cX0_answer 41 = .ok (.getfield 9, 3) := by decide +kernel
theorem dX0_answer_44 : decode cX0_answer 44 = .ok (.iload_n 3, 1) := by decide +kernel
theorem dX0_answer_45 : decode cX0_answer 45 = .ok (.iload 5, 2) := by decide +kernel
theorem dX0_answer_47 : decode cX0_answer 47 = .ok (.ifCond .lt 8, 3) := by decide +kernel
theorem dX0_answer_50 : decode cX0_answer 50 = .ok (.iload 5, 2) := by decide +kernel
theorem dX0_answer_52 : decode cX0_answer 52 = .ok (.goto 9, 3) := by decide +kernel
theorem dX0_answer_55 : decode cX0_answer 55 = .ok (.aload_n 0, 1) := by decide +kernel
theorem dX0_answer_56 : decode cX0_answer 56 = .ok (.iload 5, 2) := by decide +kernel
theorem dX0_answer_58 : decode cX0_answer 58 = .ok (.invokevirtual 34, 3) := by decide +kernel
theorem dX0_answer_61 : decode cX0_answer 61 = .ok (.iastore, 1) := by decide +kernel
theorem dX0_answer_62 : decode cX0_answer 62 = .ok (.iinc 3 1, 3) := by decide +kernel
theorem dX0_answer_65 : decode cX0_answer 65 = .ok (.goto 99, 3) := by decide +kernel
theorem dX0_answer_68 : decode cX0_answer 68 = .ok (.iload 5, 2) := by decide +kernel
theorem dX0_answer_70 : decode cX0_answer 70 = .ok (.bipush (-25), 2) := by decide +kernel
theorem dX0_answer_72 : decode cX0_answer 72 = .ok (.if_icmp .eq 10, 3) := by decide +kernel
theorem dX0_answer_75 : decode cX0_answer 75 = .ok (.iload 5, 2) := by decide +kernel
theorem dX0_answer_77 : decode cX0_answer 77 = .ok (.bipush (-41), 2) := by decide +kernel
theorem dX0_answer_79 : decode cX0_answer 79 = .ok (.if_icmp .ne 48, 3) := by decide +kernel
theorem dX0_answer_82 : decode cX0_answer 82 = .ok (.iload_n 3, 1) := by decide +kernel
theorem dX0_answer_83 : decode cX0_answer 83 = .ok (.iconst 1, 1) := by decide +kernel
theorem dX0_answer_84 : decode cX0_answer 84 = .ok (.if_icmp .lt 80, 3) := by decide +kernel
theorem dX0_answer_87 : decode cX0_answer 87 = .ok (.aload_n 0, 1) := by decide +kernel
theorem dX0_answer_88 : decode cX0_answer 88 = .ok (.getfield 9, 3) := by decide +kernel
theorem dX0_answer_91 : decode cX0_answer 91 = .ok (.iload_n 3, 1) := by decide +kernel
theorem dX0_answer_92 : decode cX0_answer 92 = .ok (.iconst 1, 1) := by decide +kernel
theorem dX0_answer_93 : decode cX0_answer 93 = .ok (.isub, 1) := by decide +kernel
theorem dX0_answer_94 : decode cX0_answer 94 = .ok (.iload 5, 2) := by decide +kernel
theorem dX0_answer_96 : decode cX0_answer 96 = .ok (.bipush (-41), 2) := by decide +kernel
theorem dX0_answer_98 : decode cX0_answer 98 = .ok (.if_icmp .ne 16, 3) := by decide +kernel
theorem dX0_answer_101 : decode cX0_answer 101 = .ok (.iconst 1, 1) := by decide +kernel
theorem dX0_answer_102 : decode cX0_answer 102 = .ok (.aload_n 0, 1) := by decide +kernel
theorem dX0_answer_103 : decode cX0_answer 103 = .ok (.getfield 9, 3) := by decide +kernel
theorem dX0_answer_106 : decode cX0_answer 106 = .ok (.iload_n 3, 1) := by decide +kernel
theorem dX0_answer_107 : decode cX0_answer 107 = .ok (.iconst 1, 1) := by decide +kernel
theorem dX0_answer_108 : decode cX0_answer 108 = .ok (.isub, 1) := by decide +kernel
theorem dX0_answer_109 : decode cX0_answer 109 = .ok (.iaload, 1) := by decide +kernel
theorem dX0_answer_110 : decode cX0_answer 110 = .ok (.isub, 1) := by decide +kernel
theorem dX0_answer_111 : decode cX0_answer 111 = .ok (.goto 12, 3) := by decide +kernel
theorem dX0_answer_114 : decode cX0_answer 114 = .ok (.aload_n 0, 1) := by decide +kernel
theorem dX0_answer_115 : decode cX0_answer 115 = .ok (.getfield 9, 3) := by decide +kernel
theorem dX0_answer_118 : decode cX0_answer 118 = .ok (.iload_n 3, 1) := by decide +kernel
theorem dX0_answer_119 : decode cX0_answer 119 = .ok (.iconst 1, 1) := by decide +kernel
theorem dX0_answer_120 : decode cX0_answer 120 = .ok (.isub, 1) := by decide +kernel
theorem dX0_answer_121 : decode cX0_answer 121 = .ok (.iaload, 1) := by decide +kernel
theorem dX0_answer_122 : decode cX0_answer 122 = .ok (.ineg, 1) := by decide +kernel
theorem dX0_answer_123 : decode cX0_answer 123 = .ok (.iastore, 1) := by decide +kernel
theorem dX0_answer_124 : decode cX0_answer 124 = .ok (.goto 40, 3) := by decide +kernel
theorem dX0_answer_127 : decode cX0_answer 127 = .ok (.iload_n 3, 1) := by decide +kernel
theorem dX0_answer_128 : decode cX0_answer 128 = .ok (.iconst 2, 1) := by decide +kernel
theorem dX0_answer_129 : decode cX0_answer 129 = .ok (.if_icmp .lt 35, 3) := by decide +kernel
theorem dX0_answer_132 : decode cX0_answer 132 = .ok (.iinc 3 (-1), 3) := by decide +kernel
theorem dX0_answer_135 : decode cX0_answer 135 = .ok (.aload_n 0, 1) := by decide +kernel
theorem dX0_answer_136 : decode cX0_answer 136 = .ok (.getfield 9, 3) := by decide +kernel
theorem dX0_answer_139 : decode cX0_answer 139 = .ok (.iload_n 3, 1) := by decide +kernel
theorem dX0_answer_140 : decode cX0_answer 140 = .ok (.iconst 1, 1) := by decide +kernel
theorem dX0_answer_141 : decode cX0_answer 141 = .ok (.isub, 1) := by decide +kernel
theorem dX0_answer_142 : decode cX0_answer 142 = .ok (.iload 5, 2) := by decide +kernel
theorem dX0_answer_144 : decode cX0_answer 144 = .ok (.aload_n 0, 1) := by decide +kernel
theorem dX0_answer_145 : decode cX0_answer 145 = .ok (.getfield 9, 3) := by decide +kernel
theorem dX0_answer_148 : decode cX0_answer 148 = .ok (.iload_n 3, 1) := by decide +kernel
theorem dX0_answer_149 : decode cX0_answer 149 = .ok (.iconst 1, 1) := by decide +kernel
theorem dX0_answer_150 : decode cX0_answer 150 = .ok (.isub, 1) := by decide +kernel
theorem dX0_answer_151 : decode cX0_answer 151 = .ok (.iaload, 1) := by decide +kernel
theorem dX0_answer_152 : decode cX0_answer 152 = .ok (.i2l, 1) := by decide +kernel
theorem dX0_answer_153 : decode cX0_answer 153 = .ok (.aload_n 0, 1) := by decide +kernel
theorem dX0_answer_154 : decode cX0_answer 154 = .ok (.getfield 9, 3) := by decide +kernel
theorem dX0_answer_157 : decode cX0_answer 157 = .ok (.iload_n 3, 1) := by decide +kernel
theorem dX0_answer_158 : decode cX0_answer 158 = .ok (.iaload, 1) := by decide +kernel
theorem dX0_answer_159 : decode cX0_answer 159 = .ok (.i2l, 1) := by decide +kernel
theorem dX0_answer_160 : decode cX0_answer 160 = .ok (.invokestatic 38, 3) := by decide +kernel
theorem dX0_answer_163 : decode cX0_answer 163 = .ok (.iastore, 1) := by decide +kernel
theorem dX0_answer_164 : decode cX0_answer 164 = .ok (.iinc 4 1, 3) := by decide +kernel
theorem dX0_answer_167 : decode cX0_answer 167 = .ok (.goto (-162), 3) := by decide +kernel
theorem dX0_answer_170 : decode cX0_answer 170 = .ok (.aload_n 0, 1) := by decide +kernel
theorem dX0_answer_171 : decode cX0_answer 171 = .ok (.getfield 9, 3) := by decide +kernel
theorem dX0_answer_174 : decode cX0_answer 174 = .ok (.iconst 0, 1) := by decide +kernel
theorem dX0_answer_175 : decode cX0_answer 175 = .ok (.iaload, 1) := by decide +kernel
theorem dX0_answer_176 : decode cX0_answer 176 = .ok (.ireturn, 1) := by decide +kernel
theorem dX0_word_0 : decode cX0_word 0 = .ok (.iload_n 1, 1) := by decide +kernel
theorem dX0_word_1 : decode cX0_word 1 = .ok (.tableswitch 72 (-16) (-11) #[67, 59, 54, 49, 44, 39], 39) := by decide +kernel
theorem dX0_word_40 : decode cX0_word 40 = .ok (.aload_n 0, 1) := by decide +kernel
theorem dX0_word_41 : decode cX0_word 41 = .ok (.getfield 15, 3) := by decide +kernel
theorem dX0_word_44 : decode cX0_word 44 = .ok (.ireturn, 1) := by decide +kernel
theorem dX0_word_45 : decode cX0_word 45 = .ok (.aload_n 0, 1) := by decide +kernel
theorem dX0_word_46 : decode cX0_word 46 = .ok (.getfield 19, 3) := by decide +kernel
theorem dX0_word_49 : decode cX0_word 49 = .ok (.ireturn, 1) := by decide +kernel
theorem dX0_word_50 : decode cX0_word 50 = .ok (.aload_n 0, 1) := by decide +kernel
theorem dX0_word_51 : decode cX0_word 51 = .ok (.getfield 22, 3) := by decide +kernel
theorem dX0_word_54 : decode cX0_word 54 = .ok (.ireturn, 1) := by decide +kernel
theorem dX0_word_55 : decode cX0_word 55 = .ok (.aload_n 0, 1) := by decide +kernel
theorem dX0_word_56 : decode cX0_word 56 = .ok (.getfield 25, 3) := by decide +kernel
theorem dX0_word_59 : decode cX0_word 59 = .ok (.ireturn, 1) := by decide +kernel
theorem dX0_word_60 : decode cX0_word 60 = .ok (.aload_n 0, 1) := by decide +kernel
theorem dX0_word_61 : decode cX0_word 61 = .ok (.getfield 25, 3) := by decide +kernel
theorem dX0_word_64 : decode cX0_word 64 = .ok (.bipush 40, 2) := by decide +kernel
theorem dX0_word_66 : decode cX0_word 66 = .ok (.irem, 1) := by decide +kernel
theorem dX0_word_67 : decode cX0_word 67 = .ok (.ireturn, 1) := by decide +kernel
theorem dX0_word_68 : decode cX0_word 68 = .ok (.aload_n 0, 1) := by decide +kernel
theorem dX0_word_69 : decode cX0_word 69 = .ok (.getfield 28, 3) := by decide +kernel
theorem dX0_word_72 : decode cX0_word 72 = .ok (.ireturn, 1) := by decide +kernel
theorem dX0_word_73 : decode cX0_word 73 = .ok (.aload_n 0, 1) := by decide +kernel
theorem dX0_word_74 : decode cX0_word 74 = .ok (.getfield 31, 3) := by decide +kernel
theorem dX0_word_77 : decode cX0_word 77 = .ok (.ireturn, 1) := by decide +kernel
theorem dX0_joined_0 : decode cX0_joined 0 = .ok (.iload_n 0, 1) := by decide +kernel
theorem dX0_joined_1 : decode cX0_joined 1 = .ok (.tableswitch 69 (-24) (-21) #[52, 45, 38, 31], 31) := by decide +kernel
theorem dX0_joined_32 : decode cX0_joined 32 = .ok (.lload_n 1, 1) := by decide +kernel
theorem dX0_joined_33 : decode cX0_joined 33 = .ok (.lload_n 3, 1) := by decide +kernel
theorem dX0_joined_34 : decode cX0_joined 34 = .ok (.ladd, 1) := by decide +kernel
theorem dX0_joined_35 : decode cX0_joined 35 = .ok (.invokestatic 42, 3) := by decide +kernel
theorem dX0_joined_38 : decode cX0_joined 38 = .ok (.ireturn, 1) := by decide +kernel
theorem dX0_joined_39 : decode cX0_joined 39 = .ok (.lload_n 1, 1) := by decide +kernel
theorem dX0_joined_40 : decode cX0_joined 40 = .ok (.lload_n 3, 1) := by decide +kernel
theorem dX0_joined_41 : decode cX0_joined 41 = .ok (.lsub, 1) := by decide +kernel
theorem dX0_joined_42 : decode cX0_joined 42 = .ok (.invokestatic 42, 3) := by decide +kernel
theorem dX0_joined_45 : decode cX0_joined 45 = .ok (.ireturn, 1) := by decide +kernel
theorem dX0_joined_46 : decode cX0_joined 46 = .ok (.lload_n 1, 1) := by decide +kernel
theorem dX0_joined_47 : decode cX0_joined 47 = .ok (.lload_n 3, 1) := by decide +kernel
theorem dX0_joined_48 : decode cX0_joined 48 = .ok (.lmul, 1) := by decide +kernel
theorem dX0_joined_49 : decode cX0_joined 49 = .ok (.invokestatic 42, 3) := by decide +kernel
theorem dX0_joined_52 : decode cX0_joined 52 = .ok (.ireturn, 1) := by decide +kernel
theorem dX0_joined_53 : decode cX0_joined 53 = .ok (.lload_n 3, 1) := by decide +kernel
theorem dX0_joined_54 : decode cX0_joined 54 = .ok (.lconst 0, 1) := by decide +kernel
theorem dX0_joined_55 : decode cX0_joined 55 = .ok (.lcmp, 1) := by decide +kernel
theorem dX0_joined_56 : decode cX0_joined 56 = .ok (.ifCond .ne 7, 3) := by decide +kernel
theorem dX0_joined_59 : decode cX0_joined 59 = .ok (.iconst 0, 1) := by decide +kernel
theorem dX0_joined_60 : decode cX0_joined 60 = .ok (.goto 9, 3) := by decide +kernel
theorem dX0_joined_63 : decode cX0_joined 63 = .ok (.lload_n 1, 1) := by decide +kernel
theorem dX0_joined_64 : decode cX0_joined 64 = .ok (.lload_n 3, 1) := by decide +kernel
theorem dX0_joined_65 : decode cX0_joined 65 = .ok (.ldiv, 1) := by decide +kernel
theorem dX0_joined_66 : decode cX0_joined 66 = .ok (.invokestatic 42, 3) := by decide +kernel
theorem dX0_joined_69 : decode cX0_joined 69 = .ok (.ireturn, 1) := by decide +kernel
theorem dX0_joined_70 : decode cX0_joined 70 = .ok (.iload_n 0, 1) := by decide +kernel
theorem dX0_joined_71 : decode cX0_joined 71 = .ok (.lload_n 1, 1) := by decide +kernel
theorem dX0_joined_72 : decode cX0_joined 72 = .ok (.lload_n 3, 1) := by decide +kernel
theorem dX0_joined_73 : decode cX0_joined 73 = .ok (.invokestatic 46, 3) := by decide +kernel
theorem dX0_joined_76 : decode cX0_joined 76 = .ok (.ifCond .eq 7, 3) := by decide +kernel
theorem dX0_joined_79 : decode cX0_joined 79 = .ok (.iconst 1, 1) := by decide +kernel
theorem dX0_joined_80 : decode cX0_joined 80 = .ok (.goto 4, 3) := by decide +kernel
theorem dX0_joined_83 : decode cX0_joined 83 = .ok (.iconst 0, 1) := by decide +kernel
theorem dX0_joined_84 : decode cX0_joined 84 = .ok (.ireturn, 1) := by decide +kernel
theorem dX0_isSo_0 : decode cX0_isSo 0 = .ok (.iload_n 0, 1) := by decide +kernel
theorem dX0_isSo_1 : decode cX0_isSo 1 = .ok (.tableswitch 149 (-42) (-31) #[135, 149, 149, 149, 149, 149, 123, 111, 99, 87, 75, 63], 63) := by decide +kernel
theorem dX0_isSo_64 : decode cX0_isSo 64 = .ok (.lload_n 1, 1) := by decide +kernel
theorem dX0_isSo_65 : decode cX0_isSo 65 = .ok (.lload_n 3, 1) := by decide +kernel
theorem dX0_isSo_66 : decode cX0_isSo 66 = .ok (.lcmp, 1) := by decide +kernel
theorem dX0_isSo_67 : decode cX0_isSo 67 = .ok (.ifCond .ge 7, 3) := by decide +kernel
theorem dX0_isSo_70 : decode cX0_isSo 70 = .ok (.iconst 1, 1) := by decide +kernel
theorem dX0_isSo_71 : decode cX0_isSo 71 = .ok (.goto 4, 3) := by decide +kernel
theorem dX0_isSo_74 : decode cX0_isSo 74 = .ok (.iconst 0, 1) := by decide +kernel
theorem dX0_isSo_75 : decode cX0_isSo 75 = .ok (.ireturn, 1) := by decide +kernel
theorem dX0_isSo_76 : decode cX0_isSo 76 = .ok (.lload_n 1, 1) := by decide +kernel
theorem dX0_isSo_77 : decode cX0_isSo 77 = .ok (.lload_n 3, 1) := by decide +kernel
theorem dX0_isSo_78 : decode cX0_isSo 78 = .ok (.lcmp, 1) := by decide +kernel
theorem dX0_isSo_79 : decode cX0_isSo 79 = .ok (.ifCond .gt 7, 3) := by decide +kernel
theorem dX0_isSo_82 : decode cX0_isSo 82 = .ok (.iconst 1, 1) := by decide +kernel
theorem dX0_isSo_83 : decode cX0_isSo 83 = .ok (.goto 4, 3) := by decide +kernel
theorem dX0_isSo_86 : decode cX0_isSo 86 = .ok (.iconst 0, 1) := by decide +kernel
theorem dX0_isSo_87 : decode cX0_isSo 87 = .ok (.ireturn, 1) := by decide +kernel
theorem dX0_isSo_88 : decode cX0_isSo 88 = .ok (.lload_n 1, 1) := by decide +kernel
theorem dX0_isSo_89 : decode cX0_isSo 89 = .ok (.lload_n 3, 1) := by decide +kernel
theorem dX0_isSo_90 : decode cX0_isSo 90 = .ok (.lcmp, 1) := by decide +kernel
theorem dX0_isSo_91 : decode cX0_isSo 91 = .ok (.ifCond .le 7, 3) := by decide +kernel
theorem dX0_isSo_94 : decode cX0_isSo 94 = .ok (.iconst 1, 1) := by decide +kernel
theorem dX0_isSo_95 : decode cX0_isSo 95 = .ok (.goto 4, 3) := by decide +kernel
theorem dX0_isSo_98 : decode cX0_isSo 98 = .ok (.iconst 0, 1) := by decide +kernel
theorem dX0_isSo_99 : decode cX0_isSo 99 = .ok (.ireturn, 1) := by decide +kernel
theorem dX0_isSo_100 : decode cX0_isSo 100 = .ok (.lload_n 1, 1) := by decide +kernel
theorem dX0_isSo_101 : decode cX0_isSo 101 = .ok (.lload_n 3, 1) := by decide +kernel
theorem dX0_isSo_102 : decode cX0_isSo 102 = .ok (.lcmp, 1) := by decide +kernel
theorem dX0_isSo_103 : decode cX0_isSo 103 = .ok (.ifCond .lt 7, 3) := by decide +kernel
theorem dX0_isSo_106 : decode cX0_isSo 106 = .ok (.iconst 1, 1) := by decide +kernel
theorem dX0_isSo_107 : decode cX0_isSo 107 = .ok (.goto 4, 3) := by decide +kernel
theorem dX0_isSo_110 : decode cX0_isSo 110 = .ok (.iconst 0, 1) := by decide +kernel
theorem dX0_isSo_111 : decode cX0_isSo 111 = .ok (.ireturn, 1) := by decide +kernel
theorem dX0_isSo_112 : decode cX0_isSo 112 = .ok (.lload_n 1, 1) := by decide +kernel
theorem dX0_isSo_113 : decode cX0_isSo 113 = .ok (.lload_n 3, 1) := by decide +kernel
theorem dX0_isSo_114 : decode cX0_isSo 114 = .ok (.lcmp, 1) := by decide +kernel
theorem dX0_isSo_115 : decode cX0_isSo 115 = .ok (.ifCond .ne 7, 3) := by decide +kernel
theorem dX0_isSo_118 : decode cX0_isSo 118 = .ok (.iconst 1, 1) := by decide +kernel
theorem dX0_isSo_119 : decode cX0_isSo 119 = .ok (.goto 4, 3) := by decide +kernel
theorem dX0_isSo_122 : decode cX0_isSo 122 = .ok (.iconst 0, 1) := by decide +kernel
theorem dX0_isSo_123 : decode cX0_isSo 123 = .ok (.ireturn, 1) := by decide +kernel
theorem dX0_isSo_124 : decode cX0_isSo 124 = .ok (.lload_n 1, 1) := by decide +kernel
theorem dX0_isSo_125 : decode cX0_isSo 125 = .ok (.lload_n 3, 1) := by decide +kernel
theorem dX0_isSo_126 : decode cX0_isSo 126 = .ok (.lcmp, 1) := by decide +kernel
theorem dX0_isSo_127 : decode cX0_isSo 127 = .ok (.ifCond .eq 7, 3) := by decide +kernel
theorem dX0_isSo_130 : decode cX0_isSo 130 = .ok (.iconst 1, 1) := by decide +kernel
theorem dX0_isSo_131 : decode cX0_isSo 131 = .ok (.goto 4, 3) := by decide +kernel
theorem dX0_isSo_134 : decode cX0_isSo 134 = .ok (.iconst 0, 1) := by decide +kernel
theorem dX0_isSo_135 : decode cX0_isSo 135 = .ok (.ireturn, 1) := by decide +kernel
theorem dX0_isSo_136 : decode cX0_isSo 136 = .ok (.lload_n 1, 1) := by decide +kernel
theorem dX0_isSo_137 : decode cX0_isSo 137 = .ok (.lload_n 3, 1) := by decide +kernel
theorem dX0_isSo_138 : decode cX0_isSo 138 = .ok (.land, 1) := by decide +kernel
theorem dX0_isSo_139 : decode cX0_isSo 139 = .ok (.lconst 0, 1) := by decide +kernel
theorem dX0_isSo_140 : decode cX0_isSo 140 = .ok (.lcmp, 1) := by decide +kernel
theorem dX0_isSo_141 : decode cX0_isSo 141 = .ok (.ifCond .eq 7, 3) := by decide +kernel
theorem dX0_isSo_144 : decode cX0_isSo 144 = .ok (.iconst 1, 1) := by decide +kernel
theorem dX0_isSo_145 : decode cX0_isSo 145 = .ok (.goto 4, 3) := by decide +kernel
theorem dX0_isSo_148 : decode cX0_isSo 148 = .ok (.iconst 0, 1) := by decide +kernel
theorem dX0_isSo_149 : decode cX0_isSo 149 = .ok (.ireturn, 1) := by decide +kernel
theorem dX0_isSo_150 : decode cX0_isSo 150 = .ok (.lload_n 1, 1) := by decide +kernel
theorem dX0_isSo_151 : decode cX0_isSo 151 = .ok (.lload_n 3, 1) := by decide +kernel
theorem dX0_isSo_152 : decode cX0_isSo 152 = .ok (.lor, 1) := by decide +kernel
theorem dX0_isSo_153 : decode cX0_isSo 153 = .ok (.lconst 0, 1) := by decide +kernel
theorem dX0_isSo_154 : decode cX0_isSo 154 = .ok (.lcmp, 1) := by decide +kernel
theorem dX0_isSo_155 : decode cX0_isSo 155 = .ok (.ifCond .eq 7, 3) := by decide +kernel
theorem dX0_isSo_158 : decode cX0_isSo 158 = .ok (.iconst 1, 1) := by decide +kernel
theorem dX0_isSo_159 : decode cX0_isSo 159 = .ok (.goto 4, 3) := by decide +kernel
theorem dX0_isSo_162 : decode cX0_isSo 162 = .ok (.iconst 0, 1) := by decide +kernel
theorem dX0_isSo_163 : decode cX0_isSo 163 = .ok (.ireturn, 1) := by decide +kernel
theorem dX0_bounded_0 : decode cX0_bounded 0 = .ok (.lload_n 0, 1) := by decide +kernel
theorem dX0_bounded_1 : decode cX0_bounded 1 = .ok (.ldc2_w 50, 3) := by decide +kernel
theorem dX0_bounded_4 : decode cX0_bounded 4 = .ok (.lcmp, 1) := by decide +kernel
theorem dX0_bounded_5 : decode cX0_bounded 5 = .ok (.ifCond .le 6, 3) := by decide +kernel
theorem dX0_bounded_8 : decode cX0_bounded 8 = .ok (.ldc 52, 2) := by decide +kernel
theorem dX0_bounded_10 : decode cX0_bounded 10 = .ok (.ireturn, 1) := by decide +kernel
theorem dX0_bounded_11 : decode cX0_bounded 11 = .ok (.lload_n 0, 1) := by decide +kernel
theorem dX0_bounded_12 : decode cX0_bounded 12 = .ok (.ldc2_w 53, 3) := by decide +kernel
theorem dX0_bounded_15 : decode cX0_bounded 15 = .ok (.lcmp, 1) := by decide +kernel
theorem dX0_bounded_16 : decode cX0_bounded 16 = .ok (.ifCond .ge 8, 3) := by decide +kernel
theorem dX0_bounded_19 : decode cX0_bounded 19 = .ok (.ldc 55, 2) := by decide +kernel
theorem dX0_bounded_21 : decode cX0_bounded 21 = .ok (.goto 5, 3) := by decide +kernel
theorem dX0_bounded_24 : decode cX0_bounded 24 = .ok (.lload_n 0, 1) := by decide +kernel
theorem dX0_bounded_25 : decode cX0_bounded 25 = .ok (.l2i, 1) := by decide +kernel
theorem dX0_bounded_26 : decode cX0_bounded 26 = .ok (.ireturn, 1) := by decide +kernel
theorem dX1_init_0 : decode cX1_init 0 = .ok (.aload_n 0, 1) := by decide +kernel
theorem dX1_init_1 : decode cX1_init 1 = .ok (.invokespecial 3, 3) := by decide +kernel
theorem dX1_init_4 : decode cX1_init 4 = .ok (.aload_n 0, 1) := by decide +kernel
theorem dX1_init_5 : decode cX1_init 5 = .ok (.new 9, 3) := by decide +kernel
theorem dX1_init_8 : decode cX1_init 8 = .ok (.dup, 1) := by decide +kernel
theorem dX1_init_9 : decode cX1_init 9 = .ok (.invokespecial 11, 3) := by decide +kernel
theorem dX1_init_12 : decode cX1_init 12 = .ok (.putfield 12, 3) := by decide +kernel
theorem dX1_init_15 : decode cX1_init 15 = .ok (.aload_n 0, 1) := by decide +kernel
theorem dX1_init_16 : decode cX1_init 16 = .ok (.iconst 4, 1) := by decide +kernel
theorem dX1_init_17 : decode cX1_init 17 = .ok (.anewarray 18, 3) := by decide +kernel
theorem dX1_init_20 : decode cX1_init 20 = .ok (.putfield 20, 3) := by decide +kernel
theorem dX1_init_23 : decode cX1_init 23 = .ok (.aload_n 0, 1) := by decide +kernel
theorem dX1_init_24 : decode cX1_init 24 = .ok (.new 18, 3) := by decide +kernel
theorem dX1_init_27 : decode cX1_init 27 = .ok (.dup, 1) := by decide +kernel
theorem dX1_init_28 : decode cX1_init 28 = .ok (.invokespecial 24, 3) := by decide +kernel
theorem dX1_init_31 : decode cX1_init 31 = .ok (.putfield 25, 3) := by decide +kernel
theorem dX1_init_34 : decode cX1_init 34 = .ok (.aload_n 0, 1) := by decide +kernel
theorem dX1_init_35 : decode cX1_init 35 = .ok (.new 29, 3) := by decide +kernel
theorem dX1_init_38 : decode cX1_init 38 = .ok (.dup, 1) := by decide +kernel
theorem dX1_init_39 : decode cX1_init 39 = .ok (.invokespecial 31, 3) := by decide +kernel
theorem dX1_init_42 : decode cX1_init 42 = .ok (.putfield 32, 3) := by decide +kernel
theorem dX1_init_45 : decode cX1_init 45 = .ok (.aload_n 0, 1) := by decide +kernel
theorem dX1_init_46 : decode cX1_init 46 = .ok (.iconst 2, 1) := by decide +kernel
theorem dX1_init_47 : decode cX1_init 47 = .ok (.sipush 2000, 3) := by decide +kernel
theorem dX1_init_50 : decode cX1_init 50 = .ok (.multianewarray 36 2, 4) := by decide +kernel
theorem dX1_init_54 : decode cX1_init 54 = .ok (.putfield 38, 3) := by decide +kernel
theorem dX1_init_57 : decode cX1_init 57 = .ok (.aload_n 0, 1) := by decide +kernel
theorem dX1_init_58 : decode cX1_init 58 = .ok (.iconst 0, 1) := by decide +kernel
theorem dX1_init_59 : decode cX1_init 59 = .ok (.putfield 41, 3) := by decide +kernel
theorem dX1_init_62 : decode cX1_init 62 = .ok (.aload_n 0, 1) := by decide +kernel
theorem dX1_init_63 : decode cX1_init 63 = .ok (.iconst 0, 1) := by decide +kernel
theorem dX1_init_64 : decode cX1_init 64 = .ok (.putfield 45, 3) := by decide +kernel
theorem dX1_init_67 : decode cX1_init 67 = .ok (.aload_n 0, 1) := by decide +kernel
theorem dX1_init_68 : decode cX1_init 68 = .ok (.iconst 0, 1) := by decide +kernel
theorem dX1_init_69 : decode cX1_init 69 = .ok (.putfield 48, 3) := by decide +kernel
theorem dX1_init_72 : decode cX1_init 72 = .ok (.aload_n 0, 1) := by decide +kernel
theorem dX1_init_73 : decode cX1_init 73 = .ok (.iconst 0, 1) := by decide +kernel
theorem dX1_init_74 : decode cX1_init 74 = .ok (.putfield 51, 3) := by decide +kernel
theorem dX1_init_77 : decode cX1_init 77 = .ok (.iconst 0, 1) := by decide +kernel
theorem dX1_init_78 : decode cX1_init 78 = .ok (.istore_n 1, 1) := by decide +kernel
theorem dX1_init_79 : decode cX1_init 79 = .ok (.iload_n 1, 1) := by decide +kernel
theorem dX1_init_80 : decode cX1_init 80 = .ok (.aload_n 0, 1) := by decide +kernel
theorem dX1_init_81 : decode cX1_init 81 = .ok (.getfield 20, 3) := by decide +kernel
theorem dX1_init_84 : decode cX1_init 84 = .ok (.arraylength, 1) := by decide +kernel
theorem dX1_init_85 : decode cX1_init 85 = .ok (.if_icmp .ge 22, 3) := by decide +kernel
theorem dX1_init_88 : decode cX1_init 88 = .ok (.aload_n 0, 1) := by decide +kernel
theorem dX1_init_89 : decode cX1_init 89 = .ok (.getfield 20, 3) := by decide +kernel
theorem dX1_init_92 : decode cX1_init 92 = .ok (.iload_n 1, 1) := by decide +kernel
theorem dX1_init_93 : decode cX1_init 93 = .ok (.new 18, 3) := by decide +kernel
theorem dX1_init_96 : decode cX1_init 96 = .ok (.dup, 1) := by decide +kernel
theorem dX1_init_97 : decode cX1_init 97 = .ok (.invokespecial 24, 3) := by decide +kernel
theorem dX1_init_100 : decode cX1_init 100 = .ok (.aastore, 1) := by decide +kernel
theorem dX1_init_101 : decode cX1_init 101 = .ok (.iinc 1 1, 3) := by decide +kernel
theorem dX1_init_104 : decode cX1_init 104 = .ok (.goto (-25), 3) := by decide +kernel
theorem dX1_init_107 : decode cX1_init 107 = .ok (.return_, 1) := by decide +kernel
theorem dX1_forget_0 : decode cX1_forget 0 = .ok (.aload_n 0, 1) := by decide +kernel
theorem dX1_forget_1 : decode cX1_forget 1 = .ok (.iconst 0, 1) := by decide +kernel
theorem dX1_forget_2 : decode cX1_forget 2 = .ok (.putfield 41, 3) := by decide +kernel
theorem dX1_forget_5 : decode cX1_forget 5 = .ok (.return_, 1) := by decide +kernel
theorem dX1_traceTo_0 : decode cX1_traceTo 0 = .ok (.aload_n 0, 1) := by decide +kernel
theorem dX1_traceTo_1 : decode cX1_traceTo 1 = .ok (.getfield 41, 3) := by decide +kernel
theorem dX1_traceTo_4 : decode cX1_traceTo 4 = .ok (.istore_n 2, 1) := by decide +kernel
theorem dX1_traceTo_5 : decode cX1_traceTo 5 = .ok (.iload_n 2, 1) := by decide +kernel
theorem dX1_traceTo_6 : decode cX1_traceTo 6 = .ok (.iload_n 1, 1) := by decide +kernel
theorem dX1_traceTo_7 : decode cX1_traceTo 7 = .ok (.if_icmp .gt 118, 3) := by decide +kernel
theorem dX1_traceTo_10 : decode cX1_traceTo 10 = .ok (.iload_n 2, 1) := by decide +kernel
theorem dX1_traceTo_11 : decode cX1_traceTo 11 = .ok (.sipush 2000, 3) := by decide +kernel
theorem dX1_traceTo_14 : decode cX1_traceTo 14 = .ok (.if_icmp .ge 111, 3) := by decide +kernel
theorem dX1_traceTo_17 : decode cX1_traceTo 17 = .ok (.iconst 0, 1) := by decide +kernel
theorem dX1_traceTo_18 : decode cX1_traceTo 18 = .ok (.istore_n 3, 1) := by decide +kernel
theorem dX1_traceTo_19 : decode cX1_traceTo 19 = .ok (.iload_n 3, 1) := by decide +kernel
theorem dX1_traceTo_20 : decode cX1_traceTo 20 = .ok (.iconst 2, 1) := by decide +kernel
theorem dX1_traceTo_21 : decode cX1_traceTo 21 = .ok (.if_icmp .ge 91, 3) := by decide +kernel
theorem dX1_traceTo_24 : decode cX1_traceTo 24 = .ok (.aload_n 0, 1) := by decide +kernel
theorem dX1_traceTo_25 : decode cX1_traceTo 25 = .ok (.getfield 12, 3) := by decide +kernel
theorem dX1_traceTo_28 : decode cX1_traceTo 28 = .ok (.getfield 54, 3) := by decide +kernel
theorem dX1_traceTo_31 : decode cX1_traceTo 31 = .ok (.iload_n 3, 1) := by decide +kernel
theorem dX1_traceTo_32 : decode cX1_traceTo 32 = .ok (.aaload, 1) := by decide +kernel
theorem dX1_traceTo_33 : decode cX1_traceTo 33 = .ok (.astore 4, 2) := by decide +kernel
theorem dX1_traceTo_35 : decode cX1_traceTo 35 = .ok (.iload_n 2, 1) := by decide +kernel
theorem dX1_traceTo_36 : decode cX1_traceTo 36 = .ok (.ifCond .le 16, 3) := by decide +kernel
theorem dX1_traceTo_39 : decode cX1_traceTo 39 = .ok (.aload_n 0, 1) := by decide +kernel
theorem dX1_traceTo_40 : decode cX1_traceTo 40 = .ok (.getfield 38, 3) := by decide +kernel
theorem dX1_traceTo_43 : decode cX1_traceTo 43 = .ok (.iload_n 3, 1) := by decide +kernel
theorem dX1_traceTo_44 : decode cX1_traceTo 44 = .ok (.aaload, 1) := by decide +kernel
theorem dX1_traceTo_45 : decode cX1_traceTo 45 = .ok (.iload_n 2, 1) := by decide +kernel
theorem dX1_traceTo_46 : decode cX1_traceTo 46 = .ok (.iconst 1, 1) := by decide +kernel
theorem dX1_traceTo_47 : decode cX1_traceTo 47 = .ok (.isub, 1) := by decide +kernel
theorem dX1_traceTo_48 : decode cX1_traceTo 48 = .ok (.iaload, 1) := by decide +kernel
theorem dX1_traceTo_49 : decode cX1_traceTo 49 = .ok (.goto 4, 3) := by decide +kernel
theorem dX1_traceTo_52 : decode cX1_traceTo 52 = .ok (.iconst 0, 1) := by decide +kernel
theorem dX1_traceTo_53 : decode cX1_traceTo 53 = .ok (.istore 5, 2) := by decide +kernel
theorem dX1_traceTo_55 : decode cX1_traceTo 55 = .ok (.aload 4, 2) := by decide +kernel
theorem dX1_traceTo_57 : decode cX1_traceTo 57 = .ok (.getfield 58, 3) := by decide +kernel
theorem dX1_traceTo_60 : decode cX1_traceTo 60 = .ok (.invokestatic 63, 3) := by decide +kernel
theorem dX1_traceTo_63 : decode cX1_traceTo 63 = .ok (.ifCond .eq 23, 3) := by decide +kernel
theorem dX1_traceTo_66 : decode cX1_traceTo 66 = .ok (.aload_n 0, 1) := by decide +kernel
theorem dX1_traceTo_67 : decode cX1_traceTo 67 = .ok (.getfield 12, 3) := by decide +kernel
theorem dX1_traceTo_70 : decode cX1_traceTo 70 = .ok (.getfield 67, 3) := by decide +kernel
theorem dX1_traceTo_73 : decode cX1_traceTo 73 = .ok (.aload 4, 2) := by decide +kernel
theorem dX1_traceTo_75 : decode cX1_traceTo 75 = .ok (.getfield 58, 3) := by decide +kernel
theorem dX1_traceTo_78 : decode cX1_traceTo 78 = .ok (.aaload, 1) := by decide +kernel
theorem dX1_traceTo_79 : decode cX1_traceTo 79 = .ok (.iload_n 2, 1) := by decide +kernel
theorem dX1_traceTo_80 : decode cX1_traceTo 80 = .ok (.invokevirtual 71, 3) := by decide +kernel
theorem dX1_traceTo_83 : decode cX1_traceTo 83 = .ok (.goto 4, 3) := by decide +kernel
theorem dX1_traceTo_86 : decode cX1_traceTo 86 = .ok (.iconst 0, 1) := by decide +kernel
theorem dX1_traceTo_87 : decode cX1_traceTo 87 = .ok (.istore 6, 2) := by decide +kernel
theorem dX1_traceTo_89 : decode cX1_traceTo 89 = .ok (.aload_n 0, 1) := by decide +kernel
theorem dX1_traceTo_90 : decode cX1_traceTo 90 = .ok (.getfield 38, 3) := by decide +kernel
theorem dX1_traceTo_93 : decode cX1_traceTo 93 = .ok (.iload_n 3, 1) := by decide +kernel
theorem dX1_traceTo_94 : decode cX1_traceTo 94 = .ok (.aaload, 1) := by decide +kernel
theorem dX1_traceTo_95 : decode cX1_traceTo 95 = .ok (.iload_n 2, 1) := by decide +kernel
theorem dX1_traceTo_96 : decode cX1_traceTo 96 = .ok (.aload 4, 2) := by decide +kernel
theorem dX1_traceTo_98 : decode cX1_traceTo 98 = .ok (.iload 5, 2) := by decide +kernel
theorem dX1_traceTo_100 : decode cX1_traceTo 100 = .ok (.iload 6, 2) := by decide +kernel
theorem dX1_traceTo_102 : decode cX1_traceTo 102 = .ok (.invokevirtual 77, 3) := by decide +kernel
theorem dX1_traceTo_105 : decode cX1_traceTo 105 = .ok (.iastore, 1) := by decide +kernel
theorem dX1_traceTo_106 : decode cX1_traceTo 106 = .ok (.iinc 3 1, 3) := by decide +kernel
theorem dX1_traceTo_109 : decode cX1_traceTo 109 = .ok (.goto (-90), 3) := by decide +kernel
theorem dX1_traceTo_112 : decode cX1_traceTo 112 = .ok (.aload_n 0, 1) := by decide +kernel
theorem dX1_traceTo_113 : decode cX1_traceTo 113 = .ok (.iload_n 2, 1) := by decide +kernel
theorem dX1_traceTo_114 : decode cX1_traceTo 114 = .ok (.iconst 1, 1) := by decide +kernel
theorem dX1_traceTo_115 : decode cX1_traceTo 115 = .ok (.iadd, 1) := by decide +kernel
theorem dX1_traceTo_116 : decode cX1_traceTo 116 = .ok (.putfield 41, 3) := by decide +kernel
theorem dX1_traceTo_119 : decode cX1_traceTo 119 = .ok (.iinc 2 1, 3) := by decide +kernel
theorem dX1_traceTo_122 : decode cX1_traceTo 122 = .ok (.goto (-117), 3) := by decide +kernel
theorem dX1_traceTo_125 : decode cX1_traceTo 125 = .ok (.return_, 1) := by decide +kernel
theorem dX1_outAt_0 : decode cX1_outAt 0 = .ok (.iload_n 1, 1) := by decide +kernel
theorem dX1_outAt_1 : decode cX1_outAt 1 = .ok (.invokestatic 81, 3) := by decide +kernel
theorem dX1_outAt_4 : decode cX1_outAt 4 = .ok (.ifCond .eq 14, 3) := by decide +kernel
theorem dX1_outAt_7 : decode cX1_outAt 7 = .ok (.iload_n 2, 1) := by decide +kernel
theorem dX1_outAt_8 : decode cX1_outAt 8 = .ok (.iconst 0, 1) := by decide +kernel
theorem dX1_outAt_9 : decode cX1_outAt 9 = .ok (.sipush 1999, 3) := by decide +kernel
theorem dX1_outAt_12 : decode cX1_outAt 12 = .ok (.invokestatic 84, 3) := by decide +kernel
theorem dX1_outAt_15 : decode cX1_outAt 15 = .ok (.ifCond .ne 5, 3) := by decide +kernel
theorem dX1_outAt_18 : decode cX1_outAt 18 = .ok (.iconst 0, 1) := by decide +kernel
theorem dX1_outAt_19 : decode cX1_outAt 19 = .ok (.ireturn, 1) := by decide +kernel
theorem dX1_outAt_20 : decode cX1_outAt 20 = .ok (.aload_n 0, 1) := by decide +kernel
theorem dX1_outAt_21 : decode cX1_outAt 21 = .ok (.iload_n 2, 1) := by decide +kernel
theorem dX1_outAt_22 : decode cX1_outAt 22 = .ok (.invokevirtual 88, 3) := by decide +kernel
theorem dX1_outAt_25 : decode cX1_outAt 25 = .ok (.aload_n 0, 1) := by decide +kernel
theorem dX1_outAt_26 : decode cX1_outAt 26 = .ok (.getfield 38, 3) := by decide +kernel
theorem dX1_outAt_29 : decode cX1_outAt 29 = .ok (.iload_n 1, 1) := by decide +kernel
theorem dX1_outAt_30 : decode cX1_outAt 30 = .ok (.aaload, 1) := by decide +kernel
theorem dX1_outAt_31 : decode cX1_outAt 31 = .ok (.iload_n 2, 1) := by decide +kernel
theorem dX1_outAt_32 : decode cX1_outAt 32 = .ok (.iaload, 1) := by decide +kernel
theorem dX1_outAt_33 : decode cX1_outAt 33 = .ok (.ireturn, 1) := by decide +kernel
theorem dX1_restart_0 : decode cX1_restart 0 = .ok (.aload_n 0, 1) := by decide +kernel
theorem dX1_restart_1 : decode cX1_restart 1 = .ok (.iconst 0, 1) := by decide +kernel
theorem dX1_restart_2 : decode cX1_restart 2 = .ok (.putfield 45, 3) := by decide +kernel
theorem dX1_restart_5 : decode cX1_restart 5 = .ok (.aload_n 0, 1) := by decide +kernel
theorem dX1_restart_6 : decode cX1_restart 6 = .ok (.iconst 0, 1) := by decide +kernel
theorem dX1_restart_7 : decode cX1_restart 7 = .ok (.putfield 48, 3) := by decide +kernel
theorem dX1_restart_10 : decode cX1_restart 10 = .ok (.aload_n 0, 1) := by decide +kernel
theorem dX1_restart_11 : decode cX1_restart 11 = .ok (.iconst 0, 1) := by decide +kernel
theorem dX1_restart_12 : decode cX1_restart 12 = .ok (.putfield 51, 3) := by decide +kernel
theorem dX1_restart_15 : decode cX1_restart 15 = .ok (.return_, 1) := by decide +kernel
theorem dX1_told_0 : decode cX1_told 0 = .ok (.aload_n 0, 1) := by decide +kernel
theorem dX1_told_1 : decode cX1_told 1 = .ok (.getfield 12, 3) := by decide +kernel
theorem dX1_told_4 : decode cX1_told 4 = .ok (.getfield 92, 3) := by decide +kernel
theorem dX1_told_7 : decode cX1_told 7 = .ok (.iconst 0, 1) := by decide +kernel
theorem dX1_told_8 : decode cX1_told 8 = .ok (.aload_n 0, 1) := by decide +kernel
theorem dX1_told_9 : decode cX1_told 9 = .ok (.getfield 20, 3) := by decide +kernel
theorem dX1_told_12 : decode cX1_told 12 = .ok (.arraylength, 1) := by decide +kernel
theorem dX1_told_13 : decode cX1_told 13 = .ok (.iconst 1, 1) := by decide +kernel
theorem dX1_told_14 : decode cX1_told 14 = .ok (.isub, 1) := by decide +kernel
theorem dX1_told_15 : decode cX1_told 15 = .ok (.invokestatic 84, 3) := by decide +kernel
theorem dX1_told_18 : decode cX1_told 18 = .ok (.ifCond .eq 18, 3) := by decide +kernel
theorem dX1_told_21 : decode cX1_told 21 = .ok (.aload_n 0, 1) := by decide +kernel
theorem dX1_told_22 : decode cX1_told 22 = .ok (.getfield 20, 3) := by decide +kernel
theorem dX1_told_25 : decode cX1_told 25 = .ok (.aload_n 0, 1) := by decide +kernel
theorem dX1_told_26 : decode cX1_told 26 = .ok (.getfield 12, 3) := by decide +kernel
theorem dX1_told_29 : decode cX1_told 29 = .ok (.getfield 92, 3) := by decide +kernel
theorem dX1_told_32 : decode cX1_told 32 = .ok (.aaload, 1) := by decide +kernel
theorem dX1_told_33 : decode cX1_told 33 = .ok (.goto 7, 3) := by decide +kernel
theorem dX1_told_36 : decode cX1_told 36 = .ok (.aload_n 0, 1) := by decide +kernel
theorem dX1_told_37 : decode cX1_told 37 = .ok (.getfield 25, 3) := by decide +kernel
theorem dX1_told_40 : decode cX1_told 40 = .ok (.areturn, 1) := by decide +kernel
theorem dX1_next_0 : decode cX1_next 0 = .ok (.aload_n 0, 1) := by decide +kernel
theorem dX1_next_1 : decode cX1_next 1 = .ok (.invokevirtual 95, 3) := by decide +kernel
theorem dX1_next_4 : decode cX1_next 4 = .ok (.astore_n 2, 1) := by decide +kernel
theorem dX1_next_5 : decode cX1_next 5 = .ok (.aload_n 0, 1) := by decide +kernel
theorem dX1_next_6 : decode cX1_next 6 = .ok (.getfield 45, 3) := by decide +kernel
theorem dX1_next_9 : decode cX1_next 9 = .ok (.istore_n 3, 1) := by decide +kernel
theorem dX1_next_10 : decode cX1_next 10 = .ok (.iload_n 3, 1) := by decide +kernel
theorem dX1_next_11 : decode cX1_next 11 = .ok (.iload_n 1, 1) := by decide +kernel
theorem dX1_next_12 : decode cX1_next 12 = .ok (.if_icmp .ge 108, 3) := by decide +kernel
theorem dX1_next_15 : decode cX1_next 15 = .ok (.iload_n 3, 1) := by decide +kernel
theorem dX1_next_16 : decode cX1_next 16 = .ok (.sipush 2000, 3) := by decide +kernel
theorem dX1_next_19 : decode cX1_next 19 = .ok (.if_icmp .ge 101, 3) := by decide +kernel
theorem dX1_next_22 : decode cX1_next 22 = .ok (.aload_n 2, 1) := by decide +kernel
theorem dX1_next_23 : decode cX1_next 23 = .ok (.invokevirtual 99, 3) := by decide +kernel
theorem dX1_next_26 : decode cX1_next 26 = .ok (.ifCond .ne 13, 3) := by decide +kernel
theorem dX1_next_29 : decode cX1_next 29 = .ok (.aload_n 0, 1) := by decide +kernel
theorem dX1_next_30 : decode cX1_next 30 = .ok (.iload_n 3, 1) := by decide +kernel
theorem dX1_next_31 : decode cX1_next 31 = .ok (.invokevirtual 88, 3) := by decide +kernel
theorem dX1_next_34 : decode cX1_next 34 = .ok (.aload_n 0, 1) := by decide +kernel
theorem dX1_next_35 : decode cX1_next 35 = .ok (.iload_n 3, 1) := by decide +kernel
theorem dX1_next_36 : decode cX1_next 36 = .ok (.invokevirtual 103, 3) := by decide +kernel
theorem dX1_next_39 : decode cX1_next 39 = .ok (.aload_n 2, 1) := by decide +kernel
theorem dX1_next_40 : decode cX1_next 40 = .ok (.getfield 106, 3) := by decide +kernel
theorem dX1_next_43 : decode cX1_next 43 = .ok (.ifCond .eq 21, 3) := by decide +kernel
theorem dX1_next_46 : decode cX1_next 46 = .ok (.aload_n 0, 1) := by decide +kernel
theorem dX1_next_47 : decode cX1_next 47 = .ok (.getfield 32, 3) := by decide +kernel
theorem dX1_next_50 : decode cX1_next 50 = .ok (.aload_n 2, 1) := by decide +kernel
theorem dX1_next_51 : decode cX1_next 51 = .ok (.getfield 109, 3) := by decide +kernel
theorem dX1_next_54 : decode cX1_next 54 = .ok (.aload_n 2, 1) := by decide +kernel
theorem dX1_next_55 : decode cX1_next 55 = .ok (.getfield 106, 3) := by decide +kernel
theorem dX1_next_58 : decode cX1_next 58 = .ok (.invokevirtual 113, 3) := by decide +kernel
theorem dX1_next_61 : decode cX1_next 61 = .ok (.ifCond .eq 53, 3) := by decide +kernel
theorem dX1_next_64 : decode cX1_next 64 = .ok (.aload_n 0, 1) := by decide +kernel
theorem dX1_next_65 : decode cX1_next 65 = .ok (.iload_n 3, 1) := by decide +kernel
theorem dX1_next_66 : decode cX1_next 66 = .ok (.aload_n 0, 1) := by decide +kernel
theorem dX1_next_67 : decode cX1_next 67 = .ok (.getfield 12, 3) := by decide +kernel
theorem dX1_next_70 : decode cX1_next 70 = .ok (.getfield 117, 3) := by decide +kernel
theorem dX1_next_73 : decode cX1_next 73 = .ok (.iadd, 1) := by decide +kernel
theorem dX1_next_74 : decode cX1_next 74 = .ok (.putfield 51, 3) := by decide +kernel
theorem dX1_next_77 : decode cX1_next 77 = .ok (.aload_n 0, 1) := by decide +kernel
theorem dX1_next_78 : decode cX1_next 78 = .ok (.aload_n 0, 1) := by decide +kernel
theorem dX1_next_79 : decode cX1_next 79 = .ok (.getfield 51, 3) := by decide +kernel
theorem dX1_next_82 : decode cX1_next 82 = .ok (.bipush 20, 2) := by decide +kernel
theorem dX1_next_84 : decode cX1_next 84 = .ok (.aload_n 0, 1) := by decide +kernel
theorem dX1_next_85 : decode cX1_next 85 = .ok (.getfield 12, 3) := by decide +kernel
theorem dX1_next_88 : decode cX1_next 88 = .ok (.getfield 120, 3) := by decide +kernel
theorem dX1_next_91 : decode cX1_next 91 = .ok (.imul, 1) := by decide +kernel
theorem dX1_next_92 : decode cX1_next 92 = .ok (.iadd, 1) := by decide +kernel
theorem dX1_next_93 : decode cX1_next 93 = .ok (.aload_n 0, 1) := by decide +kernel
theorem dX1_next_94 : decode cX1_next 94 = .ok (.aload_n 2, 1) := by decide +kernel
theorem dX1_next_95 : decode cX1_next 95 = .ok (.invokevirtual 123, 3) := by decide +kernel
theorem dX1_next_98 : decode cX1_next 98 = .ok (.iadd, 1) := by decide +kernel
theorem dX1_next_99 : decode cX1_next 99 = .ok (.putfield 45, 3) := by decide +kernel
theorem dX1_next_102 : decode cX1_next 102 = .ok (.aload_n 0, 1) := by decide +kernel
theorem dX1_next_103 : decode cX1_next 103 = .ok (.dup, 1) := by decide +kernel
theorem dX1_next_104 : decode cX1_next 104 = .ok (.getfield 48, 3) := by decide +kernel
theorem dX1_next_107 : decode cX1_next 107 = .ok (.iconst 1, 1) := by decide +kernel
theorem dX1_next_108 : decode cX1_next 108 = .ok (.iadd, 1) := by decide +kernel
theorem dX1_next_109 : decode cX1_next 109 = .ok (.putfield 48, 3) := by decide +kernel
theorem dX1_next_112 : decode cX1_next 112 = .ok (.iconst 1, 1) := by decide +kernel
theorem dX1_next_113 : decode cX1_next 113 = .ok (.ireturn, 1) := by decide +kernel
theorem dX1_next_114 : decode cX1_next 114 = .ok (.iinc 3 1, 3) := by decide +kernel
theorem dX1_next_117 : decode cX1_next 117 = .ok (.goto (-107), 3) := by decide +kernel
theorem dX1_next_120 : decode cX1_next 120 = .ok (.iconst 0, 1) := by decide +kernel
theorem dX1_next_121 : decode cX1_next 121 = .ok (.ireturn, 1) := by decide +kernel
theorem dX1_look_0 : decode cX1_look 0 = .ok (.iload_n 1, 1) := by decide +kernel
theorem dX1_look_1 : decode cX1_look 1 = .ok (.iconst 0, 1) := by decide +kernel
theorem dX1_look_2 : decode cX1_look 2 = .ok (.sipush 1999, 3) := by decide +kernel
theorem dX1_look_5 : decode cX1_look 5 = .ok (.invokestatic 84, 3) := by decide +kernel
theorem dX1_look_8 : decode cX1_look 8 = .ok (.ifCond .eq 90, 3) := by decide +kernel
theorem dX1_look_11 : decode cX1_look 11 = .ok (.aload_n 0, 1) := by decide +kernel
theorem dX1_look_12 : decode cX1_look 12 = .ok (.getfield 32, 3) := by decide +kernel
theorem dX1_look_15 : decode cX1_look 15 = .ok (.aload_n 0, 1) := by decide +kernel
theorem dX1_look_16 : decode cX1_look 16 = .ok (.getfield 38, 3) := by decide +kernel
theorem dX1_look_19 : decode cX1_look 19 = .ok (.iconst 0, 1) := by decide +kernel
theorem dX1_look_20 : decode cX1_look 20 = .ok (.aaload, 1) := by decide +kernel
theorem dX1_look_21 : decode cX1_look 21 = .ok (.iload_n 1, 1) := by decide +kernel
theorem dX1_look_22 : decode cX1_look 22 = .ok (.iaload, 1) := by decide +kernel
theorem dX1_look_23 : decode cX1_look 23 = .ok (.putfield 127, 3) := by decide +kernel
theorem dX1_look_26 : decode cX1_look 26 = .ok (.aload_n 0, 1) := by decide +kernel
theorem dX1_look_27 : decode cX1_look 27 = .ok (.getfield 32, 3) := by decide +kernel
theorem dX1_look_30 : decode cX1_look 30 = .ok (.iload_n 1, 1) := by decide +kernel
theorem dX1_look_31 : decode cX1_look 31 = .ok (.ifCond .le 16, 3) := by decide +kernel
theorem dX1_look_34 : decode cX1_look 34 = .ok (.aload_n 0, 1) := by decide +kernel
theorem dX1_look_35 : decode cX1_look 35 = .ok (.getfield 38, 3) := by decide +kernel
theorem dX1_look_38 : decode cX1_look 38 = .ok (.iconst 0, 1) := by decide +kernel
theorem dX1_look_39 : decode cX1_look 39 = .ok (.aaload, 1) := by decide +kernel
theorem dX1_look_40 : decode cX1_look 40 = .ok (.iload_n 1, 1) := by decide +kernel
theorem dX1_look_41 : decode cX1_look 41 = .ok (.iconst 1, 1) := by decide +kernel
theorem dX1_look_42 : decode cX1_look 42 = .ok (.isub, 1) := by decide +kernel
theorem dX1_look_43 : decode cX1_look 43 = .ok (.iaload, 1) := by decide +kernel
theorem dX1_look_44 : decode cX1_look 44 = .ok (.goto 4, 3) := by decide +kernel
theorem dX1_look_47 : decode cX1_look 47 = .ok (.iconst 0, 1) := by decide +kernel
theorem dX1_look_48 : decode cX1_look 48 = .ok (.putfield 130, 3) := by decide +kernel
theorem dX1_look_51 : decode cX1_look 51 = .ok (.aload_n 0, 1) := by decide +kernel
theorem dX1_look_52 : decode cX1_look 52 = .ok (.getfield 32, 3) := by decide +kernel
theorem dX1_look_55 : decode cX1_look 55 = .ok (.aload_n 0, 1) := by decide +kernel
theorem dX1_look_56 : decode cX1_look 56 = .ok (.getfield 38, 3) := by decide +kernel
theorem dX1_look_59 : decode cX1_look 59 = .ok (.iconst 1, 1) := by decide +kernel
theorem dX1_look_60 : decode cX1_look 60 = .ok (.aaload, 1) := by decide +kernel
theorem dX1_look_61 : decode cX1_look 61 = .ok (.iload_n 1, 1) := by decide +kernel
theorem dX1_look_62 : decode cX1_look 62 = .ok (.iaload, 1) := by decide +kernel
theorem dX1_look_63 : decode cX1_look 63 = .ok (.putfield 133, 3) := by decide +kernel
theorem dX1_look_66 : decode cX1_look 66 = .ok (.aload_n 0, 1) := by decide +kernel
theorem dX1_look_67 : decode cX1_look 67 = .ok (.getfield 32, 3) := by decide +kernel
theorem dX1_look_70 : decode cX1_look 70 = .ok (.iload_n 1, 1) := by decide +kernel
theorem dX1_look_71 : decode cX1_look 71 = .ok (.putfield 136, 3) := by decide +kernel
theorem dX1_look_74 : decode cX1_look 74 = .ok (.aload_n 0, 1) := by decide +kernel
theorem dX1_look_75 : decode cX1_look 75 = .ok (.getfield 32, 3) := by decide +kernel
theorem dX1_look_78 : decode cX1_look 78 = .ok (.aload_n 0, 1) := by decide +kernel
theorem dX1_look_79 : decode cX1_look 79 = .ok (.getfield 48, 3) := by decide +kernel
theorem dX1_look_82 : decode cX1_look 82 = .ok (.putfield 139, 3) := by decide +kernel
theorem dX1_look_85 : decode cX1_look 85 = .ok (.aload_n 0, 1) := by decide +kernel
theorem dX1_look_86 : decode cX1_look 86 = .ok (.getfield 32, 3) := by decide +kernel
theorem dX1_look_89 : decode cX1_look 89 = .ok (.iload_n 1, 1) := by decide +kernel
theorem dX1_look_90 : decode cX1_look 90 = .ok (.aload_n 0, 1) := by decide +kernel
theorem dX1_look_91 : decode cX1_look 91 = .ok (.getfield 45, 3) := by decide +kernel
theorem dX1_look_94 : decode cX1_look 94 = .ok (.isub, 1) := by decide +kernel
theorem dX1_look_95 : decode cX1_look 95 = .ok (.putfield 140, 3) := by decide +kernel
theorem dX1_look_98 : decode cX1_look 98 = .ok (.return_, 1) := by decide +kernel
theorem dX1_heldBy_0 : decode cX1_heldBy 0 = .ok (.aload_n 1, 1) := by decide +kernel
theorem dX1_heldBy_1 : decode cX1_heldBy 1 = .ok (.getfield 143, 3) := by decide +kernel
theorem dX1_heldBy_4 : decode cX1_heldBy 4 = .ok (.ifCond .ne 5, 3) := by decide +kernel
theorem dX1_heldBy_7 : decode cX1_heldBy 7 = .ok (.iconst 0, 1) := by decide +kernel
theorem dX1_heldBy_8 : decode cX1_heldBy 8 = .ok (.ireturn, 1) := by decide +kernel
theorem dX1_heldBy_9 : decode cX1_heldBy 9 = .ok (.iconst 0, 1) := by decide +kernel
theorem dX1_heldBy_10 : decode cX1_heldBy 10 = .ok (.aload_n 0, 1) := by decide +kernel
theorem dX1_heldBy_11 : decode cX1_heldBy 11 = .ok (.getfield 32, 3) := by decide +kernel
theorem dX1_heldBy_14 : decode cX1_heldBy 14 = .ok (.aload_n 1, 1) := by decide +kernel
theorem dX1_heldBy_15 : decode cX1_heldBy 15 = .ok (.getfield 146, 3) := by decide +kernel
theorem dX1_heldBy_18 : decode cX1_heldBy 18 = .ok (.aload_n 1, 1) := by decide +kernel
theorem dX1_heldBy_19 : decode cX1_heldBy 19 = .ok (.getfield 143, 3) := by decide +kernel
theorem dX1_heldBy_22 : decode cX1_heldBy 22 = .ok (.invokevirtual 113, 3) := by decide +kernel
theorem dX1_heldBy_25 : decode cX1_heldBy 25 = .ok (.sipush 9999, 3) := by decide +kernel
theorem dX1_heldBy_28 : decode cX1_heldBy 28 = .ok (.invokestatic 149, 3) := by decide +kernel
theorem dX1_heldBy_31 : decode cX1_heldBy 31 = .ok (.invokestatic 154, 3) := by decide +kernel
theorem dX1_heldBy_34 : decode cX1_heldBy 34 = .ok (.ireturn, 1) := by decide +kernel
theorem dX1_draw_0 : decode cX1_draw 0 = .ok (.aload_n 1, 1) := by decide +kernel
theorem dX1_draw_1 : decode cX1_draw 1 = .ok (.invokevirtual 157, 3) := by decide +kernel
theorem dX1_draw_4 : decode cX1_draw 4 = .ok (.aload_n 0, 1) := by decide +kernel
theorem dX1_draw_5 : decode cX1_draw 5 = .ok (.iload_n 2, 1) := by decide +kernel
theorem dX1_draw_6 : decode cX1_draw 6 = .ok (.iconst 1, 1) := by decide +kernel
theorem dX1_draw_7 : decode cX1_draw 7 = .ok (.isub, 1) := by decide +kernel
theorem dX1_draw_8 : decode cX1_draw 8 = .ok (.invokevirtual 88, 3) := by decide +kernel
theorem dX1_draw_11 : decode cX1_draw 11 = .ok (.aload_n 0, 1) := by decide +kernel
theorem dX1_draw_12 : decode cX1_draw 12 = .ok (.invokevirtual 162, 3) := by decide +kernel
theorem dX1_draw_15 : decode cX1_draw 15 = .ok (.iconst 0, 1) := by decide +kernel
theorem dX1_draw_16 : decode cX1_draw 16 = .ok (.istore_n 3, 1) := by decide +kernel
theorem dX1_draw_17 : decode cX1_draw 17 = .ok (.iload_n 3, 1) := by decide +kernel
theorem dX1_draw_18 : decode cX1_draw 18 = .ok (.iload_n 2, 1) := by decide +kernel
theorem dX1_draw_19 : decode cX1_draw 19 = .ok (.if_icmp .ge 42, 3) := by decide +kernel
theorem dX1_draw_22 : decode cX1_draw 22 = .ok (.aload_n 0, 1) := by decide +kernel
theorem dX1_draw_23 : decode cX1_draw 23 = .ok (.iload_n 2, 1) := by decide +kernel
theorem dX1_draw_24 : decode cX1_draw 24 = .ok (.invokevirtual 165, 3) := by decide +kernel
theorem dX1_draw_27 : decode cX1_draw 27 = .ok (.ifCond .eq 34, 3) := by decide +kernel
theorem dX1_draw_30 : decode cX1_draw 30 = .ok (.aload_n 0, 1) := by decide +kernel
theorem dX1_draw_31 : decode cX1_draw 31 = .ok (.getfield 51, 3) := by decide +kernel
theorem dX1_draw_34 : decode cX1_draw 34 = .ok (.iload_n 2, 1) := by decide +kernel
theorem dX1_draw_35 : decode cX1_draw 35 = .ok (.if_icmp .ge 20, 3) := by decide +kernel
theorem dX1_draw_38 : decode cX1_draw 38 = .ok (.aload_n 1, 1) := by decide +kernel
theorem dX1_draw_39 : decode cX1_draw 39 = .ok (.aload_n 0, 1) := by decide +kernel
theorem dX1_draw_40 : decode cX1_draw 40 = .ok (.getfield 12, 3) := by decide +kernel
theorem dX1_draw_43 : decode cX1_draw 43 = .ok (.getfield 168, 3) := by decide +kernel
theorem dX1_draw_46 : decode cX1_draw 46 = .ok (.invokevirtual 171, 3) := by decide +kernel
theorem dX1_draw_49 : decode cX1_draw 49 = .ok (.aload_n 0, 1) := by decide +kernel
theorem dX1_draw_50 : decode cX1_draw 50 = .ok (.aload_n 1, 1) := by decide +kernel
theorem dX1_draw_51 : decode cX1_draw 51 = .ok (.iload_n 2, 1) := by decide +kernel
theorem dX1_draw_52 : decode cX1_draw 52 = .ok (.invokevirtual 174, 3) := by decide +kernel
theorem dX1_draw_55 : decode cX1_draw 55 = .ok (.iinc 3 1, 3) := by decide +kernel
theorem dX1_draw_58 : decode cX1_draw 58 = .ok (.goto (-41), 3) := by decide +kernel
theorem dX1_draw_61 : decode cX1_draw 61 = .ok (.return_, 1) := by decide +kernel
theorem dX1_drawSweep_0 : decode cX1_drawSweep 0 = .ok (.iconst 0, 1) := by decide +kernel
theorem dX1_drawSweep_1 : decode cX1_drawSweep 1 = .ok (.istore_n 3, 1) := by decide +kernel
theorem dX1_drawSweep_2 : decode cX1_drawSweep 2 = .ok (.iload_n 3, 1) := by decide +kernel
theorem dX1_drawSweep_3 : decode cX1_drawSweep 3 = .ok (.bipush 20, 2) := by decide +kernel
theorem dX1_drawSweep_5 : decode cX1_drawSweep 5 = .ok (.if_icmp .ge 51, 3) := by decide +kernel
theorem dX1_drawSweep_8 : decode cX1_drawSweep 8 = .ok (.aload_n 0, 1) := by decide +kernel
theorem dX1_drawSweep_9 : decode cX1_drawSweep 9 = .ok (.getfield 51, 3) := by decide +kernel
theorem dX1_drawSweep_12 : decode cX1_drawSweep 12 = .ok (.iload_n 3, 1) := by decide +kernel
theorem dX1_drawSweep_13 : decode cX1_drawSweep 13 = .ok (.aload_n 0, 1) := by decide +kernel
theorem dX1_drawSweep_14 : decode cX1_drawSweep 14 = .ok (.getfield 12, 3) := by decide +kernel
theorem dX1_drawSweep_17 : decode cX1_drawSweep 17 = .ok (.getfield 120, 3) := by decide +kernel
theorem dX1_drawSweep_20 : decode cX1_drawSweep 20 = .ok (.imul, 1) := by decide +kernel
theorem dX1_drawSweep_21 : decode cX1_drawSweep 21 = .ok (.iadd, 1) := by decide +kernel
theorem dX1_drawSweep_22 : decode cX1_drawSweep 22 = .ok (.istore 4, 2) := by decide +kernel
theorem dX1_drawSweep_24 : decode cX1_drawSweep 24 = .ok (.iload 4, 2) := by decide +kernel
theorem dX1_drawSweep_26 : decode cX1_drawSweep 26 = .ok (.iload_n 2, 1) := by decide +kernel
theorem dX1_drawSweep_27 : decode cX1_drawSweep 27 = .ok (.if_icmp .ge 23, 3) := by decide +kernel
theorem dX1_drawSweep_30 : decode cX1_drawSweep 30 = .ok (.iload 4, 2) := by decide +kernel
theorem dX1_drawSweep_32 : decode cX1_drawSweep 32 = .ok (.iconst 0, 1) := by decide +kernel
theorem dX1_drawSweep_33 : decode cX1_drawSweep 33 = .ok (.sipush 1999, 3) := by decide +kernel
theorem dX1_drawSweep_36 : decode cX1_drawSweep 36 = .ok (.invokestatic 84, 3) := by decide +kernel
theorem dX1_drawSweep_39 : decode cX1_drawSweep 39 = .ok (.ifCond .eq 11, 3) := by decide +kernel
theorem dX1_drawSweep_42 : decode cX1_drawSweep 42 = .ok (.aload_n 0, 1) := by decide +kernel
theorem dX1_drawSweep_43 : decode cX1_drawSweep 43 = .ok (.aload_n 1, 1) := by decide +kernel
theorem dX1_drawSweep_44 : decode cX1_drawSweep 44 = .ok (.iload_n 3, 1) := by decide +kernel
theorem dX1_drawSweep_45 : decode cX1_drawSweep 45 = .ok (.iload 4, 2) := by decide +kernel
theorem dX1_drawSweep_47 : decode cX1_drawSweep 47 = .ok (.invokevirtual 178, 3) := by decide +kernel
theorem dX1_drawSweep_50 : decode cX1_drawSweep 50 = .ok (.iinc 3 1, 3) := by decide +kernel
theorem dX1_drawSweep_53 : decode cX1_drawSweep 53 = .ok (.goto (-51), 3) := by decide +kernel
theorem dX1_drawSweep_56 : decode cX1_drawSweep 56 = .ok (.return_, 1) := by decide +kernel
theorem dX1_drawDot_0 : decode cX1_drawDot 0 = .ok (.aload_n 0, 1) := by decide +kernel
theorem dX1_drawDot_1 : decode cX1_drawDot 1 = .ok (.getfield 12, 3) := by decide +kernel
theorem dX1_drawDot_4 : decode cX1_drawDot 4 = .ok (.getfield 182, 3) := by decide +kernel
theorem dX1_drawDot_7 : decode cX1_drawDot 7 = .ok (.iconst 3, 1) := by decide +kernel
theorem dX1_drawDot_8 : decode cX1_drawDot 8 = .ok (.if_icmp .ne 58, 3) := by decide +kernel
theorem dX1_drawDot_11 : decode cX1_drawDot 11 = .ok (.aload_n 0, 1) := by decide +kernel
theorem dX1_drawDot_12 : decode cX1_drawDot 12 = .ok (.getfield 12, 3) := by decide +kernel
theorem dX1_drawDot_15 : decode cX1_drawDot 15 = .ok (.getfield 54, 3) := by decide +kernel
theorem dX1_drawDot_18 : decode cX1_drawDot 18 = .ok (.iconst 0, 1) := by decide +kernel
theorem dX1_drawDot_19 : decode cX1_drawDot 19 = .ok (.aaload, 1) := by decide +kernel
theorem dX1_drawDot_20 : decode cX1_drawDot 20 = .ok (.bipush 10, 2) := by decide +kernel
theorem dX1_drawDot_22 : decode cX1_drawDot 22 = .ok (.aload_n 0, 1) := by decide +kernel
theorem dX1_drawDot_23 : decode cX1_drawDot 23 = .ok (.getfield 38, 3) := by decide +kernel
theorem dX1_drawDot_26 : decode cX1_drawDot 26 = .ok (.iconst 0, 1) := by decide +kernel
theorem dX1_drawDot_27 : decode cX1_drawDot 27 = .ok (.aaload, 1) := by decide +kernel
theorem dX1_drawDot_28 : decode cX1_drawDot 28 = .ok (.iload_n 3, 1) := by decide +kernel
theorem dX1_drawDot_29 : decode cX1_drawDot 29 = .ok (.iaload, 1) := by decide +kernel
theorem dX1_drawDot_30 : decode cX1_drawDot 30 = .ok (.invokevirtual 185, 3) := by decide +kernel
theorem dX1_drawDot_33 : decode cX1_drawDot 33 = .ok (.istore 4, 2) := by decide +kernel
theorem dX1_drawDot_35 : decode cX1_drawDot 35 = .ok (.aload_n 1, 1) := by decide +kernel
theorem dX1_drawDot_36 : decode cX1_drawDot 36 = .ok (.iload 4, 2) := by decide +kernel
theorem dX1_drawDot_38 : decode cX1_drawDot 38 = .ok (.aload_n 0, 1) := by decide +kernel
theorem dX1_drawDot_39 : decode cX1_drawDot 39 = .ok (.getfield 12, 3) := by decide +kernel
theorem dX1_drawDot_42 : decode cX1_drawDot 42 = .ok (.getfield 54, 3) := by decide +kernel
theorem dX1_drawDot_45 : decode cX1_drawDot 45 = .ok (.iconst 1, 1) := by decide +kernel
theorem dX1_drawDot_46 : decode cX1_drawDot 46 = .ok (.aaload, 1) := by decide +kernel
theorem dX1_drawDot_47 : decode cX1_drawDot 47 = .ok (.bipush 8, 2) := by decide +kernel
theorem dX1_drawDot_49 : decode cX1_drawDot 49 = .ok (.aload_n 0, 1) := by decide +kernel
theorem dX1_drawDot_50 : decode cX1_drawDot 50 = .ok (.getfield 38, 3) := by decide +kernel
theorem dX1_drawDot_53 : decode cX1_drawDot 53 = .ok (.iconst 1, 1) := by decide +kernel
theorem dX1_drawDot_54 : decode cX1_drawDot 54 = .ok (.aaload, 1) := by decide +kernel
theorem dX1_drawDot_55 : decode cX1_drawDot 55 = .ok (.iload_n 3, 1) := by decide +kernel
theorem dX1_drawDot_56 : decode cX1_drawDot 56 = .ok (.iaload, 1) := by decide +kernel
theorem dX1_drawDot_57 : decode cX1_drawDot 57 = .ok (.invokevirtual 185, 3) := by decide +kernel
theorem dX1_drawDot_60 : decode cX1_drawDot 60 = .ok (.invokevirtual 188, 3) := by decide +kernel
theorem dX1_drawDot_63 : decode cX1_drawDot 63 = .ok (.goto 39, 3) := by decide +kernel
theorem dX1_drawDot_66 : decode cX1_drawDot 66 = .ok (.aload_n 0, 1) := by decide +kernel
theorem dX1_drawDot_67 : decode cX1_drawDot 67 = .ok (.iload_n 3, 1) := by decide +kernel
theorem dX1_drawDot_68 : decode cX1_drawDot 68 = .ok (.invokevirtual 192, 3) := by decide +kernel
theorem dX1_drawDot_71 : decode cX1_drawDot 71 = .ok (.istore 4, 2) := by decide +kernel
theorem dX1_drawDot_73 : decode cX1_drawDot 73 = .ok (.aload_n 1, 1) := by decide +kernel
theorem dX1_drawDot_74 : decode cX1_drawDot 74 = .ok (.iload_n 2, 1) := by decide +kernel
theorem dX1_drawDot_75 : decode cX1_drawDot 75 = .ok (.aload_n 0, 1) := by decide +kernel
theorem dX1_drawDot_76 : decode cX1_drawDot 76 = .ok (.getfield 12, 3) := by decide +kernel
theorem dX1_drawDot_79 : decode cX1_drawDot 79 = .ok (.getfield 54, 3) := by decide +kernel
theorem dX1_drawDot_82 : decode cX1_drawDot 82 = .ok (.iload 4, 2) := by decide +kernel
theorem dX1_drawDot_84 : decode cX1_drawDot 84 = .ok (.aaload, 1) := by decide +kernel
theorem dX1_drawDot_85 : decode cX1_drawDot 85 = .ok (.bipush 8, 2) := by decide +kernel
theorem dX1_drawDot_87 : decode cX1_drawDot 87 = .ok (.aload_n 0, 1) := by decide +kernel
theorem dX1_drawDot_88 : decode cX1_drawDot 88 = .ok (.getfield 38, 3) := by decide +kernel
theorem dX1_drawDot_91 : decode cX1_drawDot 91 = .ok (.iload 4, 2) := by decide +kernel
theorem dX1_drawDot_93 : decode cX1_drawDot 93 = .ok (.aaload, 1) := by decide +kernel
theorem dX1_drawDot_94 : decode cX1_drawDot 94 = .ok (.iload_n 3, 1) := by decide +kernel
theorem dX1_drawDot_95 : decode cX1_drawDot 95 = .ok (.iaload, 1) := by decide +kernel
theorem dX1_drawDot_96 : decode cX1_drawDot 96 = .ok (.invokevirtual 185, 3) := by decide +kernel
theorem dX1_drawDot_99 : decode cX1_drawDot 99 = .ok (.invokevirtual 188, 3) := by decide +kernel
theorem dX1_drawDot_102 : decode cX1_drawDot 102 = .ok (.return_, 1) := by decide +kernel
theorem dX1_turnAt_0 : decode cX1_turnAt 0 = .ok (.aload_n 0, 1) := by decide +kernel
theorem dX1_turnAt_1 : decode cX1_turnAt 1 = .ok (.getfield 12, 3) := by decide +kernel
theorem dX1_turnAt_4 : decode cX1_turnAt 4 = .ok (.getfield 182, 3) := by decide +kernel
theorem dX1_turnAt_7 : decode cX1_turnAt 7 = .ok (.iconst 1, 1) := by decide +kernel
theorem dX1_turnAt_8 : decode cX1_turnAt 8 = .ok (.if_icmp .ne 18, 3) := by decide +kernel
theorem dX1_turnAt_11 : decode cX1_turnAt 11 = .ok (.aload_n 0, 1) := by decide +kernel
theorem dX1_turnAt_12 : decode cX1_turnAt 12 = .ok (.getfield 48, 3) := by decide +kernel
theorem dX1_turnAt_15 : decode cX1_turnAt 15 = .ok (.iconst 2, 1) := by decide +kernel
theorem dX1_turnAt_16 : decode cX1_turnAt 16 = .ok (.irem, 1) := by decide +kernel
theorem dX1_turnAt_17 : decode cX1_turnAt 17 = .ok (.ifCond .ne 7, 3) := by decide +kernel
theorem dX1_turnAt_20 : decode cX1_turnAt 20 = .ok (.iconst 1, 1) := by decide +kernel
theorem dX1_turnAt_21 : decode cX1_turnAt 21 = .ok (.goto 4, 3) := by decide +kernel
theorem dX1_turnAt_24 : decode cX1_turnAt 24 = .ok (.iconst 0, 1) := by decide +kernel
theorem dX1_turnAt_25 : decode cX1_turnAt 25 = .ok (.ireturn, 1) := by decide +kernel
theorem dX1_turnAt_26 : decode cX1_turnAt 26 = .ok (.aload_n 0, 1) := by decide +kernel
theorem dX1_turnAt_27 : decode cX1_turnAt 27 = .ok (.getfield 12, 3) := by decide +kernel
theorem dX1_turnAt_30 : decode cX1_turnAt 30 = .ok (.getfield 182, 3) := by decide +kernel
theorem dX1_turnAt_33 : decode cX1_turnAt 33 = .ok (.iconst 2, 1) := by decide +kernel
theorem dX1_turnAt_34 : decode cX1_turnAt 34 = .ok (.if_icmp .ne 33, 3) := by decide +kernel
theorem dX1_turnAt_37 : decode cX1_turnAt 37 = .ok (.aload_n 0, 1) := by decide +kernel
theorem dX1_turnAt_38 : decode cX1_turnAt 38 = .ok (.getfield 12, 3) := by decide +kernel
theorem dX1_turnAt_41 : decode cX1_turnAt 41 = .ok (.getfield 195, 3) := by decide +kernel
theorem dX1_turnAt_44 : decode cX1_turnAt 44 = .ok (.ifCond .le 23, 3) := by decide +kernel
theorem dX1_turnAt_47 : decode cX1_turnAt 47 = .ok (.iload_n 1, 1) := by decide +kernel
theorem dX1_turnAt_48 : decode cX1_turnAt 48 = .ok (.aload_n 0, 1) := by decide +kernel
theorem dX1_turnAt_49 : decode cX1_turnAt 49 = .ok (.getfield 12, 3) := by decide +kernel
theorem dX1_turnAt_52 : decode cX1_turnAt 52 = .ok (.getfield 195, 3) := by decide +kernel
theorem dX1_turnAt_55 : decode cX1_turnAt 55 = .ok (.idiv, 1) := by decide +kernel
theorem dX1_turnAt_56 : decode cX1_turnAt 56 = .ok (.iconst 2, 1) := by decide +kernel
theorem dX1_turnAt_57 : decode cX1_turnAt 57 = .ok (.irem, 1) := by decide +kernel
theorem dX1_turnAt_58 : decode cX1_turnAt 58 = .ok (.ifCond .ne 7, 3) := by decide +kernel
theorem dX1_turnAt_61 : decode cX1_turnAt 61 = .ok (.iconst 0, 1) := by decide +kernel
theorem dX1_turnAt_62 : decode cX1_turnAt 62 = .ok (.goto 4, 3) := by decide +kernel
theorem dX1_turnAt_65 : decode cX1_turnAt 65 = .ok (.iconst 1, 1) := by decide +kernel
theorem dX1_turnAt_66 : decode cX1_turnAt 66 = .ok (.ireturn, 1) := by decide +kernel
theorem dX1_turnAt_67 : decode cX1_turnAt 67 = .ok (.iconst 0, 1) := by decide +kernel
theorem dX1_turnAt_68 : decode cX1_turnAt 68 = .ok (.ireturn, 1) := by decide +kernel
theorem dX1_catches_0 : decode cX1_catches 0 = .ok (.aload_n 0, 1) := by decide +kernel
theorem dX1_catches_1 : decode cX1_catches 1 = .ok (.invokevirtual 162, 3) := by decide +kernel
theorem dX1_catches_4 : decode cX1_catches 4 = .ok (.iconst 0, 1) := by decide +kernel
theorem dX1_catches_5 : decode cX1_catches 5 = .ok (.istore 4, 2) := by decide +kernel
theorem dX1_catches_7 : decode cX1_catches 7 = .ok (.iload 4, 2) := by decide +kernel
theorem dX1_catches_9 : decode cX1_catches 9 = .ok (.iload_n 3, 1) := by decide +kernel
theorem dX1_catches_10 : decode cX1_catches 10 = .ok (.if_icmp .ge 77, 3) := by decide +kernel
theorem dX1_catches_13 : decode cX1_catches 13 = .ok (.aload_n 0, 1) := by decide +kernel
theorem dX1_catches_14 : decode cX1_catches 14 = .ok (.iload_n 3, 1) := by decide +kernel
theorem dX1_catches_15 : decode cX1_catches 15 = .ok (.invokevirtual 165, 3) := by decide +kernel
theorem dX1_catches_18 : decode cX1_catches 18 = .ok (.ifCond .eq 69, 3) := by decide +kernel
theorem dX1_catches_21 : decode cX1_catches 21 = .ok (.iconst 0, 1) := by decide +kernel
theorem dX1_catches_22 : decode cX1_catches 22 = .ok (.istore 5, 2) := by decide +kernel
theorem dX1_catches_24 : decode cX1_catches 24 = .ok (.iload 5, 2) := by decide +kernel
theorem dX1_catches_26 : decode cX1_catches 26 = .ok (.bipush 20, 2) := by decide +kernel
theorem dX1_catches_28 : decode cX1_catches 28 = .ok (.if_icmp .ge 53, 3) := by decide +kernel
theorem dX1_catches_31 : decode cX1_catches 31 = .ok (.aload_n 0, 1) := by decide +kernel
theorem dX1_catches_32 : decode cX1_catches 32 = .ok (.getfield 51, 3) := by decide +kernel
theorem dX1_catches_35 : decode cX1_catches 35 = .ok (.iload 5, 2) := by decide +kernel
theorem dX1_catches_37 : decode cX1_catches 37 = .ok (.aload_n 0, 1) := by decide +kernel
theorem dX1_catches_38 : decode cX1_catches 38 = .ok (.getfield 12, 3) := by decide +kernel
theorem dX1_catches_41 : decode cX1_catches 41 = .ok (.getfield 120, 3) := by decide +kernel
theorem dX1_catches_44 : decode cX1_catches 44 = .ok (.imul, 1) := by decide +kernel
theorem dX1_catches_45 : decode cX1_catches 45 = .ok (.iadd, 1) := by decide +kernel
theorem dX1_catches_46 : decode cX1_catches 46 = .ok (.istore 6, 2) := by decide +kernel
theorem dX1_catches_48 : decode cX1_catches 48 = .ok (.iload 6, 2) := by decide +kernel
theorem dX1_catches_50 : decode cX1_catches 50 = .ok (.iload_n 3, 1) := by decide +kernel
theorem dX1_catches_51 : decode cX1_catches 51 = .ok (.if_icmp .ge 24, 3) := by decide +kernel
theorem dX1_catches_54 : decode cX1_catches 54 = .ok (.aload_n 2, 1) := by decide +kernel
theorem dX1_catches_55 : decode cX1_catches 55 = .ok (.iload 6, 2) := by decide +kernel
theorem dX1_catches_57 : decode cX1_catches 57 = .ok (.invokevirtual 198, 3) := by decide +kernel
theorem dX1_catches_60 : decode cX1_catches 60 = .ok (.ifCond .eq 15, 3) := by decide +kernel
theorem dX1_catches_63 : decode cX1_catches 63 = .ok (.aload_n 0, 1) := by decide +kernel
theorem dX1_catches_64 : decode cX1_catches 64 = .ok (.iload_n 1, 1) := by decide +kernel
theorem dX1_catches_65 : decode cX1_catches 65 = .ok (.iload 6, 2) := by decide +kernel
theorem dX1_catches_67 : decode cX1_catches 67 = .ok (.invokevirtual 203, 3) := by decide +kernel
theorem dX1_catches_70 : decode cX1_catches 70 = .ok (.ifCond .eq 5, 3) := by decide +kernel
theorem dX1_catches_73 : decode cX1_catches 73 = .ok (.iconst 1, 1) := by decide +kernel
theorem dX1_catches_74 : decode cX1_catches 74 = .ok (.ireturn, 1) := by decide +kernel
theorem dX1_catches_75 : decode cX1_catches 75 = .ok (.iinc 5 1, 3) := by decide +kernel
theorem dX1_catches_78 : decode cX1_catches 78 = .ok (.goto (-54), 3) := by decide +kernel
theorem dX1_catches_81 : decode cX1_catches 81 = .ok (.iinc 4 1, 3) := by decide +kernel
theorem dX1_catches_84 : decode cX1_catches 84 = .ok (.goto (-77), 3) := by decide +kernel
theorem dX1_catches_87 : decode cX1_catches 87 = .ok (.iconst 0, 1) := by decide +kernel
theorem dX1_catches_88 : decode cX1_catches 88 = .ok (.ireturn, 1) := by decide +kernel
theorem dX1_isShown_0 : decode cX1_isShown 0 = .ok (.aload_n 0, 1) := by decide +kernel
theorem dX1_isShown_1 : decode cX1_isShown 1 = .ok (.getfield 12, 3) := by decide +kernel
theorem dX1_isShown_4 : decode cX1_isShown 4 = .ok (.getfield 182, 3) := by decide +kernel
theorem dX1_isShown_7 : decode cX1_isShown 7 = .ok (.iconst 3, 1) := by decide +kernel
theorem dX1_isShown_8 : decode cX1_isShown 8 = .ok (.if_icmp .ne 41, 3) := by decide +kernel
theorem dX1_isShown_11 : decode cX1_isShown 11 = .ok (.aload_n 0, 1) := by decide +kernel
theorem dX1_isShown_12 : decode cX1_isShown 12 = .ok (.getfield 12, 3) := by decide +kernel
theorem dX1_isShown_15 : decode cX1_isShown 15 = .ok (.getfield 54, 3) := by decide +kernel
theorem dX1_isShown_18 : decode cX1_isShown 18 = .ok (.iconst 0, 1) := by decide +kernel
theorem dX1_isShown_19 : decode cX1_isShown 19 = .ok (.aaload, 1) := by decide +kernel
theorem dX1_isShown_20 : decode cX1_isShown 20 = .ok (.getfield 58, 3) := by decide +kernel
theorem dX1_isShown_23 : decode cX1_isShown 23 = .ok (.iload_n 1, 1) := by decide +kernel
theorem dX1_isShown_24 : decode cX1_isShown 24 = .ok (.if_icmp .eq 19, 3) := by decide +kernel
theorem dX1_isShown_27 : decode cX1_isShown 27 = .ok (.aload_n 0, 1) := by decide +kernel
theorem dX1_isShown_28 : decode cX1_isShown 28 = .ok (.getfield 12, 3) := by decide +kernel
theorem dX1_isShown_31 : decode cX1_isShown 31 = .ok (.getfield 54, 3) := by decide +kernel
theorem dX1_isShown_34 : decode cX1_isShown 34 = .ok (.iconst 1, 1) := by decide +kernel
theorem dX1_isShown_35 : decode cX1_isShown 35 = .ok (.aaload, 1) := by decide +kernel
theorem dX1_isShown_36 : decode cX1_isShown 36 = .ok (.getfield 58, 3) := by decide +kernel
theorem dX1_isShown_39 : decode cX1_isShown 39 = .ok (.iload_n 1, 1) := by decide +kernel
theorem dX1_isShown_40 : decode cX1_isShown 40 = .ok (.if_icmp .ne 7, 3) := by decide +kernel
theorem dX1_isShown_43 : decode cX1_isShown 43 = .ok (.iconst 1, 1) := by decide +kernel
theorem dX1_isShown_44 : decode cX1_isShown 44 = .ok (.goto 4, 3) := by decide +kernel
theorem dX1_isShown_47 : decode cX1_isShown 47 = .ok (.iconst 0, 1) := by decide +kernel
theorem dX1_isShown_48 : decode cX1_isShown 48 = .ok (.ireturn, 1) := by decide +kernel
theorem dX1_isShown_49 : decode cX1_isShown 49 = .ok (.aload_n 0, 1) := by decide +kernel
theorem dX1_isShown_50 : decode cX1_isShown 50 = .ok (.getfield 12, 3) := by decide +kernel
theorem dX1_isShown_53 : decode cX1_isShown 53 = .ok (.getfield 54, 3) := by decide +kernel
theorem dX1_isShown_56 : decode cX1_isShown 56 = .ok (.aload_n 0, 1) := by decide +kernel
theorem dX1_isShown_57 : decode cX1_isShown 57 = .ok (.iload_n 2, 1) := by decide +kernel
theorem dX1_isShown_58 : decode cX1_isShown 58 = .ok (.invokevirtual 192, 3) := by decide +kernel
theorem dX1_isShown_61 : decode cX1_isShown 61 = .ok (.aaload, 1) := by decide +kernel
theorem dX1_isShown_62 : decode cX1_isShown 62 = .ok (.getfield 58, 3) := by decide +kernel
theorem dX1_isShown_65 : decode cX1_isShown 65 = .ok (.iload_n 1, 1) := by decide +kernel
theorem dX1_isShown_66 : decode cX1_isShown 66 = .ok (.if_icmp .ne 7, 3) := by decide +kernel
theorem dX1_isShown_69 : decode cX1_isShown 69 = .ok (.iconst 1, 1) := by decide +kernel
theorem dX1_isShown_70 : decode cX1_isShown 70 = .ok (.goto 4, 3) := by decide +kernel
theorem dX1_isShown_73 : decode cX1_isShown 73 = .ok (.iconst 0, 1) := by decide +kernel
theorem dX1_isShown_74 : decode cX1_isShown 74 = .ok (.ireturn, 1) := by decide +kernel
theorem dX2_init_0 : decode cX2_init 0 = .ok (.aload_n 0, 1) := by decide +kernel
theorem dX2_init_1 : decode cX2_init 1 = .ok (.invokespecial 3, 3) := by decide +kernel
theorem dX2_init_4 : decode cX2_init 4 = .ok (.aload_n 0, 1) := by decide +kernel
theorem dX2_init_5 : decode cX2_init 5 = .ok (.iconst 0, 1) := by decide +kernel
theorem dX2_init_6 : decode cX2_init 6 = .ok (.putfield 9, 3) := by decide +kernel
theorem dX2_init_9 : decode cX2_init 9 = .ok (.aload_n 0, 1) := by decide +kernel
theorem dX2_init_10 : decode cX2_init 10 = .ok (.iconst 1, 1) := by decide +kernel
theorem dX2_init_11 : decode cX2_init 11 = .ok (.putfield 15, 3) := by decide +kernel
theorem dX2_init_14 : decode cX2_init 14 = .ok (.aload_n 0, 1) := by decide +kernel
theorem dX2_init_15 : decode cX2_init 15 = .ok (.iconst 1, 1) := by decide +kernel
theorem dX2_init_16 : decode cX2_init 16 = .ok (.putfield 18, 3) := by decide +kernel
theorem dX2_init_19 : decode cX2_init 19 = .ok (.aload_n 0, 1) := by decide +kernel
theorem dX2_init_20 : decode cX2_init 20 = .ok (.bipush 16, 2) := by decide +kernel
theorem dX2_init_22 : decode cX2_init 22 = .ok (.putfield 21, 3) := by decide +kernel
theorem dX2_init_25 : decode cX2_init 25 = .ok (.aload_n 0, 1) := by decide +kernel
theorem dX2_init_26 : decode cX2_init 26 = .ok (.bipush 10, 2) := by decide +kernel
theorem dX2_init_28 : decode cX2_init 28 = .ok (.putfield 24, 3) := by decide +kernel
theorem dX2_init_31 : decode cX2_init 31 = .ok (.aload_n 0, 1) := by decide +kernel
theorem dX2_init_32 : decode cX2_init 32 = .ok (.iconst 0, 1) := by decide +kernel
theorem dX2_init_33 : decode cX2_init 33 = .ok (.putfield 27, 3) := by decide +kernel
theorem dX2_init_36 : decode cX2_init 36 = .ok (.aload_n 0, 1) := by decide +kernel
theorem dX2_init_37 : decode cX2_init 37 = .ok (.iload_n 1, 1) := by decide +kernel
theorem dX2_init_38 : decode cX2_init 38 = .ok (.putfield 9, 3) := by decide +kernel
theorem dX2_init_41 : decode cX2_init 41 = .ok (.return_, 1) := by decide +kernel
theorem dX2_setProbe_0 : decode cX2_setProbe 0 = .ok (.aload_n 0, 1) := by decide +kernel
theorem dX2_setProbe_1 : decode cX2_setProbe 1 = .ok (.iload_n 1, 1) := by decide +kernel
theorem dX2_setProbe_2 : decode cX2_setProbe 2 = .ok (.putfield 15, 3) := by decide +kernel
theorem dX2_setProbe_5 : decode cX2_setProbe 5 = .ok (.aload_n 0, 1) := by decide +kernel
theorem dX2_setProbe_6 : decode cX2_setProbe 6 = .ok (.iload_n 2, 1) := by decide +kernel
theorem dX2_setProbe_7 : decode cX2_setProbe 7 = .ok (.putfield 18, 3) := by decide +kernel
theorem dX2_setProbe_10 : decode cX2_setProbe 10 = .ok (.aload_n 0, 1) := by decide +kernel
theorem dX2_setProbe_11 : decode cX2_setProbe 11 = .ok (.iload_n 3, 1) := by decide +kernel
theorem dX2_setProbe_12 : decode cX2_setProbe 12 = .ok (.putfield 21, 3) := by decide +kernel
theorem dX2_setProbe_15 : decode cX2_setProbe 15 = .ok (.return_, 1) := by decide +kernel
theorem dX2_setView_0 : decode cX2_setView 0 = .ok (.aload_n 0, 1) := by decide +kernel
theorem dX2_setView_1 : decode cX2_setView 1 = .ok (.iload_n 1, 1) := by decide +kernel
theorem dX2_setView_2 : decode cX2_setView 2 = .ok (.putfield 9, 3) := by decide +kernel
theorem dX2_setView_5 : decode cX2_setView 5 = .ok (.aload_n 0, 1) := by decide +kernel
theorem dX2_setView_6 : decode cX2_setView 6 = .ok (.iload_n 2, 1) := by decide +kernel
theorem dX2_setView_7 : decode cX2_setView 7 = .ok (.putfield 24, 3) := by decide +kernel
theorem dX2_setView_10 : decode cX2_setView 10 = .ok (.aload_n 0, 1) := by decide +kernel
theorem dX2_setView_11 : decode cX2_setView 11 = .ok (.iload_n 3, 1) := by decide +kernel
theorem dX2_setView_12 : decode cX2_setView 12 = .ok (.putfield 27, 3) := by decide +kernel
theorem dX2_setView_15 : decode cX2_setView 15 = .ok (.return_, 1) := by decide +kernel
theorem dX2_copyFrom_0 : decode cX2_copyFrom 0 = .ok (.aload_n 0, 1) := by decide +kernel
theorem dX2_copyFrom_1 : decode cX2_copyFrom 1 = .ok (.aload_n 1, 1) := by decide +kernel
theorem dX2_copyFrom_2 : decode cX2_copyFrom 2 = .ok (.getfield 15, 3) := by decide +kernel
theorem dX2_copyFrom_5 : decode cX2_copyFrom 5 = .ok (.aload_n 1, 1) := by decide +kernel
theorem dX2_copyFrom_6 : decode cX2_copyFrom 6 = .ok (.getfield 18, 3) := by decide +kernel
theorem dX2_copyFrom_9 : decode cX2_copyFrom 9 = .ok (.aload_n 1, 1) := by decide +kernel
theorem dX2_copyFrom_10 : decode cX2_copyFrom 10 = .ok (.getfield 21, 3) := by decide +kernel
theorem dX2_copyFrom_13 : decode cX2_copyFrom 13 = .ok (.invokevirtual 30, 3) := by decide +kernel
theorem dX2_copyFrom_16 : decode cX2_copyFrom 16 = .ok (.aload_n 0, 1) := by decide +kernel
theorem dX2_copyFrom_17 : decode cX2_copyFrom 17 = .ok (.aload_n 1, 1) := by decide +kernel
theorem dX2_copyFrom_18 : decode cX2_copyFrom 18 = .ok (.getfield 9, 3) := by decide +kernel
theorem dX2_copyFrom_21 : decode cX2_copyFrom 21 = .ok (.aload_n 1, 1) := by decide +kernel
theorem dX2_copyFrom_22 : decode cX2_copyFrom 22 = .ok (.getfield 24, 3) := by decide +kernel
theorem dX2_copyFrom_25 : decode cX2_copyFrom 25 = .ok (.aload_n 1, 1) := by decide +kernel
theorem dX2_copyFrom_26 : decode cX2_copyFrom 26 = .ok (.getfield 27, 3) := by decide +kernel
theorem dX2_copyFrom_29 : decode cX2_copyFrom 29 = .ok (.invokevirtual 34, 3) := by decide +kernel
theorem dX2_copyFrom_32 : decode cX2_copyFrom 32 = .ok (.return_, 1) := by decide +kernel
theorem dX2_outBehind_0 : decode cX2_outBehind 0 = .ok (.aload_n 0, 1) := by decide +kernel
theorem dX2_outBehind_1 : decode cX2_outBehind 1 = .ok (.getfield 18, 3) := by decide +kernel
theorem dX2_outBehind_4 : decode cX2_outBehind 4 = .ok (.iconst 1, 1) := by decide +kernel
theorem dX2_outBehind_5 : decode cX2_outBehind 5 = .ok (.if_icmp .ge 7, 3) := by decide +kernel
theorem dX2_outBehind_8 : decode cX2_outBehind 8 = .ok (.iconst 0, 1) := by decide +kernel
theorem dX2_outBehind_9 : decode cX2_outBehind 9 = .ok (.goto 14, 3) := by decide +kernel
theorem dX2_outBehind_12 : decode cX2_outBehind 12 = .ok (.iload_n 2, 1) := by decide +kernel
theorem dX2_outBehind_13 : decode cX2_outBehind 13 = .ok (.aload_n 0, 1) := by decide +kernel
theorem dX2_outBehind_14 : decode cX2_outBehind 14 = .ok (.getfield 15, 3) := by decide +kernel
theorem dX2_outBehind_17 : decode cX2_outBehind 17 = .ok (.imul, 1) := by decide +kernel
theorem dX2_outBehind_18 : decode cX2_outBehind 18 = .ok (.aload_n 0, 1) := by decide +kernel
theorem dX2_outBehind_19 : decode cX2_outBehind 19 = .ok (.getfield 18, 3) := by decide +kernel
theorem dX2_outBehind_22 : decode cX2_outBehind 22 = .ok (.idiv, 1) := by decide +kernel
theorem dX2_outBehind_23 : decode cX2_outBehind 23 = .ok (.istore_n 3, 1) := by decide +kernel
theorem dX2_outBehind_24 : decode cX2_outBehind 24 = .ok (.iload_n 1, 1) := by decide +kernel
theorem dX2_outBehind_25 : decode cX2_outBehind 25 = .ok (.iload_n 3, 1) := by decide +kernel
theorem dX2_outBehind_26 : decode cX2_outBehind 26 = .ok (.iload_n 1, 1) := by decide +kernel
theorem dX2_outBehind_27 : decode cX2_outBehind 27 = .ok (.isub, 1) := by decide +kernel
theorem dX2_outBehind_28 : decode cX2_outBehind 28 = .ok (.aload_n 0, 1) := by decide +kernel
theorem dX2_outBehind_29 : decode cX2_outBehind 29 = .ok (.getfield 21, 3) := by decide +kernel
theorem dX2_outBehind_32 : decode cX2_outBehind 32 = .ok (.imul, 1) := by decide +kernel
theorem dX2_outBehind_33 : decode cX2_outBehind 33 = .ok (.bipush 16, 2) := by decide +kernel
theorem dX2_outBehind_35 : decode cX2_outBehind 35 = .ok (.idiv, 1) := by decide +kernel
theorem dX2_outBehind_36 : decode cX2_outBehind 36 = .ok (.iadd, 1) := by decide +kernel
theorem dX2_outBehind_37 : decode cX2_outBehind 37 = .ok (.ireturn, 1) := by decide +kernel
theorem dX2_dotsFrom_0 : decode cX2_dotsFrom 0 = .ok (.aload_n 0, 1) := by decide +kernel
theorem dX2_dotsFrom_1 : decode cX2_dotsFrom 1 = .ok (.getfield 24, 3) := by decide +kernel
theorem dX2_dotsFrom_4 : decode cX2_dotsFrom 4 = .ok (.iconst 1, 1) := by decide +kernel
theorem dX2_dotsFrom_5 : decode cX2_dotsFrom 5 = .ok (.if_icmp .ge 7, 3) := by decide +kernel
theorem dX2_dotsFrom_8 : decode cX2_dotsFrom 8 = .ok (.iconst (-1), 1) := by decide +kernel
theorem dX2_dotsFrom_9 : decode cX2_dotsFrom 9 = .ok (.goto 18, 3) := by decide +kernel
theorem dX2_dotsFrom_12 : decode cX2_dotsFrom 12 = .ok (.iload_n 2, 1) := by decide +kernel
theorem dX2_dotsFrom_13 : decode cX2_dotsFrom 13 = .ok (.aload_n 0, 1) := by decide +kernel
theorem dX2_dotsFrom_14 : decode cX2_dotsFrom 14 = .ok (.getfield 24, 3) := by decide +kernel
theorem dX2_dotsFrom_17 : decode cX2_dotsFrom 17 = .ok (.invokestatic 37, 3) := by decide +kernel
theorem dX2_dotsFrom_20 : decode cX2_dotsFrom 20 = .ok (.iload_n 1, 1) := by decide +kernel
theorem dX2_dotsFrom_21 : decode cX2_dotsFrom 21 = .ok (.iadd, 1) := by decide +kernel
theorem dX2_dotsFrom_22 : decode cX2_dotsFrom 22 = .ok (.aload_n 0, 1) := by decide +kernel
theorem dX2_dotsFrom_23 : decode cX2_dotsFrom 23 = .ok (.getfield 27, 3) := by decide +kernel
theorem dX2_dotsFrom_26 : decode cX2_dotsFrom 26 = .ok (.iadd, 1) := by decide +kernel
theorem dX2_dotsFrom_27 : decode cX2_dotsFrom 27 = .ok (.ireturn, 1) := by decide +kernel
theorem dX3_init_0 : decode cX3_init 0 = .ok (.aload_n 0, 1) := by decide +kernel
theorem dX3_init_1 : decode cX3_init 1 = .ok (.invokespecial 3, 3) := by decide +kernel
theorem dX3_init_4 : decode cX3_init 4 = .ok (.aload_n 0, 1) := by decide +kernel
theorem dX3_init_5 : decode cX3_init 5 = .ok (.iconst 0, 1) := by decide +kernel
theorem dX3_init_6 : decode cX3_init 6 = .ok (.putfield 9, 3) := by decide +kernel
theorem dX3_init_9 : decode cX3_init 9 = .ok (.aload_n 0, 1) := by decide +kernel
theorem dX3_init_10 : decode cX3_init 10 = .ok (.iconst 0, 1) := by decide +kernel
theorem dX3_init_11 : decode cX3_init 11 = .ok (.putfield 15, 3) := by decide +kernel
theorem dX3_init_14 : decode cX3_init 14 = .ok (.aload_n 0, 1) := by decide +kernel
theorem dX3_init_15 : decode cX3_init 15 = .ok (.iconst 1, 1) := by decide +kernel
theorem dX3_init_16 : decode cX3_init 16 = .ok (.putfield 18, 3) := by decide +kernel
theorem dX3_init_19 : decode cX3_init 19 = .ok (.aload_n 0, 1) := by decide +kernel
theorem dX3_init_20 : decode cX3_init 20 = .ok (.iconst 0, 1) := by decide +kernel
theorem dX3_init_21 : decode cX3_init 21 = .ok (.putfield 21, 3) := by decide +kernel
theorem dX3_init_24 : decode cX3_init 24 = .ok (.aload_n 0, 1) := by decide +kernel
theorem dX3_init_25 : decode cX3_init 25 = .ok (.iconst 0, 1) := by decide +kernel
theorem dX3_init_26 : decode cX3_init 26 = .ok (.putfield 24, 3) := by decide +kernel
theorem dX3_init_29 : decode cX3_init 29 = .ok (.return_, 1) := by decide +kernel
theorem dX3_set_0 : decode cX3_set 0 = .ok (.aload_n 0, 1) := by decide +kernel
theorem dX3_set_1 : decode cX3_set 1 = .ok (.iload_n 1, 1) := by decide +kernel
theorem dX3_set_2 : decode cX3_set 2 = .ok (.putfield 9, 3) := by decide +kernel
theorem dX3_set_5 : decode cX3_set 5 = .ok (.aload_n 0, 1) := by decide +kernel
theorem dX3_set_6 : decode cX3_set 6 = .ok (.iload_n 2, 1) := by decide +kernel
theorem dX3_set_7 : decode cX3_set 7 = .ok (.putfield 15, 3) := by decide +kernel
theorem dX3_set_10 : decode cX3_set 10 = .ok (.aload_n 0, 1) := by decide +kernel
theorem dX3_set_11 : decode cX3_set 11 = .ok (.iload_n 3, 1) := by decide +kernel
theorem dX3_set_12 : decode cX3_set 12 = .ok (.putfield 18, 3) := by decide +kernel
theorem dX3_set_15 : decode cX3_set 15 = .ok (.aload_n 0, 1) := by decide +kernel
theorem dX3_set_16 : decode cX3_set 16 = .ok (.iload 4, 2) := by decide +kernel
theorem dX3_set_18 : decode cX3_set 18 = .ok (.putfield 21, 3) := by decide +kernel
theorem dX3_set_21 : decode cX3_set 21 = .ok (.aload_n 0, 1) := by decide +kernel
theorem dX3_set_22 : decode cX3_set 22 = .ok (.iload 5, 2) := by decide +kernel
theorem dX3_set_24 : decode cX3_set 24 = .ok (.putfield 24, 3) := by decide +kernel
theorem dX3_set_27 : decode cX3_set 27 = .ok (.return_, 1) := by decide +kernel
theorem dX3_phase_0 : decode cX3_phase 0 = .ok (.aload_n 0, 1) := by decide +kernel
theorem dX3_phase_1 : decode cX3_phase 1 = .ok (.getfield 18, 3) := by decide +kernel
theorem dX3_phase_4 : decode cX3_phase 4 = .ok (.iconst 1, 1) := by decide +kernel
theorem dX3_phase_5 : decode cX3_phase 5 = .ok (.if_icmp .ge 5, 3) := by decide +kernel
theorem dX3_phase_8 : decode cX3_phase 8 = .ok (.iconst 0, 1) := by decide +kernel
theorem dX3_phase_9 : decode cX3_phase 9 = .ok (.ireturn, 1) := by decide +kernel
theorem dX3_phase_10 : decode cX3_phase 10 = .ok (.iload_n 1, 1) := by decide +kernel
theorem dX3_phase_11 : decode cX3_phase 11 = .ok (.aload_n 0, 1) := by decide +kernel
theorem dX3_phase_12 : decode cX3_phase 12 = .ok (.getfield 24, 3) := by decide +kernel
theorem dX3_phase_15 : decode cX3_phase 15 = .ok (.isub, 1) := by decide +kernel
theorem dX3_phase_16 : decode cX3_phase 16 = .ok (.aload_n 0, 1) := by decide +kernel
theorem dX3_phase_17 : decode cX3_phase 17 = .ok (.getfield 18, 3) := by decide +kernel
theorem dX3_phase_20 : decode cX3_phase 20 = .ok (.irem, 1) := by decide +kernel
theorem dX3_phase_21 : decode cX3_phase 21 = .ok (.istore_n 2, 1) := by decide +kernel
theorem dX3_phase_22 : decode cX3_phase 22 = .ok (.iload_n 2, 1) := by decide +kernel
theorem dX3_phase_23 : decode cX3_phase 23 = .ok (.ifCond .ge 12, 3) := by decide +kernel
theorem dX3_phase_26 : decode cX3_phase 26 = .ok (.iload_n 2, 1) := by decide +kernel
theorem dX3_phase_27 : decode cX3_phase 27 = .ok (.aload_n 0, 1) := by decide +kernel
theorem dX3_phase_28 : decode cX3_phase 28 = .ok (.getfield 18, 3) := by decide +kernel
theorem dX3_phase_31 : decode cX3_phase 31 = .ok (.iadd, 1) := by decide +kernel
theorem dX3_phase_32 : decode cX3_phase 32 = .ok (.goto 4, 3) := by decide +kernel
theorem dX3_phase_35 : decode cX3_phase 35 = .ok (.iload_n 2, 1) := by decide +kernel
theorem dX3_phase_36 : decode cX3_phase 36 = .ok (.ireturn, 1) := by decide +kernel
theorem dX3_isOn_0 : decode cX3_isOn 0 = .ok (.aload_n 0, 1) := by decide +kernel
theorem dX3_isOn_1 : decode cX3_isOn 1 = .ok (.iload_n 1, 1) := by decide +kernel
theorem dX3_isOn_2 : decode cX3_isOn 2 = .ok (.invokevirtual 27, 3) := by decide +kernel
theorem dX3_isOn_5 : decode cX3_isOn 5 = .ok (.aload_n 0, 1) := by decide +kernel
theorem dX3_isOn_6 : decode cX3_isOn 6 = .ok (.getfield 21, 3) := by decide +kernel
theorem dX3_isOn_9 : decode cX3_isOn 9 = .ok (.if_icmp .ge 7, 3) := by decide +kernel
theorem dX3_isOn_12 : decode cX3_isOn 12 = .ok (.iconst 1, 1) := by decide +kernel
theorem dX3_isOn_13 : decode cX3_isOn 13 = .ok (.goto 4, 3) := by decide +kernel
theorem dX3_isOn_16 : decode cX3_isOn 16 = .ok (.iconst 0, 1) := by decide +kernel
theorem dX3_isOn_17 : decode cX3_isOn 17 = .ok (.ireturn, 1) := by decide +kernel
theorem dX3_heightAt_0 : decode cX3_heightAt 0 = .ok (.aload_n 0, 1) := by decide +kernel
theorem dX3_heightAt_1 : decode cX3_heightAt 1 = .ok (.getfield 9, 3) := by decide +kernel
theorem dX3_heightAt_4 : decode cX3_heightAt 4 = .ok (.ifCond .ne 20, 3) := by decide +kernel
theorem dX3_heightAt_7 : decode cX3_heightAt 7 = .ok (.iload_n 1, 1) := by decide +kernel
theorem dX3_heightAt_8 : decode cX3_heightAt 8 = .ok (.aload_n 0, 1) := by decide +kernel
theorem dX3_heightAt_9 : decode cX3_heightAt 9 = .ok (.getfield 24, 3) := by decide +kernel
theorem dX3_heightAt_12 : decode cX3_heightAt 12 = .ok (.if_icmp .lt 10, 3) := by decide +kernel
theorem dX3_heightAt_15 : decode cX3_heightAt 15 = .ok (.aload_n 0, 1) := by decide +kernel
theorem dX3_heightAt_16 : decode cX3_heightAt 16 = .ok (.getfield 15, 3) := by decide +kernel
theorem dX3_heightAt_19 : decode cX3_heightAt 19 = .ok (.goto 4, 3) := by decide +kernel
theorem dX3_heightAt_22 : decode cX3_heightAt 22 = .ok (.iconst 0, 1) := by decide +kernel
theorem dX3_heightAt_23 : decode cX3_heightAt 23 = .ok (.ireturn, 1) := by decide +kernel
theorem dX3_heightAt_24 : decode cX3_heightAt 24 = .ok (.aload_n 0, 1) := by decide +kernel
theorem dX3_heightAt_25 : decode cX3_heightAt 25 = .ok (.getfield 9, 3) := by decide +kernel
theorem dX3_heightAt_28 : decode cX3_heightAt 28 = .ok (.iconst 1, 1) := by decide +kernel
theorem dX3_heightAt_29 : decode cX3_heightAt 29 = .ok (.if_icmp .ne 24, 3) := by decide +kernel
theorem dX3_heightAt_32 : decode cX3_heightAt 32 = .ok (.aload_n 0, 1) := by decide +kernel
theorem dX3_heightAt_33 : decode cX3_heightAt 33 = .ok (.iload_n 1, 1) := by decide +kernel
theorem dX3_heightAt_34 : decode cX3_heightAt 34 = .ok (.invokevirtual 27, 3) := by decide +kernel
theorem dX3_heightAt_37 : decode cX3_heightAt 37 = .ok (.aload_n 0, 1) := by decide +kernel
theorem dX3_heightAt_38 : decode cX3_heightAt 38 = .ok (.getfield 21, 3) := by decide +kernel
theorem dX3_heightAt_41 : decode cX3_heightAt 41 = .ok (.if_icmp .ge 10, 3) := by decide +kernel
theorem dX3_heightAt_44 : decode cX3_heightAt 44 = .ok (.aload_n 0, 1) := by decide +kernel
theorem dX3_heightAt_45 : decode cX3_heightAt 45 = .ok (.getfield 15, 3) := by decide +kernel
theorem dX3_heightAt_48 : decode cX3_heightAt 48 = .ok (.goto 4, 3) := by decide +kernel
theorem dX3_heightAt_51 : decode cX3_heightAt 51 = .ok (.iconst 0, 1) := by decide +kernel
theorem dX3_heightAt_52 : decode cX3_heightAt 52 = .ok (.ireturn, 1) := by decide +kernel
theorem dX3_heightAt_53 : decode cX3_heightAt 53 = .ok (.aload_n 0, 1) := by decide +kernel
theorem dX3_heightAt_54 : decode cX3_heightAt 54 = .ok (.getfield 18, 3) := by decide +kernel
theorem dX3_heightAt_57 : decode cX3_heightAt 57 = .ok (.iconst 1, 1) := by decide +kernel
theorem dX3_heightAt_58 : decode cX3_heightAt 58 = .ok (.if_icmp .ge 7, 3) := by decide +kernel
theorem dX3_heightAt_61 : decode cX3_heightAt 61 = .ok (.iconst 0, 1) := by decide +kernel
theorem dX3_heightAt_62 : decode cX3_heightAt 62 = .ok (.goto 18, 3) := by decide +kernel
theorem dX3_heightAt_65 : decode cX3_heightAt 65 = .ok (.aload_n 0, 1) := by decide +kernel
theorem dX3_heightAt_66 : decode cX3_heightAt 66 = .ok (.getfield 15, 3) := by decide +kernel
theorem dX3_heightAt_69 : decode cX3_heightAt 69 = .ok (.aload_n 0, 1) := by decide +kernel
theorem dX3_heightAt_70 : decode cX3_heightAt 70 = .ok (.iload_n 1, 1) := by decide +kernel
theorem dX3_heightAt_71 : decode cX3_heightAt 71 = .ok (.invokevirtual 27, 3) := by decide +kernel
theorem dX3_heightAt_74 : decode cX3_heightAt 74 = .ok (.imul, 1) := by decide +kernel
theorem dX3_heightAt_75 : decode cX3_heightAt 75 = .ok (.aload_n 0, 1) := by decide +kernel
theorem dX3_heightAt_76 : decode cX3_heightAt 76 = .ok (.getfield 18, 3) := by decide +kernel
theorem dX3_heightAt_79 : decode cX3_heightAt 79 = .ok (.idiv, 1) := by decide +kernel
theorem dX3_heightAt_80 : decode cX3_heightAt 80 = .ok (.ireturn, 1) := by decide +kernel
theorem dX4_init_0 : decode cX4_init 0 = .ok (.aload_n 0, 1) := by decide +kernel
theorem dX4_init_1 : decode cX4_init 1 = .ok (.invokespecial 3, 3) := by decide +kernel
theorem dX4_init_4 : decode cX4_init 4 = .ok (.aload_n 0, 1) := by decide +kernel
theorem dX4_init_5 : decode cX4_init 5 = .ok (.sipush 300, 3) := by decide +kernel
theorem dX4_init_8 : decode cX4_init 8 = .ok (.newarray .int, 2) := by decide +kernel
theorem dX4_init_10 : decode cX4_init 10 = .ok (.putfield 9, 3) := by decide +kernel
theorem dX4_init_13 : decode cX4_init 13 = .ok (.aload_n 0, 1) := by decide +kernel
theorem dX4_init_14 : decode cX4_init 14 = .ok (.sipush 300, 3) := by decide +kernel
theorem dX4_init_17 : decode cX4_init 17 = .ok (.newarray .int, 2) := by decide +kernel
theorem dX4_init_19 : decode cX4_init 19 = .ok (.putfield 15, 3) := by decide +kernel
theorem dX4_init_22 : decode cX4_init 22 = .ok (.aload_n 0, 1) := by decide +kernel
theorem dX4_init_23 : decode cX4_init 23 = .ok (.iconst 0, 1) := by decide +kernel
theorem dX4_init_24 : decode cX4_init 24 = .ok (.putfield 18, 3) := by decide +kernel
theorem dX4_init_27 : decode cX4_init 27 = .ok (.aload_n 0, 1) := by decide +kernel
theorem dX4_init_28 : decode cX4_init 28 = .ok (.iconst 0, 1) := by decide +kernel
theorem dX4_init_29 : decode cX4_init 29 = .ok (.putfield 22, 3) := by decide +kernel
theorem dX4_init_32 : decode cX4_init 32 = .ok (.return_, 1) := by decide +kernel
theorem dX4_empty_0 : decode cX4_empty 0 = .ok (.aload_n 0, 1) := by decide +kernel
theorem dX4_empty_1 : decode cX4_empty 1 = .ok (.iconst 0, 1) := by decide +kernel
theorem dX4_empty_2 : decode cX4_empty 2 = .ok (.putfield 18, 3) := by decide +kernel
theorem dX4_empty_5 : decode cX4_empty 5 = .ok (.aload_n 0, 1) := by decide +kernel
theorem dX4_empty_6 : decode cX4_empty 6 = .ok (.iconst 0, 1) := by decide +kernel
theorem dX4_empty_7 : decode cX4_empty 7 = .ok (.putfield 22, 3) := by decide +kernel
theorem dX4_empty_10 : decode cX4_empty 10 = .ok (.return_, 1) := by decide +kernel
theorem dX4_isEmpty_0 : decode cX4_isEmpty 0 = .ok (.aload_n 0, 1) := by decide +kernel
theorem dX4_isEmpty_1 : decode cX4_isEmpty 1 = .ok (.getfield 18, 3) := by decide +kernel
theorem dX4_isEmpty_4 : decode cX4_isEmpty 4 = .ok (.ifCond .ne 14, 3) := by decide +kernel
theorem dX4_isEmpty_7 : decode cX4_isEmpty 7 = .ok (.aload_n 0, 1) := by decide +kernel
theorem dX4_isEmpty_8 : decode cX4_isEmpty 8 = .ok (.getfield 22, 3) := by decide +kernel
theorem dX4_isEmpty_11 : decode cX4_isEmpty 11 = .ok (.ifCond .ne 7, 3) := by decide +kernel
theorem dX4_isEmpty_14 : decode cX4_isEmpty 14 = .ok (.iconst 1, 1) := by decide +kernel
theorem dX4_isEmpty_15 : decode cX4_isEmpty 15 = .ok (.goto 4, 3) := by decide +kernel
theorem dX4_isEmpty_18 : decode cX4_isEmpty 18 = .ok (.iconst 0, 1) := by decide +kernel
theorem dX4_isEmpty_19 : decode cX4_isEmpty 19 = .ok (.ireturn, 1) := by decide +kernel
theorem dX5_init_0 : decode cX5_init 0 = .ok (.aload_n 0, 1) := by decide +kernel
theorem dX5_init_1 : decode cX5_init 1 = .ok (.invokespecial 3, 3) := by decide +kernel
theorem dX5_init_4 : decode cX5_init 4 = .ok (.aload_n 0, 1) := by decide +kernel
theorem dX5_init_5 : decode cX5_init 5 = .ok (.new 9, 3) := by decide +kernel
theorem dX5_init_8 : decode cX5_init 8 = .ok (.dup, 1) := by decide +kernel
theorem dX5_init_9 : decode cX5_init 9 = .ok (.invokespecial 11, 3) := by decide +kernel
theorem dX5_init_12 : decode cX5_init 12 = .ok (.putfield 12, 3) := by decide +kernel
theorem dX5_init_15 : decode cX5_init 15 = .ok (.aload_n 0, 1) := by decide +kernel
theorem dX5_init_16 : decode cX5_init 16 = .ok (.sipush 300, 3) := by decide +kernel
theorem dX5_init_19 : decode cX5_init 19 = .ok (.newarray .int, 2) := by decide +kernel
theorem dX5_init_21 : decode cX5_init 21 = .ok (.putfield 18, 3) := by decide +kernel
theorem dX5_init_24 : decode cX5_init 24 = .ok (.aload_n 0, 1) := by decide +kernel
theorem dX5_init_25 : decode cX5_init 25 = .ok (.iconst 0, 1) := by decide +kernel
theorem dX5_init_26 : decode cX5_init 26 = .ok (.putfield 22, 3) := by decide +kernel
theorem dX5_init_29 : decode cX5_init 29 = .ok (.aload_n 0, 1) := by decide +kernel
theorem dX5_init_30 : decode cX5_init 30 = .ok (.iconst 0, 1) := by decide +kernel
theorem dX5_init_31 : decode cX5_init 31 = .ok (.putfield 26, 3) := by decide +kernel
theorem dX5_init_34 : decode cX5_init 34 = .ok (.aload_n 0, 1) := by decide +kernel
theorem dX5_init_35 : decode cX5_init 35 = .ok (.iconst 0, 1) := by decide +kernel
theorem dX5_init_36 : decode cX5_init 36 = .ok (.putfield 29, 3) := by decide +kernel
theorem dX5_init_39 : decode cX5_init 39 = .ok (.aload_n 0, 1) := by decide +kernel
theorem dX5_init_40 : decode cX5_init 40 = .ok (.iconst 0, 1) := by decide +kernel
theorem dX5_init_41 : decode cX5_init 41 = .ok (.putfield 32, 3) := by decide +kernel
theorem dX5_init_44 : decode cX5_init 44 = .ok (.aload_n 0, 1) := by decide +kernel
theorem dX5_init_45 : decode cX5_init 45 = .ok (.iconst 0, 1) := by decide +kernel
theorem dX5_init_46 : decode cX5_init 46 = .ok (.putfield 35, 3) := by decide +kernel
theorem dX5_init_49 : decode cX5_init 49 = .ok (.aload_n 0, 1) := by decide +kernel
theorem dX5_init_50 : decode cX5_init 50 = .ok (.iconst 0, 1) := by decide +kernel
theorem dX5_init_51 : decode cX5_init 51 = .ok (.putfield 39, 3) := by decide +kernel
theorem dX5_init_54 : decode cX5_init 54 = .ok (.aload_n 0, 1) := by decide +kernel
theorem dX5_init_55 : decode cX5_init 55 = .ok (.iconst 0, 1) := by decide +kernel
theorem dX5_init_56 : decode cX5_init 56 = .ok (.putfield 42, 3) := by decide +kernel
theorem dX5_init_59 : decode cX5_init 59 = .ok (.aload_n 0, 1) := by decide +kernel
theorem dX5_init_60 : decode cX5_init 60 = .ok (.iconst 0, 1) := by decide +kernel
theorem dX5_init_61 : decode cX5_init 61 = .ok (.putfield 45, 3) := by decide +kernel
theorem dX5_init_64 : decode cX5_init 64 = .ok (.aload_n 0, 1) := by decide +kernel
theorem dX5_init_65 : decode cX5_init 65 = .ok (.iconst 0, 1) := by decide +kernel
theorem dX5_init_66 : decode cX5_init 66 = .ok (.putfield 48, 3) := by decide +kernel
theorem dX5_init_69 : decode cX5_init 69 = .ok (.aload_n 0, 1) := by decide +kernel
theorem dX5_init_70 : decode cX5_init 70 = .ok (.iconst 0, 1) := by decide +kernel
theorem dX5_init_71 : decode cX5_init 71 = .ok (.putfield 51, 3) := by decide +kernel
theorem dX5_init_74 : decode cX5_init 74 = .ok (.aload_n 0, 1) := by decide +kernel
theorem dX5_init_75 : decode cX5_init 75 = .ok (.iconst 0, 1) := by decide +kernel
theorem dX5_init_76 : decode cX5_init 76 = .ok (.putfield 54, 3) := by decide +kernel
theorem dX5_init_79 : decode cX5_init 79 = .ok (.aload_n 0, 1) := by decide +kernel
theorem dX5_init_80 : decode cX5_init 80 = .ok (.iconst 0, 1) := by decide +kernel
theorem dX5_init_81 : decode cX5_init 81 = .ok (.putfield 57, 3) := by decide +kernel
theorem dX5_init_84 : decode cX5_init 84 = .ok (.aload_n 0, 1) := by decide +kernel
theorem dX5_init_85 : decode cX5_init 85 = .ok (.iconst 0, 1) := by decide +kernel
theorem dX5_init_86 : decode cX5_init 86 = .ok (.putfield 60, 3) := by decide +kernel
theorem dX5_init_89 : decode cX5_init 89 = .ok (.aload_n 0, 1) := by decide +kernel
theorem dX5_init_90 : decode cX5_init 90 = .ok (.iconst (-1), 1) := by decide +kernel
theorem dX5_init_91 : decode cX5_init 91 = .ok (.putfield 63, 3) := by decide +kernel
theorem dX5_init_94 : decode cX5_init 94 = .ok (.aload_n 0, 1) := by decide +kernel
theorem dX5_init_95 : decode cX5_init 95 = .ok (.new 66, 3) := by decide +kernel
theorem dX5_init_98 : decode cX5_init 98 = .ok (.dup, 1) := by decide +kernel
theorem dX5_init_99 : decode cX5_init 99 = .ok (.invokespecial 68, 3) := by decide +kernel
theorem dX5_init_102 : decode cX5_init 102 = .ok (.putfield 69, 3) := by decide +kernel
theorem dX5_init_105 : decode cX5_init 105 = .ok (.return_, 1) := by decide +kernel
theorem dX5_read_0 : decode cX5_read 0 = .ok (.aload_n 0, 1) := by decide +kernel
theorem dX5_read_1 : decode cX5_read 1 = .ok (.getfield 12, 3) := by decide +kernel
theorem dX5_read_4 : decode cX5_read 4 = .ok (.iload_n 2, 1) := by decide +kernel
theorem dX5_read_5 : decode cX5_read 5 = .ok (.invokevirtual 73, 3) := by decide +kernel
theorem dX5_read_8 : decode cX5_read 8 = .ok (.aload_n 0, 1) := by decide +kernel
theorem dX5_read_9 : decode cX5_read 9 = .ok (.aload_n 1, 1) := by decide +kernel
theorem dX5_read_10 : decode cX5_read 10 = .ok (.putfield 69, 3) := by decide +kernel
theorem dX5_read_13 : decode cX5_read 13 = .ok (.aload_n 0, 1) := by decide +kernel
theorem dX5_read_14 : decode cX5_read 14 = .ok (.getfield 69, 3) := by decide +kernel
theorem dX5_read_17 : decode cX5_read 17 = .ok (.invokevirtual 77, 3) := by decide +kernel
theorem dX5_read_20 : decode cX5_read 20 = .ok (.aload_n 0, 1) := by decide +kernel
theorem dX5_read_21 : decode cX5_read 21 = .ok (.iconst 0, 1) := by decide +kernel
theorem dX5_read_22 : decode cX5_read 22 = .ok (.putfield 32, 3) := by decide +kernel
theorem dX5_read_25 : decode cX5_read 25 = .ok (.aload_n 0, 1) := by decide +kernel
theorem dX5_read_26 : decode cX5_read 26 = .ok (.iconst 0, 1) := by decide +kernel
theorem dX5_read_27 : decode cX5_read 27 = .ok (.putfield 35, 3) := by decide +kernel
theorem dX5_read_30 : decode cX5_read 30 = .ok (.aload_n 0, 1) := by decide +kernel
theorem dX5_read_31 : decode cX5_read 31 = .ok (.iconst 0, 1) := by decide +kernel
theorem dX5_read_32 : decode cX5_read 32 = .ok (.putfield 39, 3) := by decide +kernel
theorem dX5_read_35 : decode cX5_read 35 = .ok (.aload_n 0, 1) := by decide +kernel
theorem dX5_read_36 : decode cX5_read 36 = .ok (.iconst 0, 1) := by decide +kernel
theorem dX5_read_37 : decode cX5_read 37 = .ok (.putfield 54, 3) := by decide +kernel
theorem dX5_read_40 : decode cX5_read 40 = .ok (.aload_n 0, 1) := by decide +kernel
theorem dX5_read_41 : decode cX5_read 41 = .ok (.iconst 0, 1) := by decide +kernel
theorem dX5_read_42 : decode cX5_read 42 = .ok (.putfield 57, 3) := by decide +kernel
theorem dX5_read_45 : decode cX5_read 45 = .ok (.aload_n 0, 1) := by decide +kernel
theorem dX5_read_46 : decode cX5_read 46 = .ok (.iconst 0, 1) := by decide +kernel
theorem dX5_read_47 : decode cX5_read 47 = .ok (.putfield 60, 3) := by decide +kernel
theorem dX5_read_50 : decode cX5_read 50 = .ok (.aload_n 0, 1) := by decide +kernel
theorem dX5_read_51 : decode cX5_read 51 = .ok (.iconst (-1), 1) := by decide +kernel
theorem dX5_read_52 : decode cX5_read 52 = .ok (.putfield 63, 3) := by decide +kernel
theorem dX5_read_55 : decode cX5_read 55 = .ok (.iconst 0, 1) := by decide +kernel
theorem dX5_read_56 : decode cX5_read 56 = .ok (.istore_n 3, 1) := by decide +kernel
theorem dX5_read_57 : decode cX5_read 57 = .ok (.iload_n 3, 1) := by decide +kernel
theorem dX5_read_58 : decode cX5_read 58 = .ok (.sipush 300, 3) := by decide +kernel
theorem dX5_read_61 : decode cX5_read 61 = .ok (.if_icmp .gt 34, 3) := by decide +kernel
theorem dX5_read_64 : decode cX5_read 64 = .ok (.aload_n 0, 1) := by decide +kernel
theorem dX5_read_65 : decode cX5_read 65 = .ok (.getfield 57, 3) := by decide +kernel
theorem dX5_read_68 : decode cX5_read 68 = .ok (.ifCond .ne 27, 3) := by decide +kernel
theorem dX5_read_71 : decode cX5_read 71 = .ok (.aload_n 0, 1) := by decide +kernel
theorem dX5_read_72 : decode cX5_read 72 = .ok (.getfield 12, 3) := by decide +kernel
theorem dX5_read_75 : decode cX5_read 75 = .ok (.invokevirtual 80, 3) := by decide +kernel
theorem dX5_read_78 : decode cX5_read 78 = .ok (.aload_n 0, 1) := by decide +kernel
theorem dX5_read_79 : decode cX5_read 79 = .ok (.aload_n 0, 1) := by decide +kernel
theorem dX5_read_80 : decode cX5_read 80 = .ok (.getfield 12, 3) := by decide +kernel
theorem dX5_read_83 : decode cX5_read 83 = .ok (.getfield 83, 3) := by decide +kernel
theorem dX5_read_86 : decode cX5_read 86 = .ok (.invokevirtual 86, 3) := by decide +kernel
theorem dX5_read_89 : decode cX5_read 89 = .ok (.iinc 3 1, 3) := by decide +kernel
theorem dX5_read_92 : decode cX5_read 92 = .ok (.goto (-35), 3) := by decide +kernel
theorem dX5_read_95 : decode cX5_read 95 = .ok (.return_, 1) := by decide +kernel
theorem dX5_fail_0 : decode cX5_fail 0 = .ok (.aload_n 0, 1) := by decide +kernel
theorem dX5_fail_1 : decode cX5_fail 1 = .ok (.iload_n 1, 1) := by decide +kernel
theorem dX5_fail_2 : decode cX5_fail 2 = .ok (.putfield 60, 3) := by decide +kernel
theorem dX5_fail_5 : decode cX5_fail 5 = .ok (.aload_n 0, 1) := by decide +kernel
theorem dX5_fail_6 : decode cX5_fail 6 = .ok (.aload_n 0, 1) := by decide +kernel
theorem dX5_fail_7 : decode cX5_fail 7 = .ok (.getfield 12, 3) := by decide +kernel
theorem dX5_fail_10 : decode cX5_fail 10 = .ok (.getfield 89, 3) := by decide +kernel
theorem dX5_fail_13 : decode cX5_fail 13 = .ok (.putfield 63, 3) := by decide +kernel
theorem dX5_fail_16 : decode cX5_fail 16 = .ok (.aload_n 0, 1) := by decide +kernel
theorem dX5_fail_17 : decode cX5_fail 17 = .ok (.iconst 1, 1) := by decide +kernel
theorem dX5_fail_18 : decode cX5_fail 18 = .ok (.putfield 57, 3) := by decide +kernel
theorem dX5_fail_21 : decode cX5_fail 21 = .ok (.return_, 1) := by decide +kernel
theorem dX5_take_0 : decode cX5_take 0 = .ok (.iload_n 1, 1) := by decide +kernel
theorem dX5_take_1 : decode cX5_take 1 = .ok (.bipush (-57), 2) := by decide +kernel
theorem dX5_take_3 : decode cX5_take 3 = .ok (.if_icmp .ne 18, 3) := by decide +kernel
theorem dX5_take_6 : decode cX5_take 6 = .ok (.aload_n 0, 1) := by decide +kernel
theorem dX5_take_7 : decode cX5_take 7 = .ok (.getfield 39, 3) := by decide +kernel
theorem dX5_take_10 : decode cX5_take 10 = .ok (.ifCond .ne 11, 3) := by decide +kernel
theorem dX5_take_13 : decode cX5_take 13 = .ok (.aload_n 0, 1) := by decide +kernel
theorem dX5_take_14 : decode cX5_take 14 = .ok (.iconst 1, 1) := by decide +kernel
theorem dX5_take_15 : decode cX5_take 15 = .ok (.putfield 57, 3) := by decide +kernel
theorem dX5_take_18 : decode cX5_take 18 = .ok (.goto 58, 3) := by decide +kernel
theorem dX5_take_21 : decode cX5_take 21 = .ok (.iload_n 1, 1) := by decide +kernel
theorem dX5_take_22 : decode cX5_take 22 = .ok (.bipush (-57), 2) := by decide +kernel
theorem dX5_take_24 : decode cX5_take 24 = .ok (.if_icmp .eq 9, 3) := by decide +kernel
theorem dX5_take_27 : decode cX5_take 27 = .ok (.iload_n 1, 1) := by decide +kernel
theorem dX5_take_28 : decode cX5_take 28 = .ok (.bipush (-58), 2) := by decide +kernel
theorem dX5_take_30 : decode cX5_take 30 = .ok (.if_icmp .ne 11, 3) := by decide +kernel
theorem dX5_take_33 : decode cX5_take 33 = .ok (.aload_n 0, 1) := by decide +kernel
theorem dX5_take_34 : decode cX5_take 34 = .ok (.iconst 1, 1) := by decide +kernel
theorem dX5_take_35 : decode cX5_take 35 = .ok (.invokevirtual 92, 3) := by decide +kernel
theorem dX5_take_38 : decode cX5_take 38 = .ok (.goto 38, 3) := by decide +kernel
theorem dX5_take_41 : decode cX5_take 41 = .ok (.aload_n 0, 1) := by decide +kernel
theorem dX5_take_42 : decode cX5_take 42 = .ok (.getfield 39, 3) := by decide +kernel
theorem dX5_take_45 : decode cX5_take 45 = .ok (.ifCond .ne 11, 3) := by decide +kernel
theorem dX5_take_48 : decode cX5_take 48 = .ok (.aload_n 0, 1) := by decide +kernel
theorem dX5_take_49 : decode cX5_take 49 = .ok (.iload_n 1, 1) := by decide +kernel
theorem dX5_take_50 : decode cX5_take 50 = .ok (.invokevirtual 95, 3) := by decide +kernel
theorem dX5_take_53 : decode cX5_take 53 = .ok (.goto 23, 3) := by decide +kernel
theorem dX5_take_56 : decode cX5_take 56 = .ok (.aload_n 0, 1) := by decide +kernel
theorem dX5_take_57 : decode cX5_take 57 = .ok (.getfield 45, 3) := by decide +kernel
theorem dX5_take_60 : decode cX5_take 60 = .ok (.ifCond .eq 11, 3) := by decide +kernel
theorem dX5_take_63 : decode cX5_take 63 = .ok (.aload_n 0, 1) := by decide +kernel
theorem dX5_take_64 : decode cX5_take 64 = .ok (.iload_n 1, 1) := by decide +kernel
theorem dX5_take_65 : decode cX5_take 65 = .ok (.invokevirtual 98, 3) := by decide +kernel
theorem dX5_take_68 : decode cX5_take 68 = .ok (.goto 8, 3) := by decide +kernel
theorem dX5_take_71 : decode cX5_take 71 = .ok (.aload_n 0, 1) := by decide +kernel
theorem dX5_take_72 : decode cX5_take 72 = .ok (.iload_n 1, 1) := by decide +kernel
theorem dX5_take_73 : decode cX5_take 73 = .ok (.invokevirtual 101, 3) := by decide +kernel
theorem dX5_take_76 : decode cX5_take 76 = .ok (.return_, 1) := by decide +kernel
theorem dX5_takeFirst_0 : decode cX5_takeFirst 0 = .ok (.iload_n 1, 1) := by decide +kernel
theorem dX5_takeFirst_1 : decode cX5_takeFirst 1 = .ok (.bipush (-54), 2) := by decide +kernel
theorem dX5_takeFirst_3 : decode cX5_takeFirst 3 = .ok (.if_icmp .eq 17, 3) := by decide +kernel
theorem dX5_takeFirst_6 : decode cX5_takeFirst 6 = .ok (.iload_n 1, 1) := by decide +kernel
theorem dX5_takeFirst_7 : decode cX5_takeFirst 7 = .ok (.bipush (-55), 2) := by decide +kernel
theorem dX5_takeFirst_9 : decode cX5_takeFirst 9 = .ok (.if_icmp .eq 11, 3) := by decide +kernel
theorem dX5_takeFirst_12 : decode cX5_takeFirst 12 = .ok (.aload_n 0, 1) := by decide +kernel
theorem dX5_takeFirst_13 : decode cX5_takeFirst 13 = .ok (.iconst 1, 1) := by decide +kernel
theorem dX5_takeFirst_14 : decode cX5_takeFirst 14 = .ok (.invokevirtual 92, 3) := by decide +kernel
theorem dX5_takeFirst_17 : decode cX5_takeFirst 17 = .ok (.goto 126, 3) := by decide +kernel
theorem dX5_takeFirst_20 : decode cX5_takeFirst 20 = .ok (.iload_n 1, 1) := by decide +kernel
theorem dX5_takeFirst_21 : decode cX5_takeFirst 21 = .ok (.bipush (-54), 2) := by decide +kernel
theorem dX5_takeFirst_23 : decode cX5_takeFirst 23 = .ok (.if_icmp .ne 18, 3) := by decide +kernel
theorem dX5_takeFirst_26 : decode cX5_takeFirst 26 = .ok (.aload_n 0, 1) := by decide +kernel
theorem dX5_takeFirst_27 : decode cX5_takeFirst 27 = .ok (.getfield 35, 3) := by decide +kernel
theorem dX5_takeFirst_30 : decode cX5_takeFirst 30 = .ok (.ifCond .eq 11, 3) := by decide +kernel
theorem dX5_takeFirst_33 : decode cX5_takeFirst 33 = .ok (.aload_n 0, 1) := by decide +kernel
theorem dX5_takeFirst_34 : decode cX5_takeFirst 34 = .ok (.iconst 4, 1) := by decide +kernel
theorem dX5_takeFirst_35 : decode cX5_takeFirst 35 = .ok (.invokevirtual 92, 3) := by decide +kernel
theorem dX5_takeFirst_38 : decode cX5_takeFirst 38 = .ok (.goto 105, 3) := by decide +kernel
theorem dX5_takeFirst_41 : decode cX5_takeFirst 41 = .ok (.aload_n 0, 1) := by decide +kernel
theorem dX5_takeFirst_42 : decode cX5_takeFirst 42 = .ok (.getfield 32, 3) := by decide +kernel
theorem dX5_takeFirst_45 : decode cX5_takeFirst 45 = .ok (.bipush 10, 2) := by decide +kernel
theorem dX5_takeFirst_47 : decode cX5_takeFirst 47 = .ok (.if_icmp .lt 11, 3) := by decide +kernel
theorem dX5_takeFirst_50 : decode cX5_takeFirst 50 = .ok (.aload_n 0, 1) := by decide +kernel
theorem dX5_takeFirst_51 : decode cX5_takeFirst 51 = .ok (.iconst 5, 1) := by decide +kernel
theorem dX5_takeFirst_52 : decode cX5_takeFirst 52 = .ok (.invokevirtual 92, 3) := by decide +kernel
theorem dX5_takeFirst_55 : decode cX5_takeFirst 55 = .ok (.goto 88, 3) := by decide +kernel
theorem dX5_takeFirst_58 : decode cX5_takeFirst 58 = .ok (.aload_n 0, 1) := by decide +kernel
theorem dX5_takeFirst_59 : decode cX5_takeFirst 59 = .ok (.dup, 1) := by decide +kernel
theorem dX5_takeFirst_60 : decode cX5_takeFirst 60 = .ok (.getfield 32, 3) := by decide +kernel
theorem dX5_takeFirst_63 : decode cX5_takeFirst 63 = .ok (.iconst 1, 1) := by decide +kernel
theorem dX5_takeFirst_64 : decode cX5_takeFirst 64 = .ok (.iadd, 1) := by decide +kernel
theorem dX5_takeFirst_65 : decode cX5_takeFirst 65 = .ok (.putfield 32, 3) := by decide +kernel
theorem dX5_takeFirst_68 : decode cX5_takeFirst 68 = .ok (.aload_n 0, 1) := by decide +kernel
theorem dX5_takeFirst_69 : decode cX5_takeFirst 69 = .ok (.aload_n 0, 1) := by decide +kernel
theorem dX5_takeFirst_70 : decode cX5_takeFirst 70 = .ok (.getfield 35, 3) := by decide +kernel
theorem dX5_takeFirst_73 : decode cX5_takeFirst 73 = .ok (.ifCond .ne 9, 3) := by decide +kernel
theorem dX5_takeFirst_76 : decode cX5_takeFirst 76 = .ok (.iload_n 1, 1) := by decide +kernel
theorem dX5_takeFirst_77 : decode cX5_takeFirst 77 = .ok (.bipush (-54), 2) := by decide +kernel
theorem dX5_takeFirst_79 : decode cX5_takeFirst 79 = .ok (.if_icmp .ne 7, 3) := by decide +kernel
theorem dX5_takeFirst_82 : decode cX5_takeFirst 82 = .ok (.iconst 1, 1) := by decide +kernel
theorem dX5_takeFirst_83 : decode cX5_takeFirst 83 = .ok (.goto 4, 3) := by decide +kernel
theorem dX5_takeFirst_86 : decode cX5_takeFirst 86 = .ok (.iconst 0, 1) := by decide +kernel
theorem dX5_takeFirst_87 : decode cX5_takeFirst 87 = .ok (.putfield 35, 3) := by decide +kernel
theorem dX5_takeFirst_90 : decode cX5_takeFirst 90 = .ok (.aload_n 0, 1) := by decide +kernel
theorem dX5_takeFirst_91 : decode cX5_takeFirst 91 = .ok (.iconst 1, 1) := by decide +kernel
theorem dX5_takeFirst_92 : decode cX5_takeFirst 92 = .ok (.putfield 39, 3) := by decide +kernel
theorem dX5_takeFirst_95 : decode cX5_takeFirst 95 = .ok (.aload_n 0, 1) := by decide +kernel
theorem dX5_takeFirst_96 : decode cX5_takeFirst 96 = .ok (.iload_n 1, 1) := by decide +kernel
theorem dX5_takeFirst_97 : decode cX5_takeFirst 97 = .ok (.bipush (-55), 2) := by decide +kernel
theorem dX5_takeFirst_99 : decode cX5_takeFirst 99 = .ok (.if_icmp .ne 7, 3) := by decide +kernel
theorem dX5_takeFirst_102 : decode cX5_takeFirst 102 = .ok (.iconst 1, 1) := by decide +kernel
theorem dX5_takeFirst_103 : decode cX5_takeFirst 103 = .ok (.goto 4, 3) := by decide +kernel
theorem dX5_takeFirst_106 : decode cX5_takeFirst 106 = .ok (.iconst 0, 1) := by decide +kernel
theorem dX5_takeFirst_107 : decode cX5_takeFirst 107 = .ok (.putfield 42, 3) := by decide +kernel
theorem dX5_takeFirst_110 : decode cX5_takeFirst 110 = .ok (.aload_n 0, 1) := by decide +kernel
theorem dX5_takeFirst_111 : decode cX5_takeFirst 111 = .ok (.iconst 1, 1) := by decide +kernel
theorem dX5_takeFirst_112 : decode cX5_takeFirst 112 = .ok (.putfield 45, 3) := by decide +kernel
theorem dX5_takeFirst_115 : decode cX5_takeFirst 115 = .ok (.aload_n 0, 1) := by decide +kernel
theorem dX5_takeFirst_116 : decode cX5_takeFirst 116 = .ok (.aload_n 0, 1) := by decide +kernel
theorem dX5_takeFirst_117 : decode cX5_takeFirst 117 = .ok (.getfield 42, 3) := by decide +kernel
theorem dX5_takeFirst_120 : decode cX5_takeFirst 120 = .ok (.putfield 48, 3) := by decide +kernel
theorem dX5_takeFirst_123 : decode cX5_takeFirst 123 = .ok (.aload_n 0, 1) := by decide +kernel
theorem dX5_takeFirst_124 : decode cX5_takeFirst 124 = .ok (.iconst 0, 1) := by decide +kernel
theorem dX5_takeFirst_125 : decode cX5_takeFirst 125 = .ok (.putfield 51, 3) := by decide +kernel
theorem dX5_takeFirst_128 : decode cX5_takeFirst 128 = .ok (.aload_n 0, 1) := by decide +kernel
theorem dX5_takeFirst_129 : decode cX5_takeFirst 129 = .ok (.iconst 0, 1) := by decide +kernel
theorem dX5_takeFirst_130 : decode cX5_takeFirst 130 = .ok (.putfield 22, 3) := by decide +kernel
theorem dX5_takeFirst_133 : decode cX5_takeFirst 133 = .ok (.aload_n 0, 1) := by decide +kernel
theorem dX5_takeFirst_134 : decode cX5_takeFirst 134 = .ok (.iconst 0, 1) := by decide +kernel
theorem dX5_takeFirst_135 : decode cX5_takeFirst 135 = .ok (.putfield 26, 3) := by decide +kernel
theorem dX5_takeFirst_138 : decode cX5_takeFirst 138 = .ok (.aload_n 0, 1) := by decide +kernel
theorem dX5_takeFirst_139 : decode cX5_takeFirst 139 = .ok (.iconst 0, 1) := by decide +kernel
theorem dX5_takeFirst_140 : decode cX5_takeFirst 140 = .ok (.putfield 29, 3) := by decide +kernel
theorem dX5_takeFirst_143 : decode cX5_takeFirst 143 = .ok (.return_, 1) := by decide +kernel
theorem dX5_takeOne_0 : decode cX5_takeOne 0 = .ok (.iload_n 1, 1) := by decide +kernel
theorem dX5_takeOne_1 : decode cX5_takeOne 1 = .ok (.bipush (-56), 2) := by decide +kernel
theorem dX5_takeOne_3 : decode cX5_takeOne 3 = .ok (.if_icmp .ne 24, 3) := by decide +kernel
theorem dX5_takeOne_6 : decode cX5_takeOne 6 = .ok (.aload_n 0, 1) := by decide +kernel
theorem dX5_takeOne_7 : decode cX5_takeOne 7 = .ok (.getfield 12, 3) := by decide +kernel
theorem dX5_takeOne_10 : decode cX5_takeOne 10 = .ok (.getfield 104, 3) := by decide +kernel
theorem dX5_takeOne_13 : decode cX5_takeOne 13 = .ok (.sipush 9999, 3) := by decide +kernel
theorem dX5_takeOne_16 : decode cX5_takeOne 16 = .ok (.if_icmp .le 11, 3) := by decide +kernel
theorem dX5_takeOne_19 : decode cX5_takeOne 19 = .ok (.aload_n 0, 1) := by decide +kernel
theorem dX5_takeOne_20 : decode cX5_takeOne 20 = .ok (.iconst 2, 1) := by decide +kernel
theorem dX5_takeOne_21 : decode cX5_takeOne 21 = .ok (.invokevirtual 92, 3) := by decide +kernel
theorem dX5_takeOne_24 : decode cX5_takeOne 24 = .ok (.goto 101, 3) := by decide +kernel
theorem dX5_takeOne_27 : decode cX5_takeOne 27 = .ok (.iload_n 1, 1) := by decide +kernel
theorem dX5_takeOne_28 : decode cX5_takeOne 28 = .ok (.bipush (-56), 2) := by decide +kernel
theorem dX5_takeOne_30 : decode cX5_takeOne 30 = .ok (.if_icmp .ne 22, 3) := by decide +kernel
theorem dX5_takeOne_33 : decode cX5_takeOne 33 = .ok (.aload_n 0, 1) := by decide +kernel
theorem dX5_takeOne_34 : decode cX5_takeOne 34 = .ok (.aload_n 0, 1) := by decide +kernel
theorem dX5_takeOne_35 : decode cX5_takeOne 35 = .ok (.getfield 12, 3) := by decide +kernel
theorem dX5_takeOne_38 : decode cX5_takeOne 38 = .ok (.getfield 104, 3) := by decide +kernel
theorem dX5_takeOne_41 : decode cX5_takeOne 41 = .ok (.invokevirtual 107, 3) := by decide +kernel
theorem dX5_takeOne_44 : decode cX5_takeOne 44 = .ok (.aload_n 0, 1) := by decide +kernel
theorem dX5_takeOne_45 : decode cX5_takeOne 45 = .ok (.iconst 0, 1) := by decide +kernel
theorem dX5_takeOne_46 : decode cX5_takeOne 46 = .ok (.putfield 45, 3) := by decide +kernel
theorem dX5_takeOne_49 : decode cX5_takeOne 49 = .ok (.goto 76, 3) := by decide +kernel
theorem dX5_takeOne_52 : decode cX5_takeOne 52 = .ok (.iload_n 1, 1) := by decide +kernel
theorem dX5_takeOne_53 : decode cX5_takeOne 53 = .ok (.bipush (-17), 2) := by decide +kernel
theorem dX5_takeOne_55 : decode cX5_takeOne 55 = .ok (.bipush (-11), 2) := by decide +kernel
theorem dX5_takeOne_57 : decode cX5_takeOne 57 = .ok (.invokestatic 110, 3) := by decide +kernel
theorem dX5_takeOne_60 : decode cX5_takeOne 60 = .ok (.ifCond .eq 16, 3) := by decide +kernel
theorem dX5_takeOne_63 : decode cX5_takeOne 63 = .ok (.aload_n 0, 1) := by decide +kernel
theorem dX5_takeOne_64 : decode cX5_takeOne 64 = .ok (.iload_n 1, 1) := by decide +kernel
theorem dX5_takeOne_65 : decode cX5_takeOne 65 = .ok (.invokevirtual 107, 3) := by decide +kernel
theorem dX5_takeOne_68 : decode cX5_takeOne 68 = .ok (.aload_n 0, 1) := by decide +kernel
theorem dX5_takeOne_69 : decode cX5_takeOne 69 = .ok (.iconst 0, 1) := by decide +kernel
theorem dX5_takeOne_70 : decode cX5_takeOne 70 = .ok (.putfield 45, 3) := by decide +kernel
theorem dX5_takeOne_73 : decode cX5_takeOne 73 = .ok (.goto 52, 3) := by decide +kernel
theorem dX5_takeOne_76 : decode cX5_takeOne 76 = .ok (.iload_n 1, 1) := by decide +kernel
theorem dX5_takeOne_77 : decode cX5_takeOne 77 = .ok (.bipush (-51), 2) := by decide +kernel
theorem dX5_takeOne_79 : decode cX5_takeOne 79 = .ok (.if_icmp .eq 22, 3) := by decide +kernel
theorem dX5_takeOne_82 : decode cX5_takeOne 82 = .ok (.iload_n 1, 1) := by decide +kernel
theorem dX5_takeOne_83 : decode cX5_takeOne 83 = .ok (.bipush (-22), 2) := by decide +kernel
theorem dX5_takeOne_85 : decode cX5_takeOne 85 = .ok (.if_icmp .eq 16, 3) := by decide +kernel
theorem dX5_takeOne_88 : decode cX5_takeOne 88 = .ok (.iload_n 1, 1) := by decide +kernel
theorem dX5_takeOne_89 : decode cX5_takeOne 89 = .ok (.bipush (-41), 2) := by decide +kernel
theorem dX5_takeOne_91 : decode cX5_takeOne 91 = .ok (.if_icmp .ne 29, 3) := by decide +kernel
theorem dX5_takeOne_94 : decode cX5_takeOne 94 = .ok (.aload_n 0, 1) := by decide +kernel
theorem dX5_takeOne_95 : decode cX5_takeOne 95 = .ok (.getfield 48, 3) := by decide +kernel
theorem dX5_takeOne_98 : decode cX5_takeOne 98 = .ok (.ifCond .eq 22, 3) := by decide +kernel
theorem dX5_takeOne_101 : decode cX5_takeOne 101 = .ok (.aload_n 0, 1) := by decide +kernel
theorem dX5_takeOne_102 : decode cX5_takeOne 102 = .ok (.iload_n 1, 1) := by decide +kernel
theorem dX5_takeOne_103 : decode cX5_takeOne 103 = .ok (.bipush (-22), 2) := by decide +kernel
theorem dX5_takeOne_105 : decode cX5_takeOne 105 = .ok (.if_icmp .ne 8, 3) := by decide +kernel
theorem dX5_takeOne_108 : decode cX5_takeOne 108 = .ok (.bipush (-25), 2) := by decide +kernel
theorem dX5_takeOne_110 : decode cX5_takeOne 110 = .ok (.goto 4, 3) := by decide +kernel
theorem dX5_takeOne_113 : decode cX5_takeOne 113 = .ok (.iload_n 1, 1) := by decide +kernel
theorem dX5_takeOne_114 : decode cX5_takeOne 114 = .ok (.invokevirtual 114, 3) := by decide +kernel
theorem dX5_takeOne_117 : decode cX5_takeOne 117 = .ok (.goto 8, 3) := by decide +kernel
theorem dX5_takeOne_120 : decode cX5_takeOne 120 = .ok (.aload_n 0, 1) := by decide +kernel
theorem dX5_takeOne_121 : decode cX5_takeOne 121 = .ok (.iconst 1, 1) := by decide +kernel
theorem dX5_takeOne_122 : decode cX5_takeOne 122 = .ok (.invokevirtual 92, 3) := by decide +kernel
theorem dX5_takeOne_125 : decode cX5_takeOne 125 = .ok (.return_, 1) := by decide +kernel
theorem dX5_openUp_0 : decode cX5_openUp 0 = .ok (.aload_n 0, 1) := by decide +kernel
theorem dX5_openUp_1 : decode cX5_openUp 1 = .ok (.getfield 26, 3) := by decide +kernel
theorem dX5_openUp_4 : decode cX5_openUp 4 = .ok (.bipush 8, 2) := by decide +kernel
theorem dX5_openUp_6 : decode cX5_openUp 6 = .ok (.if_icmp .lt 9, 3) := by decide +kernel
theorem dX5_openUp_9 : decode cX5_openUp 9 = .ok (.aload_n 0, 1) := by decide +kernel
theorem dX5_openUp_10 : decode cX5_openUp 10 = .ok (.iconst 3, 1) := by decide +kernel
theorem dX5_openUp_11 : decode cX5_openUp 11 = .ok (.invokevirtual 92, 3) := by decide +kernel
theorem dX5_openUp_14 : decode cX5_openUp 14 = .ok (.return_, 1) := by decide +kernel
theorem dX5_openUp_15 : decode cX5_openUp 15 = .ok (.aload_n 0, 1) := by decide +kernel
theorem dX5_openUp_16 : decode cX5_openUp 16 = .ok (.dup, 1) := by decide +kernel
theorem dX5_openUp_17 : decode cX5_openUp 17 = .ok (.getfield 26, 3) := by decide +kernel
theorem dX5_openUp_20 : decode cX5_openUp 20 = .ok (.iconst 1, 1) := by decide +kernel
theorem dX5_openUp_21 : decode cX5_openUp 21 = .ok (.iadd, 1) := by decide +kernel
theorem dX5_openUp_22 : decode cX5_openUp 22 = .ok (.putfield 26, 3) := by decide +kernel
theorem dX5_openUp_25 : decode cX5_openUp 25 = .ok (.iload_n 1, 1) := by decide +kernel
theorem dX5_openUp_26 : decode cX5_openUp 26 = .ok (.bipush (-51), 2) := by decide +kernel
theorem dX5_openUp_28 : decode cX5_openUp 28 = .ok (.if_icmp .ne 13, 3) := by decide +kernel
theorem dX5_openUp_31 : decode cX5_openUp 31 = .ok (.aload_n 0, 1) := by decide +kernel
theorem dX5_openUp_32 : decode cX5_openUp 32 = .ok (.dup, 1) := by decide +kernel
theorem dX5_openUp_33 : decode cX5_openUp 33 = .ok (.getfield 29, 3) := by decide +kernel
theorem dX5_openUp_36 : decode cX5_openUp 36 = .ok (.iconst 1, 1) := by decide +kernel
theorem dX5_openUp_37 : decode cX5_openUp 37 = .ok (.iadd, 1) := by decide +kernel
theorem dX5_openUp_38 : decode cX5_openUp 38 = .ok (.putfield 29, 3) := by decide +kernel
theorem dX5_openUp_41 : decode cX5_openUp 41 = .ok (.aload_n 0, 1) := by decide +kernel
theorem dX5_openUp_42 : decode cX5_openUp 42 = .ok (.iload_n 1, 1) := by decide +kernel
theorem dX5_openUp_43 : decode cX5_openUp 43 = .ok (.bipush (-41), 2) := by decide +kernel
theorem dX5_openUp_45 : decode cX5_openUp 45 = .ok (.if_icmp .ne 7, 3) := by decide +kernel
theorem dX5_openUp_48 : decode cX5_openUp 48 = .ok (.iconst 1, 1) := by decide +kernel
theorem dX5_openUp_49 : decode cX5_openUp 49 = .ok (.goto 4, 3) := by decide +kernel
theorem dX5_openUp_52 : decode cX5_openUp 52 = .ok (.iconst 0, 1) := by decide +kernel
theorem dX5_openUp_53 : decode cX5_openUp 53 = .ok (.putfield 48, 3) := by decide +kernel
theorem dX5_openUp_56 : decode cX5_openUp 56 = .ok (.aload_n 0, 1) := by decide +kernel
theorem dX5_openUp_57 : decode cX5_openUp 57 = .ok (.iload_n 1, 1) := by decide +kernel
theorem dX5_openUp_58 : decode cX5_openUp 58 = .ok (.invokevirtual 117, 3) := by decide +kernel
theorem dX5_openUp_61 : decode cX5_openUp 61 = .ok (.return_, 1) := by decide +kernel
theorem dX5_takeBehindOne_0 : decode cX5_takeBehindOne 0 = .ok (.iload_n 1, 1) := by decide +kernel
theorem dX5_takeBehindOne_1 : decode cX5_takeBehindOne 1 = .ok (.bipush (-24), 2) := by decide +kernel
theorem dX5_takeBehindOne_3 : decode cX5_takeBehindOne 3 = .ok (.bipush (-21), 2) := by decide +kernel
theorem dX5_takeBehindOne_5 : decode cX5_takeBehindOne 5 = .ok (.invokestatic 110, 3) := by decide +kernel
theorem dX5_takeBehindOne_8 : decode cX5_takeBehindOne 8 = .ok (.ifCond .eq 11, 3) := by decide +kernel
theorem dX5_takeBehindOne_11 : decode cX5_takeBehindOne 11 = .ok (.aload_n 0, 1) := by decide +kernel
theorem dX5_takeBehindOne_12 : decode cX5_takeBehindOne 12 = .ok (.iload_n 1, 1) := by decide +kernel
theorem dX5_takeBehindOne_13 : decode cX5_takeBehindOne 13 = .ok (.invokevirtual 120, 3) := by decide +kernel
theorem dX5_takeBehindOne_16 : decode cX5_takeBehindOne 16 = .ok (.goto 148, 3) := by decide +kernel
theorem dX5_takeBehindOne_19 : decode cX5_takeBehindOne 19 = .ok (.iload_n 1, 1) := by decide +kernel
theorem dX5_takeBehindOne_20 : decode cX5_takeBehindOne 20 = .ok (.bipush (-52), 2) := by decide +kernel
theorem dX5_takeBehindOne_22 : decode cX5_takeBehindOne 22 = .ok (.if_icmp .ne 17, 3) := by decide +kernel
theorem dX5_takeBehindOne_25 : decode cX5_takeBehindOne 25 = .ok (.aload_n 0, 1) := by decide +kernel
theorem dX5_takeBehindOne_26 : decode cX5_takeBehindOne 26 = .ok (.getfield 29, 3) := by decide +kernel
theorem dX5_takeBehindOne_29 : decode cX5_takeBehindOne 29 = .ok (.ifCond .le 10, 3) := by decide +kernel
theorem dX5_takeBehindOne_32 : decode cX5_takeBehindOne 32 = .ok (.aload_n 0, 1) := by decide +kernel
theorem dX5_takeBehindOne_33 : decode cX5_takeBehindOne 33 = .ok (.invokevirtual 123, 3) := by decide +kernel
theorem dX5_takeBehindOne_36 : decode cX5_takeBehindOne 36 = .ok (.goto 128, 3) := by decide +kernel
theorem dX5_takeBehindOne_39 : decode cX5_takeBehindOne 39 = .ok (.iload_n 1, 1) := by decide +kernel
theorem dX5_takeBehindOne_40 : decode cX5_takeBehindOne 40 = .ok (.bipush (-36), 2) := by decide +kernel
theorem dX5_takeBehindOne_42 : decode cX5_takeBehindOne 42 = .ok (.bipush (-31), 2) := by decide +kernel
theorem dX5_takeBehindOne_44 : decode cX5_takeBehindOne 44 = .ok (.invokestatic 110, 3) := by decide +kernel
theorem dX5_takeBehindOne_47 : decode cX5_takeBehindOne 47 = .ok (.ifCond .eq 37, 3) := by decide +kernel
theorem dX5_takeBehindOne_50 : decode cX5_takeBehindOne 50 = .ok (.aload_n 0, 1) := by decide +kernel
theorem dX5_takeBehindOne_51 : decode cX5_takeBehindOne 51 = .ok (.getfield 42, 3) := by decide +kernel
theorem dX5_takeBehindOne_54 : decode cX5_takeBehindOne 54 = .ok (.ifCond .eq 30, 3) := by decide +kernel
theorem dX5_takeBehindOne_57 : decode cX5_takeBehindOne 57 = .ok (.aload_n 0, 1) := by decide +kernel
theorem dX5_takeBehindOne_58 : decode cX5_takeBehindOne 58 = .ok (.getfield 29, 3) := by decide +kernel
theorem dX5_takeBehindOne_61 : decode cX5_takeBehindOne 61 = .ok (.ifCond .ne 23, 3) := by decide +kernel
theorem dX5_takeBehindOne_64 : decode cX5_takeBehindOne 64 = .ok (.aload_n 0, 1) := by decide +kernel
theorem dX5_takeBehindOne_65 : decode cX5_takeBehindOne 65 = .ok (.getfield 51, 3) := by decide +kernel
theorem dX5_takeBehindOne_68 : decode cX5_takeBehindOne 68 = .ok (.ifCond .ne 16, 3) := by decide +kernel
theorem dX5_takeBehindOne_71 : decode cX5_takeBehindOne 71 = .ok (.aload_n 0, 1) := by decide +kernel
theorem dX5_takeBehindOne_72 : decode cX5_takeBehindOne 72 = .ok (.iload_n 1, 1) := by decide +kernel
theorem dX5_takeBehindOne_73 : decode cX5_takeBehindOne 73 = .ok (.invokevirtual 120, 3) := by decide +kernel
theorem dX5_takeBehindOne_76 : decode cX5_takeBehindOne 76 = .ok (.aload_n 0, 1) := by decide +kernel
theorem dX5_takeBehindOne_77 : decode cX5_takeBehindOne 77 = .ok (.iconst 1, 1) := by decide +kernel
theorem dX5_takeBehindOne_78 : decode cX5_takeBehindOne 78 = .ok (.putfield 51, 3) := by decide +kernel
theorem dX5_takeBehindOne_81 : decode cX5_takeBehindOne 81 = .ok (.goto 83, 3) := by decide +kernel
theorem dX5_takeBehindOne_84 : decode cX5_takeBehindOne 84 = .ok (.iload_n 1, 1) := by decide +kernel
theorem dX5_takeBehindOne_85 : decode cX5_takeBehindOne 85 = .ok (.bipush (-42), 2) := by decide +kernel
theorem dX5_takeBehindOne_87 : decode cX5_takeBehindOne 87 = .ok (.if_icmp .eq 9, 3) := by decide +kernel
theorem dX5_takeBehindOne_90 : decode cX5_takeBehindOne 90 = .ok (.iload_n 1, 1) := by decide +kernel
theorem dX5_takeBehindOne_91 : decode cX5_takeBehindOne 91 = .ok (.bipush (-43), 2) := by decide +kernel
theorem dX5_takeBehindOne_93 : decode cX5_takeBehindOne 93 = .ok (.if_icmp .ne 35, 3) := by decide +kernel
theorem dX5_takeBehindOne_96 : decode cX5_takeBehindOne 96 = .ok (.aload_n 0, 1) := by decide +kernel
theorem dX5_takeBehindOne_97 : decode cX5_takeBehindOne 97 = .ok (.getfield 29, 3) := by decide +kernel
theorem dX5_takeBehindOne_100 : decode cX5_takeBehindOne 100 = .ok (.ifCond .ne 28, 3) := by decide +kernel
theorem dX5_takeBehindOne_103 : decode cX5_takeBehindOne 103 = .ok (.aload_n 0, 1) := by decide +kernel
theorem dX5_takeBehindOne_104 : decode cX5_takeBehindOne 104 = .ok (.getfield 51, 3) := by decide +kernel
theorem dX5_takeBehindOne_107 : decode cX5_takeBehindOne 107 = .ok (.ifCond .eq 21, 3) := by decide +kernel
theorem dX5_takeBehindOne_110 : decode cX5_takeBehindOne 110 = .ok (.aload_n 0, 1) := by decide +kernel
theorem dX5_takeBehindOne_111 : decode cX5_takeBehindOne 111 = .ok (.iload_n 1, 1) := by decide +kernel
theorem dX5_takeBehindOne_112 : decode cX5_takeBehindOne 112 = .ok (.invokevirtual 120, 3) := by decide +kernel
theorem dX5_takeBehindOne_115 : decode cX5_takeBehindOne 115 = .ok (.aload_n 0, 1) := by decide +kernel
theorem dX5_takeBehindOne_116 : decode cX5_takeBehindOne 116 = .ok (.iconst 0, 1) := by decide +kernel
theorem dX5_takeBehindOne_117 : decode cX5_takeBehindOne 117 = .ok (.putfield 51, 3) := by decide +kernel
theorem dX5_takeBehindOne_120 : decode cX5_takeBehindOne 120 = .ok (.aload_n 0, 1) := by decide +kernel
theorem dX5_takeBehindOne_121 : decode cX5_takeBehindOne 121 = .ok (.iconst 1, 1) := by decide +kernel
theorem dX5_takeBehindOne_122 : decode cX5_takeBehindOne 122 = .ok (.putfield 48, 3) := by decide +kernel
theorem dX5_takeBehindOne_125 : decode cX5_takeBehindOne 125 = .ok (.goto 39, 3) := by decide +kernel
theorem dX5_takeBehindOne_128 : decode cX5_takeBehindOne 128 = .ok (.iload_n 1, 1) := by decide +kernel
theorem dX5_takeBehindOne_129 : decode cX5_takeBehindOne 129 = .ok (.bipush (-53), 2) := by decide +kernel
theorem dX5_takeBehindOne_131 : decode cX5_takeBehindOne 131 = .ok (.if_icmp .ne 28, 3) := by decide +kernel
theorem dX5_takeBehindOne_134 : decode cX5_takeBehindOne 134 = .ok (.aload_n 0, 1) := by decide +kernel
theorem dX5_takeBehindOne_135 : decode cX5_takeBehindOne 135 = .ok (.getfield 29, 3) := by decide +kernel
theorem dX5_takeBehindOne_138 : decode cX5_takeBehindOne 138 = .ok (.ifCond .ne 21, 3) := by decide +kernel
theorem dX5_takeBehindOne_141 : decode cX5_takeBehindOne 141 = .ok (.aload_n 0, 1) := by decide +kernel
theorem dX5_takeBehindOne_142 : decode cX5_takeBehindOne 142 = .ok (.getfield 51, 3) := by decide +kernel
theorem dX5_takeBehindOne_145 : decode cX5_takeBehindOne 145 = .ok (.aload_n 0, 1) := by decide +kernel
theorem dX5_takeBehindOne_146 : decode cX5_takeBehindOne 146 = .ok (.getfield 42, 3) := by decide +kernel
theorem dX5_takeBehindOne_149 : decode cX5_takeBehindOne 149 = .ok (.if_icmp .ne 10, 3) := by decide +kernel
theorem dX5_takeBehindOne_152 : decode cX5_takeBehindOne 152 = .ok (.aload_n 0, 1) := by decide +kernel
theorem dX5_takeBehindOne_153 : decode cX5_takeBehindOne 153 = .ok (.invokevirtual 126, 3) := by decide +kernel
theorem dX5_takeBehindOne_156 : decode cX5_takeBehindOne 156 = .ok (.goto 8, 3) := by decide +kernel
theorem dX5_takeBehindOne_159 : decode cX5_takeBehindOne 159 = .ok (.aload_n 0, 1) := by decide +kernel
theorem dX5_takeBehindOne_160 : decode cX5_takeBehindOne 160 = .ok (.iconst 1, 1) := by decide +kernel
theorem dX5_takeBehindOne_161 : decode cX5_takeBehindOne 161 = .ok (.invokevirtual 92, 3) := by decide +kernel
theorem dX5_takeBehindOne_164 : decode cX5_takeBehindOne 164 = .ok (.return_, 1) := by decide +kernel
theorem dX5_awaitNext_0 : decode cX5_awaitNext 0 = .ok (.aload_n 0, 1) := by decide +kernel
theorem dX5_awaitNext_1 : decode cX5_awaitNext 1 = .ok (.iload_n 1, 1) := by decide +kernel
theorem dX5_awaitNext_2 : decode cX5_awaitNext 2 = .ok (.invokestatic 129, 3) := by decide +kernel
theorem dX5_awaitNext_5 : decode cX5_awaitNext 5 = .ok (.invokevirtual 133, 3) := by decide +kernel
theorem dX5_awaitNext_8 : decode cX5_awaitNext 8 = .ok (.aload_n 0, 1) := by decide +kernel
theorem dX5_awaitNext_9 : decode cX5_awaitNext 9 = .ok (.iload_n 1, 1) := by decide +kernel
theorem dX5_awaitNext_10 : decode cX5_awaitNext 10 = .ok (.invokevirtual 117, 3) := by decide +kernel
theorem dX5_awaitNext_13 : decode cX5_awaitNext 13 = .ok (.aload_n 0, 1) := by decide +kernel
theorem dX5_awaitNext_14 : decode cX5_awaitNext 14 = .ok (.iconst 1, 1) := by decide +kernel
theorem dX5_awaitNext_15 : decode cX5_awaitNext 15 = .ok (.putfield 45, 3) := by decide +kernel
theorem dX5_awaitNext_18 : decode cX5_awaitNext 18 = .ok (.aload_n 0, 1) := by decide +kernel
theorem dX5_awaitNext_19 : decode cX5_awaitNext 19 = .ok (.iconst 0, 1) := by decide +kernel
theorem dX5_awaitNext_20 : decode cX5_awaitNext 20 = .ok (.putfield 48, 3) := by decide +kernel
theorem dX5_awaitNext_23 : decode cX5_awaitNext 23 = .ok (.return_, 1) := by decide +kernel
theorem dX5_closeBracket_0 : decode cX5_closeBracket 0 = .ok (.aload_n 0, 1) := by decide +kernel
theorem dX5_closeBracket_1 : decode cX5_closeBracket 1 = .ok (.iconst 1, 1) := by decide +kernel
theorem dX5_closeBracket_2 : decode cX5_closeBracket 2 = .ok (.invokevirtual 133, 3) := by decide +kernel
theorem dX5_closeBracket_5 : decode cX5_closeBracket 5 = .ok (.aload_n 0, 1) := by decide +kernel
theorem dX5_closeBracket_6 : decode cX5_closeBracket 6 = .ok (.iconst 0, 1) := by decide +kernel
theorem dX5_closeBracket_7 : decode cX5_closeBracket 7 = .ok (.aload_n 0, 1) := by decide +kernel
theorem dX5_closeBracket_8 : decode cX5_closeBracket 8 = .ok (.getfield 22, 3) := by decide +kernel
theorem dX5_closeBracket_11 : decode cX5_closeBracket 11 = .ok (.iconst 1, 1) := by decide +kernel
theorem dX5_closeBracket_12 : decode cX5_closeBracket 12 = .ok (.isub, 1) := by decide +kernel
theorem dX5_closeBracket_13 : decode cX5_closeBracket 13 = .ok (.invokestatic 136, 3) := by decide +kernel
theorem dX5_closeBracket_16 : decode cX5_closeBracket 16 = .ok (.putfield 22, 3) := by decide +kernel
theorem dX5_closeBracket_19 : decode cX5_closeBracket 19 = .ok (.aload_n 0, 1) := by decide +kernel
theorem dX5_closeBracket_20 : decode cX5_closeBracket 20 = .ok (.dup, 1) := by decide +kernel
theorem dX5_closeBracket_21 : decode cX5_closeBracket 21 = .ok (.getfield 26, 3) := by decide +kernel
theorem dX5_closeBracket_24 : decode cX5_closeBracket 24 = .ok (.iconst 1, 1) := by decide +kernel
theorem dX5_closeBracket_25 : decode cX5_closeBracket 25 = .ok (.isub, 1) := by decide +kernel
theorem dX5_closeBracket_26 : decode cX5_closeBracket 26 = .ok (.putfield 26, 3) := by decide +kernel
theorem dX5_closeBracket_29 : decode cX5_closeBracket 29 = .ok (.aload_n 0, 1) := by decide +kernel
theorem dX5_closeBracket_30 : decode cX5_closeBracket 30 = .ok (.dup, 1) := by decide +kernel
theorem dX5_closeBracket_31 : decode cX5_closeBracket 31 = .ok (.getfield 29, 3) := by decide +kernel
theorem dX5_closeBracket_34 : decode cX5_closeBracket 34 = .ok (.iconst 1, 1) := by decide +kernel
theorem dX5_closeBracket_35 : decode cX5_closeBracket 35 = .ok (.isub, 1) := by decide +kernel
theorem dX5_closeBracket_36 : decode cX5_closeBracket 36 = .ok (.putfield 29, 3) := by decide +kernel
theorem dX5_closeBracket_39 : decode cX5_closeBracket 39 = .ok (.return_, 1) := by decide +kernel
theorem dX5_endClause_0 : decode cX5_endClause 0 = .ok (.aload_n 0, 1) := by decide +kernel
theorem dX5_endClause_1 : decode cX5_endClause 1 = .ok (.iconst 1, 1) := by decide +kernel
theorem dX5_endClause_2 : decode cX5_endClause 2 = .ok (.invokevirtual 133, 3) := by decide +kernel
theorem dX5_endClause_5 : decode cX5_endClause 5 = .ok (.aload_n 0, 1) := by decide +kernel
theorem dX5_endClause_6 : decode cX5_endClause 6 = .ok (.iconst 0, 1) := by decide +kernel
theorem dX5_endClause_7 : decode cX5_endClause 7 = .ok (.putfield 39, 3) := by decide +kernel
theorem dX5_endClause_10 : decode cX5_endClause 10 = .ok (.aload_n 0, 1) := by decide +kernel
theorem dX5_endClause_11 : decode cX5_endClause 11 = .ok (.getfield 42, 3) := by decide +kernel
theorem dX5_endClause_14 : decode cX5_endClause 14 = .ok (.ifCond .eq 16, 3) := by decide +kernel
theorem dX5_endClause_17 : decode cX5_endClause 17 = .ok (.aload_n 0, 1) := by decide +kernel
theorem dX5_endClause_18 : decode cX5_endClause 18 = .ok (.getfield 54, 3) := by decide +kernel
theorem dX5_endClause_21 : decode cX5_endClause 21 = .ok (.ifCond .eq 9, 3) := by decide +kernel
theorem dX5_endClause_24 : decode cX5_endClause 24 = .ok (.aload_n 0, 1) := by decide +kernel
theorem dX5_endClause_25 : decode cX5_endClause 25 = .ok (.bipush (-43), 2) := by decide +kernel
theorem dX5_endClause_27 : decode cX5_endClause 27 = .ok (.invokevirtual 107, 3) := by decide +kernel
theorem dX5_endClause_30 : decode cX5_endClause 30 = .ok (.aload_n 0, 1) := by decide +kernel
theorem dX5_endClause_31 : decode cX5_endClause 31 = .ok (.aload_n 0, 1) := by decide +kernel
theorem dX5_endClause_32 : decode cX5_endClause 32 = .ok (.getfield 54, 3) := by decide +kernel
theorem dX5_endClause_35 : decode cX5_endClause 35 = .ok (.ifCond .ne 10, 3) := by decide +kernel
theorem dX5_endClause_38 : decode cX5_endClause 38 = .ok (.aload_n 0, 1) := by decide +kernel
theorem dX5_endClause_39 : decode cX5_endClause 39 = .ok (.getfield 42, 3) := by decide +kernel
theorem dX5_endClause_42 : decode cX5_endClause 42 = .ok (.ifCond .eq 7, 3) := by decide +kernel
theorem dX5_endClause_45 : decode cX5_endClause 45 = .ok (.iconst 1, 1) := by decide +kernel
theorem dX5_endClause_46 : decode cX5_endClause 46 = .ok (.goto 4, 3) := by decide +kernel
theorem dX5_endClause_49 : decode cX5_endClause 49 = .ok (.iconst 0, 1) := by decide +kernel
theorem dX5_endClause_50 : decode cX5_endClause 50 = .ok (.putfield 54, 3) := by decide +kernel
theorem dX5_endClause_53 : decode cX5_endClause 53 = .ok (.return_, 1) := by decide +kernel
theorem dX5_await_0 : decode cX5_await 0 = .ok (.aload_n 0, 1) := by decide +kernel
theorem dX5_await_1 : decode cX5_await 1 = .ok (.getfield 22, 3) := by decide +kernel
theorem dX5_await_4 : decode cX5_await 4 = .ok (.iconst 0, 1) := by decide +kernel
theorem dX5_await_5 : decode cX5_await 5 = .ok (.aload_n 0, 1) := by decide +kernel
theorem dX5_await_6 : decode cX5_await 6 = .ok (.getfield 18, 3) := by decide +kernel
theorem dX5_await_9 : decode cX5_await 9 = .ok (.arraylength, 1) := by decide +kernel
theorem dX5_await_10 : decode cX5_await 10 = .ok (.iconst 1, 1) := by decide +kernel
theorem dX5_await_11 : decode cX5_await 11 = .ok (.isub, 1) := by decide +kernel
theorem dX5_await_12 : decode cX5_await 12 = .ok (.invokestatic 110, 3) := by decide +kernel
theorem dX5_await_15 : decode cX5_await 15 = .ok (.ifCond .eq 23, 3) := by decide +kernel
theorem dX5_await_18 : decode cX5_await 18 = .ok (.aload_n 0, 1) := by decide +kernel
theorem dX5_await_19 : decode cX5_await 19 = .ok (.getfield 18, 3) := by decide +kernel
theorem dX5_await_22 : decode cX5_await 22 = .ok (.aload_n 0, 1) := by decide +kernel
theorem dX5_await_23 : decode cX5_await 23 = .ok (.getfield 22, 3) := by decide +kernel
theorem dX5_await_26 : decode cX5_await 26 = .ok (.iload_n 1, 1) := by decide +kernel
theorem dX5_await_27 : decode cX5_await 27 = .ok (.iastore, 1) := by decide +kernel
theorem dX5_await_28 : decode cX5_await 28 = .ok (.aload_n 0, 1) := by decide +kernel
theorem dX5_await_29 : decode cX5_await 29 = .ok (.dup, 1) := by decide +kernel
theorem dX5_await_30 : decode cX5_await 30 = .ok (.getfield 22, 3) := by decide +kernel
theorem dX5_await_33 : decode cX5_await 33 = .ok (.iconst 1, 1) := by decide +kernel
theorem dX5_await_34 : decode cX5_await 34 = .ok (.iadd, 1) := by decide +kernel
theorem dX5_await_35 : decode cX5_await 35 = .ok (.putfield 22, 3) := by decide +kernel
theorem dX5_await_38 : decode cX5_await 38 = .ok (.return_, 1) := by decide +kernel
theorem dX5_unwind_0 : decode cX5_unwind 0 = .ok (.aload_n 0, 1) := by decide +kernel
theorem dX5_unwind_1 : decode cX5_unwind 1 = .ok (.getfield 22, 3) := by decide +kernel
theorem dX5_unwind_4 : decode cX5_unwind 4 = .ok (.aload_n 0, 1) := by decide +kernel
theorem dX5_unwind_5 : decode cX5_unwind 5 = .ok (.getfield 18, 3) := by decide +kernel
theorem dX5_unwind_8 : decode cX5_unwind 8 = .ok (.arraylength, 1) := by decide +kernel
theorem dX5_unwind_9 : decode cX5_unwind 9 = .ok (.invokestatic 142, 3) := by decide +kernel
theorem dX5_unwind_12 : decode cX5_unwind 12 = .ok (.iconst 1, 1) := by decide +kernel
theorem dX5_unwind_13 : decode cX5_unwind 13 = .ok (.isub, 1) := by decide +kernel
theorem dX5_unwind_14 : decode cX5_unwind 14 = .ok (.istore_n 2, 1) := by decide +kernel
theorem dX5_unwind_15 : decode cX5_unwind 15 = .ok (.iload_n 2, 1) := by decide +kernel
theorem dX5_unwind_16 : decode cX5_unwind 16 = .ok (.ifCond .lt 57, 3) := by decide +kernel
theorem dX5_unwind_19 : decode cX5_unwind 19 = .ok (.aload_n 0, 1) := by decide +kernel
theorem dX5_unwind_20 : decode cX5_unwind 20 = .ok (.getfield 18, 3) := by decide +kernel
theorem dX5_unwind_23 : decode cX5_unwind 23 = .ok (.iload_n 2, 1) := by decide +kernel
theorem dX5_unwind_24 : decode cX5_unwind 24 = .ok (.iaload, 1) := by decide +kernel
theorem dX5_unwind_25 : decode cX5_unwind 25 = .ok (.istore_n 3, 1) := by decide +kernel
theorem dX5_unwind_26 : decode cX5_unwind 26 = .ok (.iload_n 3, 1) := by decide +kernel
theorem dX5_unwind_27 : decode cX5_unwind 27 = .ok (.invokestatic 129, 3) := by decide +kernel
theorem dX5_unwind_30 : decode cX5_unwind 30 = .ok (.iload_n 1, 1) := by decide +kernel
theorem dX5_unwind_31 : decode cX5_unwind 31 = .ok (.if_icmp .ge 4, 3) := by decide +kernel
theorem dX5_unwind_34 : decode cX5_unwind 34 = .ok (.return_, 1) := by decide +kernel
theorem dX5_unwind_35 : decode cX5_unwind 35 = .ok (.aload_n 0, 1) := by decide +kernel
theorem dX5_unwind_36 : decode cX5_unwind 36 = .ok (.iload_n 3, 1) := by decide +kernel
theorem dX5_unwind_37 : decode cX5_unwind 37 = .ok (.invokevirtual 107, 3) := by decide +kernel
theorem dX5_unwind_40 : decode cX5_unwind 40 = .ok (.iload_n 3, 1) := by decide +kernel
theorem dX5_unwind_41 : decode cX5_unwind 41 = .ok (.bipush (-25), 2) := by decide +kernel
theorem dX5_unwind_43 : decode cX5_unwind 43 = .ok (.if_icmp .eq 9, 3) := by decide +kernel
theorem dX5_unwind_46 : decode cX5_unwind 46 = .ok (.iload_n 3, 1) := by decide +kernel
theorem dX5_unwind_47 : decode cX5_unwind 47 = .ok (.bipush (-41), 2) := by decide +kernel
theorem dX5_unwind_49 : decode cX5_unwind 49 = .ok (.if_icmp .ne 13, 3) := by decide +kernel
theorem dX5_unwind_52 : decode cX5_unwind 52 = .ok (.aload_n 0, 1) := by decide +kernel
theorem dX5_unwind_53 : decode cX5_unwind 53 = .ok (.dup, 1) := by decide +kernel
theorem dX5_unwind_54 : decode cX5_unwind 54 = .ok (.getfield 26, 3) := by decide +kernel
theorem dX5_unwind_57 : decode cX5_unwind 57 = .ok (.iconst 1, 1) := by decide +kernel
theorem dX5_unwind_58 : decode cX5_unwind 58 = .ok (.isub, 1) := by decide +kernel
theorem dX5_unwind_59 : decode cX5_unwind 59 = .ok (.putfield 26, 3) := by decide +kernel
theorem dX5_unwind_62 : decode cX5_unwind 62 = .ok (.aload_n 0, 1) := by decide +kernel
theorem dX5_unwind_63 : decode cX5_unwind 63 = .ok (.iload_n 2, 1) := by decide +kernel
theorem dX5_unwind_64 : decode cX5_unwind 64 = .ok (.putfield 22, 3) := by decide +kernel
theorem dX5_unwind_67 : decode cX5_unwind 67 = .ok (.iinc 2 (-1), 3) := by decide +kernel
theorem dX5_unwind_70 : decode cX5_unwind 70 = .ok (.goto (-55), 3) := by decide +kernel
theorem dX5_unwind_73 : decode cX5_unwind 73 = .ok (.return_, 1) := by decide +kernel
theorem dX5_emit_0 : decode cX5_emit 0 = .ok (.aload_n 0, 1) := by decide +kernel
theorem dX5_emit_1 : decode cX5_emit 1 = .ok (.getfield 42, 3) := by decide +kernel
theorem dX5_emit_4 : decode cX5_emit 4 = .ok (.ifCond .eq 50, 3) := by decide +kernel
theorem dX5_emit_7 : decode cX5_emit 7 = .ok (.aload_n 0, 1) := by decide +kernel
theorem dX5_emit_8 : decode cX5_emit 8 = .ok (.getfield 69, 3) := by decide +kernel
theorem dX5_emit_11 : decode cX5_emit 11 = .ok (.getfield 145, 3) := by decide +kernel
theorem dX5_emit_14 : decode cX5_emit 14 = .ok (.aload_n 0, 1) := by decide +kernel
theorem dX5_emit_15 : decode cX5_emit 15 = .ok (.getfield 69, 3) := by decide +kernel
theorem dX5_emit_18 : decode cX5_emit 18 = .ok (.getfield 148, 3) := by decide +kernel
theorem dX5_emit_21 : decode cX5_emit 21 = .ok (.arraylength, 1) := by decide +kernel
theorem dX5_emit_22 : decode cX5_emit 22 = .ok (.if_icmp .ge 32, 3) := by decide +kernel
theorem dX5_emit_25 : decode cX5_emit 25 = .ok (.aload_n 0, 1) := by decide +kernel
theorem dX5_emit_26 : decode cX5_emit 26 = .ok (.getfield 69, 3) := by decide +kernel
theorem dX5_emit_29 : decode cX5_emit 29 = .ok (.getfield 148, 3) := by decide +kernel
theorem dX5_emit_32 : decode cX5_emit 32 = .ok (.aload_n 0, 1) := by decide +kernel
theorem dX5_emit_33 : decode cX5_emit 33 = .ok (.getfield 69, 3) := by decide +kernel
theorem dX5_emit_36 : decode cX5_emit 36 = .ok (.getfield 145, 3) := by decide +kernel
theorem dX5_emit_39 : decode cX5_emit 39 = .ok (.iload_n 1, 1) := by decide +kernel
theorem dX5_emit_40 : decode cX5_emit 40 = .ok (.iastore, 1) := by decide +kernel
theorem dX5_emit_41 : decode cX5_emit 41 = .ok (.aload_n 0, 1) := by decide +kernel
theorem dX5_emit_42 : decode cX5_emit 42 = .ok (.getfield 69, 3) := by decide +kernel
theorem dX5_emit_45 : decode cX5_emit 45 = .ok (.dup, 1) := by decide +kernel
theorem dX5_emit_46 : decode cX5_emit 46 = .ok (.getfield 145, 3) := by decide +kernel
theorem dX5_emit_49 : decode cX5_emit 49 = .ok (.iconst 1, 1) := by decide +kernel
theorem dX5_emit_50 : decode cX5_emit 50 = .ok (.iadd, 1) := by decide +kernel
theorem dX5_emit_51 : decode cX5_emit 51 = .ok (.putfield 145, 3) := by decide +kernel
theorem dX5_emit_54 : decode cX5_emit 54 = .ok (.aload_n 0, 1) := by decide +kernel
theorem dX5_emit_55 : decode cX5_emit 55 = .ok (.getfield 42, 3) := by decide +kernel
theorem dX5_emit_58 : decode cX5_emit 58 = .ok (.ifCond .ne 50, 3) := by decide +kernel
theorem dX5_emit_61 : decode cX5_emit 61 = .ok (.aload_n 0, 1) := by decide +kernel
theorem dX5_emit_62 : decode cX5_emit 62 = .ok (.getfield 69, 3) := by decide +kernel
theorem dX5_emit_65 : decode cX5_emit 65 = .ok (.getfield 151, 3) := by decide +kernel
theorem dX5_emit_68 : decode cX5_emit 68 = .ok (.aload_n 0, 1) := by decide +kernel
theorem dX5_emit_69 : decode cX5_emit 69 = .ok (.getfield 69, 3) := by decide +kernel
theorem dX5_emit_72 : decode cX5_emit 72 = .ok (.getfield 154, 3) := by decide +kernel
theorem dX5_emit_75 : decode cX5_emit 75 = .ok (.arraylength, 1) := by decide +kernel
theorem dX5_emit_76 : decode cX5_emit 76 = .ok (.if_icmp .ge 32, 3) := by decide +kernel
theorem dX5_emit_79 : decode cX5_emit 79 = .ok (.aload_n 0, 1) := by decide +kernel
theorem dX5_emit_80 : decode cX5_emit 80 = .ok (.getfield 69, 3) := by decide +kernel
theorem dX5_emit_83 : decode cX5_emit 83 = .ok (.getfield 154, 3) := by decide +kernel
theorem dX5_emit_86 : decode cX5_emit 86 = .ok (.aload_n 0, 1) := by decide +kernel
theorem dX5_emit_87 : decode cX5_emit 87 = .ok (.getfield 69, 3) := by decide +kernel
theorem dX5_emit_90 : decode cX5_emit 90 = .ok (.getfield 151, 3) := by decide +kernel
theorem dX5_emit_93 : decode cX5_emit 93 = .ok (.iload_n 1, 1) := by decide +kernel
theorem dX5_emit_94 : decode cX5_emit 94 = .ok (.iastore, 1) := by decide +kernel
theorem dX5_emit_95 : decode cX5_emit 95 = .ok (.aload_n 0, 1) := by decide +kernel
theorem dX5_emit_96 : decode cX5_emit 96 = .ok (.getfield 69, 3) := by decide +kernel
theorem dX5_emit_99 : decode cX5_emit 99 = .ok (.dup, 1) := by decide +kernel
theorem dX5_emit_100 : decode cX5_emit 100 = .ok (.getfield 151, 3) := by decide +kernel
theorem dX5_emit_103 : decode cX5_emit 103 = .ok (.iconst 1, 1) := by decide +kernel
theorem dX5_emit_104 : decode cX5_emit 104 = .ok (.iadd, 1) := by decide +kernel
theorem dX5_emit_105 : decode cX5_emit 105 = .ok (.putfield 151, 3) := by decide +kernel
theorem dX5_emit_108 : decode cX5_emit 108 = .ok (.return_, 1) := by decide +kernel
theorem dX5_strength_0 : decode cX5_strength 0 = .ok (.iload_n 0, 1) := by decide +kernel
theorem dX5_strength_1 : decode cX5_strength 1 = .ok (.tableswitch 123 (-43) (-21) #[107, 109, 111, 123, 123, 123, 123, 113, 113, 113, 113, 113, 113, 123, 123, 123, 123, 123, 120, 117, 117, 115, 115], 107) := by decide +kernel
theorem dX5_strength_108 : decode cX5_strength 108 = .ok (.iconst 1, 1) := by decide +kernel
theorem dX5_strength_109 : decode cX5_strength 109 = .ok (.ireturn, 1) := by decide +kernel
theorem dX5_strength_110 : decode cX5_strength 110 = .ok (.iconst 2, 1) := by decide +kernel
theorem dX5_strength_111 : decode cX5_strength 111 = .ok (.ireturn, 1) := by decide +kernel
theorem dX5_strength_112 : decode cX5_strength 112 = .ok (.iconst 3, 1) := by decide +kernel
theorem dX5_strength_113 : decode cX5_strength 113 = .ok (.ireturn, 1) := by decide +kernel
theorem dX5_strength_114 : decode cX5_strength 114 = .ok (.iconst 4, 1) := by decide +kernel
theorem dX5_strength_115 : decode cX5_strength 115 = .ok (.ireturn, 1) := by decide +kernel
theorem dX5_strength_116 : decode cX5_strength 116 = .ok (.iconst 5, 1) := by decide +kernel
theorem dX5_strength_117 : decode cX5_strength 117 = .ok (.ireturn, 1) := by decide +kernel
theorem dX5_strength_118 : decode cX5_strength 118 = .ok (.bipush 6, 2) := by decide +kernel
theorem dX5_strength_120 : decode cX5_strength 120 = .ok (.ireturn, 1) := by decide +kernel
theorem dX5_strength_121 : decode cX5_strength 121 = .ok (.bipush 7, 2) := by decide +kernel
theorem dX5_strength_123 : decode cX5_strength 123 = .ok (.ireturn, 1) := by decide +kernel
theorem dX5_strength_124 : decode cX5_strength 124 = .ok (.iconst 0, 1) := by decide +kernel
theorem dX5_strength_125 : decode cX5_strength 125 = .ok (.ireturn, 1) := by decide +kernel
theorem dX6_init_0 : decode cX6_init 0 = .ok (.aload_n 0, 1) := by decide +kernel
theorem dX6_init_1 : decode cX6_init 1 = .ok (.invokespecial 3, 3) := by decide +kernel
theorem dX6_init_4 : decode cX6_init 4 = .ok (.aload_n 0, 1) := by decide +kernel
theorem dX6_init_5 : decode cX6_init 5 = .ok (.sipush 300, 3) := by decide +kernel
theorem dX6_init_8 : decode cX6_init 8 = .ok (.newarray .int, 2) := by decide +kernel
theorem dX6_init_10 : decode cX6_init 10 = .ok (.putfield 9, 3) := by decide +kernel
theorem dX6_init_13 : decode cX6_init 13 = .ok (.aload_n 0, 1) := by decide +kernel
theorem dX6_init_14 : decode cX6_init 14 = .ok (.iconst 0, 1) := by decide +kernel
theorem dX6_init_15 : decode cX6_init 15 = .ok (.putfield 15, 3) := by decide +kernel
theorem dX6_init_18 : decode cX6_init 18 = .ok (.aload_n 0, 1) := by decide +kernel
theorem dX6_init_19 : decode cX6_init 19 = .ok (.iconst 0, 1) := by decide +kernel
theorem dX6_init_20 : decode cX6_init 20 = .ok (.putfield 19, 3) := by decide +kernel
theorem dX6_init_23 : decode cX6_init 23 = .ok (.aload_n 0, 1) := by decide +kernel
theorem dX6_init_24 : decode cX6_init 24 = .ok (.iconst 0, 1) := by decide +kernel
theorem dX6_init_25 : decode cX6_init 25 = .ok (.putfield 22, 3) := by decide +kernel
theorem dX6_init_28 : decode cX6_init 28 = .ok (.aload_n 0, 1) := by decide +kernel
theorem dX6_init_29 : decode cX6_init 29 = .ok (.bipush (-57), 2) := by decide +kernel
theorem dX6_init_31 : decode cX6_init 31 = .ok (.putfield 25, 3) := by decide +kernel
theorem dX6_init_34 : decode cX6_init 34 = .ok (.aload_n 0, 1) := by decide +kernel
theorem dX6_init_35 : decode cX6_init 35 = .ok (.iconst 0, 1) := by decide +kernel
theorem dX6_init_36 : decode cX6_init 36 = .ok (.putfield 28, 3) := by decide +kernel
theorem dX6_init_39 : decode cX6_init 39 = .ok (.return_, 1) := by decide +kernel
theorem dX6_restart_0 : decode cX6_restart 0 = .ok (.aload_n 0, 1) := by decide +kernel
theorem dX6_restart_1 : decode cX6_restart 1 = .ok (.iload_n 1, 1) := by decide +kernel
theorem dX6_restart_2 : decode cX6_restart 2 = .ok (.putfield 15, 3) := by decide +kernel
theorem dX6_restart_5 : decode cX6_restart 5 = .ok (.aload_n 0, 1) := by decide +kernel
theorem dX6_restart_6 : decode cX6_restart 6 = .ok (.iconst 0, 1) := by decide +kernel
theorem dX6_restart_7 : decode cX6_restart 7 = .ok (.putfield 19, 3) := by decide +kernel
theorem dX6_restart_10 : decode cX6_restart 10 = .ok (.return_, 1) := by decide +kernel
theorem dX6_next_0 : decode cX6_next 0 = .ok (.aload_n 0, 1) := by decide +kernel
theorem dX6_next_1 : decode cX6_next 1 = .ok (.getfield 19, 3) := by decide +kernel
theorem dX6_next_4 : decode cX6_next 4 = .ok (.aload_n 0, 1) := by decide +kernel
theorem dX6_next_5 : decode cX6_next 5 = .ok (.getfield 15, 3) := by decide +kernel
theorem dX6_next_8 : decode cX6_next 8 = .ok (.if_icmp .ge 30, 3) := by decide +kernel
theorem dX6_next_11 : decode cX6_next 11 = .ok (.aload_n 0, 1) := by decide +kernel
theorem dX6_next_12 : decode cX6_next 12 = .ok (.aload_n 0, 1) := by decide +kernel
theorem dX6_next_13 : decode cX6_next 13 = .ok (.getfield 19, 3) := by decide +kernel
theorem dX6_next_16 : decode cX6_next 16 = .ok (.invokevirtual 31, 3) := by decide +kernel
theorem dX6_next_19 : decode cX6_next 19 = .ok (.invokestatic 35, 3) := by decide +kernel
theorem dX6_next_22 : decode cX6_next 22 = .ok (.ifCond .eq 16, 3) := by decide +kernel
theorem dX6_next_25 : decode cX6_next 25 = .ok (.aload_n 0, 1) := by decide +kernel
theorem dX6_next_26 : decode cX6_next 26 = .ok (.dup, 1) := by decide +kernel
theorem dX6_next_27 : decode cX6_next 27 = .ok (.getfield 19, 3) := by decide +kernel
theorem dX6_next_30 : decode cX6_next 30 = .ok (.iconst 1, 1) := by decide +kernel
theorem dX6_next_31 : decode cX6_next 31 = .ok (.iadd, 1) := by decide +kernel
theorem dX6_next_32 : decode cX6_next 32 = .ok (.putfield 19, 3) := by decide +kernel
theorem dX6_next_35 : decode cX6_next 35 = .ok (.goto (-35), 3) := by decide +kernel
theorem dX6_next_38 : decode cX6_next 38 = .ok (.aload_n 0, 1) := by decide +kernel
theorem dX6_next_39 : decode cX6_next 39 = .ok (.aload_n 0, 1) := by decide +kernel
theorem dX6_next_40 : decode cX6_next 40 = .ok (.getfield 19, 3) := by decide +kernel
theorem dX6_next_43 : decode cX6_next 43 = .ok (.putfield 22, 3) := by decide +kernel
theorem dX6_next_46 : decode cX6_next 46 = .ok (.aload_n 0, 1) := by decide +kernel
theorem dX6_next_47 : decode cX6_next 47 = .ok (.aload_n 0, 1) := by decide +kernel
theorem dX6_next_48 : decode cX6_next 48 = .ok (.getfield 19, 3) := by decide +kernel
theorem dX6_next_51 : decode cX6_next 51 = .ok (.invokevirtual 31, 3) := by decide +kernel
theorem dX6_next_54 : decode cX6_next 54 = .ok (.istore_n 1, 1) := by decide +kernel
theorem dX6_next_55 : decode cX6_next 55 = .ok (.iload_n 1, 1) := by decide +kernel
theorem dX6_next_56 : decode cX6_next 56 = .ok (.iconst (-1), 1) := by decide +kernel
theorem dX6_next_57 : decode cX6_next 57 = .ok (.if_icmp .ne 12, 3) := by decide +kernel
theorem dX6_next_60 : decode cX6_next 60 = .ok (.aload_n 0, 1) := by decide +kernel
theorem dX6_next_61 : decode cX6_next 61 = .ok (.bipush (-57), 2) := by decide +kernel
theorem dX6_next_63 : decode cX6_next 63 = .ok (.putfield 25, 3) := by decide +kernel
theorem dX6_next_66 : decode cX6_next 66 = .ok (.goto 64, 3) := by decide +kernel
theorem dX6_next_69 : decode cX6_next 69 = .ok (.iload_n 1, 1) := by decide +kernel
theorem dX6_next_70 : decode cX6_next 70 = .ok (.invokestatic 39, 3) := by decide +kernel
theorem dX6_next_73 : decode cX6_next 73 = .ok (.ifCond .eq 18, 3) := by decide +kernel
theorem dX6_next_76 : decode cX6_next 76 = .ok (.aload_n 0, 1) := by decide +kernel
theorem dX6_next_77 : decode cX6_next 77 = .ok (.invokevirtual 42, 3) := by decide +kernel
theorem dX6_next_80 : decode cX6_next 80 = .ok (.aload_n 0, 1) := by decide +kernel
theorem dX6_next_81 : decode cX6_next 81 = .ok (.aload_n 0, 1) := by decide +kernel
theorem dX6_next_82 : decode cX6_next 82 = .ok (.invokevirtual 45, 3) := by decide +kernel
theorem dX6_next_85 : decode cX6_next 85 = .ok (.putfield 25, 3) := by decide +kernel
theorem dX6_next_88 : decode cX6_next 88 = .ok (.goto 42, 3) := by decide +kernel
theorem dX6_next_91 : decode cX6_next 91 = .ok (.iload_n 1, 1) := by decide +kernel
theorem dX6_next_92 : decode cX6_next 92 = .ok (.invokestatic 49, 3) := by decide +kernel
theorem dX6_next_95 : decode cX6_next 95 = .ok (.ifCond .eq 16, 3) := by decide +kernel
theorem dX6_next_98 : decode cX6_next 98 = .ok (.aload_n 0, 1) := by decide +kernel
theorem dX6_next_99 : decode cX6_next 99 = .ok (.invokevirtual 52, 3) := by decide +kernel
theorem dX6_next_102 : decode cX6_next 102 = .ok (.aload_n 0, 1) := by decide +kernel
theorem dX6_next_103 : decode cX6_next 103 = .ok (.bipush (-56), 2) := by decide +kernel
theorem dX6_next_105 : decode cX6_next 105 = .ok (.putfield 25, 3) := by decide +kernel
theorem dX6_next_108 : decode cX6_next 108 = .ok (.goto 22, 3) := by decide +kernel
theorem dX6_next_111 : decode cX6_next 111 = .ok (.aload_n 0, 1) := by decide +kernel
theorem dX6_next_112 : decode cX6_next 112 = .ok (.dup, 1) := by decide +kernel
theorem dX6_next_113 : decode cX6_next 113 = .ok (.getfield 19, 3) := by decide +kernel
theorem dX6_next_116 : decode cX6_next 116 = .ok (.iconst 1, 1) := by decide +kernel
theorem dX6_next_117 : decode cX6_next 117 = .ok (.iadd, 1) := by decide +kernel
theorem dX6_next_118 : decode cX6_next 118 = .ok (.putfield 19, 3) := by decide +kernel
theorem dX6_next_121 : decode cX6_next 121 = .ok (.aload_n 0, 1) := by decide +kernel
theorem dX6_next_122 : decode cX6_next 122 = .ok (.aload_n 0, 1) := by decide +kernel
theorem dX6_next_123 : decode cX6_next 123 = .ok (.iload_n 1, 1) := by decide +kernel
theorem dX6_next_124 : decode cX6_next 124 = .ok (.invokevirtual 55, 3) := by decide +kernel
theorem dX6_next_127 : decode cX6_next 127 = .ok (.putfield 25, 3) := by decide +kernel
theorem dX6_next_130 : decode cX6_next 130 = .ok (.return_, 1) := by decide +kernel
theorem dX6_byteAt_0 : decode cX6_byteAt 0 = .ok (.iconst 0, 1) := by decide +kernel
theorem dX6_byteAt_1 : decode cX6_byteAt 1 = .ok (.iload_n 1, 1) := by decide +kernel
theorem dX6_byteAt_2 : decode cX6_byteAt 2 = .ok (.if_icmp .gt 29, 3) := by decide +kernel
theorem dX6_byteAt_5 : decode cX6_byteAt 5 = .ok (.iload_n 1, 1) := by decide +kernel
theorem dX6_byteAt_6 : decode cX6_byteAt 6 = .ok (.aload_n 0, 1) := by decide +kernel
theorem dX6_byteAt_7 : decode cX6_byteAt 7 = .ok (.getfield 15, 3) := by decide +kernel
theorem dX6_byteAt_10 : decode cX6_byteAt 10 = .ok (.if_icmp .ge 21, 3) := by decide +kernel
theorem dX6_byteAt_13 : decode cX6_byteAt 13 = .ok (.iload_n 1, 1) := by decide +kernel
theorem dX6_byteAt_14 : decode cX6_byteAt 14 = .ok (.aload_n 0, 1) := by decide +kernel
theorem dX6_byteAt_15 : decode cX6_byteAt 15 = .ok (.getfield 9, 3) := by decide +kernel
theorem dX6_byteAt_18 : decode cX6_byteAt 18 = .ok (.arraylength, 1) := by decide +kernel
theorem dX6_byteAt_19 : decode cX6_byteAt 19 = .ok (.if_icmp .ge 12, 3) := by decide +kernel
theorem dX6_byteAt_22 : decode cX6_byteAt 22 = .ok (.aload_n 0, 1) := by decide +kernel
theorem dX6_byteAt_23 : decode cX6_byteAt 23 = .ok (.getfield 9, 3) := by decide +kernel
theorem dX6_byteAt_26 : decode cX6_byteAt 26 = .ok (.iload_n 1, 1) := by decide +kernel
theorem dX6_byteAt_27 : decode cX6_byteAt 27 = .ok (.iaload, 1) := by decide +kernel
theorem dX6_byteAt_28 : decode cX6_byteAt 28 = .ok (.goto 4, 3) := by decide +kernel
theorem dX6_byteAt_31 : decode cX6_byteAt 31 = .ok (.iconst (-1), 1) := by decide +kernel
theorem dX6_byteAt_32 : decode cX6_byteAt 32 = .ok (.ireturn, 1) := by decide +kernel
theorem dX6_passLetters_0 : decode cX6_passLetters 0 = .ok (.aload_n 0, 1) := by decide +kernel
theorem dX6_passLetters_1 : decode cX6_passLetters 1 = .ok (.getfield 19, 3) := by decide +kernel
theorem dX6_passLetters_4 : decode cX6_passLetters 4 = .ok (.aload_n 0, 1) := by decide +kernel
theorem dX6_passLetters_5 : decode cX6_passLetters 5 = .ok (.getfield 15, 3) := by decide +kernel
theorem dX6_passLetters_8 : decode cX6_passLetters 8 = .ok (.if_icmp .ge 30, 3) := by decide +kernel
theorem dX6_passLetters_11 : decode cX6_passLetters 11 = .ok (.aload_n 0, 1) := by decide +kernel
theorem dX6_passLetters_12 : decode cX6_passLetters 12 = .ok (.aload_n 0, 1) := by decide +kernel
theorem dX6_passLetters_13 : decode cX6_passLetters 13 = .ok (.getfield 19, 3) := by decide +kernel
theorem dX6_passLetters_16 : decode cX6_passLetters 16 = .ok (.invokevirtual 31, 3) := by decide +kernel
theorem dX6_passLetters_19 : decode cX6_passLetters 19 = .ok (.invokestatic 39, 3) := by decide +kernel
theorem dX6_passLetters_22 : decode cX6_passLetters 22 = .ok (.ifCond .eq 16, 3) := by decide +kernel
theorem dX6_passLetters_25 : decode cX6_passLetters 25 = .ok (.aload_n 0, 1) := by decide +kernel
theorem dX6_passLetters_26 : decode cX6_passLetters 26 = .ok (.dup, 1) := by decide +kernel
theorem dX6_passLetters_27 : decode cX6_passLetters 27 = .ok (.getfield 19, 3) := by decide +kernel
theorem dX6_passLetters_30 : decode cX6_passLetters 30 = .ok (.iconst 1, 1) := by decide +kernel
theorem dX6_passLetters_31 : decode cX6_passLetters 31 = .ok (.iadd, 1) := by decide +kernel
theorem dX6_passLetters_32 : decode cX6_passLetters 32 = .ok (.putfield 19, 3) := by decide +kernel
theorem dX6_passLetters_35 : decode cX6_passLetters 35 = .ok (.goto (-35), 3) := by decide +kernel
theorem dX6_passLetters_38 : decode cX6_passLetters 38 = .ok (.return_, 1) := by decide +kernel
theorem dX6_readNumber_0 : decode cX6_readNumber 0 = .ok (.aload_n 0, 1) := by decide +kernel
theorem dX6_readNumber_1 : decode cX6_readNumber 1 = .ok (.iconst 0, 1) := by decide +kernel
theorem dX6_readNumber_2 : decode cX6_readNumber 2 = .ok (.putfield 28, 3) := by decide +kernel
theorem dX6_readNumber_5 : decode cX6_readNumber 5 = .ok (.aload_n 0, 1) := by decide +kernel
theorem dX6_readNumber_6 : decode cX6_readNumber 6 = .ok (.getfield 19, 3) := by decide +kernel
theorem dX6_readNumber_9 : decode cX6_readNumber 9 = .ok (.aload_n 0, 1) := by decide +kernel
theorem dX6_readNumber_10 : decode cX6_readNumber 10 = .ok (.getfield 15, 3) := by decide +kernel
theorem dX6_readNumber_13 : decode cX6_readNumber 13 = .ok (.if_icmp .ge 59, 3) := by decide +kernel
theorem dX6_readNumber_16 : decode cX6_readNumber 16 = .ok (.aload_n 0, 1) := by decide +kernel
theorem dX6_readNumber_17 : decode cX6_readNumber 17 = .ok (.aload_n 0, 1) := by decide +kernel
theorem dX6_readNumber_18 : decode cX6_readNumber 18 = .ok (.getfield 19, 3) := by decide +kernel
theorem dX6_readNumber_21 : decode cX6_readNumber 21 = .ok (.invokevirtual 31, 3) := by decide +kernel
theorem dX6_readNumber_24 : decode cX6_readNumber 24 = .ok (.invokestatic 49, 3) := by decide +kernel
theorem dX6_readNumber_27 : decode cX6_readNumber 27 = .ok (.ifCond .eq 45, 3) := by decide +kernel
theorem dX6_readNumber_30 : decode cX6_readNumber 30 = .ok (.aload_n 0, 1) := by decide +kernel
theorem dX6_readNumber_31 : decode cX6_readNumber 31 = .ok (.aload_n 0, 1) := by decide +kernel
theorem dX6_readNumber_32 : decode cX6_readNumber 32 = .ok (.getfield 28, 3) := by decide +kernel
theorem dX6_readNumber_35 : decode cX6_readNumber 35 = .ok (.bipush 10, 2) := by decide +kernel
theorem dX6_readNumber_37 : decode cX6_readNumber 37 = .ok (.imul, 1) := by decide +kernel
theorem dX6_readNumber_38 : decode cX6_readNumber 38 = .ok (.aload_n 0, 1) := by decide +kernel
theorem dX6_readNumber_39 : decode cX6_readNumber 39 = .ok (.aload_n 0, 1) := by decide +kernel
theorem dX6_readNumber_40 : decode cX6_readNumber 40 = .ok (.getfield 19, 3) := by decide +kernel
theorem dX6_readNumber_43 : decode cX6_readNumber 43 = .ok (.invokevirtual 31, 3) := by decide +kernel
theorem dX6_readNumber_46 : decode cX6_readNumber 46 = .ok (.iadd, 1) := by decide +kernel
theorem dX6_readNumber_47 : decode cX6_readNumber 47 = .ok (.bipush 48, 2) := by decide +kernel
theorem dX6_readNumber_49 : decode cX6_readNumber 49 = .ok (.isub, 1) := by decide +kernel
theorem dX6_readNumber_50 : decode cX6_readNumber 50 = .ok (.sipush 10000, 3) := by decide +kernel
theorem dX6_readNumber_53 : decode cX6_readNumber 53 = .ok (.invokestatic 58, 3) := by decide +kernel
theorem dX6_readNumber_56 : decode cX6_readNumber 56 = .ok (.putfield 28, 3) := by decide +kernel
theorem dX6_readNumber_59 : decode cX6_readNumber 59 = .ok (.aload_n 0, 1) := by decide +kernel
theorem dX6_readNumber_60 : decode cX6_readNumber 60 = .ok (.dup, 1) := by decide +kernel
theorem dX6_readNumber_61 : decode cX6_readNumber 61 = .ok (.getfield 19, 3) := by decide +kernel
theorem dX6_readNumber_64 : decode cX6_readNumber 64 = .ok (.iconst 1, 1) := by decide +kernel
theorem dX6_readNumber_65 : decode cX6_readNumber 65 = .ok (.iadd, 1) := by decide +kernel
theorem dX6_readNumber_66 : decode cX6_readNumber 66 = .ok (.putfield 19, 3) := by decide +kernel
theorem dX6_readNumber_69 : decode cX6_readNumber 69 = .ok (.goto (-64), 3) := by decide +kernel
theorem dX6_readNumber_72 : decode cX6_readNumber 72 = .ok (.return_, 1) := by decide +kernel
theorem dX6_signOf_0 : decode cX6_signOf 0 = .ok (.iload_n 1, 1) := by decide +kernel
theorem dX6_signOf_1 : decode cX6_signOf 1 = .ok (.tableswitch 184 35 62 #[160, 184, 184, 184, 184, 175, 178, 169, 163, 184, 166, 184, 172, 184, 184, 184, 184, 184, 184, 184, 184, 184, 184, 184, 181, 127, 157, 142], 127) := by decide +kernel
theorem dX6_signOf_128 : decode cX6_signOf 128 = .ok (.aload_n 0, 1) := by decide +kernel
theorem dX6_signOf_129 : decode cX6_signOf 129 = .ok (.invokevirtual 64, 3) := by decide +kernel
theorem dX6_signOf_132 : decode cX6_signOf 132 = .ok (.ifCond .eq 8, 3) := by decide +kernel
theorem dX6_signOf_135 : decode cX6_signOf 135 = .ok (.bipush (-32), 2) := by decide +kernel
theorem dX6_signOf_137 : decode cX6_signOf 137 = .ok (.goto 5, 3) := by decide +kernel
theorem dX6_signOf_140 : decode cX6_signOf 140 = .ok (.bipush (-31), 2) := by decide +kernel
theorem dX6_signOf_142 : decode cX6_signOf 142 = .ok (.ireturn, 1) := by decide +kernel
theorem dX6_signOf_143 : decode cX6_signOf 143 = .ok (.aload_n 0, 1) := by decide +kernel
theorem dX6_signOf_144 : decode cX6_signOf 144 = .ok (.invokevirtual 64, 3) := by decide +kernel
theorem dX6_signOf_147 : decode cX6_signOf 147 = .ok (.ifCond .eq 8, 3) := by decide +kernel
theorem dX6_signOf_150 : decode cX6_signOf 150 = .ok (.bipush (-34), 2) := by decide +kernel
theorem dX6_signOf_152 : decode cX6_signOf 152 = .ok (.goto 5, 3) := by decide +kernel
theorem dX6_signOf_155 : decode cX6_signOf 155 = .ok (.bipush (-33), 2) := by decide +kernel
theorem dX6_signOf_157 : decode cX6_signOf 157 = .ok (.ireturn, 1) := by decide +kernel
theorem dX6_signOf_158 : decode cX6_signOf 158 = .ok (.bipush (-35), 2) := by decide +kernel
theorem dX6_signOf_160 : decode cX6_signOf 160 = .ok (.ireturn, 1) := by decide +kernel
theorem dX6_signOf_161 : decode cX6_signOf 161 = .ok (.bipush (-36), 2) := by decide +kernel
theorem dX6_signOf_163 : decode cX6_signOf 163 = .ok (.ireturn, 1) := by decide +kernel
theorem dX6_signOf_164 : decode cX6_signOf 164 = .ok (.bipush (-21), 2) := by decide +kernel
theorem dX6_signOf_166 : decode cX6_signOf 166 = .ok (.ireturn, 1) := by decide +kernel
theorem dX6_signOf_167 : decode cX6_signOf 167 = .ok (.bipush (-22), 2) := by decide +kernel
theorem dX6_signOf_169 : decode cX6_signOf 169 = .ok (.ireturn, 1) := by decide +kernel
theorem dX6_signOf_170 : decode cX6_signOf 170 = .ok (.bipush (-23), 2) := by decide +kernel
theorem dX6_signOf_172 : decode cX6_signOf 172 = .ok (.ireturn, 1) := by decide +kernel
theorem dX6_signOf_173 : decode cX6_signOf 173 = .ok (.bipush (-24), 2) := by decide +kernel
theorem dX6_signOf_175 : decode cX6_signOf 175 = .ok (.ireturn, 1) := by decide +kernel
theorem dX6_signOf_176 : decode cX6_signOf 176 = .ok (.bipush (-51), 2) := by decide +kernel
theorem dX6_signOf_178 : decode cX6_signOf 178 = .ok (.ireturn, 1) := by decide +kernel
theorem dX6_signOf_179 : decode cX6_signOf 179 = .ok (.bipush (-52), 2) := by decide +kernel
theorem dX6_signOf_181 : decode cX6_signOf 181 = .ok (.ireturn, 1) := by decide +kernel
theorem dX6_signOf_182 : decode cX6_signOf 182 = .ok (.bipush (-53), 2) := by decide +kernel
theorem dX6_signOf_184 : decode cX6_signOf 184 = .ok (.ireturn, 1) := by decide +kernel
theorem dX6_signOf_185 : decode cX6_signOf 185 = .ok (.bipush (-58), 2) := by decide +kernel
theorem dX6_signOf_187 : decode cX6_signOf 187 = .ok (.ireturn, 1) := by decide +kernel
theorem dX6_passesEqual_0 : decode cX6_passesEqual 0 = .ok (.aload_n 0, 1) := by decide +kernel
theorem dX6_passesEqual_1 : decode cX6_passesEqual 1 = .ok (.aload_n 0, 1) := by decide +kernel
theorem dX6_passesEqual_2 : decode cX6_passesEqual 2 = .ok (.getfield 19, 3) := by decide +kernel
theorem dX6_passesEqual_5 : decode cX6_passesEqual 5 = .ok (.invokevirtual 31, 3) := by decide +kernel
theorem dX6_passesEqual_8 : decode cX6_passesEqual 8 = .ok (.bipush 61, 2) := by decide +kernel
theorem dX6_passesEqual_10 : decode cX6_passesEqual 10 = .ok (.if_icmp .eq 5, 3) := by decide +kernel
theorem dX6_passesEqual_13 : decode cX6_passesEqual 13 = .ok (.iconst 0, 1) := by decide +kernel
theorem dX6_passesEqual_14 : decode cX6_passesEqual 14 = .ok (.ireturn, 1) := by decide +kernel
theorem dX6_passesEqual_15 : decode cX6_passesEqual 15 = .ok (.aload_n 0, 1) := by decide +kernel
theorem dX6_passesEqual_16 : decode cX6_passesEqual 16 = .ok (.dup, 1) := by decide +kernel
theorem dX6_passesEqual_17 : decode cX6_passesEqual 17 = .ok (.getfield 19, 3) := by decide +kernel
theorem dX6_passesEqual_20 : decode cX6_passesEqual 20 = .ok (.iconst 1, 1) := by decide +kernel
theorem dX6_passesEqual_21 : decode cX6_passesEqual 21 = .ok (.iadd, 1) := by decide +kernel
theorem dX6_passesEqual_22 : decode cX6_passesEqual 22 = .ok (.putfield 19, 3) := by decide +kernel
theorem dX6_passesEqual_25 : decode cX6_passesEqual 25 = .ok (.iconst 1, 1) := by decide +kernel
theorem dX6_passesEqual_26 : decode cX6_passesEqual 26 = .ok (.ireturn, 1) := by decide +kernel
theorem dX6_wordSign_0 : decode cX6_wordSign 0 = .ok (.aload_n 0, 1) := by decide +kernel
theorem dX6_wordSign_1 : decode cX6_wordSign 1 = .ok (.ldc 68, 2) := by decide +kernel
theorem dX6_wordSign_3 : decode cX6_wordSign 3 = .ok (.invokevirtual 70, 3) := by decide +kernel
theorem dX6_wordSign_6 : decode cX6_wordSign 6 = .ok (.ifCond .eq 6, 3) := by decide +kernel
theorem dX6_wordSign_9 : decode cX6_wordSign 9 = .ok (.bipush (-54), 2) := by decide +kernel
theorem dX6_wordSign_11 : decode cX6_wordSign 11 = .ok (.ireturn, 1) := by decide +kernel
theorem dX6_wordSign_12 : decode cX6_wordSign 12 = .ok (.aload_n 0, 1) := by decide +kernel
theorem dX6_wordSign_13 : decode cX6_wordSign 13 = .ok (.ldc 74, 2) := by decide +kernel
theorem dX6_wordSign_15 : decode cX6_wordSign 15 = .ok (.invokevirtual 70, 3) := by decide +kernel
theorem dX6_wordSign_18 : decode cX6_wordSign 18 = .ok (.ifCond .eq 6, 3) := by decide +kernel
theorem dX6_wordSign_21 : decode cX6_wordSign 21 = .ok (.bipush (-55), 2) := by decide +kernel
theorem dX6_wordSign_23 : decode cX6_wordSign 23 = .ok (.ireturn, 1) := by decide +kernel
theorem dX6_wordSign_24 : decode cX6_wordSign 24 = .ok (.aload_n 0, 1) := by decide +kernel
theorem dX6_wordSign_25 : decode cX6_wordSign 25 = .ok (.ldc 76, 2) := by decide +kernel
theorem dX6_wordSign_27 : decode cX6_wordSign 27 = .ok (.invokevirtual 70, 3) := by decide +kernel
theorem dX6_wordSign_30 : decode cX6_wordSign 30 = .ok (.ifCond .eq 6, 3) := by decide +kernel
theorem dX6_wordSign_33 : decode cX6_wordSign 33 = .ok (.bipush (-43), 2) := by decide +kernel
theorem dX6_wordSign_35 : decode cX6_wordSign 35 = .ok (.ireturn, 1) := by decide +kernel
theorem dX6_wordSign_36 : decode cX6_wordSign 36 = .ok (.aload_n 0, 1) := by decide +kernel
theorem dX6_wordSign_37 : decode cX6_wordSign 37 = .ok (.ldc 78, 2) := by decide +kernel
theorem dX6_wordSign_39 : decode cX6_wordSign 39 = .ok (.invokevirtual 70, 3) := by decide +kernel
theorem dX6_wordSign_42 : decode cX6_wordSign 42 = .ok (.ifCond .eq 6, 3) := by decide +kernel
theorem dX6_wordSign_45 : decode cX6_wordSign 45 = .ok (.bipush (-42), 2) := by decide +kernel
theorem dX6_wordSign_47 : decode cX6_wordSign 47 = .ok (.ireturn, 1) := by decide +kernel
theorem dX6_wordSign_48 : decode cX6_wordSign 48 = .ok (.aload_n 0, 1) := by decide +kernel
theorem dX6_wordSign_49 : decode cX6_wordSign 49 = .ok (.ldc 80, 2) := by decide +kernel
theorem dX6_wordSign_51 : decode cX6_wordSign 51 = .ok (.invokevirtual 70, 3) := by decide +kernel
theorem dX6_wordSign_54 : decode cX6_wordSign 54 = .ok (.ifCond .eq 8, 3) := by decide +kernel
theorem dX6_wordSign_57 : decode cX6_wordSign 57 = .ok (.bipush (-41), 2) := by decide +kernel
theorem dX6_wordSign_59 : decode cX6_wordSign 59 = .ok (.goto 7, 3) := by decide +kernel
theorem dX6_wordSign_62 : decode cX6_wordSign 62 = .ok (.aload_n 0, 1) := by decide +kernel
theorem dX6_wordSign_63 : decode cX6_wordSign 63 = .ok (.invokevirtual 82, 3) := by decide +kernel
theorem dX6_wordSign_66 : decode cX6_wordSign 66 = .ok (.ireturn, 1) := by decide +kernel
theorem dX6_valueSign_0 : decode cX6_valueSign 0 = .ok (.aload_n 0, 1) := by decide +kernel
theorem dX6_valueSign_1 : decode cX6_valueSign 1 = .ok (.ldc 85, 2) := by decide +kernel
theorem dX6_valueSign_3 : decode cX6_valueSign 3 = .ok (.invokevirtual 70, 3) := by decide +kernel
theorem dX6_valueSign_6 : decode cX6_valueSign 6 = .ok (.ifCond .eq 6, 3) := by decide +kernel
theorem dX6_valueSign_9 : decode cX6_valueSign 9 = .ok (.bipush (-11), 2) := by decide +kernel
theorem dX6_valueSign_11 : decode cX6_valueSign 11 = .ok (.ireturn, 1) := by decide +kernel
theorem dX6_valueSign_12 : decode cX6_valueSign 12 = .ok (.aload_n 0, 1) := by decide +kernel
theorem dX6_valueSign_13 : decode cX6_valueSign 13 = .ok (.ldc 87, 2) := by decide +kernel
theorem dX6_valueSign_15 : decode cX6_valueSign 15 = .ok (.invokevirtual 70, 3) := by decide +kernel
theorem dX6_valueSign_18 : decode cX6_valueSign 18 = .ok (.ifCond .eq 6, 3) := by decide +kernel
theorem dX6_valueSign_21 : decode cX6_valueSign 21 = .ok (.bipush (-12), 2) := by decide +kernel
theorem dX6_valueSign_23 : decode cX6_valueSign 23 = .ok (.ireturn, 1) := by decide +kernel
theorem dX6_valueSign_24 : decode cX6_valueSign 24 = .ok (.aload_n 0, 1) := by decide +kernel
theorem dX6_valueSign_25 : decode cX6_valueSign 25 = .ok (.ldc 89, 2) := by decide +kernel
theorem dX6_valueSign_27 : decode cX6_valueSign 27 = .ok (.invokevirtual 70, 3) := by decide +kernel
theorem dX6_valueSign_30 : decode cX6_valueSign 30 = .ok (.ifCond .eq 6, 3) := by decide +kernel
theorem dX6_valueSign_33 : decode cX6_valueSign 33 = .ok (.bipush (-13), 2) := by decide +kernel
theorem dX6_valueSign_35 : decode cX6_valueSign 35 = .ok (.ireturn, 1) := by decide +kernel
theorem dX6_valueSign_36 : decode cX6_valueSign 36 = .ok (.aload_n 0, 1) := by decide +kernel
theorem dX6_valueSign_37 : decode cX6_valueSign 37 = .ok (.ldc 91, 2) := by decide +kernel
theorem dX6_valueSign_39 : decode cX6_valueSign 39 = .ok (.invokevirtual 70, 3) := by decide +kernel
theorem dX6_valueSign_42 : decode cX6_valueSign 42 = .ok (.ifCond .eq 6, 3) := by decide +kernel
theorem dX6_valueSign_45 : decode cX6_valueSign 45 = .ok (.bipush (-14), 2) := by decide +kernel
theorem dX6_valueSign_47 : decode cX6_valueSign 47 = .ok (.ireturn, 1) := by decide +kernel
theorem dX6_valueSign_48 : decode cX6_valueSign 48 = .ok (.aload_n 0, 1) := by decide +kernel
theorem dX6_valueSign_49 : decode cX6_valueSign 49 = .ok (.ldc 93, 2) := by decide +kernel
theorem dX6_valueSign_51 : decode cX6_valueSign 51 = .ok (.invokevirtual 70, 3) := by decide +kernel
theorem dX6_valueSign_54 : decode cX6_valueSign 54 = .ok (.ifCond .eq 6, 3) := by decide +kernel
theorem dX6_valueSign_57 : decode cX6_valueSign 57 = .ok (.bipush (-15), 2) := by decide +kernel
theorem dX6_valueSign_59 : decode cX6_valueSign 59 = .ok (.ireturn, 1) := by decide +kernel
theorem dX6_valueSign_60 : decode cX6_valueSign 60 = .ok (.aload_n 0, 1) := by decide +kernel
theorem dX6_valueSign_61 : decode cX6_valueSign 61 = .ok (.ldc 95, 2) := by decide +kernel
theorem dX6_valueSign_63 : decode cX6_valueSign 63 = .ok (.invokevirtual 70, 3) := by decide +kernel
theorem dX6_valueSign_66 : decode cX6_valueSign 66 = .ok (.ifCond .eq 6, 3) := by decide +kernel
theorem dX6_valueSign_69 : decode cX6_valueSign 69 = .ok (.bipush (-16), 2) := by decide +kernel
theorem dX6_valueSign_71 : decode cX6_valueSign 71 = .ok (.ireturn, 1) := by decide +kernel
theorem dX6_valueSign_72 : decode cX6_valueSign 72 = .ok (.aload_n 0, 1) := by decide +kernel
theorem dX6_valueSign_73 : decode cX6_valueSign 73 = .ok (.ldc 97, 2) := by decide +kernel
theorem dX6_valueSign_75 : decode cX6_valueSign 75 = .ok (.invokevirtual 70, 3) := by decide +kernel
theorem dX6_valueSign_78 : decode cX6_valueSign 78 = .ok (.ifCond .eq 8, 3) := by decide +kernel
theorem dX6_valueSign_81 : decode cX6_valueSign 81 = .ok (.bipush (-17), 2) := by decide +kernel
theorem dX6_valueSign_83 : decode cX6_valueSign 83 = .ok (.goto 5, 3) := by decide +kernel
theorem dX6_valueSign_86 : decode cX6_valueSign 86 = .ok (.bipush (-58), 2) := by decide +kernel
theorem dX6_valueSign_88 : decode cX6_valueSign 88 = .ok (.ireturn, 1) := by decide +kernel
theorem dX6_spells_0 : decode cX6_spells 0 = .ok (.aload_n 0, 1) := by decide +kernel
theorem dX6_spells_1 : decode cX6_spells 1 = .ok (.getfield 19, 3) := by decide +kernel
theorem dX6_spells_4 : decode cX6_spells 4 = .ok (.aload_n 0, 1) := by decide +kernel
theorem dX6_spells_5 : decode cX6_spells 5 = .ok (.getfield 22, 3) := by decide +kernel
theorem dX6_spells_8 : decode cX6_spells 8 = .ok (.isub, 1) := by decide +kernel
theorem dX6_spells_9 : decode cX6_spells 9 = .ok (.aload_n 1, 1) := by decide +kernel
theorem dX6_spells_10 : decode cX6_spells 10 = .ok (.invokevirtual 99, 3) := by decide +kernel
theorem dX6_spells_13 : decode cX6_spells 13 = .ok (.if_icmp .eq 5, 3) := by decide +kernel
theorem dX6_spells_16 : decode cX6_spells 16 = .ok (.iconst 0, 1) := by decide +kernel
theorem dX6_spells_17 : decode cX6_spells 17 = .ok (.ireturn, 1) := by decide +kernel
theorem dX6_spells_18 : decode cX6_spells 18 = .ok (.iconst 0, 1) := by decide +kernel
theorem dX6_spells_19 : decode cX6_spells 19 = .ok (.istore_n 2, 1) := by decide +kernel
theorem dX6_spells_20 : decode cX6_spells 20 = .ok (.iload_n 2, 1) := by decide +kernel
theorem dX6_spells_21 : decode cX6_spells 21 = .ok (.aload_n 1, 1) := by decide +kernel
theorem dX6_spells_22 : decode cX6_spells 22 = .ok (.invokevirtual 99, 3) := by decide +kernel
theorem dX6_spells_25 : decode cX6_spells 25 = .ok (.if_icmp .ge 29, 3) := by decide +kernel
theorem dX6_spells_28 : decode cX6_spells 28 = .ok (.aload_n 0, 1) := by decide +kernel
theorem dX6_spells_29 : decode cX6_spells 29 = .ok (.aload_n 0, 1) := by decide +kernel
theorem dX6_spells_30 : decode cX6_spells 30 = .ok (.getfield 22, 3) := by decide +kernel
theorem dX6_spells_33 : decode cX6_spells 33 = .ok (.iload_n 2, 1) := by decide +kernel
theorem dX6_spells_34 : decode cX6_spells 34 = .ok (.iadd, 1) := by decide +kernel
theorem dX6_spells_35 : decode cX6_spells 35 = .ok (.invokevirtual 31, 3) := by decide +kernel
theorem dX6_spells_38 : decode cX6_spells 38 = .ok (.aload_n 1, 1) := by decide +kernel
theorem dX6_spells_39 : decode cX6_spells 39 = .ok (.iload_n 2, 1) := by decide +kernel
theorem dX6_spells_40 : decode cX6_spells 40 = .ok (.invokevirtual 103, 3) := by decide +kernel
theorem dX6_spells_43 : decode cX6_spells 43 = .ok (.if_icmp .eq 5, 3) := by decide +kernel
theorem dX6_spells_46 : decode cX6_spells 46 = .ok (.iconst 0, 1) := by decide +kernel
theorem dX6_spells_47 : decode cX6_spells 47 = .ok (.ireturn, 1) := by decide +kernel
theorem dX6_spells_48 : decode cX6_spells 48 = .ok (.iinc 2 1, 3) := by decide +kernel
theorem dX6_spells_51 : decode cX6_spells 51 = .ok (.goto (-31), 3) := by decide +kernel
theorem dX6_spells_54 : decode cX6_spells 54 = .ok (.iconst 1, 1) := by decide +kernel
theorem dX6_spells_55 : decode cX6_spells 55 = .ok (.ireturn, 1) := by decide +kernel
theorem dX6_isBlank_0 : decode cX6_isBlank 0 = .ok (.iload_n 0, 1) := by decide +kernel
theorem dX6_isBlank_1 : decode cX6_isBlank 1 = .ok (.bipush 32, 2) := by decide +kernel
theorem dX6_isBlank_3 : decode cX6_isBlank 3 = .ok (.if_icmp .eq 9, 3) := by decide +kernel
theorem dX6_isBlank_6 : decode cX6_isBlank 6 = .ok (.iload_n 0, 1) := by decide +kernel
theorem dX6_isBlank_7 : decode cX6_isBlank 7 = .ok (.bipush 10, 2) := by decide +kernel
theorem dX6_isBlank_9 : decode cX6_isBlank 9 = .ok (.if_icmp .ne 7, 3) := by decide +kernel
theorem dX6_isBlank_12 : decode cX6_isBlank 12 = .ok (.iconst 1, 1) := by decide +kernel
theorem dX6_isBlank_13 : decode cX6_isBlank 13 = .ok (.goto 4, 3) := by decide +kernel
theorem dX6_isBlank_16 : decode cX6_isBlank 16 = .ok (.iconst 0, 1) := by decide +kernel
theorem dX6_isBlank_17 : decode cX6_isBlank 17 = .ok (.ireturn, 1) := by decide +kernel
theorem dX6_isLetter_0 : decode cX6_isLetter 0 = .ok (.iload_n 0, 1) := by decide +kernel
theorem dX6_isLetter_1 : decode cX6_isLetter 1 = .ok (.bipush 97, 2) := by decide +kernel
theorem dX6_isLetter_3 : decode cX6_isLetter 3 = .ok (.bipush 122, 2) := by decide +kernel
theorem dX6_isLetter_5 : decode cX6_isLetter 5 = .ok (.invokestatic 107, 3) := by decide +kernel
theorem dX6_isLetter_8 : decode cX6_isLetter 8 = .ok (.ifCond .ne 14, 3) := by decide +kernel
theorem dX6_isLetter_11 : decode cX6_isLetter 11 = .ok (.iload_n 0, 1) := by decide +kernel
theorem dX6_isLetter_12 : decode cX6_isLetter 12 = .ok (.bipush 65, 2) := by decide +kernel
theorem dX6_isLetter_14 : decode cX6_isLetter 14 = .ok (.bipush 90, 2) := by decide +kernel
theorem dX6_isLetter_16 : decode cX6_isLetter 16 = .ok (.invokestatic 107, 3) := by decide +kernel
theorem dX6_isLetter_19 : decode cX6_isLetter 19 = .ok (.ifCond .eq 7, 3) := by decide +kernel
theorem dX6_isLetter_22 : decode cX6_isLetter 22 = .ok (.iconst 1, 1) := by decide +kernel
theorem dX6_isLetter_23 : decode cX6_isLetter 23 = .ok (.goto 4, 3) := by decide +kernel
theorem dX6_isLetter_26 : decode cX6_isLetter 26 = .ok (.iconst 0, 1) := by decide +kernel
theorem dX6_isLetter_27 : decode cX6_isLetter 27 = .ok (.ireturn, 1) := by decide +kernel
theorem dX6_isDigit_0 : decode cX6_isDigit 0 = .ok (.iload_n 0, 1) := by decide +kernel
theorem dX6_isDigit_1 : decode cX6_isDigit 1 = .ok (.bipush 48, 2) := by decide +kernel
theorem dX6_isDigit_3 : decode cX6_isDigit 3 = .ok (.bipush 57, 2) := by decide +kernel
theorem dX6_isDigit_5 : decode cX6_isDigit 5 = .ok (.invokestatic 107, 3) := by decide +kernel
theorem dX6_isDigit_8 : decode cX6_isDigit 8 = .ok (.ireturn, 1) := by decide +kernel
theorem dX7_init_0 : decode cX7_init 0 = .ok (.aload_n 0, 1) := by decide +kernel
theorem dX7_init_1 : decode cX7_init 1 = .ok (.invokespecial 3, 3) := by decide +kernel
theorem dX7_init_4 : decode cX7_init 4 = .ok (.aload_n 0, 1) := by decide +kernel
theorem dX7_init_5 : decode cX7_init 5 = .ok (.sipush 320, 3) := by decide +kernel
theorem dX7_init_8 : decode cX7_init 8 = .ok (.newarray .int, 2) := by decide +kernel
theorem dX7_init_10 : decode cX7_init 10 = .ok (.putfield 9, 3) := by decide +kernel
theorem dX7_init_13 : decode cX7_init 13 = .ok (.return_, 1) := by decide +kernel
theorem dX7_darken_0 : decode cX7_darken 0 = .ok (.iconst 0, 1) := by decide +kernel
theorem dX7_darken_1 : decode cX7_darken 1 = .ok (.istore_n 1, 1) := by decide +kernel
theorem dX7_darken_2 : decode cX7_darken 2 = .ok (.iload_n 1, 1) := by decide +kernel
theorem dX7_darken_3 : decode cX7_darken 3 = .ok (.aload_n 0, 1) := by decide +kernel
theorem dX7_darken_4 : decode cX7_darken 4 = .ok (.getfield 9, 3) := by decide +kernel
theorem dX7_darken_7 : decode cX7_darken 7 = .ok (.arraylength, 1) := by decide +kernel
theorem dX7_darken_8 : decode cX7_darken 8 = .ok (.if_icmp .ge 16, 3) := by decide +kernel
theorem dX7_darken_11 : decode cX7_darken 11 = .ok (.aload_n 0, 1) := by decide +kernel
theorem dX7_darken_12 : decode cX7_darken 12 = .ok (.getfield 9, 3) := by decide +kernel
theorem dX7_darken_15 : decode cX7_darken 15 = .ok (.iload_n 1, 1) := by decide +kernel
theorem dX7_darken_16 : decode cX7_darken 16 = .ok (.iconst 0, 1) := by decide +kernel
theorem dX7_darken_17 : decode cX7_darken 17 = .ok (.iastore, 1) := by decide +kernel
theorem dX7_darken_18 : decode cX7_darken 18 = .ok (.iinc 1 1, 3) := by decide +kernel
theorem dX7_darken_21 : decode cX7_darken 21 = .ok (.goto (-19), 3) := by decide +kernel
theorem dX7_darken_24 : decode cX7_darken 24 = .ok (.return_, 1) := by decide +kernel
theorem dX7_dim_0 : decode cX7_dim 0 = .ok (.iconst 0, 1) := by decide +kernel
theorem dX7_dim_1 : decode cX7_dim 1 = .ok (.istore_n 2, 1) := by decide +kernel
theorem dX7_dim_2 : decode cX7_dim 2 = .ok (.iload_n 2, 1) := by decide +kernel
theorem dX7_dim_3 : decode cX7_dim 3 = .ok (.aload_n 0, 1) := by decide +kernel
theorem dX7_dim_4 : decode cX7_dim 4 = .ok (.getfield 9, 3) := by decide +kernel
theorem dX7_dim_7 : decode cX7_dim 7 = .ok (.arraylength, 1) := by decide +kernel
theorem dX7_dim_8 : decode cX7_dim 8 = .ok (.if_icmp .ge 26, 3) := by decide +kernel
theorem dX7_dim_11 : decode cX7_dim 11 = .ok (.aload_n 0, 1) := by decide +kernel
theorem dX7_dim_12 : decode cX7_dim 12 = .ok (.getfield 9, 3) := by decide +kernel
theorem dX7_dim_15 : decode cX7_dim 15 = .ok (.iload_n 2, 1) := by decide +kernel
theorem dX7_dim_16 : decode cX7_dim 16 = .ok (.aload_n 0, 1) := by decide +kernel
theorem dX7_dim_17 : decode cX7_dim 17 = .ok (.getfield 9, 3) := by decide +kernel
theorem dX7_dim_20 : decode cX7_dim 20 = .ok (.iload_n 2, 1) := by decide +kernel
theorem dX7_dim_21 : decode cX7_dim 21 = .ok (.iaload, 1) := by decide +kernel
theorem dX7_dim_22 : decode cX7_dim 22 = .ok (.iload_n 1, 1) := by decide +kernel
theorem dX7_dim_23 : decode cX7_dim 23 = .ok (.imul, 1) := by decide +kernel
theorem dX7_dim_24 : decode cX7_dim 24 = .ok (.bipush 16, 2) := by decide +kernel
theorem dX7_dim_26 : decode cX7_dim 26 = .ok (.idiv, 1) := by decide +kernel
theorem dX7_dim_27 : decode cX7_dim 27 = .ok (.iastore, 1) := by decide +kernel
theorem dX7_dim_28 : decode cX7_dim 28 = .ok (.iinc 2 1, 3) := by decide +kernel
theorem dX7_dim_31 : decode cX7_dim 31 = .ok (.goto (-29), 3) := by decide +kernel
theorem dX7_dim_34 : decode cX7_dim 34 = .ok (.return_, 1) := by decide +kernel
theorem dX7_brighten_0 : decode cX7_brighten 0 = .ok (.iload_n 1, 1) := by decide +kernel
theorem dX7_brighten_1 : decode cX7_brighten 1 = .ok (.iconst 0, 1) := by decide +kernel
theorem dX7_brighten_2 : decode cX7_brighten 2 = .ok (.bipush 19, 2) := by decide +kernel
theorem dX7_brighten_4 : decode cX7_brighten 4 = .ok (.invokestatic 15, 3) := by decide +kernel
theorem dX7_brighten_7 : decode cX7_brighten 7 = .ok (.ifCond .eq 41, 3) := by decide +kernel
theorem dX7_brighten_10 : decode cX7_brighten 10 = .ok (.iload_n 2, 1) := by decide +kernel
theorem dX7_brighten_11 : decode cX7_brighten 11 = .ok (.iconst 0, 1) := by decide +kernel
theorem dX7_brighten_12 : decode cX7_brighten 12 = .ok (.bipush 15, 2) := by decide +kernel
theorem dX7_brighten_14 : decode cX7_brighten 14 = .ok (.invokestatic 15, 3) := by decide +kernel
theorem dX7_brighten_17 : decode cX7_brighten 17 = .ok (.ifCond .eq 31, 3) := by decide +kernel
theorem dX7_brighten_20 : decode cX7_brighten 20 = .ok (.iload_n 1, 1) := by decide +kernel
theorem dX7_brighten_21 : decode cX7_brighten 21 = .ok (.bipush 16, 2) := by decide +kernel
theorem dX7_brighten_23 : decode cX7_brighten 23 = .ok (.imul, 1) := by decide +kernel
theorem dX7_brighten_24 : decode cX7_brighten 24 = .ok (.iload_n 2, 1) := by decide +kernel
theorem dX7_brighten_25 : decode cX7_brighten 25 = .ok (.iadd, 1) := by decide +kernel
theorem dX7_brighten_26 : decode cX7_brighten 26 = .ok (.istore_n 3, 1) := by decide +kernel
theorem dX7_brighten_27 : decode cX7_brighten 27 = .ok (.aload_n 0, 1) := by decide +kernel
theorem dX7_brighten_28 : decode cX7_brighten 28 = .ok (.getfield 9, 3) := by decide +kernel
theorem dX7_brighten_31 : decode cX7_brighten 31 = .ok (.iload_n 3, 1) := by decide +kernel
theorem dX7_brighten_32 : decode cX7_brighten 32 = .ok (.aload_n 0, 1) := by decide +kernel
theorem dX7_brighten_33 : decode cX7_brighten 33 = .ok (.getfield 9, 3) := by decide +kernel
theorem dX7_brighten_36 : decode cX7_brighten 36 = .ok (.iload_n 3, 1) := by decide +kernel
theorem dX7_brighten_37 : decode cX7_brighten 37 = .ok (.iaload, 1) := by decide +kernel
theorem dX7_brighten_38 : decode cX7_brighten 38 = .ok (.bipush 16, 2) := by decide +kernel
theorem dX7_brighten_40 : decode cX7_brighten 40 = .ok (.iadd, 1) := by decide +kernel
theorem dX7_brighten_41 : decode cX7_brighten 41 = .ok (.sipush 999, 3) := by decide +kernel
theorem dX7_brighten_44 : decode cX7_brighten 44 = .ok (.invokestatic 19, 3) := by decide +kernel
theorem dX7_brighten_47 : decode cX7_brighten 47 = .ok (.iastore, 1) := by decide +kernel
theorem dX7_brighten_48 : decode cX7_brighten 48 = .ok (.return_, 1) := by decide +kernel
theorem dX7_glowOf_0 : decode cX7_glowOf 0 = .ok (.iload_n 1, 1) := by decide +kernel
theorem dX7_glowOf_1 : decode cX7_glowOf 1 = .ok (.iconst 0, 1) := by decide +kernel
theorem dX7_glowOf_2 : decode cX7_glowOf 2 = .ok (.bipush 19, 2) := by decide +kernel
theorem dX7_glowOf_4 : decode cX7_glowOf 4 = .ok (.invokestatic 15, 3) := by decide +kernel
theorem dX7_glowOf_7 : decode cX7_glowOf 7 = .ok (.ifCond .eq 17, 3) := by decide +kernel
theorem dX7_glowOf_10 : decode cX7_glowOf 10 = .ok (.iload_n 2, 1) := by decide +kernel
theorem dX7_glowOf_11 : decode cX7_glowOf 11 = .ok (.iconst 0, 1) := by decide +kernel
theorem dX7_glowOf_12 : decode cX7_glowOf 12 = .ok (.bipush 15, 2) := by decide +kernel
theorem dX7_glowOf_14 : decode cX7_glowOf 14 = .ok (.invokestatic 15, 3) := by decide +kernel
theorem dX7_glowOf_17 : decode cX7_glowOf 17 = .ok (.ifCond .eq 7, 3) := by decide +kernel
theorem dX7_glowOf_20 : decode cX7_glowOf 20 = .ok (.iconst 1, 1) := by decide +kernel
theorem dX7_glowOf_21 : decode cX7_glowOf 21 = .ok (.goto 4, 3) := by decide +kernel
theorem dX7_glowOf_24 : decode cX7_glowOf 24 = .ok (.iconst 0, 1) := by decide +kernel
theorem dX7_glowOf_25 : decode cX7_glowOf 25 = .ok (.istore_n 3, 1) := by decide +kernel
theorem dX7_glowOf_26 : decode cX7_glowOf 26 = .ok (.iload_n 3, 1) := by decide +kernel
theorem dX7_glowOf_27 : decode cX7_glowOf 27 = .ok (.ifCond .eq 17, 3) := by decide +kernel
theorem dX7_glowOf_30 : decode cX7_glowOf 30 = .ok (.aload_n 0, 1) := by decide +kernel
theorem dX7_glowOf_31 : decode cX7_glowOf 31 = .ok (.getfield 9, 3) := by decide +kernel
theorem dX7_glowOf_34 : decode cX7_glowOf 34 = .ok (.iload_n 1, 1) := by decide +kernel
theorem dX7_glowOf_35 : decode cX7_glowOf 35 = .ok (.bipush 16, 2) := by decide +kernel
theorem dX7_glowOf_37 : decode cX7_glowOf 37 = .ok (.imul, 1) := by decide +kernel
theorem dX7_glowOf_38 : decode cX7_glowOf 38 = .ok (.iload_n 2, 1) := by decide +kernel
theorem dX7_glowOf_39 : decode cX7_glowOf 39 = .ok (.iadd, 1) := by decide +kernel
theorem dX7_glowOf_40 : decode cX7_glowOf 40 = .ok (.iaload, 1) := by decide +kernel
theorem dX7_glowOf_41 : decode cX7_glowOf 41 = .ok (.goto 4, 3) := by decide +kernel
theorem dX7_glowOf_44 : decode cX7_glowOf 44 = .ok (.iconst 0, 1) := by decide +kernel
theorem dX7_glowOf_45 : decode cX7_glowOf 45 = .ok (.ireturn, 1) := by decide +kernel
theorem dX7_bits_0 : decode cX7_bits 0 = .ok (.iconst 0, 1) := by decide +kernel
theorem dX7_bits_1 : decode cX7_bits 1 = .ok (.istore_n 3, 1) := by decide +kernel
theorem dX7_bits_2 : decode cX7_bits 2 = .ok (.iconst 0, 1) := by decide +kernel
theorem dX7_bits_3 : decode cX7_bits 3 = .ok (.istore 4, 2) := by decide +kernel
theorem dX7_bits_5 : decode cX7_bits 5 = .ok (.iload 4, 2) := by decide +kernel
theorem dX7_bits_7 : decode cX7_bits 7 = .ok (.bipush 16, 2) := by decide +kernel
theorem dX7_bits_9 : decode cX7_bits 9 = .ok (.if_icmp .ge 27, 3) := by decide +kernel
theorem dX7_bits_12 : decode cX7_bits 12 = .ok (.aload_n 0, 1) := by decide +kernel
theorem dX7_bits_13 : decode cX7_bits 13 = .ok (.iload_n 1, 1) := by decide +kernel
theorem dX7_bits_14 : decode cX7_bits 14 = .ok (.iload 4, 2) := by decide +kernel
theorem dX7_bits_16 : decode cX7_bits 16 = .ok (.invokevirtual 25, 3) := by decide +kernel
theorem dX7_bits_19 : decode cX7_bits 19 = .ok (.iload_n 2, 1) := by decide +kernel
theorem dX7_bits_20 : decode cX7_bits 20 = .ok (.if_icmp .lt 10, 3) := by decide +kernel
theorem dX7_bits_23 : decode cX7_bits 23 = .ok (.iload_n 3, 1) := by decide +kernel
theorem dX7_bits_24 : decode cX7_bits 24 = .ok (.iconst 1, 1) := by decide +kernel
theorem dX7_bits_25 : decode cX7_bits 25 = .ok (.iload 4, 2) := by decide +kernel
theorem dX7_bits_27 : decode cX7_bits 27 = .ok (.ishl, 1) := by decide +kernel
theorem dX7_bits_28 : decode cX7_bits 28 = .ok (.ior, 1) := by decide +kernel
theorem dX7_bits_29 : decode cX7_bits 29 = .ok (.istore_n 3, 1) := by decide +kernel
theorem dX7_bits_30 : decode cX7_bits 30 = .ok (.iinc 4 1, 3) := by decide +kernel
theorem dX7_bits_33 : decode cX7_bits 33 = .ok (.goto (-28), 3) := by decide +kernel
theorem dX7_bits_36 : decode cX7_bits 36 = .ok (.iload_n 3, 1) := by decide +kernel
theorem dX7_bits_37 : decode cX7_bits 37 = .ok (.ireturn, 1) := by decide +kernel
theorem dX7_dots_0 : decode cX7_dots 0 = .ok (.iconst 0, 1) := by decide +kernel
theorem dX7_dots_1 : decode cX7_dots 1 = .ok (.istore_n 2, 1) := by decide +kernel
theorem dX7_dots_2 : decode cX7_dots 2 = .ok (.iconst 0, 1) := by decide +kernel
theorem dX7_dots_3 : decode cX7_dots 3 = .ok (.istore_n 3, 1) := by decide +kernel
theorem dX7_dots_4 : decode cX7_dots 4 = .ok (.iload_n 3, 1) := by decide +kernel
theorem dX7_dots_5 : decode cX7_dots 5 = .ok (.bipush 20, 2) := by decide +kernel
theorem dX7_dots_7 : decode cX7_dots 7 = .ok (.if_icmp .ge 21, 3) := by decide +kernel
theorem dX7_dots_10 : decode cX7_dots 10 = .ok (.iload_n 2, 1) := by decide +kernel
theorem dX7_dots_11 : decode cX7_dots 11 = .ok (.aload_n 0, 1) := by decide +kernel
theorem dX7_dots_12 : decode cX7_dots 12 = .ok (.iload_n 3, 1) := by decide +kernel
theorem dX7_dots_13 : decode cX7_dots 13 = .ok (.iload_n 1, 1) := by decide +kernel
theorem dX7_dots_14 : decode cX7_dots 14 = .ok (.invokevirtual 28, 3) := by decide +kernel
theorem dX7_dots_17 : decode cX7_dots 17 = .ok (.invokestatic 31, 3) := by decide +kernel
theorem dX7_dots_20 : decode cX7_dots 20 = .ok (.iadd, 1) := by decide +kernel
theorem dX7_dots_21 : decode cX7_dots 21 = .ok (.istore_n 2, 1) := by decide +kernel
theorem dX7_dots_22 : decode cX7_dots 22 = .ok (.iinc 3 1, 3) := by decide +kernel
theorem dX7_dots_25 : decode cX7_dots 25 = .ok (.goto (-21), 3) := by decide +kernel
theorem dX7_dots_28 : decode cX7_dots 28 = .ok (.iload_n 2, 1) := by decide +kernel
theorem dX7_dots_29 : decode cX7_dots 29 = .ok (.ireturn, 1) := by decide +kernel
theorem dX8_init_0 : decode cX8_init 0 = .ok (.aload_n 0, 1) := by decide +kernel
theorem dX8_init_1 : decode cX8_init 1 = .ok (.invokespecial 3, 3) := by decide +kernel
theorem dX8_init_4 : decode cX8_init 4 = .ok (.aload_n 0, 1) := by decide +kernel
theorem dX8_init_5 : decode cX8_init 5 = .ok (.iconst 4, 1) := by decide +kernel
theorem dX8_init_6 : decode cX8_init 6 = .ok (.anewarray 9, 3) := by decide +kernel
theorem dX8_init_9 : decode cX8_init 9 = .ok (.putfield 11, 3) := by decide +kernel
theorem dX8_init_12 : decode cX8_init 12 = .ok (.aload_n 0, 1) := by decide +kernel
theorem dX8_init_13 : decode cX8_init 13 = .ok (.iconst 2, 1) := by decide +kernel
theorem dX8_init_14 : decode cX8_init 14 = .ok (.anewarray 17, 3) := by decide +kernel
theorem dX8_init_17 : decode cX8_init 17 = .ok (.putfield 19, 3) := by decide +kernel
theorem dX8_init_20 : decode cX8_init 20 = .ok (.aload_n 0, 1) := by decide +kernel
theorem dX8_init_21 : decode cX8_init 21 = .ok (.bipush 20, 2) := by decide +kernel
theorem dX8_init_23 : decode cX8_init 23 = .ok (.newarray .int, 2) := by decide +kernel
theorem dX8_init_25 : decode cX8_init 25 = .ok (.putfield 23, 3) := by decide +kernel
theorem dX8_init_28 : decode cX8_init 28 = .ok (.aload_n 0, 1) := by decide +kernel
theorem dX8_init_29 : decode cX8_init 29 = .ok (.bipush 10, 2) := by decide +kernel
theorem dX8_init_31 : decode cX8_init 31 = .ok (.putfield 27, 3) := by decide +kernel
theorem dX8_init_34 : decode cX8_init 34 = .ok (.aload_n 0, 1) := by decide +kernel
theorem dX8_init_35 : decode cX8_init 35 = .ok (.iconst 0, 1) := by decide +kernel
theorem dX8_init_36 : decode cX8_init 36 = .ok (.putfield 31, 3) := by decide +kernel
theorem dX8_init_39 : decode cX8_init 39 = .ok (.aload_n 0, 1) := by decide +kernel
theorem dX8_init_40 : decode cX8_init 40 = .ok (.bipush 16, 2) := by decide +kernel
theorem dX8_init_42 : decode cX8_init 42 = .ok (.putfield 34, 3) := by decide +kernel
theorem dX8_init_45 : decode cX8_init 45 = .ok (.aload_n 0, 1) := by decide +kernel
theorem dX8_init_46 : decode cX8_init 46 = .ok (.iconst 0, 1) := by decide +kernel
theorem dX8_init_47 : decode cX8_init 47 = .ok (.putfield 37, 3) := by decide +kernel
theorem dX8_init_50 : decode cX8_init 50 = .ok (.aload_n 0, 1) := by decide +kernel
theorem dX8_init_51 : decode cX8_init 51 = .ok (.iconst 1, 1) := by decide +kernel
theorem dX8_init_52 : decode cX8_init 52 = .ok (.putfield 40, 3) := by decide +kernel
theorem dX8_init_55 : decode cX8_init 55 = .ok (.aload_n 0, 1) := by decide +kernel
theorem dX8_init_56 : decode cX8_init 56 = .ok (.iconst 0, 1) := by decide +kernel
theorem dX8_init_57 : decode cX8_init 57 = .ok (.putfield 43, 3) := by decide +kernel
theorem dX8_init_60 : decode cX8_init 60 = .ok (.aload_n 0, 1) := by decide +kernel
theorem dX8_init_61 : decode cX8_init 61 = .ok (.iconst (-1), 1) := by decide +kernel
theorem dX8_init_62 : decode cX8_init 62 = .ok (.putfield 46, 3) := by decide +kernel
theorem dX8_init_65 : decode cX8_init 65 = .ok (.iconst 0, 1) := by decide +kernel
theorem dX8_init_66 : decode cX8_init 66 = .ok (.istore_n 1, 1) := by decide +kernel
theorem dX8_init_67 : decode cX8_init 67 = .ok (.iload_n 1, 1) := by decide +kernel
theorem dX8_init_68 : decode cX8_init 68 = .ok (.aload_n 0, 1) := by decide +kernel
theorem dX8_init_69 : decode cX8_init 69 = .ok (.getfield 11, 3) := by decide +kernel
theorem dX8_init_72 : decode cX8_init 72 = .ok (.arraylength, 1) := by decide +kernel
theorem dX8_init_73 : decode cX8_init 73 = .ok (.if_icmp .ge 22, 3) := by decide +kernel
theorem dX8_init_76 : decode cX8_init 76 = .ok (.aload_n 0, 1) := by decide +kernel
theorem dX8_init_77 : decode cX8_init 77 = .ok (.getfield 11, 3) := by decide +kernel
theorem dX8_init_80 : decode cX8_init 80 = .ok (.iload_n 1, 1) := by decide +kernel
theorem dX8_init_81 : decode cX8_init 81 = .ok (.new 9, 3) := by decide +kernel
theorem dX8_init_84 : decode cX8_init 84 = .ok (.dup, 1) := by decide +kernel
theorem dX8_init_85 : decode cX8_init 85 = .ok (.invokespecial 49, 3) := by decide +kernel
theorem dX8_init_88 : decode cX8_init 88 = .ok (.aastore, 1) := by decide +kernel
theorem dX8_init_89 : decode cX8_init 89 = .ok (.iinc 1 1, 3) := by decide +kernel
theorem dX8_init_92 : decode cX8_init 92 = .ok (.goto (-25), 3) := by decide +kernel
theorem dX8_init_95 : decode cX8_init 95 = .ok (.iconst 0, 1) := by decide +kernel
theorem dX8_init_96 : decode cX8_init 96 = .ok (.istore_n 1, 1) := by decide +kernel
theorem dX8_init_97 : decode cX8_init 97 = .ok (.iload_n 1, 1) := by decide +kernel
theorem dX8_init_98 : decode cX8_init 98 = .ok (.aload_n 0, 1) := by decide +kernel
theorem dX8_init_99 : decode cX8_init 99 = .ok (.getfield 19, 3) := by decide +kernel
theorem dX8_init_102 : decode cX8_init 102 = .ok (.arraylength, 1) := by decide +kernel
theorem dX8_init_103 : decode cX8_init 103 = .ok (.if_icmp .ge 23, 3) := by decide +kernel
theorem dX8_init_106 : decode cX8_init 106 = .ok (.aload_n 0, 1) := by decide +kernel
theorem dX8_init_107 : decode cX8_init 107 = .ok (.getfield 19, 3) := by decide +kernel
theorem dX8_init_110 : decode cX8_init 110 = .ok (.iload_n 1, 1) := by decide +kernel
theorem dX8_init_111 : decode cX8_init 111 = .ok (.new 17, 3) := by decide +kernel
theorem dX8_init_114 : decode cX8_init 114 = .ok (.dup, 1) := by decide +kernel
theorem dX8_init_115 : decode cX8_init 115 = .ok (.iload_n 1, 1) := by decide +kernel
theorem dX8_init_116 : decode cX8_init 116 = .ok (.invokespecial 50, 3) := by decide +kernel
theorem dX8_init_119 : decode cX8_init 119 = .ok (.aastore, 1) := by decide +kernel
theorem dX8_init_120 : decode cX8_init 120 = .ok (.iinc 1 1, 3) := by decide +kernel
theorem dX8_init_123 : decode cX8_init 123 = .ok (.goto (-26), 3) := by decide +kernel
theorem dX8_init_126 : decode cX8_init 126 = .ok (.return_, 1) := by decide +kernel
theorem dX8_copyFrom_0 : decode cX8_copyFrom 0 = .ok (.iconst 0, 1) := by decide +kernel
theorem dX8_copyFrom_1 : decode cX8_copyFrom 1 = .ok (.istore_n 2, 1) := by decide +kernel
theorem dX8_copyFrom_2 : decode cX8_copyFrom 2 = .ok (.iload_n 2, 1) := by decide +kernel
theorem dX8_copyFrom_3 : decode cX8_copyFrom 3 = .ok (.aload_n 0, 1) := by decide +kernel
theorem dX8_copyFrom_4 : decode cX8_copyFrom 4 = .ok (.getfield 11, 3) := by decide +kernel
theorem dX8_copyFrom_7 : decode cX8_copyFrom 7 = .ok (.arraylength, 1) := by decide +kernel
theorem dX8_copyFrom_8 : decode cX8_copyFrom 8 = .ok (.if_icmp .ge 33, 3) := by decide +kernel
theorem dX8_copyFrom_11 : decode cX8_copyFrom 11 = .ok (.iload_n 2, 1) := by decide +kernel
theorem dX8_copyFrom_12 : decode cX8_copyFrom 12 = .ok (.aload_n 1, 1) := by decide +kernel
theorem dX8_copyFrom_13 : decode cX8_copyFrom 13 = .ok (.getfield 11, 3) := by decide +kernel
theorem dX8_copyFrom_16 : decode cX8_copyFrom 16 = .ok (.arraylength, 1) := by decide +kernel
theorem dX8_copyFrom_17 : decode cX8_copyFrom 17 = .ok (.if_icmp .ge 24, 3) := by decide +kernel
theorem dX8_copyFrom_20 : decode cX8_copyFrom 20 = .ok (.aload_n 0, 1) := by decide +kernel
theorem dX8_copyFrom_21 : decode cX8_copyFrom 21 = .ok (.getfield 11, 3) := by decide +kernel
theorem dX8_copyFrom_24 : decode cX8_copyFrom 24 = .ok (.iload_n 2, 1) := by decide +kernel
theorem dX8_copyFrom_25 : decode cX8_copyFrom 25 = .ok (.aaload, 1) := by decide +kernel
theorem dX8_copyFrom_26 : decode cX8_copyFrom 26 = .ok (.aload_n 1, 1) := by decide +kernel
theorem dX8_copyFrom_27 : decode cX8_copyFrom 27 = .ok (.getfield 11, 3) := by decide +kernel
theorem dX8_copyFrom_30 : decode cX8_copyFrom 30 = .ok (.iload_n 2, 1) := by decide +kernel
theorem dX8_copyFrom_31 : decode cX8_copyFrom 31 = .ok (.aaload, 1) := by decide +kernel
theorem dX8_copyFrom_32 : decode cX8_copyFrom 32 = .ok (.invokevirtual 53, 3) := by decide +kernel
theorem dX8_copyFrom_35 : decode cX8_copyFrom 35 = .ok (.iinc 2 1, 3) := by decide +kernel
theorem dX8_copyFrom_38 : decode cX8_copyFrom 38 = .ok (.goto (-36), 3) := by decide +kernel
theorem dX8_copyFrom_41 : decode cX8_copyFrom 41 = .ok (.iconst 0, 1) := by decide +kernel
theorem dX8_copyFrom_42 : decode cX8_copyFrom 42 = .ok (.istore_n 2, 1) := by decide +kernel
theorem dX8_copyFrom_43 : decode cX8_copyFrom 43 = .ok (.iload_n 2, 1) := by decide +kernel
theorem dX8_copyFrom_44 : decode cX8_copyFrom 44 = .ok (.aload_n 0, 1) := by decide +kernel
theorem dX8_copyFrom_45 : decode cX8_copyFrom 45 = .ok (.getfield 19, 3) := by decide +kernel
theorem dX8_copyFrom_48 : decode cX8_copyFrom 48 = .ok (.arraylength, 1) := by decide +kernel
theorem dX8_copyFrom_49 : decode cX8_copyFrom 49 = .ok (.if_icmp .ge 33, 3) := by decide +kernel
theorem dX8_copyFrom_52 : decode cX8_copyFrom 52 = .ok (.iload_n 2, 1) := by decide +kernel
theorem dX8_copyFrom_53 : decode cX8_copyFrom 53 = .ok (.aload_n 1, 1) := by decide +kernel
theorem dX8_copyFrom_54 : decode cX8_copyFrom 54 = .ok (.getfield 19, 3) := by decide +kernel
theorem dX8_copyFrom_57 : decode cX8_copyFrom 57 = .ok (.arraylength, 1) := by decide +kernel
theorem dX8_copyFrom_58 : decode cX8_copyFrom 58 = .ok (.if_icmp .ge 24, 3) := by decide +kernel
theorem dX8_copyFrom_61 : decode cX8_copyFrom 61 = .ok (.aload_n 0, 1) := by decide +kernel
theorem dX8_copyFrom_62 : decode cX8_copyFrom 62 = .ok (.getfield 19, 3) := by decide +kernel
theorem dX8_copyFrom_65 : decode cX8_copyFrom 65 = .ok (.iload_n 2, 1) := by decide +kernel
theorem dX8_copyFrom_66 : decode cX8_copyFrom 66 = .ok (.aaload, 1) := by decide +kernel
theorem dX8_copyFrom_67 : decode cX8_copyFrom 67 = .ok (.aload_n 1, 1) := by decide +kernel
theorem dX8_copyFrom_68 : decode cX8_copyFrom 68 = .ok (.getfield 19, 3) := by decide +kernel
theorem dX8_copyFrom_71 : decode cX8_copyFrom 71 = .ok (.iload_n 2, 1) := by decide +kernel
theorem dX8_copyFrom_72 : decode cX8_copyFrom 72 = .ok (.aaload, 1) := by decide +kernel
theorem dX8_copyFrom_73 : decode cX8_copyFrom 73 = .ok (.invokevirtual 57, 3) := by decide +kernel
theorem dX8_copyFrom_76 : decode cX8_copyFrom 76 = .ok (.iinc 2 1, 3) := by decide +kernel
theorem dX8_copyFrom_79 : decode cX8_copyFrom 79 = .ok (.goto (-36), 3) := by decide +kernel
theorem dX8_copyFrom_82 : decode cX8_copyFrom 82 = .ok (.iconst 0, 1) := by decide +kernel
theorem dX8_copyFrom_83 : decode cX8_copyFrom 83 = .ok (.istore_n 2, 1) := by decide +kernel
theorem dX8_copyFrom_84 : decode cX8_copyFrom 84 = .ok (.iload_n 2, 1) := by decide +kernel
theorem dX8_copyFrom_85 : decode cX8_copyFrom 85 = .ok (.aload_n 0, 1) := by decide +kernel
theorem dX8_copyFrom_86 : decode cX8_copyFrom 86 = .ok (.getfield 23, 3) := by decide +kernel
theorem dX8_copyFrom_89 : decode cX8_copyFrom 89 = .ok (.arraylength, 1) := by decide +kernel
theorem dX8_copyFrom_90 : decode cX8_copyFrom 90 = .ok (.if_icmp .ge 30, 3) := by decide +kernel
theorem dX8_copyFrom_93 : decode cX8_copyFrom 93 = .ok (.iload_n 2, 1) := by decide +kernel
theorem dX8_copyFrom_94 : decode cX8_copyFrom 94 = .ok (.aload_n 1, 1) := by decide +kernel
theorem dX8_copyFrom_95 : decode cX8_copyFrom 95 = .ok (.getfield 23, 3) := by decide +kernel
theorem dX8_copyFrom_98 : decode cX8_copyFrom 98 = .ok (.arraylength, 1) := by decide +kernel
theorem dX8_copyFrom_99 : decode cX8_copyFrom 99 = .ok (.if_icmp .ge 21, 3) := by decide +kernel
theorem dX8_copyFrom_102 : decode cX8_copyFrom 102 = .ok (.aload_n 0, 1) := by decide +kernel
theorem dX8_copyFrom_103 : decode cX8_copyFrom 103 = .ok (.getfield 23, 3) := by decide +kernel
theorem dX8_copyFrom_106 : decode cX8_copyFrom 106 = .ok (.iload_n 2, 1) := by decide +kernel
theorem dX8_copyFrom_107 : decode cX8_copyFrom 107 = .ok (.aload_n 1, 1) := by decide +kernel
theorem dX8_copyFrom_108 : decode cX8_copyFrom 108 = .ok (.getfield 23, 3) := by decide +kernel
theorem dX8_copyFrom_111 : decode cX8_copyFrom 111 = .ok (.iload_n 2, 1) := by decide +kernel
theorem dX8_copyFrom_112 : decode cX8_copyFrom 112 = .ok (.iaload, 1) := by decide +kernel
theorem dX8_copyFrom_113 : decode cX8_copyFrom 113 = .ok (.iastore, 1) := by decide +kernel
theorem dX8_copyFrom_114 : decode cX8_copyFrom 114 = .ok (.iinc 2 1, 3) := by decide +kernel
theorem dX8_copyFrom_117 : decode cX8_copyFrom 117 = .ok (.goto (-33), 3) := by decide +kernel
theorem dX8_copyFrom_120 : decode cX8_copyFrom 120 = .ok (.aload_n 0, 1) := by decide +kernel
theorem dX8_copyFrom_121 : decode cX8_copyFrom 121 = .ok (.aload_n 1, 1) := by decide +kernel
theorem dX8_copyFrom_122 : decode cX8_copyFrom 122 = .ok (.getfield 27, 3) := by decide +kernel
theorem dX8_copyFrom_125 : decode cX8_copyFrom 125 = .ok (.putfield 27, 3) := by decide +kernel
theorem dX8_copyFrom_128 : decode cX8_copyFrom 128 = .ok (.aload_n 0, 1) := by decide +kernel
theorem dX8_copyFrom_129 : decode cX8_copyFrom 129 = .ok (.aload_n 1, 1) := by decide +kernel
theorem dX8_copyFrom_130 : decode cX8_copyFrom 130 = .ok (.getfield 31, 3) := by decide +kernel
theorem dX8_copyFrom_133 : decode cX8_copyFrom 133 = .ok (.putfield 31, 3) := by decide +kernel
theorem dX8_copyFrom_136 : decode cX8_copyFrom 136 = .ok (.aload_n 0, 1) := by decide +kernel
theorem dX8_copyFrom_137 : decode cX8_copyFrom 137 = .ok (.aload_n 1, 1) := by decide +kernel
theorem dX8_copyFrom_138 : decode cX8_copyFrom 138 = .ok (.getfield 34, 3) := by decide +kernel
theorem dX8_copyFrom_141 : decode cX8_copyFrom 141 = .ok (.putfield 34, 3) := by decide +kernel
theorem dX8_copyFrom_144 : decode cX8_copyFrom 144 = .ok (.aload_n 0, 1) := by decide +kernel
theorem dX8_copyFrom_145 : decode cX8_copyFrom 145 = .ok (.aload_n 1, 1) := by decide +kernel
theorem dX8_copyFrom_146 : decode cX8_copyFrom 146 = .ok (.getfield 37, 3) := by decide +kernel
theorem dX8_copyFrom_149 : decode cX8_copyFrom 149 = .ok (.putfield 37, 3) := by decide +kernel
theorem dX8_copyFrom_152 : decode cX8_copyFrom 152 = .ok (.aload_n 0, 1) := by decide +kernel
theorem dX8_copyFrom_153 : decode cX8_copyFrom 153 = .ok (.aload_n 1, 1) := by decide +kernel
theorem dX8_copyFrom_154 : decode cX8_copyFrom 154 = .ok (.getfield 40, 3) := by decide +kernel
theorem dX8_copyFrom_157 : decode cX8_copyFrom 157 = .ok (.putfield 40, 3) := by decide +kernel
theorem dX8_copyFrom_160 : decode cX8_copyFrom 160 = .ok (.aload_n 0, 1) := by decide +kernel
theorem dX8_copyFrom_161 : decode cX8_copyFrom 161 = .ok (.aload_n 1, 1) := by decide +kernel
theorem dX8_copyFrom_162 : decode cX8_copyFrom 162 = .ok (.getfield 43, 3) := by decide +kernel
theorem dX8_copyFrom_165 : decode cX8_copyFrom 165 = .ok (.putfield 43, 3) := by decide +kernel
theorem dX8_copyFrom_168 : decode cX8_copyFrom 168 = .ok (.aload_n 0, 1) := by decide +kernel
theorem dX8_copyFrom_169 : decode cX8_copyFrom 169 = .ok (.aload_n 1, 1) := by decide +kernel
theorem dX8_copyFrom_170 : decode cX8_copyFrom 170 = .ok (.getfield 46, 3) := by decide +kernel
theorem dX8_copyFrom_173 : decode cX8_copyFrom 173 = .ok (.putfield 46, 3) := by decide +kernel
theorem dX8_copyFrom_176 : decode cX8_copyFrom 176 = .ok (.return_, 1) := by decide +kernel
theorem dX9_init_0 : decode cX9_init 0 = .ok (.aload_n 0, 1) := by decide +kernel
theorem dX9_init_1 : decode cX9_init 1 = .ok (.invokespecial 3, 3) := by decide +kernel
theorem dX9_init_4 : decode cX9_init 4 = .ok (.aload_n 0, 1) := by decide +kernel
theorem dX9_init_5 : decode cX9_init 5 = .ok (.bipush 6, 2) := by decide +kernel
theorem dX9_init_7 : decode cX9_init 7 = .ok (.anewarray 9, 3) := by decide +kernel
theorem dX9_init_10 : decode cX9_init 10 = .ok (.putfield 11, 3) := by decide +kernel
theorem dX9_init_13 : decode cX9_init 13 = .ok (.aload_n 0, 1) := by decide +kernel
theorem dX9_init_14 : decode cX9_init 14 = .ok (.iconst 0, 1) := by decide +kernel
theorem dX9_init_15 : decode cX9_init 15 = .ok (.putfield 17, 3) := by decide +kernel
theorem dX9_init_18 : decode cX9_init 18 = .ok (.iconst 0, 1) := by decide +kernel
theorem dX9_init_19 : decode cX9_init 19 = .ok (.istore_n 1, 1) := by decide +kernel
theorem dX9_init_20 : decode cX9_init 20 = .ok (.iload_n 1, 1) := by decide +kernel
theorem dX9_init_21 : decode cX9_init 21 = .ok (.aload_n 0, 1) := by decide +kernel
theorem dX9_init_22 : decode cX9_init 22 = .ok (.getfield 11, 3) := by decide +kernel
theorem dX9_init_25 : decode cX9_init 25 = .ok (.arraylength, 1) := by decide +kernel
theorem dX9_init_26 : decode cX9_init 26 = .ok (.if_icmp .ge 22, 3) := by decide +kernel
theorem dX9_init_29 : decode cX9_init 29 = .ok (.aload_n 0, 1) := by decide +kernel
theorem dX9_init_30 : decode cX9_init 30 = .ok (.getfield 11, 3) := by decide +kernel
theorem dX9_init_33 : decode cX9_init 33 = .ok (.iload_n 1, 1) := by decide +kernel
theorem dX9_init_34 : decode cX9_init 34 = .ok (.new 9, 3) := by decide +kernel
theorem dX9_init_37 : decode cX9_init 37 = .ok (.dup, 1) := by decide +kernel
theorem dX9_init_38 : decode cX9_init 38 = .ok (.invokespecial 21, 3) := by decide +kernel
theorem dX9_init_41 : decode cX9_init 41 = .ok (.aastore, 1) := by decide +kernel
theorem dX9_init_42 : decode cX9_init 42 = .ok (.iinc 1 1, 3) := by decide +kernel
theorem dX9_init_45 : decode cX9_init 45 = .ok (.goto (-25), 3) := by decide +kernel
theorem dX9_init_48 : decode cX9_init 48 = .ok (.return_, 1) := by decide +kernel
theorem dX9_add_0 : decode cX9_add 0 = .ok (.aload_n 0, 1) := by decide +kernel
theorem dX9_add_1 : decode cX9_add 1 = .ok (.getfield 17, 3) := by decide +kernel
theorem dX9_add_4 : decode cX9_add 4 = .ok (.iconst 0, 1) := by decide +kernel
theorem dX9_add_5 : decode cX9_add 5 = .ok (.aload_n 0, 1) := by decide +kernel
theorem dX9_add_6 : decode cX9_add 6 = .ok (.getfield 11, 3) := by decide +kernel
theorem dX9_add_9 : decode cX9_add 9 = .ok (.arraylength, 1) := by decide +kernel
theorem dX9_add_10 : decode cX9_add 10 = .ok (.iconst 1, 1) := by decide +kernel
theorem dX9_add_11 : decode cX9_add 11 = .ok (.isub, 1) := by decide +kernel
theorem dX9_add_12 : decode cX9_add 12 = .ok (.invokestatic 22, 3) := by decide +kernel
theorem dX9_add_15 : decode cX9_add 15 = .ok (.ifCond .eq 32, 3) := by decide +kernel
theorem dX9_add_18 : decode cX9_add 18 = .ok (.aload_n 0, 1) := by decide +kernel
theorem dX9_add_19 : decode cX9_add 19 = .ok (.getfield 11, 3) := by decide +kernel
theorem dX9_add_22 : decode cX9_add 22 = .ok (.aload_n 0, 1) := by decide +kernel
theorem dX9_add_23 : decode cX9_add 23 = .ok (.getfield 17, 3) := by decide +kernel
theorem dX9_add_26 : decode cX9_add 26 = .ok (.aaload, 1) := by decide +kernel
theorem dX9_add_27 : decode cX9_add 27 = .ok (.iload_n 1, 1) := by decide +kernel
theorem dX9_add_28 : decode cX9_add 28 = .ok (.iload_n 2, 1) := by decide +kernel
theorem dX9_add_29 : decode cX9_add 29 = .ok (.iload_n 3, 1) := by decide +kernel
theorem dX9_add_30 : decode cX9_add 30 = .ok (.iload 4, 2) := by decide +kernel
theorem dX9_add_32 : decode cX9_add 32 = .ok (.iload 5, 2) := by decide +kernel
theorem dX9_add_34 : decode cX9_add 34 = .ok (.invokevirtual 26, 3) := by decide +kernel
theorem dX9_add_37 : decode cX9_add 37 = .ok (.aload_n 0, 1) := by decide +kernel
theorem dX9_add_38 : decode cX9_add 38 = .ok (.dup, 1) := by decide +kernel
theorem dX9_add_39 : decode cX9_add 39 = .ok (.getfield 17, 3) := by decide +kernel
theorem dX9_add_42 : decode cX9_add 42 = .ok (.iconst 1, 1) := by decide +kernel
theorem dX9_add_43 : decode cX9_add 43 = .ok (.iadd, 1) := by decide +kernel
theorem dX9_add_44 : decode cX9_add 44 = .ok (.putfield 17, 3) := by decide +kernel
theorem dX9_add_47 : decode cX9_add 47 = .ok (.return_, 1) := by decide +kernel
theorem dX9_heightAt_0 : decode cX9_heightAt 0 = .ok (.iconst 0, 1) := by decide +kernel
theorem dX9_heightAt_1 : decode cX9_heightAt 1 = .ok (.istore_n 2, 1) := by decide +kernel
theorem dX9_heightAt_2 : decode cX9_heightAt 2 = .ok (.iconst 0, 1) := by decide +kernel
theorem dX9_heightAt_3 : decode cX9_heightAt 3 = .ok (.istore_n 3, 1) := by decide +kernel
theorem dX9_heightAt_4 : decode cX9_heightAt 4 = .ok (.iload_n 3, 1) := by decide +kernel
theorem dX9_heightAt_5 : decode cX9_heightAt 5 = .ok (.aload_n 0, 1) := by decide +kernel
theorem dX9_heightAt_6 : decode cX9_heightAt 6 = .ok (.getfield 17, 3) := by decide +kernel
theorem dX9_heightAt_9 : decode cX9_heightAt 9 = .ok (.if_icmp .ge 31, 3) := by decide +kernel
theorem dX9_heightAt_12 : decode cX9_heightAt 12 = .ok (.iload_n 3, 1) := by decide +kernel
theorem dX9_heightAt_13 : decode cX9_heightAt 13 = .ok (.aload_n 0, 1) := by decide +kernel
theorem dX9_heightAt_14 : decode cX9_heightAt 14 = .ok (.getfield 11, 3) := by decide +kernel
theorem dX9_heightAt_17 : decode cX9_heightAt 17 = .ok (.arraylength, 1) := by decide +kernel
theorem dX9_heightAt_18 : decode cX9_heightAt 18 = .ok (.if_icmp .ge 22, 3) := by decide +kernel
theorem dX9_heightAt_21 : decode cX9_heightAt 21 = .ok (.iload_n 2, 1) := by decide +kernel
theorem dX9_heightAt_22 : decode cX9_heightAt 22 = .ok (.aload_n 0, 1) := by decide +kernel
theorem dX9_heightAt_23 : decode cX9_heightAt 23 = .ok (.getfield 11, 3) := by decide +kernel
theorem dX9_heightAt_26 : decode cX9_heightAt 26 = .ok (.iload_n 3, 1) := by decide +kernel
theorem dX9_heightAt_27 : decode cX9_heightAt 27 = .ok (.aaload, 1) := by decide +kernel
theorem dX9_heightAt_28 : decode cX9_heightAt 28 = .ok (.iload_n 1, 1) := by decide +kernel
theorem dX9_heightAt_29 : decode cX9_heightAt 29 = .ok (.invokevirtual 30, 3) := by decide +kernel
theorem dX9_heightAt_32 : decode cX9_heightAt 32 = .ok (.iadd, 1) := by decide +kernel
theorem dX9_heightAt_33 : decode cX9_heightAt 33 = .ok (.istore_n 2, 1) := by decide +kernel
theorem dX9_heightAt_34 : decode cX9_heightAt 34 = .ok (.iinc 3 1, 3) := by decide +kernel
theorem dX9_heightAt_37 : decode cX9_heightAt 37 = .ok (.goto (-33), 3) := by decide +kernel
theorem dX9_heightAt_40 : decode cX9_heightAt 40 = .ok (.iload_n 2, 1) := by decide +kernel
theorem dX9_heightAt_41 : decode cX9_heightAt 41 = .ok (.ireturn, 1) := by decide +kernel
theorem dX9_copyFrom_0 : decode cX9_copyFrom 0 = .ok (.aload_n 0, 1) := by decide +kernel
theorem dX9_copyFrom_1 : decode cX9_copyFrom 1 = .ok (.iconst 0, 1) := by decide +kernel
theorem dX9_copyFrom_2 : decode cX9_copyFrom 2 = .ok (.putfield 17, 3) := by decide +kernel
theorem dX9_copyFrom_5 : decode cX9_copyFrom 5 = .ok (.iconst 0, 1) := by decide +kernel
theorem dX9_copyFrom_6 : decode cX9_copyFrom 6 = .ok (.istore_n 2, 1) := by decide +kernel
theorem dX9_copyFrom_7 : decode cX9_copyFrom 7 = .ok (.iload_n 2, 1) := by decide +kernel
theorem dX9_copyFrom_8 : decode cX9_copyFrom 8 = .ok (.aload_n 1, 1) := by decide +kernel
theorem dX9_copyFrom_9 : decode cX9_copyFrom 9 = .ok (.getfield 17, 3) := by decide +kernel
theorem dX9_copyFrom_12 : decode cX9_copyFrom 12 = .ok (.if_icmp .ge 49, 3) := by decide +kernel
theorem dX9_copyFrom_15 : decode cX9_copyFrom 15 = .ok (.iload_n 2, 1) := by decide +kernel
theorem dX9_copyFrom_16 : decode cX9_copyFrom 16 = .ok (.aload_n 1, 1) := by decide +kernel
theorem dX9_copyFrom_17 : decode cX9_copyFrom 17 = .ok (.getfield 11, 3) := by decide +kernel
theorem dX9_copyFrom_20 : decode cX9_copyFrom 20 = .ok (.arraylength, 1) := by decide +kernel
theorem dX9_copyFrom_21 : decode cX9_copyFrom 21 = .ok (.if_icmp .ge 40, 3) := by decide +kernel
theorem dX9_copyFrom_24 : decode cX9_copyFrom 24 = .ok (.aload_n 1, 1) := by decide +kernel
theorem dX9_copyFrom_25 : decode cX9_copyFrom 25 = .ok (.getfield 11, 3) := by decide +kernel
theorem dX9_copyFrom_28 : decode cX9_copyFrom 28 = .ok (.iload_n 2, 1) := by decide +kernel
theorem dX9_copyFrom_29 : decode cX9_copyFrom 29 = .ok (.aaload, 1) := by decide +kernel
theorem dX9_copyFrom_30 : decode cX9_copyFrom 30 = .ok (.astore_n 3, 1) := by decide +kernel
theorem dX9_copyFrom_31 : decode cX9_copyFrom 31 = .ok (.aload_n 0, 1) := by decide +kernel
theorem dX9_copyFrom_32 : decode cX9_copyFrom 32 = .ok (.aload_n 3, 1) := by decide +kernel
theorem dX9_copyFrom_33 : decode cX9_copyFrom 33 = .ok (.getfield 34, 3) := by decide +kernel
theorem dX9_copyFrom_36 : decode cX9_copyFrom 36 = .ok (.aload_n 3, 1) := by decide +kernel
theorem dX9_copyFrom_37 : decode cX9_copyFrom 37 = .ok (.getfield 37, 3) := by decide +kernel
theorem dX9_copyFrom_40 : decode cX9_copyFrom 40 = .ok (.aload_n 3, 1) := by decide +kernel
theorem dX9_copyFrom_41 : decode cX9_copyFrom 41 = .ok (.getfield 40, 3) := by decide +kernel
theorem dX9_copyFrom_44 : decode cX9_copyFrom 44 = .ok (.aload_n 3, 1) := by decide +kernel
theorem dX9_copyFrom_45 : decode cX9_copyFrom 45 = .ok (.getfield 43, 3) := by decide +kernel
theorem dX9_copyFrom_48 : decode cX9_copyFrom 48 = .ok (.aload_n 3, 1) := by decide +kernel
theorem dX9_copyFrom_49 : decode cX9_copyFrom 49 = .ok (.getfield 46, 3) := by decide +kernel
theorem dX9_copyFrom_52 : decode cX9_copyFrom 52 = .ok (.invokevirtual 49, 3) := by decide +kernel
theorem dX9_copyFrom_55 : decode cX9_copyFrom 55 = .ok (.iinc 2 1, 3) := by decide +kernel
theorem dX9_copyFrom_58 : decode cX9_copyFrom 58 = .ok (.goto (-51), 3) := by decide +kernel
theorem dX9_copyFrom_61 : decode cX9_copyFrom 61 = .ok (.return_, 1) := by decide +kernel
theorem dX10_init_0 : decode cX10_init 0 = .ok (.aload_n 0, 1) := by decide +kernel
theorem dX10_init_1 : decode cX10_init 1 = .ok (.invokespecial 1, 3) := by decide +kernel
theorem dX10_init_4 : decode cX10_init 4 = .ok (.aload_n 0, 1) := by decide +kernel
theorem dX10_init_5 : decode cX10_init 5 = .ok (.new 7, 3) := by decide +kernel
theorem dX10_init_8 : decode cX10_init 8 = .ok (.dup, 1) := by decide +kernel
theorem dX10_init_9 : decode cX10_init 9 = .ok (.invokespecial 9, 3) := by decide +kernel
theorem dX10_init_12 : decode cX10_init 12 = .ok (.putfield 10, 3) := by decide +kernel
theorem dX10_init_15 : decode cX10_init 15 = .ok (.aload_n 0, 1) := by decide +kernel
theorem dX10_init_16 : decode cX10_init 16 = .ok (.aload_n 0, 1) := by decide +kernel
theorem dX10_init_17 : decode cX10_init 17 = .ok (.getfield 10, 3) := by decide +kernel
theorem dX10_init_20 : decode cX10_init 20 = .ok (.getfield 16, 3) := by decide +kernel
theorem dX10_init_23 : decode cX10_init 23 = .ok (.putfield 20, 3) := by decide +kernel
theorem dX10_init_26 : decode cX10_init 26 = .ok (.aload_n 0, 1) := by decide +kernel
theorem dX10_init_27 : decode cX10_init 27 = .ok (.new 21, 3) := by decide +kernel
theorem dX10_init_30 : decode cX10_init 30 = .ok (.dup, 1) := by decide +kernel
theorem dX10_init_31 : decode cX10_init 31 = .ok (.invokespecial 23, 3) := by decide +kernel
theorem dX10_init_34 : decode cX10_init 34 = .ok (.putfield 24, 3) := by decide +kernel
theorem dX10_init_37 : decode cX10_init 37 = .ok (.aload_n 0, 1) := by decide +kernel
theorem dX10_init_38 : decode cX10_init 38 = .ok (.new 27, 3) := by decide +kernel
theorem dX10_init_41 : decode cX10_init 41 = .ok (.dup, 1) := by decide +kernel
theorem dX10_init_42 : decode cX10_init 42 = .ok (.invokespecial 29, 3) := by decide +kernel
theorem dX10_init_45 : decode cX10_init 45 = .ok (.putfield 30, 3) := by decide +kernel
theorem dX10_init_48 : decode cX10_init 48 = .ok (.aload_n 0, 1) := by decide +kernel
theorem dX10_init_49 : decode cX10_init 49 = .ok (.aload_n 0, 1) := by decide +kernel
theorem dX10_init_50 : decode cX10_init 50 = .ok (.getfield 30, 3) := by decide +kernel
theorem dX10_init_53 : decode cX10_init 53 = .ok (.getfield 34, 3) := by decide +kernel
theorem dX10_init_56 : decode cX10_init 56 = .ok (.getfield 38, 3) := by decide +kernel
theorem dX10_init_59 : decode cX10_init 59 = .ok (.putfield 44, 3) := by decide +kernel
theorem dX10_init_62 : decode cX10_init 62 = .ok (.aload_n 0, 1) := by decide +kernel
theorem dX10_init_63 : decode cX10_init 63 = .ok (.new 47, 3) := by decide +kernel
theorem dX10_init_66 : decode cX10_init 66 = .ok (.dup, 1) := by decide +kernel
theorem dX10_init_67 : decode cX10_init 67 = .ok (.invokespecial 49, 3) := by decide +kernel
theorem dX10_init_70 : decode cX10_init 70 = .ok (.putfield 50, 3) := by decide +kernel
theorem dX10_init_73 : decode cX10_init 73 = .ok (.aload_n 0, 1) := by decide +kernel
theorem dX10_init_74 : decode cX10_init 74 = .ok (.new 54, 3) := by decide +kernel
theorem dX10_init_77 : decode cX10_init 77 = .ok (.dup, 1) := by decide +kernel
theorem dX10_init_78 : decode cX10_init 78 = .ok (.invokespecial 56, 3) := by decide +kernel
theorem dX10_init_81 : decode cX10_init 81 = .ok (.putfield 57, 3) := by decide +kernel
theorem dX10_init_84 : decode cX10_init 84 = .ok (.aload_n 0, 1) := by decide +kernel
theorem dX10_init_85 : decode cX10_init 85 = .ok (.bipush 20, 2) := by decide +kernel
theorem dX10_init_87 : decode cX10_init 87 = .ok (.newarray .int, 2) := by decide +kernel
theorem dX10_init_89 : decode cX10_init 89 = .ok (.putfield 61, 3) := by decide +kernel
theorem dX10_init_92 : decode cX10_init 92 = .ok (.aload_n 0, 1) := by decide +kernel
theorem dX10_init_93 : decode cX10_init 93 = .ok (.bipush 20, 2) := by decide +kernel
theorem dX10_init_95 : decode cX10_init 95 = .ok (.newarray .int, 2) := by decide +kernel
theorem dX10_init_97 : decode cX10_init 97 = .ok (.putfield 64, 3) := by decide +kernel
theorem dX10_init_100 : decode cX10_init 100 = .ok (.aload_n 0, 1) := by decide +kernel
theorem dX10_init_101 : decode cX10_init 101 = .ok (.iconst 0, 1) := by decide +kernel
theorem dX10_init_102 : decode cX10_init 102 = .ok (.putfield 67, 3) := by decide +kernel
theorem dX10_init_105 : decode cX10_init 105 = .ok (.aload_n 0, 1) := by decide +kernel
theorem dX10_init_106 : decode cX10_init 106 = .ok (.iconst (-1), 1) := by decide +kernel
theorem dX10_init_107 : decode cX10_init 107 = .ok (.putfield 71, 3) := by decide +kernel
theorem dX10_init_110 : decode cX10_init 110 = .ok (.aload_n 0, 1) := by decide +kernel
theorem dX10_init_111 : decode cX10_init 111 = .ok (.iconst (-1), 1) := by decide +kernel
theorem dX10_init_112 : decode cX10_init 112 = .ok (.putfield 74, 3) := by decide +kernel
theorem dX10_init_115 : decode cX10_init 115 = .ok (.return_, 1) := by decide +kernel
theorem dX10_part_0 : decode cX10_part 0 = .ok (.iload_n 1, 1) := by decide +kernel
theorem dX10_part_1 : decode cX10_part 1 = .ok (.invokestatic 77, 3) := by decide +kernel
theorem dX10_part_4 : decode cX10_part 4 = .ok (.ifCond .eq 65, 3) := by decide +kernel
theorem dX10_part_7 : decode cX10_part 7 = .ok (.iload_n 2, 1) := by decide +kernel
theorem dX10_part_8 : decode cX10_part 8 = .ok (.iconst 0, 1) := by decide +kernel
theorem dX10_part_9 : decode cX10_part 9 = .ok (.iconst 2, 1) := by decide +kernel
theorem dX10_part_10 : decode cX10_part 10 = .ok (.invokestatic 81, 3) := by decide +kernel
theorem dX10_part_13 : decode cX10_part 13 = .ok (.ifCond .eq 56, 3) := by decide +kernel
theorem dX10_part_16 : decode cX10_part 16 = .ok (.iload_n 3, 1) := by decide +kernel
theorem dX10_part_17 : decode cX10_part 17 = .ok (.sipush (-999), 3) := by decide +kernel
theorem dX10_part_20 : decode cX10_part 20 = .ok (.sipush 999, 3) := by decide +kernel
theorem dX10_part_23 : decode cX10_part 23 = .ok (.invokestatic 81, 3) := by decide +kernel
theorem dX10_part_26 : decode cX10_part 26 = .ok (.ifCond .eq 43, 3) := by decide +kernel
theorem dX10_part_29 : decode cX10_part 29 = .ok (.iload 4, 2) := by decide +kernel
theorem dX10_part_31 : decode cX10_part 31 = .ok (.iconst 1, 1) := by decide +kernel
theorem dX10_part_32 : decode cX10_part 32 = .ok (.sipush 500, 3) := by decide +kernel
theorem dX10_part_35 : decode cX10_part 35 = .ok (.invokestatic 81, 3) := by decide +kernel
theorem dX10_part_38 : decode cX10_part 38 = .ok (.ifCond .eq 31, 3) := by decide +kernel
theorem dX10_part_41 : decode cX10_part 41 = .ok (.iload 5, 2) := by decide +kernel
theorem dX10_part_43 : decode cX10_part 43 = .ok (.iconst 0, 1) := by decide +kernel
theorem dX10_part_44 : decode cX10_part 44 = .ok (.sipush 500, 3) := by decide +kernel
theorem dX10_part_47 : decode cX10_part 47 = .ok (.invokestatic 81, 3) := by decide +kernel
theorem dX10_part_50 : decode cX10_part 50 = .ok (.ifCond .eq 19, 3) := by decide +kernel
theorem dX10_part_53 : decode cX10_part 53 = .ok (.iload 6, 2) := by decide +kernel
theorem dX10_part_55 : decode cX10_part 55 = .ok (.iconst 0, 1) := by decide +kernel
theorem dX10_part_56 : decode cX10_part 56 = .ok (.sipush 1999, 3) := by decide +kernel
theorem dX10_part_59 : decode cX10_part 59 = .ok (.invokestatic 81, 3) := by decide +kernel
theorem dX10_part_62 : decode cX10_part 62 = .ok (.ifCond .eq 7, 3) := by decide +kernel
theorem dX10_part_65 : decode cX10_part 65 = .ok (.iconst 1, 1) := by decide +kernel
theorem dX10_part_66 : decode cX10_part 66 = .ok (.goto 4, 3) := by decide +kernel
theorem dX10_part_69 : decode cX10_part 69 = .ok (.iconst 0, 1) := by decide +kernel
theorem dX10_part_70 : decode cX10_part 70 = .ok (.istore 7, 2) := by decide +kernel
theorem dX10_part_72 : decode cX10_part 72 = .ok (.iload 7, 2) := by decide +kernel
theorem dX10_part_74 : decode cX10_part 74 = .ok (.ifCond .eq 20, 3) := by decide +kernel
theorem dX10_part_77 : decode cX10_part 77 = .ok (.aload_n 0, 1) := by decide +kernel
theorem dX10_part_78 : decode cX10_part 78 = .ok (.getfield 20, 3) := by decide +kernel
theorem dX10_part_81 : decode cX10_part 81 = .ok (.getfield 85, 3) := by decide +kernel
theorem dX10_part_84 : decode cX10_part 84 = .ok (.iload_n 1, 1) := by decide +kernel
theorem dX10_part_85 : decode cX10_part 85 = .ok (.aaload, 1) := by decide +kernel
theorem dX10_part_86 : decode cX10_part 86 = .ok (.getfield 89, 3) := by decide +kernel
theorem dX10_part_89 : decode cX10_part 89 = .ok (.bipush 6, 2) := by decide +kernel
theorem dX10_part_91 : decode cX10_part 91 = .ok (.if_icmp .lt 5, 3) := by decide +kernel
theorem dX10_part_94 : decode cX10_part 94 = .ok (.iconst (-1), 1) := by decide +kernel
theorem dX10_part_95 : decode cX10_part 95 = .ok (.ireturn, 1) := by decide +kernel
theorem dX10_part_96 : decode cX10_part 96 = .ok (.aload_n 0, 1) := by decide +kernel
theorem dX10_part_97 : decode cX10_part 97 = .ok (.getfield 20, 3) := by decide +kernel
theorem dX10_part_100 : decode cX10_part 100 = .ok (.getfield 85, 3) := by decide +kernel
theorem dX10_part_103 : decode cX10_part 103 = .ok (.iload_n 1, 1) := by decide +kernel
theorem dX10_part_104 : decode cX10_part 104 = .ok (.aaload, 1) := by decide +kernel
theorem dX10_part_105 : decode cX10_part 105 = .ok (.iload_n 2, 1) := by decide +kernel
theorem dX10_part_106 : decode cX10_part 106 = .ok (.iload_n 3, 1) := by decide +kernel
theorem dX10_part_107 : decode cX10_part 107 = .ok (.iload 4, 2) := by decide +kernel
theorem dX10_part_109 : decode cX10_part 109 = .ok (.iload 5, 2) := by decide +kernel
theorem dX10_part_111 : decode cX10_part 111 = .ok (.iload 6, 2) := by decide +kernel
theorem dX10_part_113 : decode cX10_part 113 = .ok (.invokevirtual 94, 3) := by decide +kernel
theorem dX10_part_116 : decode cX10_part 116 = .ok (.aload_n 0, 1) := by decide +kernel
theorem dX10_part_117 : decode cX10_part 117 = .ok (.getfield 10, 3) := by decide +kernel
theorem dX10_part_120 : decode cX10_part 120 = .ok (.invokevirtual 98, 3) := by decide +kernel
theorem dX10_part_123 : decode cX10_part 123 = .ok (.aload_n 0, 1) := by decide +kernel
theorem dX10_part_124 : decode cX10_part 124 = .ok (.getfield 20, 3) := by decide +kernel
theorem dX10_part_127 : decode cX10_part 127 = .ok (.getfield 85, 3) := by decide +kernel
theorem dX10_part_130 : decode cX10_part 130 = .ok (.iload_n 1, 1) := by decide +kernel
theorem dX10_part_131 : decode cX10_part 131 = .ok (.aaload, 1) := by decide +kernel
theorem dX10_part_132 : decode cX10_part 132 = .ok (.getfield 89, 3) := by decide +kernel
theorem dX10_part_135 : decode cX10_part 135 = .ok (.ireturn, 1) := by decide +kernel
theorem dX10_clear_0 : decode cX10_clear 0 = .ok (.iload_n 1, 1) := by decide +kernel
theorem dX10_clear_1 : decode cX10_clear 1 = .ok (.invokestatic 77, 3) := by decide +kernel
theorem dX10_clear_4 : decode cX10_clear 4 = .ok (.ifCond .ne 5, 3) := by decide +kernel
theorem dX10_clear_7 : decode cX10_clear 7 = .ok (.iconst (-1), 1) := by decide +kernel
theorem dX10_clear_8 : decode cX10_clear 8 = .ok (.ireturn, 1) := by decide +kernel
theorem dX10_clear_9 : decode cX10_clear 9 = .ok (.aload_n 0, 1) := by decide +kernel
theorem dX10_clear_10 : decode cX10_clear 10 = .ok (.getfield 20, 3) := by decide +kernel
theorem dX10_clear_13 : decode cX10_clear 13 = .ok (.getfield 85, 3) := by decide +kernel
theorem dX10_clear_16 : decode cX10_clear 16 = .ok (.iload_n 1, 1) := by decide +kernel
theorem dX10_clear_17 : decode cX10_clear 17 = .ok (.aaload, 1) := by decide +kernel
theorem dX10_clear_18 : decode cX10_clear 18 = .ok (.getfield 89, 3) := by decide +kernel
theorem dX10_clear_21 : decode cX10_clear 21 = .ok (.istore_n 2, 1) := by decide +kernel
theorem dX10_clear_22 : decode cX10_clear 22 = .ok (.aload_n 0, 1) := by decide +kernel
theorem dX10_clear_23 : decode cX10_clear 23 = .ok (.getfield 20, 3) := by decide +kernel
theorem dX10_clear_26 : decode cX10_clear 26 = .ok (.getfield 85, 3) := by decide +kernel
theorem dX10_clear_29 : decode cX10_clear 29 = .ok (.iload_n 1, 1) := by decide +kernel
theorem dX10_clear_30 : decode cX10_clear 30 = .ok (.aaload, 1) := by decide +kernel
theorem dX10_clear_31 : decode cX10_clear 31 = .ok (.iconst 0, 1) := by decide +kernel
theorem dX10_clear_32 : decode cX10_clear 32 = .ok (.putfield 89, 3) := by decide +kernel
theorem dX10_clear_35 : decode cX10_clear 35 = .ok (.aload_n 0, 1) := by decide +kernel
theorem dX10_clear_36 : decode cX10_clear 36 = .ok (.getfield 10, 3) := by decide +kernel
theorem dX10_clear_39 : decode cX10_clear 39 = .ok (.invokevirtual 98, 3) := by decide +kernel
theorem dX10_clear_42 : decode cX10_clear 42 = .ok (.iload_n 2, 1) := by decide +kernel
theorem dX10_clear_43 : decode cX10_clear 43 = .ok (.ireturn, 1) := by decide +kernel
theorem dX10_raw_0 : decode cX10_raw 0 = .ok (.iload_n 1, 1) := by decide +kernel
theorem dX10_raw_1 : decode cX10_raw 1 = .ok (.invokestatic 77, 3) := by decide +kernel
theorem dX10_raw_4 : decode cX10_raw 4 = .ok (.ifCond .eq 14, 3) := by decide +kernel
theorem dX10_raw_7 : decode cX10_raw 7 = .ok (.iload_n 2, 1) := by decide +kernel
theorem dX10_raw_8 : decode cX10_raw 8 = .ok (.iconst 0, 1) := by decide +kernel
theorem dX10_raw_9 : decode cX10_raw 9 = .ok (.sipush 9999, 3) := by decide +kernel
theorem dX10_raw_12 : decode cX10_raw 12 = .ok (.invokestatic 81, 3) := by decide +kernel
theorem dX10_raw_15 : decode cX10_raw 15 = .ok (.ifCond .ne 6, 3) := by decide +kernel
theorem dX10_raw_18 : decode cX10_raw 18 = .ok (.ldc 101, 2) := by decide +kernel
theorem dX10_raw_20 : decode cX10_raw 20 = .ok (.ireturn, 1) := by decide +kernel
theorem dX10_raw_21 : decode cX10_raw 21 = .ok (.aload_n 0, 1) := by decide +kernel
theorem dX10_raw_22 : decode cX10_raw 22 = .ok (.getfield 20, 3) := by decide +kernel
theorem dX10_raw_25 : decode cX10_raw 25 = .ok (.getfield 85, 3) := by decide +kernel
theorem dX10_raw_28 : decode cX10_raw 28 = .ok (.iload_n 1, 1) := by decide +kernel
theorem dX10_raw_29 : decode cX10_raw 29 = .ok (.aaload, 1) := by decide +kernel
theorem dX10_raw_30 : decode cX10_raw 30 = .ok (.iload_n 2, 1) := by decide +kernel
theorem dX10_raw_31 : decode cX10_raw 31 = .ok (.invokevirtual 102, 3) := by decide +kernel
theorem dX10_raw_34 : decode cX10_raw 34 = .ok (.ireturn, 1) := by decide +kernel
theorem dX10_probe_0 : decode cX10_probe 0 = .ok (.iload_n 1, 1) := by decide +kernel
theorem dX10_probe_1 : decode cX10_probe 1 = .ok (.invokestatic 106, 3) := by decide +kernel
theorem dX10_probe_4 : decode cX10_probe 4 = .ok (.ifCond .eq 34, 3) := by decide +kernel
theorem dX10_probe_7 : decode cX10_probe 7 = .ok (.iload_n 2, 1) := by decide +kernel
theorem dX10_probe_8 : decode cX10_probe 8 = .ok (.iconst 1, 1) := by decide +kernel
theorem dX10_probe_9 : decode cX10_probe 9 = .ok (.bipush 20, 2) := by decide +kernel
theorem dX10_probe_11 : decode cX10_probe 11 = .ok (.invokestatic 81, 3) := by decide +kernel
theorem dX10_probe_14 : decode cX10_probe 14 = .ok (.ifCond .eq 24, 3) := by decide +kernel
theorem dX10_probe_17 : decode cX10_probe 17 = .ok (.iload_n 3, 1) := by decide +kernel
theorem dX10_probe_18 : decode cX10_probe 18 = .ok (.iconst 1, 1) := by decide +kernel
theorem dX10_probe_19 : decode cX10_probe 19 = .ok (.bipush 20, 2) := by decide +kernel
theorem dX10_probe_21 : decode cX10_probe 21 = .ok (.invokestatic 81, 3) := by decide +kernel
theorem dX10_probe_24 : decode cX10_probe 24 = .ok (.ifCond .eq 14, 3) := by decide +kernel
theorem dX10_probe_27 : decode cX10_probe 27 = .ok (.iload 4, 2) := by decide +kernel
theorem dX10_probe_29 : decode cX10_probe 29 = .ok (.iconst 1, 1) := by decide +kernel
theorem dX10_probe_30 : decode cX10_probe 30 = .ok (.bipush 16, 2) := by decide +kernel
theorem dX10_probe_32 : decode cX10_probe 32 = .ok (.invokestatic 81, 3) := by decide +kernel
theorem dX10_probe_35 : decode cX10_probe 35 = .ok (.ifCond .ne 5, 3) := by decide +kernel
theorem dX10_probe_38 : decode cX10_probe 38 = .ok (.iconst 0, 1) := by decide +kernel
theorem dX10_probe_39 : decode cX10_probe 39 = .ok (.ireturn, 1) := by decide +kernel
theorem dX10_probe_40 : decode cX10_probe 40 = .ok (.aload_n 0, 1) := by decide +kernel
theorem dX10_probe_41 : decode cX10_probe 41 = .ok (.getfield 20, 3) := by decide +kernel
theorem dX10_probe_44 : decode cX10_probe 44 = .ok (.getfield 109, 3) := by decide +kernel
theorem dX10_probe_47 : decode cX10_probe 47 = .ok (.iload_n 1, 1) := by decide +kernel
theorem dX10_probe_48 : decode cX10_probe 48 = .ok (.aaload, 1) := by decide +kernel
theorem dX10_probe_49 : decode cX10_probe 49 = .ok (.iload_n 2, 1) := by decide +kernel
theorem dX10_probe_50 : decode cX10_probe 50 = .ok (.iload_n 3, 1) := by decide +kernel
theorem dX10_probe_51 : decode cX10_probe 51 = .ok (.iload 4, 2) := by decide +kernel
theorem dX10_probe_53 : decode cX10_probe 53 = .ok (.invokevirtual 113, 3) := by decide +kernel
theorem dX10_probe_56 : decode cX10_probe 56 = .ok (.aload_n 0, 1) := by decide +kernel
theorem dX10_probe_57 : decode cX10_probe 57 = .ok (.getfield 10, 3) := by decide +kernel
theorem dX10_probe_60 : decode cX10_probe 60 = .ok (.invokevirtual 98, 3) := by decide +kernel
theorem dX10_probe_63 : decode cX10_probe 63 = .ok (.iconst 1, 1) := by decide +kernel
theorem dX10_probe_64 : decode cX10_probe 64 = .ok (.ireturn, 1) := by decide +kernel
theorem dX10_channel_0 : decode cX10_channel 0 = .ok (.iload_n 1, 1) := by decide +kernel
theorem dX10_channel_1 : decode cX10_channel 1 = .ok (.invokestatic 106, 3) := by decide +kernel
theorem dX10_channel_4 : decode cX10_channel 4 = .ok (.ifCond .eq 33, 3) := by decide +kernel
theorem dX10_channel_7 : decode cX10_channel 7 = .ok (.iload_n 2, 1) := by decide +kernel
theorem dX10_channel_8 : decode cX10_channel 8 = .ok (.invokestatic 77, 3) := by decide +kernel
theorem dX10_channel_11 : decode cX10_channel 11 = .ok (.ifCond .eq 26, 3) := by decide +kernel
theorem dX10_channel_14 : decode cX10_channel 14 = .ok (.iload_n 3, 1) := by decide +kernel
theorem dX10_channel_15 : decode cX10_channel 15 = .ok (.iconst 1, 1) := by decide +kernel
theorem dX10_channel_16 : decode cX10_channel 16 = .ok (.sipush 999, 3) := by decide +kernel
theorem dX10_channel_19 : decode cX10_channel 19 = .ok (.invokestatic 81, 3) := by decide +kernel
theorem dX10_channel_22 : decode cX10_channel 22 = .ok (.ifCond .eq 15, 3) := by decide +kernel
theorem dX10_channel_25 : decode cX10_channel 25 = .ok (.iload 4, 2) := by decide +kernel
theorem dX10_channel_27 : decode cX10_channel 27 = .ok (.bipush (-15), 2) := by decide +kernel
theorem dX10_channel_29 : decode cX10_channel 29 = .ok (.bipush 15, 2) := by decide +kernel
theorem dX10_channel_31 : decode cX10_channel 31 = .ok (.invokestatic 81, 3) := by decide +kernel
theorem dX10_channel_34 : decode cX10_channel 34 = .ok (.ifCond .ne 5, 3) := by decide +kernel
theorem dX10_channel_37 : decode cX10_channel 37 = .ok (.iconst 0, 1) := by decide +kernel
theorem dX10_channel_38 : decode cX10_channel 38 = .ok (.ireturn, 1) := by decide +kernel
theorem dX10_channel_39 : decode cX10_channel 39 = .ok (.aload_n 0, 1) := by decide +kernel
theorem dX10_channel_40 : decode cX10_channel 40 = .ok (.getfield 20, 3) := by decide +kernel
theorem dX10_channel_43 : decode cX10_channel 43 = .ok (.getfield 109, 3) := by decide +kernel
theorem dX10_channel_46 : decode cX10_channel 46 = .ok (.iload_n 1, 1) := by decide +kernel
theorem dX10_channel_47 : decode cX10_channel 47 = .ok (.aaload, 1) := by decide +kernel
theorem dX10_channel_48 : decode cX10_channel 48 = .ok (.iload_n 2, 1) := by decide +kernel
theorem dX10_channel_49 : decode cX10_channel 49 = .ok (.iload_n 3, 1) := by decide +kernel
theorem dX10_channel_50 : decode cX10_channel 50 = .ok (.iload 4, 2) := by decide +kernel
theorem dX10_channel_52 : decode cX10_channel 52 = .ok (.invokevirtual 119, 3) := by decide +kernel
theorem dX10_channel_55 : decode cX10_channel 55 = .ok (.aload_n 0, 1) := by decide +kernel
theorem dX10_channel_56 : decode cX10_channel 56 = .ok (.getfield 10, 3) := by decide +kernel
theorem dX10_channel_59 : decode cX10_channel 59 = .ok (.invokevirtual 98, 3) := by decide +kernel
theorem dX10_channel_62 : decode cX10_channel 62 = .ok (.iconst 1, 1) := by decide +kernel
theorem dX10_channel_63 : decode cX10_channel 63 = .ok (.ireturn, 1) := by decide +kernel
theorem dX10_out_0 : decode cX10_out 0 = .ok (.iload_n 1, 1) := by decide +kernel
theorem dX10_out_1 : decode cX10_out 1 = .ok (.invokestatic 106, 3) := by decide +kernel
theorem dX10_out_4 : decode cX10_out 4 = .ok (.ifCond .eq 14, 3) := by decide +kernel
theorem dX10_out_7 : decode cX10_out 7 = .ok (.iload_n 2, 1) := by decide +kernel
theorem dX10_out_8 : decode cX10_out 8 = .ok (.iconst 0, 1) := by decide +kernel
theorem dX10_out_9 : decode cX10_out 9 = .ok (.sipush 1999, 3) := by decide +kernel
theorem dX10_out_12 : decode cX10_out 12 = .ok (.invokestatic 81, 3) := by decide +kernel
theorem dX10_out_15 : decode cX10_out 15 = .ok (.ifCond .ne 6, 3) := by decide +kernel
theorem dX10_out_18 : decode cX10_out 18 = .ok (.ldc 101, 2) := by decide +kernel
theorem dX10_out_20 : decode cX10_out 20 = .ok (.ireturn, 1) := by decide +kernel
theorem dX10_out_21 : decode cX10_out 21 = .ok (.aload_n 0, 1) := by decide +kernel
theorem dX10_out_22 : decode cX10_out 22 = .ok (.getfield 10, 3) := by decide +kernel
theorem dX10_out_25 : decode cX10_out 25 = .ok (.iload_n 1, 1) := by decide +kernel
theorem dX10_out_26 : decode cX10_out 26 = .ok (.iload_n 2, 1) := by decide +kernel
theorem dX10_out_27 : decode cX10_out 27 = .ok (.invokevirtual 122, 3) := by decide +kernel
theorem dX10_out_30 : decode cX10_out 30 = .ok (.ireturn, 1) := by decide +kernel
theorem dX10_base_0 : decode cX10_base 0 = .ok (.iload_n 1, 1) := by decide +kernel
theorem dX10_base_1 : decode cX10_base 1 = .ok (.iconst 1, 1) := by decide +kernel
theorem dX10_base_2 : decode cX10_base 2 = .ok (.bipush 50, 2) := by decide +kernel
theorem dX10_base_4 : decode cX10_base 4 = .ok (.invokestatic 81, 3) := by decide +kernel
theorem dX10_base_7 : decode cX10_base 7 = .ok (.ifCond .eq 24, 3) := by decide +kernel
theorem dX10_base_10 : decode cX10_base 10 = .ok (.iload_n 2, 1) := by decide +kernel
theorem dX10_base_11 : decode cX10_base 11 = .ok (.iconst 0, 1) := by decide +kernel
theorem dX10_base_12 : decode cX10_base 12 = .ok (.sipush 999, 3) := by decide +kernel
theorem dX10_base_15 : decode cX10_base 15 = .ok (.invokestatic 81, 3) := by decide +kernel
theorem dX10_base_18 : decode cX10_base 18 = .ok (.ifCond .eq 13, 3) := by decide +kernel
theorem dX10_base_21 : decode cX10_base 21 = .ok (.iload_n 3, 1) := by decide +kernel
theorem dX10_base_22 : decode cX10_base 22 = .ok (.iconst 0, 1) := by decide +kernel
theorem dX10_base_23 : decode cX10_base 23 = .ok (.bipush 16, 2) := by decide +kernel
theorem dX10_base_25 : decode cX10_base 25 = .ok (.invokestatic 81, 3) := by decide +kernel
theorem dX10_base_28 : decode cX10_base 28 = .ok (.ifCond .ne 5, 3) := by decide +kernel
theorem dX10_base_31 : decode cX10_base 31 = .ok (.iconst 0, 1) := by decide +kernel
theorem dX10_base_32 : decode cX10_base 32 = .ok (.ireturn, 1) := by decide +kernel
theorem dX10_base_33 : decode cX10_base 33 = .ok (.aload_n 0, 1) := by decide +kernel
theorem dX10_base_34 : decode cX10_base 34 = .ok (.getfield 20, 3) := by decide +kernel
theorem dX10_base_37 : decode cX10_base 37 = .ok (.iload_n 1, 1) := by decide +kernel
theorem dX10_base_38 : decode cX10_base 38 = .ok (.putfield 126, 3) := by decide +kernel
theorem dX10_base_41 : decode cX10_base 41 = .ok (.aload_n 0, 1) := by decide +kernel
theorem dX10_base_42 : decode cX10_base 42 = .ok (.getfield 20, 3) := by decide +kernel
theorem dX10_base_45 : decode cX10_base 45 = .ok (.iload_n 2, 1) := by decide +kernel
theorem dX10_base_46 : decode cX10_base 46 = .ok (.putfield 129, 3) := by decide +kernel
theorem dX10_base_49 : decode cX10_base 49 = .ok (.aload_n 0, 1) := by decide +kernel
theorem dX10_base_50 : decode cX10_base 50 = .ok (.getfield 20, 3) := by decide +kernel
theorem dX10_base_53 : decode cX10_base 53 = .ok (.iload_n 3, 1) := by decide +kernel
theorem dX10_base_54 : decode cX10_base 54 = .ok (.putfield 132, 3) := by decide +kernel
theorem dX10_base_57 : decode cX10_base 57 = .ok (.iconst 1, 1) := by decide +kernel
theorem dX10_base_58 : decode cX10_base 58 = .ok (.ireturn, 1) := by decide +kernel
theorem dX10_mode_0 : decode cX10_mode 0 = .ok (.iload_n 1, 1) := by decide +kernel
theorem dX10_mode_1 : decode cX10_mode 1 = .ok (.iconst 0, 1) := by decide +kernel
theorem dX10_mode_2 : decode cX10_mode 2 = .ok (.iconst 3, 1) := by decide +kernel
theorem dX10_mode_3 : decode cX10_mode 3 = .ok (.invokestatic 81, 3) := by decide +kernel
theorem dX10_mode_6 : decode cX10_mode 6 = .ok (.ifCond .eq 13, 3) := by decide +kernel
theorem dX10_mode_9 : decode cX10_mode 9 = .ok (.iload_n 2, 1) := by decide +kernel
theorem dX10_mode_10 : decode cX10_mode 10 = .ok (.iconst 1, 1) := by decide +kernel
theorem dX10_mode_11 : decode cX10_mode 11 = .ok (.bipush 50, 2) := by decide +kernel
theorem dX10_mode_13 : decode cX10_mode 13 = .ok (.invokestatic 81, 3) := by decide +kernel
theorem dX10_mode_16 : decode cX10_mode 16 = .ok (.ifCond .ne 5, 3) := by decide +kernel
theorem dX10_mode_19 : decode cX10_mode 19 = .ok (.iconst 0, 1) := by decide +kernel
theorem dX10_mode_20 : decode cX10_mode 20 = .ok (.ireturn, 1) := by decide +kernel
theorem dX10_mode_21 : decode cX10_mode 21 = .ok (.aload_n 0, 1) := by decide +kernel
theorem dX10_mode_22 : decode cX10_mode 22 = .ok (.getfield 20, 3) := by decide +kernel
theorem dX10_mode_25 : decode cX10_mode 25 = .ok (.iload_n 1, 1) := by decide +kernel
theorem dX10_mode_26 : decode cX10_mode 26 = .ok (.putfield 135, 3) := by decide +kernel
theorem dX10_mode_29 : decode cX10_mode 29 = .ok (.aload_n 0, 1) := by decide +kernel
theorem dX10_mode_30 : decode cX10_mode 30 = .ok (.getfield 20, 3) := by decide +kernel
theorem dX10_mode_33 : decode cX10_mode 33 = .ok (.iload_n 2, 1) := by decide +kernel
theorem dX10_mode_34 : decode cX10_mode 34 = .ok (.putfield 138, 3) := by decide +kernel
theorem dX10_mode_37 : decode cX10_mode 37 = .ok (.iconst 1, 1) := by decide +kernel
theorem dX10_mode_38 : decode cX10_mode 38 = .ok (.ireturn, 1) := by decide +kernel
theorem dX10_feed_0 : decode cX10_feed 0 = .ok (.aload_n 0, 1) := by decide +kernel
theorem dX10_feed_1 : decode cX10_feed 1 = .ok (.getfield 67, 3) := by decide +kernel
theorem dX10_feed_4 : decode cX10_feed 4 = .ok (.sipush 280, 3) := by decide +kernel
theorem dX10_feed_7 : decode cX10_feed 7 = .ok (.if_icmp .le 5, 3) := by decide +kernel
theorem dX10_feed_10 : decode cX10_feed 10 = .ok (.iconst (-1), 1) := by decide +kernel
theorem dX10_feed_11 : decode cX10_feed 11 = .ok (.ireturn, 1) := by decide +kernel
theorem dX10_feed_12 : decode cX10_feed 12 = .ok (.aload_n 0, 1) := by decide +kernel
theorem dX10_feed_13 : decode cX10_feed 13 = .ok (.iload_n 1, 1) := by decide +kernel
theorem dX10_feed_14 : decode cX10_feed 14 = .ok (.invokevirtual 141, 3) := by decide +kernel
theorem dX10_feed_17 : decode cX10_feed 17 = .ok (.aload_n 0, 1) := by decide +kernel
theorem dX10_feed_18 : decode cX10_feed 18 = .ok (.iload_n 2, 1) := by decide +kernel
theorem dX10_feed_19 : decode cX10_feed 19 = .ok (.invokevirtual 141, 3) := by decide +kernel
theorem dX10_feed_22 : decode cX10_feed 22 = .ok (.aload_n 0, 1) := by decide +kernel
theorem dX10_feed_23 : decode cX10_feed 23 = .ok (.iload_n 3, 1) := by decide +kernel
theorem dX10_feed_24 : decode cX10_feed 24 = .ok (.invokevirtual 141, 3) := by decide +kernel
theorem dX10_feed_27 : decode cX10_feed 27 = .ok (.aload_n 0, 1) := by decide +kernel
theorem dX10_feed_28 : decode cX10_feed 28 = .ok (.iload 4, 2) := by decide +kernel
theorem dX10_feed_30 : decode cX10_feed 30 = .ok (.invokevirtual 141, 3) := by decide +kernel
theorem dX10_feed_33 : decode cX10_feed 33 = .ok (.aload_n 0, 1) := by decide +kernel
theorem dX10_feed_34 : decode cX10_feed 34 = .ok (.iload 5, 2) := by decide +kernel
theorem dX10_feed_36 : decode cX10_feed 36 = .ok (.invokevirtual 141, 3) := by decide +kernel
theorem dX10_feed_39 : decode cX10_feed 39 = .ok (.aload_n 0, 1) := by decide +kernel
theorem dX10_feed_40 : decode cX10_feed 40 = .ok (.getfield 67, 3) := by decide +kernel
theorem dX10_feed_43 : decode cX10_feed 43 = .ok (.ireturn, 1) := by decide +kernel
theorem dX10_feedNumber_0 : decode cX10_feedNumber 0 = .ok (.bipush 24, 2) := by decide +kernel
theorem dX10_feedNumber_2 : decode cX10_feedNumber 2 = .ok (.istore_n 2, 1) := by decide +kernel
theorem dX10_feedNumber_3 : decode cX10_feedNumber 3 = .ok (.iload_n 2, 1) := by decide +kernel
theorem dX10_feedNumber_4 : decode cX10_feedNumber 4 = .ok (.ifCond .lt 53, 3) := by decide +kernel
theorem dX10_feedNumber_7 : decode cX10_feedNumber 7 = .ok (.aload_n 0, 1) := by decide +kernel
theorem dX10_feedNumber_8 : decode cX10_feedNumber 8 = .ok (.getfield 67, 3) := by decide +kernel
theorem dX10_feedNumber_11 : decode cX10_feedNumber 11 = .ok (.iconst 0, 1) := by decide +kernel
theorem dX10_feedNumber_12 : decode cX10_feedNumber 12 = .ok (.aload_n 0, 1) := by decide +kernel
theorem dX10_feedNumber_13 : decode cX10_feedNumber 13 = .ok (.getfield 44, 3) := by decide +kernel
theorem dX10_feedNumber_16 : decode cX10_feedNumber 16 = .ok (.arraylength, 1) := by decide +kernel
theorem dX10_feedNumber_17 : decode cX10_feedNumber 17 = .ok (.iconst 1, 1) := by decide +kernel
theorem dX10_feedNumber_18 : decode cX10_feedNumber 18 = .ok (.isub, 1) := by decide +kernel
theorem dX10_feedNumber_19 : decode cX10_feedNumber 19 = .ok (.invokestatic 81, 3) := by decide +kernel
theorem dX10_feedNumber_22 : decode cX10_feedNumber 22 = .ok (.ifCond .eq 29, 3) := by decide +kernel
theorem dX10_feedNumber_25 : decode cX10_feedNumber 25 = .ok (.aload_n 0, 1) := by decide +kernel
theorem dX10_feedNumber_26 : decode cX10_feedNumber 26 = .ok (.getfield 44, 3) := by decide +kernel
theorem dX10_feedNumber_29 : decode cX10_feedNumber 29 = .ok (.aload_n 0, 1) := by decide +kernel
theorem dX10_feedNumber_30 : decode cX10_feedNumber 30 = .ok (.getfield 67, 3) := by decide +kernel
theorem dX10_feedNumber_33 : decode cX10_feedNumber 33 = .ok (.iload_n 1, 1) := by decide +kernel
theorem dX10_feedNumber_34 : decode cX10_feedNumber 34 = .ok (.iload_n 2, 1) := by decide +kernel
theorem dX10_feedNumber_35 : decode cX10_feedNumber 35 = .ok (.iushr, 1) := by decide +kernel
theorem dX10_feedNumber_36 : decode cX10_feedNumber 36 = .ok (.sipush 255, 3) := by decide +kernel
theorem dX10_feedNumber_39 : decode cX10_feedNumber 39 = .ok (.iand, 1) := by decide +kernel
theorem dX10_feedNumber_40 : decode cX10_feedNumber 40 = .ok (.iastore, 1) := by decide +kernel
theorem dX10_feedNumber_41 : decode cX10_feedNumber 41 = .ok (.aload_n 0, 1) := by decide +kernel
theorem dX10_feedNumber_42 : decode cX10_feedNumber 42 = .ok (.dup, 1) := by decide +kernel
theorem dX10_feedNumber_43 : decode cX10_feedNumber 43 = .ok (.getfield 67, 3) := by decide +kernel
theorem dX10_feedNumber_46 : decode cX10_feedNumber 46 = .ok (.iconst 1, 1) := by decide +kernel
theorem dX10_feedNumber_47 : decode cX10_feedNumber 47 = .ok (.iadd, 1) := by decide +kernel
theorem dX10_feedNumber_48 : decode cX10_feedNumber 48 = .ok (.putfield 67, 3) := by decide +kernel
theorem dX10_feedNumber_51 : decode cX10_feedNumber 51 = .ok (.iinc 2 (-8), 3) := by decide +kernel
theorem dX10_feedNumber_54 : decode cX10_feedNumber 54 = .ok (.goto (-51), 3) := by decide +kernel
theorem dX10_feedNumber_57 : decode cX10_feedNumber 57 = .ok (.return_, 1) := by decide +kernel
theorem dX10_end_0 : decode cX10_end 0 = .ok (.iload_n 1, 1) := by decide +kernel
theorem dX10_end_1 : decode cX10_end 1 = .ok (.iconst 0, 1) := by decide +kernel
theorem dX10_end_2 : decode cX10_end 2 = .ok (.aload_n 0, 1) := by decide +kernel
theorem dX10_end_3 : decode cX10_end 3 = .ok (.getfield 67, 3) := by decide +kernel
theorem dX10_end_6 : decode cX10_end 6 = .ok (.invokestatic 81, 3) := by decide +kernel
theorem dX10_end_9 : decode cX10_end 9 = .ok (.ifCond .ne 5, 3) := by decide +kernel
theorem dX10_end_12 : decode cX10_end 12 = .ok (.iconst (-1), 1) := by decide +kernel
theorem dX10_end_13 : decode cX10_end 13 = .ok (.ireturn, 1) := by decide +kernel
theorem dX10_end_14 : decode cX10_end 14 = .ok (.aload_n 0, 1) := by decide +kernel
theorem dX10_end_15 : decode cX10_end 15 = .ok (.iload_n 1, 1) := by decide +kernel
theorem dX10_end_16 : decode cX10_end 16 = .ok (.putfield 67, 3) := by decide +kernel
theorem dX10_end_19 : decode cX10_end 19 = .ok (.iload_n 1, 1) := by decide +kernel
theorem dX10_end_20 : decode cX10_end 20 = .ok (.ireturn, 1) := by decide +kernel
theorem dX10_text_0 : decode cX10_text 0 = .ok (.aload_n 0, 1) := by decide +kernel
theorem dX10_text_1 : decode cX10_text 1 = .ok (.getfield 20, 3) := by decide +kernel
theorem dX10_text_4 : decode cX10_text 4 = .ok (.getfield 145, 3) := by decide +kernel
theorem dX10_text_7 : decode cX10_text 7 = .ok (.iconst 0, 1) := by decide +kernel
theorem dX10_text_8 : decode cX10_text 8 = .ok (.iconst 3, 1) := by decide +kernel
theorem dX10_text_9 : decode cX10_text 9 = .ok (.invokestatic 81, 3) := by decide +kernel
theorem dX10_text_12 : decode cX10_text 12 = .ok (.ifCond .ne 5, 3) := by decide +kernel
theorem dX10_text_15 : decode cX10_text 15 = .ok (.iconst (-1), 1) := by decide +kernel
theorem dX10_text_16 : decode cX10_text 16 = .ok (.ireturn, 1) := by decide +kernel
theorem dX10_text_17 : decode cX10_text 17 = .ok (.aload_n 0, 1) := by decide +kernel
theorem dX10_text_18 : decode cX10_text 18 = .ok (.getfield 30, 3) := by decide +kernel
theorem dX10_text_21 : decode cX10_text 21 = .ok (.aload_n 0, 1) := by decide +kernel
theorem dX10_text_22 : decode cX10_text 22 = .ok (.getfield 10, 3) := by decide +kernel
theorem dX10_text_25 : decode cX10_text 25 = .ok (.getfield 148, 3) := by decide +kernel
theorem dX10_text_28 : decode cX10_text 28 = .ok (.aload_n 0, 1) := by decide +kernel
theorem dX10_text_29 : decode cX10_text 29 = .ok (.getfield 20, 3) := by decide +kernel
theorem dX10_text_32 : decode cX10_text 32 = .ok (.getfield 145, 3) := by decide +kernel
theorem dX10_text_35 : decode cX10_text 35 = .ok (.aaload, 1) := by decide +kernel
theorem dX10_text_36 : decode cX10_text 36 = .ok (.aload_n 0, 1) := by decide +kernel
theorem dX10_text_37 : decode cX10_text 37 = .ok (.getfield 67, 3) := by decide +kernel
theorem dX10_text_40 : decode cX10_text 40 = .ok (.invokevirtual 152, 3) := by decide +kernel
theorem dX10_text_43 : decode cX10_text 43 = .ok (.aload_n 0, 1) := by decide +kernel
theorem dX10_text_44 : decode cX10_text 44 = .ok (.iconst 0, 1) := by decide +kernel
theorem dX10_text_45 : decode cX10_text 45 = .ok (.putfield 67, 3) := by decide +kernel
theorem dX10_text_48 : decode cX10_text 48 = .ok (.aload_n 0, 1) := by decide +kernel
theorem dX10_text_49 : decode cX10_text 49 = .ok (.aload_n 0, 1) := by decide +kernel
theorem dX10_text_50 : decode cX10_text 50 = .ok (.getfield 30, 3) := by decide +kernel
theorem dX10_text_53 : decode cX10_text 53 = .ok (.getfield 156, 3) := by decide +kernel
theorem dX10_text_56 : decode cX10_text 56 = .ok (.putfield 71, 3) := by decide +kernel
theorem dX10_text_59 : decode cX10_text 59 = .ok (.aload_n 0, 1) := by decide +kernel
theorem dX10_text_60 : decode cX10_text 60 = .ok (.aload_n 0, 1) := by decide +kernel
theorem dX10_text_61 : decode cX10_text 61 = .ok (.getfield 30, 3) := by decide +kernel
theorem dX10_text_64 : decode cX10_text 64 = .ok (.getfield 159, 3) := by decide +kernel
theorem dX10_text_67 : decode cX10_text 67 = .ok (.putfield 74, 3) := by decide +kernel
theorem dX10_text_70 : decode cX10_text 70 = .ok (.aload_n 0, 1) := by decide +kernel
theorem dX10_text_71 : decode cX10_text 71 = .ok (.getfield 30, 3) := by decide +kernel
theorem dX10_text_74 : decode cX10_text 74 = .ok (.getfield 156, 3) := by decide +kernel
theorem dX10_text_77 : decode cX10_text 77 = .ok (.ifCond .eq 5, 3) := by decide +kernel
theorem dX10_text_80 : decode cX10_text 80 = .ok (.iconst (-1), 1) := by decide +kernel
theorem dX10_text_81 : decode cX10_text 81 = .ok (.ireturn, 1) := by decide +kernel
theorem dX10_text_82 : decode cX10_text 82 = .ok (.aload_n 0, 1) := by decide +kernel
theorem dX10_text_83 : decode cX10_text 83 = .ok (.getfield 20, 3) := by decide +kernel
theorem dX10_text_86 : decode cX10_text 86 = .ok (.dup, 1) := by decide +kernel
theorem dX10_text_87 : decode cX10_text 87 = .ok (.getfield 145, 3) := by decide +kernel
theorem dX10_text_90 : decode cX10_text 90 = .ok (.iconst 1, 1) := by decide +kernel
theorem dX10_text_91 : decode cX10_text 91 = .ok (.iadd, 1) := by decide +kernel
theorem dX10_text_92 : decode cX10_text 92 = .ok (.putfield 145, 3) := by decide +kernel
theorem dX10_text_95 : decode cX10_text 95 = .ok (.aload_n 0, 1) := by decide +kernel
theorem dX10_text_96 : decode cX10_text 96 = .ok (.getfield 20, 3) := by decide +kernel
theorem dX10_text_99 : decode cX10_text 99 = .ok (.getfield 145, 3) := by decide +kernel
theorem dX10_text_102 : decode cX10_text 102 = .ok (.iconst 1, 1) := by decide +kernel
theorem dX10_text_103 : decode cX10_text 103 = .ok (.isub, 1) := by decide +kernel
theorem dX10_text_104 : decode cX10_text 104 = .ok (.ireturn, 1) := by decide +kernel
theorem dX10_fault_0 : decode cX10_fault 0 = .ok (.iload_n 1, 1) := by decide +kernel
theorem dX10_fault_1 : decode cX10_fault 1 = .ok (.ifCond .ne 8, 3) := by decide +kernel
theorem dX10_fault_4 : decode cX10_fault 4 = .ok (.aload_n 0, 1) := by decide +kernel
theorem dX10_fault_5 : decode cX10_fault 5 = .ok (.getfield 71, 3) := by decide +kernel
theorem dX10_fault_8 : decode cX10_fault 8 = .ok (.ireturn, 1) := by decide +kernel
theorem dX10_fault_9 : decode cX10_fault 9 = .ok (.iload_n 1, 1) := by decide +kernel
theorem dX10_fault_10 : decode cX10_fault 10 = .ok (.iconst 1, 1) := by decide +kernel
theorem dX10_fault_11 : decode cX10_fault 11 = .ok (.if_icmp .ne 10, 3) := by decide +kernel
theorem dX10_fault_14 : decode cX10_fault 14 = .ok (.aload_n 0, 1) := by decide +kernel
theorem dX10_fault_15 : decode cX10_fault 15 = .ok (.getfield 74, 3) := by decide +kernel
theorem dX10_fault_18 : decode cX10_fault 18 = .ok (.goto 4, 3) := by decide +kernel
theorem dX10_fault_21 : decode cX10_fault 21 = .ok (.iconst (-1), 1) := by decide +kernel
theorem dX10_fault_22 : decode cX10_fault 22 = .ok (.ireturn, 1) := by decide +kernel
theorem dX10_by_0 : decode cX10_by 0 = .ok (.iload_n 1, 1) := by decide +kernel
theorem dX10_by_1 : decode cX10_by 1 = .ok (.iconst (-1), 1) := by decide +kernel
theorem dX10_by_2 : decode cX10_by 2 = .ok (.aload_n 0, 1) := by decide +kernel
theorem dX10_by_3 : decode cX10_by 3 = .ok (.getfield 20, 3) := by decide +kernel
theorem dX10_by_6 : decode cX10_by 6 = .ok (.getfield 145, 3) := by decide +kernel
theorem dX10_by_9 : decode cX10_by 9 = .ok (.iconst 1, 1) := by decide +kernel
theorem dX10_by_10 : decode cX10_by 10 = .ok (.isub, 1) := by decide +kernel
theorem dX10_by_11 : decode cX10_by 11 = .ok (.invokestatic 81, 3) := by decide +kernel
theorem dX10_by_14 : decode cX10_by 14 = .ok (.ifCond .ne 5, 3) := by decide +kernel
theorem dX10_by_17 : decode cX10_by 17 = .ok (.iconst 0, 1) := by decide +kernel
theorem dX10_by_18 : decode cX10_by 18 = .ok (.ireturn, 1) := by decide +kernel
theorem dX10_by_19 : decode cX10_by 19 = .ok (.aload_n 0, 1) := by decide +kernel
theorem dX10_by_20 : decode cX10_by 20 = .ok (.getfield 20, 3) := by decide +kernel
theorem dX10_by_23 : decode cX10_by 23 = .ok (.iload_n 1, 1) := by decide +kernel
theorem dX10_by_24 : decode cX10_by 24 = .ok (.putfield 162, 3) := by decide +kernel
theorem dX10_by_27 : decode cX10_by 27 = .ok (.iconst 1, 1) := by decide +kernel
theorem dX10_by_28 : decode cX10_by 28 = .ok (.ireturn, 1) := by decide +kernel
theorem dX10_swept_0 : decode cX10_swept 0 = .ok (.iload_n 1, 1) := by decide +kernel
theorem dX10_swept_1 : decode cX10_swept 1 = .ok (.invokestatic 165, 3) := by decide +kernel
theorem dX10_swept_4 : decode cX10_swept 4 = .ok (.ifCond .eq 8, 3) := by decide +kernel
theorem dX10_swept_7 : decode cX10_swept 7 = .ok (.iload_n 2, 1) := by decide +kernel
theorem dX10_swept_8 : decode cX10_swept 8 = .ok (.iconst (-1), 1) := by decide +kernel
theorem dX10_swept_9 : decode cX10_swept 9 = .ok (.if_icmp .ge 5, 3) := by decide +kernel
theorem dX10_swept_12 : decode cX10_swept 12 = .ok (.iconst (-1), 1) := by decide +kernel
theorem dX10_swept_13 : decode cX10_swept 13 = .ok (.ireturn, 1) := by decide +kernel
theorem dX10_swept_14 : decode cX10_swept 14 = .ok (.aload_n 0, 1) := by decide +kernel
theorem dX10_swept_15 : decode cX10_swept 15 = .ok (.getfield 10, 3) := by decide +kernel
theorem dX10_swept_18 : decode cX10_swept 18 = .ok (.invokevirtual 168, 3) := by decide +kernel
theorem dX10_swept_21 : decode cX10_swept 21 = .ok (.iconst 0, 1) := by decide +kernel
theorem dX10_swept_22 : decode cX10_swept 22 = .ok (.istore_n 3, 1) := by decide +kernel
theorem dX10_swept_23 : decode cX10_swept 23 = .ok (.iload_n 3, 1) := by decide +kernel
theorem dX10_swept_24 : decode cX10_swept 24 = .ok (.iload_n 1, 1) := by decide +kernel
theorem dX10_swept_25 : decode cX10_swept 25 = .ok (.if_icmp .ge 33, 3) := by decide +kernel
theorem dX10_swept_28 : decode cX10_swept 28 = .ok (.aload_n 0, 1) := by decide +kernel
theorem dX10_swept_29 : decode cX10_swept 29 = .ok (.getfield 10, 3) := by decide +kernel
theorem dX10_swept_32 : decode cX10_swept 32 = .ok (.iload_n 1, 1) := by decide +kernel
theorem dX10_swept_33 : decode cX10_swept 33 = .ok (.invokevirtual 171, 3) := by decide +kernel
theorem dX10_swept_36 : decode cX10_swept 36 = .ok (.ifCond .eq 22, 3) := by decide +kernel
theorem dX10_swept_39 : decode cX10_swept 39 = .ok (.iload_n 3, 1) := by decide +kernel
theorem dX10_swept_40 : decode cX10_swept 40 = .ok (.iload_n 2, 1) := by decide +kernel
theorem dX10_swept_41 : decode cX10_swept 41 = .ok (.if_icmp .ne 11, 3) := by decide +kernel
theorem dX10_swept_44 : decode cX10_swept 44 = .ok (.aload_n 0, 1) := by decide +kernel
theorem dX10_swept_45 : decode cX10_swept 45 = .ok (.getfield 10, 3) := by decide +kernel
theorem dX10_swept_48 : decode cX10_swept 48 = .ok (.getfield 174, 3) := by decide +kernel
theorem dX10_swept_51 : decode cX10_swept 51 = .ok (.ireturn, 1) := by decide +kernel
theorem dX10_swept_52 : decode cX10_swept 52 = .ok (.iinc 3 1, 3) := by decide +kernel
theorem dX10_swept_55 : decode cX10_swept 55 = .ok (.goto (-32), 3) := by decide +kernel
theorem dX10_swept_58 : decode cX10_swept 58 = .ok (.iload_n 2, 1) := by decide +kernel
theorem dX10_swept_59 : decode cX10_swept 59 = .ok (.iconst (-1), 1) := by decide +kernel
theorem dX10_swept_60 : decode cX10_swept 60 = .ok (.if_icmp .ne 13, 3) := by decide +kernel
theorem dX10_swept_63 : decode cX10_swept 63 = .ok (.aload_n 0, 1) := by decide +kernel
theorem dX10_swept_64 : decode cX10_swept 64 = .ok (.getfield 10, 3) := by decide +kernel
theorem dX10_swept_67 : decode cX10_swept 67 = .ok (.getfield 177, 3) := by decide +kernel
theorem dX10_swept_70 : decode cX10_swept 70 = .ok (.goto 4, 3) := by decide +kernel
theorem dX10_swept_73 : decode cX10_swept 73 = .ok (.iconst (-1), 1) := by decide +kernel
theorem dX10_swept_74 : decode cX10_swept 74 = .ok (.ireturn, 1) := by decide +kernel
theorem dX10_glow_0 : decode cX10_glow 0 = .ok (.iload_n 1, 1) := by decide +kernel
theorem dX10_glow_1 : decode cX10_glow 1 = .ok (.invokestatic 165, 3) := by decide +kernel
theorem dX10_glow_4 : decode cX10_glow 4 = .ok (.ifCond .eq 23, 3) := by decide +kernel
theorem dX10_glow_7 : decode cX10_glow 7 = .ok (.iload_n 2, 1) := by decide +kernel
theorem dX10_glow_8 : decode cX10_glow 8 = .ok (.iconst 0, 1) := by decide +kernel
theorem dX10_glow_9 : decode cX10_glow 9 = .ok (.bipush 19, 2) := by decide +kernel
theorem dX10_glow_11 : decode cX10_glow 11 = .ok (.invokestatic 81, 3) := by decide +kernel
theorem dX10_glow_14 : decode cX10_glow 14 = .ok (.ifCond .eq 13, 3) := by decide +kernel
theorem dX10_glow_17 : decode cX10_glow 17 = .ok (.iload_n 3, 1) := by decide +kernel
theorem dX10_glow_18 : decode cX10_glow 18 = .ok (.iconst 0, 1) := by decide +kernel
theorem dX10_glow_19 : decode cX10_glow 19 = .ok (.bipush 15, 2) := by decide +kernel
theorem dX10_glow_21 : decode cX10_glow 21 = .ok (.invokestatic 81, 3) := by decide +kernel
theorem dX10_glow_24 : decode cX10_glow 24 = .ok (.ifCond .ne 5, 3) := by decide +kernel
theorem dX10_glow_27 : decode cX10_glow 27 = .ok (.iconst (-1), 1) := by decide +kernel
theorem dX10_glow_28 : decode cX10_glow 28 = .ok (.ireturn, 1) := by decide +kernel
theorem dX10_glow_29 : decode cX10_glow 29 = .ok (.aload_n 0, 1) := by decide +kernel
theorem dX10_glow_30 : decode cX10_glow 30 = .ok (.getfield 10, 3) := by decide +kernel
theorem dX10_glow_33 : decode cX10_glow 33 = .ok (.aload_n 0, 1) := by decide +kernel
theorem dX10_glow_34 : decode cX10_glow 34 = .ok (.getfield 50, 3) := by decide +kernel
theorem dX10_glow_37 : decode cX10_glow 37 = .ok (.iload_n 1, 1) := by decide +kernel
theorem dX10_glow_38 : decode cX10_glow 38 = .ok (.invokevirtual 180, 3) := by decide +kernel
theorem dX10_glow_41 : decode cX10_glow 41 = .ok (.aload_n 0, 1) := by decide +kernel
theorem dX10_glow_42 : decode cX10_glow 42 = .ok (.getfield 50, 3) := by decide +kernel
theorem dX10_glow_45 : decode cX10_glow 45 = .ok (.iload_n 2, 1) := by decide +kernel
theorem dX10_glow_46 : decode cX10_glow 46 = .ok (.iload_n 3, 1) := by decide +kernel
theorem dX10_glow_47 : decode cX10_glow 47 = .ok (.invokevirtual 184, 3) := by decide +kernel
theorem dX10_glow_50 : decode cX10_glow 50 = .ok (.ireturn, 1) := by decide +kernel
theorem dX10_lit_0 : decode cX10_lit 0 = .ok (.iload_n 1, 1) := by decide +kernel
theorem dX10_lit_1 : decode cX10_lit 1 = .ok (.invokestatic 165, 3) := by decide +kernel
theorem dX10_lit_4 : decode cX10_lit 4 = .ok (.ifCond .eq 24, 3) := by decide +kernel
theorem dX10_lit_7 : decode cX10_lit 7 = .ok (.iload_n 2, 1) := by decide +kernel
theorem dX10_lit_8 : decode cX10_lit 8 = .ok (.iconst 1, 1) := by decide +kernel
theorem dX10_lit_9 : decode cX10_lit 9 = .ok (.sipush 999, 3) := by decide +kernel
theorem dX10_lit_12 : decode cX10_lit 12 = .ok (.invokestatic 81, 3) := by decide +kernel
theorem dX10_lit_15 : decode cX10_lit 15 = .ok (.ifCond .eq 13, 3) := by decide +kernel
theorem dX10_lit_18 : decode cX10_lit 18 = .ok (.iload_n 3, 1) := by decide +kernel
theorem dX10_lit_19 : decode cX10_lit 19 = .ok (.iconst (-1), 1) := by decide +kernel
theorem dX10_lit_20 : decode cX10_lit 20 = .ok (.bipush 19, 2) := by decide +kernel
theorem dX10_lit_22 : decode cX10_lit 22 = .ok (.invokestatic 81, 3) := by decide +kernel
theorem dX10_lit_25 : decode cX10_lit 25 = .ok (.ifCond .ne 5, 3) := by decide +kernel
theorem dX10_lit_28 : decode cX10_lit 28 = .ok (.iconst (-1), 1) := by decide +kernel
theorem dX10_lit_29 : decode cX10_lit 29 = .ok (.ireturn, 1) := by decide +kernel
theorem dX10_lit_30 : decode cX10_lit 30 = .ok (.aload_n 0, 1) := by decide +kernel
theorem dX10_lit_31 : decode cX10_lit 31 = .ok (.getfield 10, 3) := by decide +kernel
theorem dX10_lit_34 : decode cX10_lit 34 = .ok (.aload_n 0, 1) := by decide +kernel
theorem dX10_lit_35 : decode cX10_lit 35 = .ok (.getfield 50, 3) := by decide +kernel
theorem dX10_lit_38 : decode cX10_lit 38 = .ok (.iload_n 1, 1) := by decide +kernel
theorem dX10_lit_39 : decode cX10_lit 39 = .ok (.invokevirtual 180, 3) := by decide +kernel
theorem dX10_lit_42 : decode cX10_lit 42 = .ok (.iload_n 3, 1) := by decide +kernel
theorem dX10_lit_43 : decode cX10_lit 43 = .ok (.iconst (-1), 1) := by decide +kernel
theorem dX10_lit_44 : decode cX10_lit 44 = .ok (.if_icmp .ne 14, 3) := by decide +kernel
theorem dX10_lit_47 : decode cX10_lit 47 = .ok (.aload_n 0, 1) := by decide +kernel
theorem dX10_lit_48 : decode cX10_lit 48 = .ok (.getfield 50, 3) := by decide +kernel
theorem dX10_lit_51 : decode cX10_lit 51 = .ok (.iload_n 2, 1) := by decide +kernel
theorem dX10_lit_52 : decode cX10_lit 52 = .ok (.invokevirtual 187, 3) := by decide +kernel
theorem dX10_lit_55 : decode cX10_lit 55 = .ok (.goto 12, 3) := by decide +kernel
theorem dX10_lit_58 : decode cX10_lit 58 = .ok (.aload_n 0, 1) := by decide +kernel
theorem dX10_lit_59 : decode cX10_lit 59 = .ok (.getfield 50, 3) := by decide +kernel
theorem dX10_lit_62 : decode cX10_lit 62 = .ok (.iload_n 3, 1) := by decide +kernel
theorem dX10_lit_63 : decode cX10_lit 63 = .ok (.iload_n 2, 1) := by decide +kernel
theorem dX10_lit_64 : decode cX10_lit 64 = .ok (.invokevirtual 190, 3) := by decide +kernel
theorem dX10_lit_67 : decode cX10_lit 67 = .ok (.ireturn, 1) := by decide +kernel
theorem dX10_otherwise_0 : decode cX10_otherwise 0 = .ok (.iload_n 1, 1) := by decide +kernel
theorem dX10_otherwise_1 : decode cX10_otherwise 1 = .ok (.invokestatic 106, 3) := by decide +kernel
theorem dX10_otherwise_4 : decode cX10_otherwise 4 = .ok (.ifCond .eq 19, 3) := by decide +kernel
theorem dX10_otherwise_7 : decode cX10_otherwise 7 = .ok (.iload_n 2, 1) := by decide +kernel
theorem dX10_otherwise_8 : decode cX10_otherwise 8 = .ok (.iconst 0, 1) := by decide +kernel
theorem dX10_otherwise_9 : decode cX10_otherwise 9 = .ok (.sipush 1000, 3) := by decide +kernel
theorem dX10_otherwise_12 : decode cX10_otherwise 12 = .ok (.invokestatic 81, 3) := by decide +kernel
theorem dX10_otherwise_15 : decode cX10_otherwise 15 = .ok (.ifCond .eq 8, 3) := by decide +kernel
theorem dX10_otherwise_18 : decode cX10_otherwise 18 = .ok (.iload_n 3, 1) := by decide +kernel
theorem dX10_otherwise_19 : decode cX10_otherwise 19 = .ok (.iconst (-1), 1) := by decide +kernel
theorem dX10_otherwise_20 : decode cX10_otherwise 20 = .ok (.if_icmp .ge 5, 3) := by decide +kernel
theorem dX10_otherwise_23 : decode cX10_otherwise 23 = .ok (.iconst (-1), 1) := by decide +kernel
theorem dX10_otherwise_24 : decode cX10_otherwise 24 = .ok (.ireturn, 1) := by decide +kernel
theorem dX10_otherwise_25 : decode cX10_otherwise 25 = .ok (.aload_n 0, 1) := by decide +kernel
theorem dX10_otherwise_26 : decode cX10_otherwise 26 = .ok (.iload_n 1, 1) := by decide +kernel
theorem dX10_otherwise_27 : decode cX10_otherwise 27 = .ok (.iload_n 2, 1) := by decide +kernel
theorem dX10_otherwise_28 : decode cX10_otherwise 28 = .ok (.invokevirtual 193, 3) := by decide +kernel
theorem dX10_otherwise_31 : decode cX10_otherwise 31 = .ok (.istore 4, 2) := by decide +kernel
theorem dX10_otherwise_33 : decode cX10_otherwise 33 = .ok (.iload 4, 2) := by decide +kernel
theorem dX10_otherwise_35 : decode cX10_otherwise 35 = .ok (.ifCond .gt 14, 3) := by decide +kernel
theorem dX10_otherwise_38 : decode cX10_otherwise 38 = .ok (.iload_n 3, 1) := by decide +kernel
theorem dX10_otherwise_39 : decode cX10_otherwise 39 = .ok (.iconst (-1), 1) := by decide +kernel
theorem dX10_otherwise_40 : decode cX10_otherwise 40 = .ok (.if_icmp .ne 7, 3) := by decide +kernel
theorem dX10_otherwise_43 : decode cX10_otherwise 43 = .ok (.iconst 0, 1) := by decide +kernel
theorem dX10_otherwise_44 : decode cX10_otherwise 44 = .ok (.goto 4, 3) := by decide +kernel
theorem dX10_otherwise_47 : decode cX10_otherwise 47 = .ok (.iconst (-1), 1) := by decide +kernel
theorem dX10_otherwise_48 : decode cX10_otherwise 48 = .ok (.ireturn, 1) := by decide +kernel
theorem dX10_otherwise_49 : decode cX10_otherwise 49 = .ok (.iconst 0, 1) := by decide +kernel
theorem dX10_otherwise_50 : decode cX10_otherwise 50 = .ok (.istore 5, 2) := by decide +kernel
theorem dX10_otherwise_52 : decode cX10_otherwise 52 = .ok (.iconst 2, 1) := by decide +kernel
theorem dX10_otherwise_53 : decode cX10_otherwise 53 = .ok (.istore 6, 2) := by decide +kernel
theorem dX10_otherwise_55 : decode cX10_otherwise 55 = .ok (.iload 6, 2) := by decide +kernel
theorem dX10_otherwise_57 : decode cX10_otherwise 57 = .ok (.bipush 24, 2) := by decide +kernel
theorem dX10_otherwise_59 : decode cX10_otherwise 59 = .ok (.if_icmp .gt 90, 3) := by decide +kernel
theorem dX10_otherwise_62 : decode cX10_otherwise 62 = .ok (.iconst 1, 1) := by decide +kernel
theorem dX10_otherwise_63 : decode cX10_otherwise 63 = .ok (.istore 7, 2) := by decide +kernel
theorem dX10_otherwise_65 : decode cX10_otherwise 65 = .ok (.iload 7, 2) := by decide +kernel
theorem dX10_otherwise_67 : decode cX10_otherwise 67 = .ok (.iload 6, 2) := by decide +kernel
theorem dX10_otherwise_69 : decode cX10_otherwise 69 = .ok (.if_icmp .ge 74, 3) := by decide +kernel
theorem dX10_otherwise_72 : decode cX10_otherwise 72 = .ok (.iconst 0, 1) := by decide +kernel
theorem dX10_otherwise_73 : decode cX10_otherwise 73 = .ok (.istore 8, 2) := by decide +kernel
theorem dX10_otherwise_75 : decode cX10_otherwise 75 = .ok (.iload 8, 2) := by decide +kernel
theorem dX10_otherwise_77 : decode cX10_otherwise 77 = .ok (.iload 6, 2) := by decide +kernel
theorem dX10_otherwise_79 : decode cX10_otherwise 79 = .ok (.if_icmp .ge 58, 3) := by decide +kernel
theorem dX10_otherwise_82 : decode cX10_otherwise 82 = .ok (.aload_n 0, 1) := by decide +kernel
theorem dX10_otherwise_83 : decode cX10_otherwise 83 = .ok (.getfield 57, 3) := by decide +kernel
theorem dX10_otherwise_86 : decode cX10_otherwise 86 = .ok (.iconst 1, 1) := by decide +kernel
theorem dX10_otherwise_87 : decode cX10_otherwise 87 = .ok (.iload 4, 2) := by decide +kernel
theorem dX10_otherwise_89 : decode cX10_otherwise 89 = .ok (.iload 6, 2) := by decide +kernel
theorem dX10_otherwise_91 : decode cX10_otherwise 91 = .ok (.iload 7, 2) := by decide +kernel
theorem dX10_otherwise_93 : decode cX10_otherwise 93 = .ok (.iload 8, 2) := by decide +kernel
theorem dX10_otherwise_95 : decode cX10_otherwise 95 = .ok (.invokevirtual 196, 3) := by decide +kernel
theorem dX10_otherwise_98 : decode cX10_otherwise 98 = .ok (.aload_n 0, 1) := by decide +kernel
theorem dX10_otherwise_99 : decode cX10_otherwise 99 = .ok (.iload_n 2, 1) := by decide +kernel
theorem dX10_otherwise_100 : decode cX10_otherwise 100 = .ok (.invokevirtual 199, 3) := by decide +kernel
theorem dX10_otherwise_103 : decode cX10_otherwise 103 = .ok (.ifCond .eq 28, 3) := by decide +kernel
theorem dX10_otherwise_106 : decode cX10_otherwise 106 = .ok (.iload 5, 2) := by decide +kernel
theorem dX10_otherwise_108 : decode cX10_otherwise 108 = .ok (.iload_n 3, 1) := by decide +kernel
theorem dX10_otherwise_109 : decode cX10_otherwise 109 = .ok (.if_icmp .ne 19, 3) := by decide +kernel
theorem dX10_otherwise_112 : decode cX10_otherwise 112 = .ok (.sipush 10000, 3) := by decide +kernel
theorem dX10_otherwise_115 : decode cX10_otherwise 115 = .ok (.iload 6, 2) := by decide +kernel
theorem dX10_otherwise_117 : decode cX10_otherwise 117 = .ok (.imul, 1) := by decide +kernel
theorem dX10_otherwise_118 : decode cX10_otherwise 118 = .ok (.bipush 100, 2) := by decide +kernel
theorem dX10_otherwise_120 : decode cX10_otherwise 120 = .ok (.iload 7, 2) := by decide +kernel
theorem dX10_otherwise_122 : decode cX10_otherwise 122 = .ok (.imul, 1) := by decide +kernel
theorem dX10_otherwise_123 : decode cX10_otherwise 123 = .ok (.iadd, 1) := by decide +kernel
theorem dX10_otherwise_124 : decode cX10_otherwise 124 = .ok (.iload 8, 2) := by decide +kernel
theorem dX10_otherwise_126 : decode cX10_otherwise 126 = .ok (.iadd, 1) := by decide +kernel
theorem dX10_otherwise_127 : decode cX10_otherwise 127 = .ok (.ireturn, 1) := by decide +kernel
theorem dX10_otherwise_128 : decode cX10_otherwise 128 = .ok (.iinc 5 1, 3) := by decide +kernel
theorem dX10_otherwise_131 : decode cX10_otherwise 131 = .ok (.iinc 8 1, 3) := by decide +kernel
theorem dX10_otherwise_134 : decode cX10_otherwise 134 = .ok (.goto (-59), 3) := by decide +kernel
theorem dX10_otherwise_137 : decode cX10_otherwise 137 = .ok (.iinc 7 1, 3) := by decide +kernel
theorem dX10_otherwise_140 : decode cX10_otherwise 140 = .ok (.goto (-75), 3) := by decide +kernel
theorem dX10_otherwise_143 : decode cX10_otherwise 143 = .ok (.iinc 6 1, 3) := by decide +kernel
theorem dX10_otherwise_146 : decode cX10_otherwise 146 = .ok (.goto (-91), 3) := by decide +kernel
theorem dX10_otherwise_149 : decode cX10_otherwise 149 = .ok (.iload_n 3, 1) := by decide +kernel
theorem dX10_otherwise_150 : decode cX10_otherwise 150 = .ok (.iconst (-1), 1) := by decide +kernel
theorem dX10_otherwise_151 : decode cX10_otherwise 151 = .ok (.if_icmp .ne 8, 3) := by decide +kernel
theorem dX10_otherwise_154 : decode cX10_otherwise 154 = .ok (.iload 5, 2) := by decide +kernel
theorem dX10_otherwise_156 : decode cX10_otherwise 156 = .ok (.goto 4, 3) := by decide +kernel
theorem dX10_otherwise_159 : decode cX10_otherwise 159 = .ok (.iconst (-1), 1) := by decide +kernel
theorem dX10_otherwise_160 : decode cX10_otherwise 160 = .ok (.ireturn, 1) := by decide +kernel
theorem dX10_takeSamples_0 : decode cX10_takeSamples 0 = .ok (.aload_n 0, 1) := by decide +kernel
theorem dX10_takeSamples_1 : decode cX10_takeSamples 1 = .ok (.getfield 10, 3) := by decide +kernel
theorem dX10_takeSamples_4 : decode cX10_takeSamples 4 = .ok (.iload_n 1, 1) := by decide +kernel
theorem dX10_takeSamples_5 : decode cX10_takeSamples 5 = .ok (.iload_n 2, 1) := by decide +kernel
theorem dX10_takeSamples_6 : decode cX10_takeSamples 6 = .ok (.invokevirtual 122, 3) := by decide +kernel
theorem dX10_takeSamples_9 : decode cX10_takeSamples 9 = .ok (.istore_n 3, 1) := by decide +kernel
theorem dX10_takeSamples_10 : decode cX10_takeSamples 10 = .ok (.iconst 0, 1) := by decide +kernel
theorem dX10_takeSamples_11 : decode cX10_takeSamples 11 = .ok (.istore 4, 2) := by decide +kernel
theorem dX10_takeSamples_13 : decode cX10_takeSamples 13 = .ok (.iload 4, 2) := by decide +kernel
theorem dX10_takeSamples_15 : decode cX10_takeSamples 15 = .ok (.aload_n 0, 1) := by decide +kernel
theorem dX10_takeSamples_16 : decode cX10_takeSamples 16 = .ok (.getfield 61, 3) := by decide +kernel
theorem dX10_takeSamples_19 : decode cX10_takeSamples 19 = .ok (.arraylength, 1) := by decide +kernel
theorem dX10_takeSamples_20 : decode cX10_takeSamples 20 = .ok (.if_icmp .ge 48, 3) := by decide +kernel
theorem dX10_takeSamples_23 : decode cX10_takeSamples 23 = .ok (.aload_n 0, 1) := by decide +kernel
theorem dX10_takeSamples_24 : decode cX10_takeSamples 24 = .ok (.getfield 61, 3) := by decide +kernel
theorem dX10_takeSamples_27 : decode cX10_takeSamples 27 = .ok (.iload 4, 2) := by decide +kernel
theorem dX10_takeSamples_29 : decode cX10_takeSamples 29 = .ok (.aload_n 0, 1) := by decide +kernel
theorem dX10_takeSamples_30 : decode cX10_takeSamples 30 = .ok (.getfield 10, 3) := by decide +kernel
theorem dX10_takeSamples_33 : decode cX10_takeSamples 33 = .ok (.iload_n 1, 1) := by decide +kernel
theorem dX10_takeSamples_34 : decode cX10_takeSamples 34 = .ok (.iload_n 2, 1) := by decide +kernel
theorem dX10_takeSamples_35 : decode cX10_takeSamples 35 = .ok (.iload 4, 2) := by decide +kernel
theorem dX10_takeSamples_37 : decode cX10_takeSamples 37 = .ok (.aload_n 0, 1) := by decide +kernel
theorem dX10_takeSamples_38 : decode cX10_takeSamples 38 = .ok (.getfield 20, 3) := by decide +kernel
theorem dX10_takeSamples_41 : decode cX10_takeSamples 41 = .ok (.getfield 126, 3) := by decide +kernel
theorem dX10_takeSamples_44 : decode cX10_takeSamples 44 = .ok (.imul, 1) := by decide +kernel
theorem dX10_takeSamples_45 : decode cX10_takeSamples 45 = .ok (.iadd, 1) := by decide +kernel
theorem dX10_takeSamples_46 : decode cX10_takeSamples 46 = .ok (.invokevirtual 122, 3) := by decide +kernel
theorem dX10_takeSamples_49 : decode cX10_takeSamples 49 = .ok (.iastore, 1) := by decide +kernel
theorem dX10_takeSamples_50 : decode cX10_takeSamples 50 = .ok (.iload_n 3, 1) := by decide +kernel
theorem dX10_takeSamples_51 : decode cX10_takeSamples 51 = .ok (.aload_n 0, 1) := by decide +kernel
theorem dX10_takeSamples_52 : decode cX10_takeSamples 52 = .ok (.getfield 61, 3) := by decide +kernel
theorem dX10_takeSamples_55 : decode cX10_takeSamples 55 = .ok (.iload 4, 2) := by decide +kernel
theorem dX10_takeSamples_57 : decode cX10_takeSamples 57 = .ok (.iaload, 1) := by decide +kernel
theorem dX10_takeSamples_58 : decode cX10_takeSamples 58 = .ok (.invokestatic 202, 3) := by decide +kernel
theorem dX10_takeSamples_61 : decode cX10_takeSamples 61 = .ok (.istore_n 3, 1) := by decide +kernel
theorem dX10_takeSamples_62 : decode cX10_takeSamples 62 = .ok (.iinc 4 1, 3) := by decide +kernel
theorem dX10_takeSamples_65 : decode cX10_takeSamples 65 = .ok (.goto (-52), 3) := by decide +kernel
theorem dX10_takeSamples_68 : decode cX10_takeSamples 68 = .ok (.iload_n 3, 1) := by decide +kernel
theorem dX10_takeSamples_69 : decode cX10_takeSamples 69 = .ok (.ireturn, 1) := by decide +kernel
theorem dX10_guessFits_0 : decode cX10_guessFits 0 = .ok (.iconst 0, 1) := by decide +kernel
theorem dX10_guessFits_1 : decode cX10_guessFits 1 = .ok (.istore_n 2, 1) := by decide +kernel
theorem dX10_guessFits_2 : decode cX10_guessFits 2 = .ok (.iload_n 2, 1) := by decide +kernel
theorem dX10_guessFits_3 : decode cX10_guessFits 3 = .ok (.aload_n 0, 1) := by decide +kernel
theorem dX10_guessFits_4 : decode cX10_guessFits 4 = .ok (.getfield 61, 3) := by decide +kernel
theorem dX10_guessFits_7 : decode cX10_guessFits 7 = .ok (.arraylength, 1) := by decide +kernel
theorem dX10_guessFits_8 : decode cX10_guessFits 8 = .ok (.if_icmp .ge 38, 3) := by decide +kernel
theorem dX10_guessFits_11 : decode cX10_guessFits 11 = .ok (.aload_n 0, 1) := by decide +kernel
theorem dX10_guessFits_12 : decode cX10_guessFits 12 = .ok (.getfield 57, 3) := by decide +kernel
theorem dX10_guessFits_15 : decode cX10_guessFits 15 = .ok (.iload_n 1, 1) := by decide +kernel
theorem dX10_guessFits_16 : decode cX10_guessFits 16 = .ok (.iload_n 2, 1) := by decide +kernel
theorem dX10_guessFits_17 : decode cX10_guessFits 17 = .ok (.aload_n 0, 1) := by decide +kernel
theorem dX10_guessFits_18 : decode cX10_guessFits 18 = .ok (.getfield 20, 3) := by decide +kernel
theorem dX10_guessFits_21 : decode cX10_guessFits 21 = .ok (.getfield 126, 3) := by decide +kernel
theorem dX10_guessFits_24 : decode cX10_guessFits 24 = .ok (.imul, 1) := by decide +kernel
theorem dX10_guessFits_25 : decode cX10_guessFits 25 = .ok (.iadd, 1) := by decide +kernel
theorem dX10_guessFits_26 : decode cX10_guessFits 26 = .ok (.invokevirtual 207, 3) := by decide +kernel
theorem dX10_guessFits_29 : decode cX10_guessFits 29 = .ok (.aload_n 0, 1) := by decide +kernel
theorem dX10_guessFits_30 : decode cX10_guessFits 30 = .ok (.getfield 61, 3) := by decide +kernel
theorem dX10_guessFits_33 : decode cX10_guessFits 33 = .ok (.iload_n 2, 1) := by decide +kernel
theorem dX10_guessFits_34 : decode cX10_guessFits 34 = .ok (.iaload, 1) := by decide +kernel
theorem dX10_guessFits_35 : decode cX10_guessFits 35 = .ok (.if_icmp .eq 5, 3) := by decide +kernel
theorem dX10_guessFits_38 : decode cX10_guessFits 38 = .ok (.iconst 0, 1) := by decide +kernel
theorem dX10_guessFits_39 : decode cX10_guessFits 39 = .ok (.ireturn, 1) := by decide +kernel
theorem dX10_guessFits_40 : decode cX10_guessFits 40 = .ok (.iinc 2 1, 3) := by decide +kernel
theorem dX10_guessFits_43 : decode cX10_guessFits 43 = .ok (.goto (-41), 3) := by decide +kernel
theorem dX10_guessFits_46 : decode cX10_guessFits 46 = .ok (.iconst 1, 1) := by decide +kernel
theorem dX10_guessFits_47 : decode cX10_guessFits 47 = .ok (.ireturn, 1) := by decide +kernel
theorem dX10_caught_0 : decode cX10_caught 0 = .ok (.iload_n 1, 1) := by decide +kernel
theorem dX10_caught_1 : decode cX10_caught 1 = .ok (.invokestatic 77, 3) := by decide +kernel
theorem dX10_caught_4 : decode cX10_caught 4 = .ok (.ifCond .eq 10, 3) := by decide +kernel
theorem dX10_caught_7 : decode cX10_caught 7 = .ok (.iload_n 2, 1) := by decide +kernel
theorem dX10_caught_8 : decode cX10_caught 8 = .ok (.invokestatic 165, 3) := by decide +kernel
theorem dX10_caught_11 : decode cX10_caught 11 = .ok (.ifCond .ne 5, 3) := by decide +kernel
theorem dX10_caught_14 : decode cX10_caught 14 = .ok (.iconst (-1), 1) := by decide +kernel
theorem dX10_caught_15 : decode cX10_caught 15 = .ok (.ireturn, 1) := by decide +kernel
theorem dX10_caught_16 : decode cX10_caught 16 = .ok (.aload_n 0, 1) := by decide +kernel
theorem dX10_caught_17 : decode cX10_caught 17 = .ok (.getfield 20, 3) := by decide +kernel
theorem dX10_caught_20 : decode cX10_caught 20 = .ok (.getfield 85, 3) := by decide +kernel
theorem dX10_caught_23 : decode cX10_caught 23 = .ok (.iload_n 1, 1) := by decide +kernel
theorem dX10_caught_24 : decode cX10_caught 24 = .ok (.aaload, 1) := by decide +kernel
theorem dX10_caught_25 : decode cX10_caught 25 = .ok (.getfield 89, 3) := by decide +kernel
theorem dX10_caught_28 : decode cX10_caught 28 = .ok (.iconst 1, 1) := by decide +kernel
theorem dX10_caught_29 : decode cX10_caught 29 = .ok (.isub, 1) := by decide +kernel
theorem dX10_caught_30 : decode cX10_caught 30 = .ok (.istore_n 3, 1) := by decide +kernel
theorem dX10_caught_31 : decode cX10_caught 31 = .ok (.iload_n 3, 1) := by decide +kernel
theorem dX10_caught_32 : decode cX10_caught 32 = .ok (.iconst 0, 1) := by decide +kernel
theorem dX10_caught_33 : decode cX10_caught 33 = .ok (.iconst 5, 1) := by decide +kernel
theorem dX10_caught_34 : decode cX10_caught 34 = .ok (.invokestatic 81, 3) := by decide +kernel
theorem dX10_caught_37 : decode cX10_caught 37 = .ok (.ifCond .eq 24, 3) := by decide +kernel
theorem dX10_caught_40 : decode cX10_caught 40 = .ok (.aload_n 0, 1) := by decide +kernel
theorem dX10_caught_41 : decode cX10_caught 41 = .ok (.getfield 20, 3) := by decide +kernel
theorem dX10_caught_44 : decode cX10_caught 44 = .ok (.getfield 85, 3) := by decide +kernel
theorem dX10_caught_47 : decode cX10_caught 47 = .ok (.iload_n 1, 1) := by decide +kernel
theorem dX10_caught_48 : decode cX10_caught 48 = .ok (.aaload, 1) := by decide +kernel
theorem dX10_caught_49 : decode cX10_caught 49 = .ok (.getfield 208, 3) := by decide +kernel
theorem dX10_caught_52 : decode cX10_caught 52 = .ok (.iload_n 3, 1) := by decide +kernel
theorem dX10_caught_53 : decode cX10_caught 53 = .ok (.aaload, 1) := by decide +kernel
theorem dX10_caught_54 : decode cX10_caught 54 = .ok (.getfield 212, 3) := by decide +kernel
theorem dX10_caught_57 : decode cX10_caught 57 = .ok (.iconst 1, 1) := by decide +kernel
theorem dX10_caught_58 : decode cX10_caught 58 = .ok (.if_icmp .eq 5, 3) := by decide +kernel
theorem dX10_caught_61 : decode cX10_caught 61 = .ok (.iconst (-1), 1) := by decide +kernel
theorem dX10_caught_62 : decode cX10_caught 62 = .ok (.ireturn, 1) := by decide +kernel
theorem dX10_caught_63 : decode cX10_caught 63 = .ok (.aload_n 0, 1) := by decide +kernel
theorem dX10_caught_64 : decode cX10_caught 64 = .ok (.getfield 20, 3) := by decide +kernel
theorem dX10_caught_67 : decode cX10_caught 67 = .ok (.getfield 85, 3) := by decide +kernel
theorem dX10_caught_70 : decode cX10_caught 70 = .ok (.iload_n 1, 1) := by decide +kernel
theorem dX10_caught_71 : decode cX10_caught 71 = .ok (.aaload, 1) := by decide +kernel
theorem dX10_caught_72 : decode cX10_caught 72 = .ok (.getfield 208, 3) := by decide +kernel
theorem dX10_caught_75 : decode cX10_caught 75 = .ok (.iload_n 3, 1) := by decide +kernel
theorem dX10_caught_76 : decode cX10_caught 76 = .ok (.aaload, 1) := by decide +kernel
theorem dX10_caught_77 : decode cX10_caught 77 = .ok (.astore 4, 2) := by decide +kernel
theorem dX10_caught_79 : decode cX10_caught 79 = .ok (.aload 4, 2) := by decide +kernel
theorem dX10_caught_81 : decode cX10_caught 81 = .ok (.getfield 215, 3) := by decide +kernel
theorem dX10_caught_84 : decode cX10_caught 84 = .ok (.istore 5, 2) := by decide +kernel
theorem dX10_caught_86 : decode cX10_caught 86 = .ok (.iconst 0, 1) := by decide +kernel
theorem dX10_caught_87 : decode cX10_caught 87 = .ok (.istore 6, 2) := by decide +kernel
theorem dX10_caught_89 : decode cX10_caught 89 = .ok (.iconst 0, 1) := by decide +kernel
theorem dX10_caught_90 : decode cX10_caught 90 = .ok (.istore 7, 2) := by decide +kernel
theorem dX10_caught_92 : decode cX10_caught 92 = .ok (.iload 7, 2) := by decide +kernel
theorem dX10_caught_94 : decode cX10_caught 94 = .ok (.aload 4, 2) := by decide +kernel
theorem dX10_caught_96 : decode cX10_caught 96 = .ok (.getfield 218, 3) := by decide +kernel
theorem dX10_caught_99 : decode cX10_caught 99 = .ok (.if_icmp .ge 40, 3) := by decide +kernel
theorem dX10_caught_102 : decode cX10_caught 102 = .ok (.aload 4, 2) := by decide +kernel
theorem dX10_caught_104 : decode cX10_caught 104 = .ok (.iload 7, 2) := by decide +kernel
theorem dX10_caught_106 : decode cX10_caught 106 = .ok (.putfield 215, 3) := by decide +kernel
theorem dX10_caught_109 : decode cX10_caught 109 = .ok (.aload_n 0, 1) := by decide +kernel
theorem dX10_caught_110 : decode cX10_caught 110 = .ok (.getfield 10, 3) := by decide +kernel
theorem dX10_caught_113 : decode cX10_caught 113 = .ok (.invokevirtual 98, 3) := by decide +kernel
theorem dX10_caught_116 : decode cX10_caught 116 = .ok (.aload_n 0, 1) := by decide +kernel
theorem dX10_caught_117 : decode cX10_caught 117 = .ok (.getfield 10, 3) := by decide +kernel
theorem dX10_caught_120 : decode cX10_caught 120 = .ok (.iload_n 1, 1) := by decide +kernel
theorem dX10_caught_121 : decode cX10_caught 121 = .ok (.aload 4, 2) := by decide +kernel
theorem dX10_caught_123 : decode cX10_caught 123 = .ok (.iload_n 2, 1) := by decide +kernel
theorem dX10_caught_124 : decode cX10_caught 124 = .ok (.invokevirtual 221, 3) := by decide +kernel
theorem dX10_caught_127 : decode cX10_caught 127 = .ok (.ifCond .eq 6, 3) := by decide +kernel
theorem dX10_caught_130 : decode cX10_caught 130 = .ok (.iinc 6 1, 3) := by decide +kernel
theorem dX10_caught_133 : decode cX10_caught 133 = .ok (.iinc 7 1, 3) := by decide +kernel
theorem dX10_caught_136 : decode cX10_caught 136 = .ok (.goto (-44), 3) := by decide +kernel
theorem dX10_caught_139 : decode cX10_caught 139 = .ok (.aload 4, 2) := by decide +kernel
theorem dX10_caught_141 : decode cX10_caught 141 = .ok (.iload 5, 2) := by decide +kernel
theorem dX10_caught_143 : decode cX10_caught 143 = .ok (.putfield 215, 3) := by decide +kernel
theorem dX10_caught_146 : decode cX10_caught 146 = .ok (.aload_n 0, 1) := by decide +kernel
theorem dX10_caught_147 : decode cX10_caught 147 = .ok (.getfield 10, 3) := by decide +kernel
theorem dX10_caught_150 : decode cX10_caught 150 = .ok (.invokevirtual 98, 3) := by decide +kernel
theorem dX10_caught_153 : decode cX10_caught 153 = .ok (.iload 6, 2) := by decide +kernel
theorem dX10_caught_155 : decode cX10_caught 155 = .ok (.ireturn, 1) := by decide +kernel
theorem dX10_photo_0 : decode cX10_photo 0 = .ok (.iload_n 1, 1) := by decide +kernel
theorem dX10_photo_1 : decode cX10_photo 1 = .ok (.iconst 0, 1) := by decide +kernel
theorem dX10_photo_2 : decode cX10_photo 2 = .ok (.bipush 19, 2) := by decide +kernel
theorem dX10_photo_4 : decode cX10_photo 4 = .ok (.invokestatic 81, 3) := by decide +kernel
theorem dX10_photo_7 : decode cX10_photo 7 = .ok (.ifCond .eq 13, 3) := by decide +kernel
theorem dX10_photo_10 : decode cX10_photo 10 = .ok (.iload_n 2, 1) := by decide +kernel
theorem dX10_photo_11 : decode cX10_photo 11 = .ok (.iconst 0, 1) := by decide +kernel
theorem dX10_photo_12 : decode cX10_photo 12 = .ok (.ldc 225, 2) := by decide +kernel
theorem dX10_photo_14 : decode cX10_photo 14 = .ok (.invokestatic 81, 3) := by decide +kernel
theorem dX10_photo_17 : decode cX10_photo 17 = .ok (.ifCond .ne 5, 3) := by decide +kernel
theorem dX10_photo_20 : decode cX10_photo 20 = .ok (.iconst 0, 1) := by decide +kernel
theorem dX10_photo_21 : decode cX10_photo 21 = .ok (.ireturn, 1) := by decide +kernel
theorem dX10_photo_22 : decode cX10_photo 22 = .ok (.aload_n 0, 1) := by decide +kernel
theorem dX10_photo_23 : decode cX10_photo 23 = .ok (.getfield 20, 3) := by decide +kernel
theorem dX10_photo_26 : decode cX10_photo 26 = .ok (.getfield 226, 3) := by decide +kernel
theorem dX10_photo_29 : decode cX10_photo 29 = .ok (.iload_n 1, 1) := by decide +kernel
theorem dX10_photo_30 : decode cX10_photo 30 = .ok (.iload_n 2, 1) := by decide +kernel
theorem dX10_photo_31 : decode cX10_photo 31 = .ok (.iastore, 1) := by decide +kernel
theorem dX10_photo_32 : decode cX10_photo 32 = .ok (.iconst 1, 1) := by decide +kernel
theorem dX10_photo_33 : decode cX10_photo 33 = .ok (.ireturn, 1) := by decide +kernel
theorem dX10_shoot_0 : decode cX10_shoot 0 = .ok (.iload_n 1, 1) := by decide +kernel
theorem dX10_shoot_1 : decode cX10_shoot 1 = .ok (.invokestatic 165, 3) := by decide +kernel
theorem dX10_shoot_4 : decode cX10_shoot 4 = .ok (.ifCond .eq 14, 3) := by decide +kernel
theorem dX10_shoot_7 : decode cX10_shoot 7 = .ok (.iload_n 2, 1) := by decide +kernel
theorem dX10_shoot_8 : decode cX10_shoot 8 = .ok (.iconst 1, 1) := by decide +kernel
theorem dX10_shoot_9 : decode cX10_shoot 9 = .ok (.sipush 999, 3) := by decide +kernel
theorem dX10_shoot_12 : decode cX10_shoot 12 = .ok (.invokestatic 81, 3) := by decide +kernel
theorem dX10_shoot_15 : decode cX10_shoot 15 = .ok (.ifCond .ne 5, 3) := by decide +kernel
theorem dX10_shoot_18 : decode cX10_shoot 18 = .ok (.iconst (-1), 1) := by decide +kernel
theorem dX10_shoot_19 : decode cX10_shoot 19 = .ok (.ireturn, 1) := by decide +kernel
theorem dX10_shoot_20 : decode cX10_shoot 20 = .ok (.aload_n 0, 1) := by decide +kernel
theorem dX10_shoot_21 : decode cX10_shoot 21 = .ok (.getfield 10, 3) := by decide +kernel
theorem dX10_shoot_24 : decode cX10_shoot 24 = .ok (.aload_n 0, 1) := by decide +kernel
theorem dX10_shoot_25 : decode cX10_shoot 25 = .ok (.getfield 50, 3) := by decide +kernel
theorem dX10_shoot_28 : decode cX10_shoot 28 = .ok (.iload_n 1, 1) := by decide +kernel
theorem dX10_shoot_29 : decode cX10_shoot 29 = .ok (.invokevirtual 180, 3) := by decide +kernel
theorem dX10_shoot_32 : decode cX10_shoot 32 = .ok (.aload_n 0, 1) := by decide +kernel
theorem dX10_shoot_33 : decode cX10_shoot 33 = .ok (.iload_n 2, 1) := by decide +kernel
theorem dX10_shoot_34 : decode cX10_shoot 34 = .ok (.aload_n 0, 1) := by decide +kernel
theorem dX10_shoot_35 : decode cX10_shoot 35 = .ok (.getfield 20, 3) := by decide +kernel
theorem dX10_shoot_38 : decode cX10_shoot 38 = .ok (.getfield 226, 3) := by decide +kernel
theorem dX10_shoot_41 : decode cX10_shoot 41 = .ok (.invokevirtual 229, 3) := by decide +kernel
theorem dX10_shoot_44 : decode cX10_shoot 44 = .ok (.aload_n 0, 1) := by decide +kernel
theorem dX10_shoot_45 : decode cX10_shoot 45 = .ok (.getfield 50, 3) := by decide +kernel
theorem dX10_shoot_48 : decode cX10_shoot 48 = .ok (.iload_n 2, 1) := by decide +kernel
theorem dX10_shoot_49 : decode cX10_shoot 49 = .ok (.invokevirtual 187, 3) := by decide +kernel
theorem dX10_shoot_52 : decode cX10_shoot 52 = .ok (.ireturn, 1) := by decide +kernel
theorem dX10_copyBits_0 : decode cX10_copyBits 0 = .ok (.iconst 0, 1) := by decide +kernel
theorem dX10_copyBits_1 : decode cX10_copyBits 1 = .ok (.istore_n 3, 1) := by decide +kernel
theorem dX10_copyBits_2 : decode cX10_copyBits 2 = .ok (.iload_n 3, 1) := by decide +kernel
