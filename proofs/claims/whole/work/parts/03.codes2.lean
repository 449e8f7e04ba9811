theorem dX10_copyBits_3 : decode cX10_copyBits 3 = .ok (.aload_n 2, 1) := by decide +kernel
theorem dX10_copyBits_4 : decode cX10_copyBits 4 = .ok (.arraylength, 1) := by decide +kernel
theorem dX10_copyBits_5 : decode cX10_copyBits 5 = .ok (.if_icmp .ge 21, 3) := by decide +kernel
theorem dX10_copyBits_8 : decode cX10_copyBits 8 = .ok (.aload_n 2, 1) := by decide +kernel
theorem dX10_copyBits_9 : decode cX10_copyBits 9 = .ok (.iload_n 3, 1) := by decide +kernel
theorem dX10_copyBits_10 : decode cX10_copyBits 10 = .ok (.aload_n 0, 1) := by decide +kernel
theorem dX10_copyBits_11 : decode cX10_copyBits 11 = .ok (.getfield 50, 3) := by decide +kernel
theorem dX10_copyBits_14 : decode cX10_copyBits 14 = .ok (.iload_n 3, 1) := by decide +kernel
theorem dX10_copyBits_15 : decode cX10_copyBits 15 = .ok (.iload_n 1, 1) := by decide +kernel
theorem dX10_copyBits_16 : decode cX10_copyBits 16 = .ok (.invokevirtual 190, 3) := by decide +kernel
theorem dX10_copyBits_19 : decode cX10_copyBits 19 = .ok (.iastore, 1) := by decide +kernel
theorem dX10_copyBits_20 : decode cX10_copyBits 20 = .ok (.iinc 3 1, 3) := by decide +kernel
theorem dX10_copyBits_23 : decode cX10_copyBits 23 = .ok (.goto (-21), 3) := by decide +kernel
theorem dX10_copyBits_26 : decode cX10_copyBits 26 = .ok (.return_, 1) := by decide +kernel
theorem dX10_settings_0 : decode cX10_settings 0 = .ok (.iload_n 1, 1) := by decide +kernel
theorem dX10_settings_1 : decode cX10_settings 1 = .ok (.invokestatic 165, 3) := by decide +kernel
theorem dX10_settings_4 : decode cX10_settings 4 = .ok (.ifCond .eq 19, 3) := by decide +kernel
theorem dX10_settings_7 : decode cX10_settings 7 = .ok (.iload_n 2, 1) := by decide +kernel
theorem dX10_settings_8 : decode cX10_settings 8 = .ok (.iconst 1, 1) := by decide +kernel
theorem dX10_settings_9 : decode cX10_settings 9 = .ok (.sipush 999, 3) := by decide +kernel
theorem dX10_settings_12 : decode cX10_settings 12 = .ok (.invokestatic 81, 3) := by decide +kernel
theorem dX10_settings_15 : decode cX10_settings 15 = .ok (.ifCond .eq 8, 3) := by decide +kernel
theorem dX10_settings_18 : decode cX10_settings 18 = .ok (.iload_n 3, 1) := by decide +kernel
theorem dX10_settings_19 : decode cX10_settings 19 = .ok (.iconst (-1), 1) := by decide +kernel
theorem dX10_settings_20 : decode cX10_settings 20 = .ok (.if_icmp .ge 5, 3) := by decide +kernel
theorem dX10_settings_23 : decode cX10_settings 23 = .ok (.iconst (-1), 1) := by decide +kernel
theorem dX10_settings_24 : decode cX10_settings 24 = .ok (.ireturn, 1) := by decide +kernel
theorem dX10_settings_25 : decode cX10_settings 25 = .ok (.aload_n 0, 1) := by decide +kernel
theorem dX10_settings_26 : decode cX10_settings 26 = .ok (.getfield 20, 3) := by decide +kernel
theorem dX10_settings_29 : decode cX10_settings 29 = .ok (.getfield 126, 3) := by decide +kernel
theorem dX10_settings_32 : decode cX10_settings 32 = .ok (.istore 4, 2) := by decide +kernel
theorem dX10_settings_34 : decode cX10_settings 34 = .ok (.aload_n 0, 1) := by decide +kernel
theorem dX10_settings_35 : decode cX10_settings 35 = .ok (.getfield 20, 3) := by decide +kernel
theorem dX10_settings_38 : decode cX10_settings 38 = .ok (.getfield 109, 3) := by decide +kernel
theorem dX10_settings_41 : decode cX10_settings 41 = .ok (.iconst 0, 1) := by decide +kernel
theorem dX10_settings_42 : decode cX10_settings 42 = .ok (.aaload, 1) := by decide +kernel
theorem dX10_settings_43 : decode cX10_settings 43 = .ok (.getfield 233, 3) := by decide +kernel
theorem dX10_settings_46 : decode cX10_settings 46 = .ok (.istore 5, 2) := by decide +kernel
theorem dX10_settings_48 : decode cX10_settings 48 = .ok (.iconst 0, 1) := by decide +kernel
theorem dX10_settings_49 : decode cX10_settings 49 = .ok (.istore 6, 2) := by decide +kernel
theorem dX10_settings_51 : decode cX10_settings 51 = .ok (.iconst (-1), 1) := by decide +kernel
theorem dX10_settings_52 : decode cX10_settings 52 = .ok (.istore 7, 2) := by decide +kernel
theorem dX10_settings_54 : decode cX10_settings 54 = .ok (.iconst 1, 1) := by decide +kernel
theorem dX10_settings_55 : decode cX10_settings 55 = .ok (.istore 8, 2) := by decide +kernel
theorem dX10_settings_57 : decode cX10_settings 57 = .ok (.iload 8, 2) := by decide +kernel
theorem dX10_settings_59 : decode cX10_settings 59 = .ok (.bipush 20, 2) := by decide +kernel
theorem dX10_settings_61 : decode cX10_settings 61 = .ok (.if_icmp .gt 105, 3) := by decide +kernel
theorem dX10_settings_64 : decode cX10_settings 64 = .ok (.iconst 0, 1) := by decide +kernel
theorem dX10_settings_65 : decode cX10_settings 65 = .ok (.istore 9, 2) := by decide +kernel
theorem dX10_settings_67 : decode cX10_settings 67 = .ok (.iload 9, 2) := by decide +kernel
theorem dX10_settings_69 : decode cX10_settings 69 = .ok (.getstatic 236, 3) := by decide +kernel
theorem dX10_settings_72 : decode cX10_settings 72 = .ok (.arraylength, 1) := by decide +kernel
theorem dX10_settings_73 : decode cX10_settings 73 = .ok (.if_icmp .ge 87, 3) := by decide +kernel
theorem dX10_settings_76 : decode cX10_settings 76 = .ok (.aload_n 0, 1) := by decide +kernel
theorem dX10_settings_77 : decode cX10_settings 77 = .ok (.getfield 20, 3) := by decide +kernel
theorem dX10_settings_80 : decode cX10_settings 80 = .ok (.iload 8, 2) := by decide +kernel
theorem dX10_settings_82 : decode cX10_settings 82 = .ok (.putfield 126, 3) := by decide +kernel
theorem dX10_settings_85 : decode cX10_settings 85 = .ok (.aload_n 0, 1) := by decide +kernel
theorem dX10_settings_86 : decode cX10_settings 86 = .ok (.getfield 20, 3) := by decide +kernel
theorem dX10_settings_89 : decode cX10_settings 89 = .ok (.getfield 109, 3) := by decide +kernel
theorem dX10_settings_92 : decode cX10_settings 92 = .ok (.iconst 0, 1) := by decide +kernel
theorem dX10_settings_93 : decode cX10_settings 93 = .ok (.aaload, 1) := by decide +kernel
theorem dX10_settings_94 : decode cX10_settings 94 = .ok (.getstatic 236, 3) := by decide +kernel
theorem dX10_settings_97 : decode cX10_settings 97 = .ok (.iload 9, 2) := by decide +kernel
theorem dX10_settings_99 : decode cX10_settings 99 = .ok (.iaload, 1) := by decide +kernel
theorem dX10_settings_100 : decode cX10_settings 100 = .ok (.putfield 233, 3) := by decide +kernel
theorem dX10_settings_103 : decode cX10_settings 103 = .ok (.aload_n 0, 1) := by decide +kernel
theorem dX10_settings_104 : decode cX10_settings 104 = .ok (.getfield 10, 3) := by decide +kernel
theorem dX10_settings_107 : decode cX10_settings 107 = .ok (.aload_n 0, 1) := by decide +kernel
theorem dX10_settings_108 : decode cX10_settings 108 = .ok (.getfield 50, 3) := by decide +kernel
theorem dX10_settings_111 : decode cX10_settings 111 = .ok (.iload_n 1, 1) := by decide +kernel
theorem dX10_settings_112 : decode cX10_settings 112 = .ok (.invokevirtual 180, 3) := by decide +kernel
theorem dX10_settings_115 : decode cX10_settings 115 = .ok (.aload_n 0, 1) := by decide +kernel
theorem dX10_settings_116 : decode cX10_settings 116 = .ok (.aload_n 0, 1) := by decide +kernel
theorem dX10_settings_117 : decode cX10_settings 117 = .ok (.getfield 20, 3) := by decide +kernel
theorem dX10_settings_120 : decode cX10_settings 120 = .ok (.getfield 226, 3) := by decide +kernel
theorem dX10_settings_123 : decode cX10_settings 123 = .ok (.iload_n 2, 1) := by decide +kernel
theorem dX10_settings_124 : decode cX10_settings 124 = .ok (.invokevirtual 239, 3) := by decide +kernel
theorem dX10_settings_127 : decode cX10_settings 127 = .ok (.ifCond .ne 27, 3) := by decide +kernel
theorem dX10_settings_130 : decode cX10_settings 130 = .ok (.iload 6, 2) := by decide +kernel
theorem dX10_settings_132 : decode cX10_settings 132 = .ok (.iload_n 3, 1) := by decide +kernel
theorem dX10_settings_133 : decode cX10_settings 133 = .ok (.if_icmp .ne 18, 3) := by decide +kernel
theorem dX10_settings_136 : decode cX10_settings 136 = .ok (.sipush 1000, 3) := by decide +kernel
theorem dX10_settings_139 : decode cX10_settings 139 = .ok (.iload 8, 2) := by decide +kernel
theorem dX10_settings_141 : decode cX10_settings 141 = .ok (.imul, 1) := by decide +kernel
theorem dX10_settings_142 : decode cX10_settings 142 = .ok (.getstatic 236, 3) := by decide +kernel
theorem dX10_settings_145 : decode cX10_settings 145 = .ok (.iload 9, 2) := by decide +kernel
theorem dX10_settings_147 : decode cX10_settings 147 = .ok (.iaload, 1) := by decide +kernel
theorem dX10_settings_148 : decode cX10_settings 148 = .ok (.iadd, 1) := by decide +kernel
theorem dX10_settings_149 : decode cX10_settings 149 = .ok (.istore 7, 2) := by decide +kernel
theorem dX10_settings_151 : decode cX10_settings 151 = .ok (.iinc 6 1, 3) := by decide +kernel
theorem dX10_settings_154 : decode cX10_settings 154 = .ok (.iinc 9 1, 3) := by decide +kernel
theorem dX10_settings_157 : decode cX10_settings 157 = .ok (.goto (-90), 3) := by decide +kernel
theorem dX10_settings_160 : decode cX10_settings 160 = .ok (.iinc 8 1, 3) := by decide +kernel
theorem dX10_settings_163 : decode cX10_settings 163 = .ok (.goto (-106), 3) := by decide +kernel
theorem dX10_settings_166 : decode cX10_settings 166 = .ok (.aload_n 0, 1) := by decide +kernel
theorem dX10_settings_167 : decode cX10_settings 167 = .ok (.getfield 20, 3) := by decide +kernel
theorem dX10_settings_170 : decode cX10_settings 170 = .ok (.iload 4, 2) := by decide +kernel
theorem dX10_settings_172 : decode cX10_settings 172 = .ok (.putfield 126, 3) := by decide +kernel
theorem dX10_settings_175 : decode cX10_settings 175 = .ok (.aload_n 0, 1) := by decide +kernel
theorem dX10_settings_176 : decode cX10_settings 176 = .ok (.getfield 20, 3) := by decide +kernel
theorem dX10_settings_179 : decode cX10_settings 179 = .ok (.getfield 109, 3) := by decide +kernel
theorem dX10_settings_182 : decode cX10_settings 182 = .ok (.iconst 0, 1) := by decide +kernel
theorem dX10_settings_183 : decode cX10_settings 183 = .ok (.aaload, 1) := by decide +kernel
theorem dX10_settings_184 : decode cX10_settings 184 = .ok (.iload 5, 2) := by decide +kernel
theorem dX10_settings_186 : decode cX10_settings 186 = .ok (.putfield 233, 3) := by decide +kernel
theorem dX10_settings_189 : decode cX10_settings 189 = .ok (.iload_n 3, 1) := by decide +kernel
theorem dX10_settings_190 : decode cX10_settings 190 = .ok (.iconst (-1), 1) := by decide +kernel
theorem dX10_settings_191 : decode cX10_settings 191 = .ok (.if_icmp .ne 8, 3) := by decide +kernel
theorem dX10_settings_194 : decode cX10_settings 194 = .ok (.iload 6, 2) := by decide +kernel
theorem dX10_settings_196 : decode cX10_settings 196 = .ok (.goto 5, 3) := by decide +kernel
theorem dX10_settings_199 : decode cX10_settings 199 = .ok (.iload 7, 2) := by decide +kernel
theorem dX10_settings_201 : decode cX10_settings 201 = .ok (.ireturn, 1) := by decide +kernel
theorem dX10_unlike_0 : decode cX10_unlike 0 = .ok (.iconst 0, 1) := by decide +kernel
theorem dX10_unlike_1 : decode cX10_unlike 1 = .ok (.istore_n 3, 1) := by decide +kernel
theorem dX10_unlike_2 : decode cX10_unlike 2 = .ok (.iconst 0, 1) := by decide +kernel
theorem dX10_unlike_3 : decode cX10_unlike 3 = .ok (.istore 4, 2) := by decide +kernel
theorem dX10_unlike_5 : decode cX10_unlike 5 = .ok (.iload 4, 2) := by decide +kernel
theorem dX10_unlike_7 : decode cX10_unlike 7 = .ok (.aload_n 1, 1) := by decide +kernel
theorem dX10_unlike_8 : decode cX10_unlike 8 = .ok (.arraylength, 1) := by decide +kernel
theorem dX10_unlike_9 : decode cX10_unlike 9 = .ok (.if_icmp .ge 30, 3) := by decide +kernel
theorem dX10_unlike_12 : decode cX10_unlike 12 = .ok (.iload_n 3, 1) := by decide +kernel
theorem dX10_unlike_13 : decode cX10_unlike 13 = .ok (.aload_n 1, 1) := by decide +kernel
theorem dX10_unlike_14 : decode cX10_unlike 14 = .ok (.iload 4, 2) := by decide +kernel
theorem dX10_unlike_16 : decode cX10_unlike 16 = .ok (.iaload, 1) := by decide +kernel
theorem dX10_unlike_17 : decode cX10_unlike 17 = .ok (.aload_n 0, 1) := by decide +kernel
theorem dX10_unlike_18 : decode cX10_unlike 18 = .ok (.getfield 50, 3) := by decide +kernel
theorem dX10_unlike_21 : decode cX10_unlike 21 = .ok (.iload 4, 2) := by decide +kernel
theorem dX10_unlike_23 : decode cX10_unlike 23 = .ok (.iload_n 2, 1) := by decide +kernel
theorem dX10_unlike_24 : decode cX10_unlike 24 = .ok (.invokevirtual 190, 3) := by decide +kernel
theorem dX10_unlike_27 : decode cX10_unlike 27 = .ok (.ixor, 1) := by decide +kernel
theorem dX10_unlike_28 : decode cX10_unlike 28 = .ok (.invokestatic 243, 3) := by decide +kernel
theorem dX10_unlike_31 : decode cX10_unlike 31 = .ok (.iadd, 1) := by decide +kernel
theorem dX10_unlike_32 : decode cX10_unlike 32 = .ok (.istore_n 3, 1) := by decide +kernel
theorem dX10_unlike_33 : decode cX10_unlike 33 = .ok (.iinc 4 1, 3) := by decide +kernel
theorem dX10_unlike_36 : decode cX10_unlike 36 = .ok (.goto (-31), 3) := by decide +kernel
theorem dX10_unlike_39 : decode cX10_unlike 39 = .ok (.iload_n 3, 1) := by decide +kernel
theorem dX10_unlike_40 : decode cX10_unlike 40 = .ok (.ireturn, 1) := by decide +kernel
theorem dX10_measure_0 : decode cX10_measure 0 = .ok (.iload_n 1, 1) := by decide +kernel
theorem dX10_measure_1 : decode cX10_measure 1 = .ok (.invokestatic 106, 3) := by decide +kernel
theorem dX10_measure_4 : decode cX10_measure 4 = .ok (.ifCond .eq 19, 3) := by decide +kernel
theorem dX10_measure_7 : decode cX10_measure 7 = .ok (.iload_n 2, 1) := by decide +kernel
theorem dX10_measure_8 : decode cX10_measure 8 = .ok (.ifCond .lt 15, 3) := by decide +kernel
theorem dX10_measure_11 : decode cX10_measure 11 = .ok (.iload_n 2, 1) := by decide +kernel
theorem dX10_measure_12 : decode cX10_measure 12 = .ok (.iload_n 3, 1) := by decide +kernel
theorem dX10_measure_13 : decode cX10_measure 13 = .ok (.if_icmp .ge 10, 3) := by decide +kernel
theorem dX10_measure_16 : decode cX10_measure 16 = .ok (.iload_n 3, 1) := by decide +kernel
theorem dX10_measure_17 : decode cX10_measure 17 = .ok (.sipush 2000, 3) := by decide +kernel
theorem dX10_measure_20 : decode cX10_measure 20 = .ok (.if_icmp .le 6, 3) := by decide +kernel
theorem dX10_measure_23 : decode cX10_measure 23 = .ok (.ldc 101, 2) := by decide +kernel
theorem dX10_measure_25 : decode cX10_measure 25 = .ok (.ireturn, 1) := by decide +kernel
theorem dX10_measure_26 : decode cX10_measure 26 = .ok (.aload_n 0, 1) := by decide +kernel
theorem dX10_measure_27 : decode cX10_measure 27 = .ok (.iload_n 1, 1) := by decide +kernel
theorem dX10_measure_28 : decode cX10_measure 28 = .ok (.iload_n 2, 1) := by decide +kernel
theorem dX10_measure_29 : decode cX10_measure 29 = .ok (.iload_n 3, 1) := by decide +kernel
theorem dX10_measure_30 : decode cX10_measure 30 = .ok (.invokevirtual 248, 3) := by decide +kernel
theorem dX10_measure_33 : decode cX10_measure 33 = .ok (.istore 5, 2) := by decide +kernel
theorem dX10_measure_35 : decode cX10_measure 35 = .ok (.aload_n 0, 1) := by decide +kernel
theorem dX10_measure_36 : decode cX10_measure 36 = .ok (.iload_n 1, 1) := by decide +kernel
theorem dX10_measure_37 : decode cX10_measure 37 = .ok (.iload_n 2, 1) := by decide +kernel
theorem dX10_measure_38 : decode cX10_measure 38 = .ok (.iload_n 3, 1) := by decide +kernel
theorem dX10_measure_39 : decode cX10_measure 39 = .ok (.invokevirtual 252, 3) := by decide +kernel
theorem dX10_measure_42 : decode cX10_measure 42 = .ok (.istore 6, 2) := by decide +kernel
theorem dX10_measure_44 : decode cX10_measure 44 = .ok (.iload 4, 2) := by decide +kernel
theorem dX10_measure_46 : decode cX10_measure 46 = .ok (.tableswitch 116 0 5 #[38, 41, 44, 57, 70, 93], 38) := by decide +kernel
theorem dX10_measure_84 : decode cX10_measure 84 = .ok (.iload 5, 2) := by decide +kernel
theorem dX10_measure_86 : decode cX10_measure 86 = .ok (.ireturn, 1) := by decide +kernel
theorem dX10_measure_87 : decode cX10_measure 87 = .ok (.iload 6, 2) := by decide +kernel
theorem dX10_measure_89 : decode cX10_measure 89 = .ok (.ireturn, 1) := by decide +kernel
theorem dX10_measure_90 : decode cX10_measure 90 = .ok (.aload_n 0, 1) := by decide +kernel
theorem dX10_measure_91 : decode cX10_measure 91 = .ok (.iload_n 1, 1) := by decide +kernel
theorem dX10_measure_92 : decode cX10_measure 92 = .ok (.iload_n 2, 1) := by decide +kernel
theorem dX10_measure_93 : decode cX10_measure 93 = .ok (.iload_n 3, 1) := by decide +kernel
theorem dX10_measure_94 : decode cX10_measure 94 = .ok (.iconst 1, 1) := by decide +kernel
theorem dX10_measure_95 : decode cX10_measure 95 = .ok (.iload 5, 2) := by decide +kernel
theorem dX10_measure_97 : decode cX10_measure 97 = .ok (.iload 6, 2) := by decide +kernel
theorem dX10_measure_99 : decode cX10_measure 99 = .ok (.invokevirtual 255, 3) := by decide +kernel
theorem dX10_measure_102 : decode cX10_measure 102 = .ok (.ireturn, 1) := by decide +kernel
theorem dX10_measure_103 : decode cX10_measure 103 = .ok (.aload_n 0, 1) := by decide +kernel
theorem dX10_measure_104 : decode cX10_measure 104 = .ok (.iload_n 1, 1) := by decide +kernel
theorem dX10_measure_105 : decode cX10_measure 105 = .ok (.iload_n 2, 1) := by decide +kernel
theorem dX10_measure_106 : decode cX10_measure 106 = .ok (.iload_n 3, 1) := by decide +kernel
theorem dX10_measure_107 : decode cX10_measure 107 = .ok (.iload 5, 2) := by decide +kernel
theorem dX10_measure_109 : decode cX10_measure 109 = .ok (.iload 6, 2) := by decide +kernel
theorem dX10_measure_111 : decode cX10_measure 111 = .ok (.iadd, 1) := by decide +kernel
theorem dX10_measure_112 : decode cX10_measure 112 = .ok (.invokevirtual 259, 3) := by decide +kernel
theorem dX10_measure_115 : decode cX10_measure 115 = .ok (.ireturn, 1) := by decide +kernel
theorem dX10_measure_116 : decode cX10_measure 116 = .ok (.aload_n 0, 1) := by decide +kernel
theorem dX10_measure_117 : decode cX10_measure 117 = .ok (.aload_n 0, 1) := by decide +kernel
theorem dX10_measure_118 : decode cX10_measure 118 = .ok (.iload_n 1, 1) := by decide +kernel
theorem dX10_measure_119 : decode cX10_measure 119 = .ok (.iload_n 2, 1) := by decide +kernel
theorem dX10_measure_120 : decode cX10_measure 120 = .ok (.iload_n 3, 1) := by decide +kernel
theorem dX10_measure_121 : decode cX10_measure 121 = .ok (.aload_n 0, 1) := by decide +kernel
theorem dX10_measure_122 : decode cX10_measure 122 = .ok (.getfield 20, 3) := by decide +kernel
theorem dX10_measure_125 : decode cX10_measure 125 = .ok (.getfield 126, 3) := by decide +kernel
theorem dX10_measure_128 : decode cX10_measure 128 = .ok (.iload 5, 2) := by decide +kernel
theorem dX10_measure_130 : decode cX10_measure 130 = .ok (.iload 6, 2) := by decide +kernel
theorem dX10_measure_132 : decode cX10_measure 132 = .ok (.invokevirtual 255, 3) := by decide +kernel
theorem dX10_measure_135 : decode cX10_measure 135 = .ok (.invokevirtual 263, 3) := by decide +kernel
theorem dX10_measure_138 : decode cX10_measure 138 = .ok (.ireturn, 1) := by decide +kernel
theorem dX10_measure_139 : decode cX10_measure 139 = .ok (.aload_n 0, 1) := by decide +kernel
theorem dX10_measure_140 : decode cX10_measure 140 = .ok (.aload_n 0, 1) := by decide +kernel
theorem dX10_measure_141 : decode cX10_measure 141 = .ok (.iload_n 1, 1) := by decide +kernel
theorem dX10_measure_142 : decode cX10_measure 142 = .ok (.iload_n 2, 1) := by decide +kernel
theorem dX10_measure_143 : decode cX10_measure 143 = .ok (.iload_n 3, 1) := by decide +kernel
theorem dX10_measure_144 : decode cX10_measure 144 = .ok (.aload_n 0, 1) := by decide +kernel
theorem dX10_measure_145 : decode cX10_measure 145 = .ok (.getfield 20, 3) := by decide +kernel
theorem dX10_measure_148 : decode cX10_measure 148 = .ok (.getfield 126, 3) := by decide +kernel
theorem dX10_measure_151 : decode cX10_measure 151 = .ok (.iload 5, 2) := by decide +kernel
theorem dX10_measure_153 : decode cX10_measure 153 = .ok (.iload 6, 2) := by decide +kernel
theorem dX10_measure_155 : decode cX10_measure 155 = .ok (.invokevirtual 255, 3) := by decide +kernel
theorem dX10_measure_158 : decode cX10_measure 158 = .ok (.invokevirtual 266, 3) := by decide +kernel
theorem dX10_measure_161 : decode cX10_measure 161 = .ok (.ireturn, 1) := by decide +kernel
theorem dX10_measure_162 : decode cX10_measure 162 = .ok (.ldc 101, 2) := by decide +kernel
theorem dX10_measure_164 : decode cX10_measure 164 = .ok (.ireturn, 1) := by decide +kernel
theorem dX10_lowest_0 : decode cX10_lowest 0 = .ok (.aload_n 0, 1) := by decide +kernel
theorem dX10_lowest_1 : decode cX10_lowest 1 = .ok (.getfield 10, 3) := by decide +kernel
theorem dX10_lowest_4 : decode cX10_lowest 4 = .ok (.iload_n 1, 1) := by decide +kernel
theorem dX10_lowest_5 : decode cX10_lowest 5 = .ok (.iload_n 2, 1) := by decide +kernel
theorem dX10_lowest_6 : decode cX10_lowest 6 = .ok (.invokevirtual 122, 3) := by decide +kernel
theorem dX10_lowest_9 : decode cX10_lowest 9 = .ok (.istore 4, 2) := by decide +kernel
theorem dX10_lowest_11 : decode cX10_lowest 11 = .ok (.iload_n 2, 1) := by decide +kernel
theorem dX10_lowest_12 : decode cX10_lowest 12 = .ok (.istore 5, 2) := by decide +kernel
theorem dX10_lowest_14 : decode cX10_lowest 14 = .ok (.iload 5, 2) := by decide +kernel
theorem dX10_lowest_16 : decode cX10_lowest 16 = .ok (.iload_n 3, 1) := by decide +kernel
theorem dX10_lowest_17 : decode cX10_lowest 17 = .ok (.if_icmp .ge 26, 3) := by decide +kernel
theorem dX10_lowest_20 : decode cX10_lowest 20 = .ok (.iload 4, 2) := by decide +kernel
theorem dX10_lowest_22 : decode cX10_lowest 22 = .ok (.aload_n 0, 1) := by decide +kernel
theorem dX10_lowest_23 : decode cX10_lowest 23 = .ok (.getfield 10, 3) := by decide +kernel
theorem dX10_lowest_26 : decode cX10_lowest 26 = .ok (.iload_n 1, 1) := by decide +kernel
theorem dX10_lowest_27 : decode cX10_lowest 27 = .ok (.iload 5, 2) := by decide +kernel
theorem dX10_lowest_29 : decode cX10_lowest 29 = .ok (.invokevirtual 122, 3) := by decide +kernel
theorem dX10_lowest_32 : decode cX10_lowest 32 = .ok (.invokestatic 269, 3) := by decide +kernel
theorem dX10_lowest_35 : decode cX10_lowest 35 = .ok (.istore 4, 2) := by decide +kernel
theorem dX10_lowest_37 : decode cX10_lowest 37 = .ok (.iinc 5 1, 3) := by decide +kernel
theorem dX10_lowest_40 : decode cX10_lowest 40 = .ok (.goto (-26), 3) := by decide +kernel
theorem dX10_lowest_43 : decode cX10_lowest 43 = .ok (.iload 4, 2) := by decide +kernel
theorem dX10_lowest_45 : decode cX10_lowest 45 = .ok (.ireturn, 1) := by decide +kernel
theorem dX10_highest_0 : decode cX10_highest 0 = .ok (.aload_n 0, 1) := by decide +kernel
theorem dX10_highest_1 : decode cX10_highest 1 = .ok (.getfield 10, 3) := by decide +kernel
theorem dX10_highest_4 : decode cX10_highest 4 = .ok (.iload_n 1, 1) := by decide +kernel
theorem dX10_highest_5 : decode cX10_highest 5 = .ok (.iload_n 2, 1) := by decide +kernel
theorem dX10_highest_6 : decode cX10_highest 6 = .ok (.invokevirtual 122, 3) := by decide +kernel
theorem dX10_highest_9 : decode cX10_highest 9 = .ok (.istore 4, 2) := by decide +kernel
theorem dX10_highest_11 : decode cX10_highest 11 = .ok (.iload_n 2, 1) := by decide +kernel
theorem dX10_highest_12 : decode cX10_highest 12 = .ok (.istore 5, 2) := by decide +kernel
theorem dX10_highest_14 : decode cX10_highest 14 = .ok (.iload 5, 2) := by decide +kernel
theorem dX10_highest_16 : decode cX10_highest 16 = .ok (.iload_n 3, 1) := by decide +kernel
theorem dX10_highest_17 : decode cX10_highest 17 = .ok (.if_icmp .ge 26, 3) := by decide +kernel
theorem dX10_highest_20 : decode cX10_highest 20 = .ok (.iload 4, 2) := by decide +kernel
theorem dX10_highest_22 : decode cX10_highest 22 = .ok (.aload_n 0, 1) := by decide +kernel
theorem dX10_highest_23 : decode cX10_highest 23 = .ok (.getfield 10, 3) := by decide +kernel
theorem dX10_highest_26 : decode cX10_highest 26 = .ok (.iload_n 1, 1) := by decide +kernel
theorem dX10_highest_27 : decode cX10_highest 27 = .ok (.iload 5, 2) := by decide +kernel
theorem dX10_highest_29 : decode cX10_highest 29 = .ok (.invokevirtual 122, 3) := by decide +kernel
theorem dX10_highest_32 : decode cX10_highest 32 = .ok (.invokestatic 202, 3) := by decide +kernel
theorem dX10_highest_35 : decode cX10_highest 35 = .ok (.istore 4, 2) := by decide +kernel
theorem dX10_highest_37 : decode cX10_highest 37 = .ok (.iinc 5 1, 3) := by decide +kernel
theorem dX10_highest_40 : decode cX10_highest 40 = .ok (.goto (-26), 3) := by decide +kernel
theorem dX10_highest_43 : decode cX10_highest 43 = .ok (.iload 4, 2) := by decide +kernel
theorem dX10_highest_45 : decode cX10_highest 45 = .ok (.ireturn, 1) := by decide +kernel
theorem dX10_wide_0 : decode cX10_wide 0 = .ok (.iconst 0, 1) := by decide +kernel
theorem dX10_wide_1 : decode cX10_wide 1 = .ok (.istore 5, 2) := by decide +kernel
theorem dX10_wide_3 : decode cX10_wide 3 = .ok (.iload_n 2, 1) := by decide +kernel
theorem dX10_wide_4 : decode cX10_wide 4 = .ok (.istore 6, 2) := by decide +kernel
theorem dX10_wide_6 : decode cX10_wide 6 = .ok (.iload 6, 2) := by decide +kernel
theorem dX10_wide_8 : decode cX10_wide 8 = .ok (.iload_n 3, 1) := by decide +kernel
theorem dX10_wide_9 : decode cX10_wide 9 = .ok (.if_icmp .ge 29, 3) := by decide +kernel
theorem dX10_wide_12 : decode cX10_wide 12 = .ok (.iconst 2, 1) := by decide +kernel
theorem dX10_wide_13 : decode cX10_wide 13 = .ok (.aload_n 0, 1) := by decide +kernel
theorem dX10_wide_14 : decode cX10_wide 14 = .ok (.getfield 10, 3) := by decide +kernel
theorem dX10_wide_17 : decode cX10_wide 17 = .ok (.iload_n 1, 1) := by decide +kernel
theorem dX10_wide_18 : decode cX10_wide 18 = .ok (.iload 6, 2) := by decide +kernel
theorem dX10_wide_20 : decode cX10_wide 20 = .ok (.invokevirtual 122, 3) := by decide +kernel
theorem dX10_wide_23 : decode cX10_wide 23 = .ok (.imul, 1) := by decide +kernel
theorem dX10_wide_24 : decode cX10_wide 24 = .ok (.iload 4, 2) := by decide +kernel
theorem dX10_wide_26 : decode cX10_wide 26 = .ok (.if_icmp .lt 6, 3) := by decide +kernel
theorem dX10_wide_29 : decode cX10_wide 29 = .ok (.iinc 5 1, 3) := by decide +kernel
theorem dX10_wide_32 : decode cX10_wide 32 = .ok (.iinc 6 1, 3) := by decide +kernel
theorem dX10_wide_35 : decode cX10_wide 35 = .ok (.goto (-29), 3) := by decide +kernel
theorem dX10_wide_38 : decode cX10_wide 38 = .ok (.iload 5, 2) := by decide +kernel
theorem dX10_wide_40 : decode cX10_wide 40 = .ok (.ireturn, 1) := by decide +kernel
theorem dX10_rise_0 : decode cX10_rise 0 = .ok (.iconst (-1), 1) := by decide +kernel
theorem dX10_rise_1 : decode cX10_rise 1 = .ok (.istore 7, 2) := by decide +kernel
theorem dX10_rise_3 : decode cX10_rise 3 = .ok (.iload_n 2, 1) := by decide +kernel
theorem dX10_rise_4 : decode cX10_rise 4 = .ok (.istore 8, 2) := by decide +kernel
theorem dX10_rise_6 : decode cX10_rise 6 = .ok (.iload 8, 2) := by decide +kernel
theorem dX10_rise_8 : decode cX10_rise 8 = .ok (.iload_n 3, 1) := by decide +kernel
theorem dX10_rise_9 : decode cX10_rise 9 = .ok (.if_icmp .ge 75, 3) := by decide +kernel
theorem dX10_rise_12 : decode cX10_rise 12 = .ok (.iload 4, 2) := by decide +kernel
theorem dX10_rise_14 : decode cX10_rise 14 = .ok (.ifCond .le 70, 3) := by decide +kernel
theorem dX10_rise_17 : decode cX10_rise 17 = .ok (.bipush 10, 2) := by decide +kernel
theorem dX10_rise_19 : decode cX10_rise 19 = .ok (.aload_n 0, 1) := by decide +kernel
theorem dX10_rise_20 : decode cX10_rise 20 = .ok (.getfield 10, 3) := by decide +kernel
theorem dX10_rise_23 : decode cX10_rise 23 = .ok (.iload_n 1, 1) := by decide +kernel
theorem dX10_rise_24 : decode cX10_rise 24 = .ok (.iload 8, 2) := by decide +kernel
theorem dX10_rise_26 : decode cX10_rise 26 = .ok (.invokevirtual 122, 3) := by decide +kernel
theorem dX10_rise_29 : decode cX10_rise 29 = .ok (.iload 5, 2) := by decide +kernel
theorem dX10_rise_31 : decode cX10_rise 31 = .ok (.isub, 1) := by decide +kernel
theorem dX10_rise_32 : decode cX10_rise 32 = .ok (.imul, 1) := by decide +kernel
theorem dX10_rise_33 : decode cX10_rise 33 = .ok (.istore 9, 2) := by decide +kernel
theorem dX10_rise_35 : decode cX10_rise 35 = .ok (.iload 7, 2) := by decide +kernel
theorem dX10_rise_37 : decode cX10_rise 37 = .ok (.iconst (-1), 1) := by decide +kernel
theorem dX10_rise_38 : decode cX10_rise 38 = .ok (.if_icmp .ne 17, 3) := by decide +kernel
theorem dX10_rise_41 : decode cX10_rise 41 = .ok (.iload 9, 2) := by decide +kernel
theorem dX10_rise_43 : decode cX10_rise 43 = .ok (.iload 6, 2) := by decide +kernel
theorem dX10_rise_45 : decode cX10_rise 45 = .ok (.iload 5, 2) := by decide +kernel
theorem dX10_rise_47 : decode cX10_rise 47 = .ok (.isub, 1) := by decide +kernel
theorem dX10_rise_48 : decode cX10_rise 48 = .ok (.if_icmp .lt 7, 3) := by decide +kernel
theorem dX10_rise_51 : decode cX10_rise 51 = .ok (.iload 8, 2) := by decide +kernel
theorem dX10_rise_53 : decode cX10_rise 53 = .ok (.istore 7, 2) := by decide +kernel
theorem dX10_rise_55 : decode cX10_rise 55 = .ok (.iload 9, 2) := by decide +kernel
theorem dX10_rise_57 : decode cX10_rise 57 = .ok (.bipush 9, 2) := by decide +kernel
theorem dX10_rise_59 : decode cX10_rise 59 = .ok (.iload 6, 2) := by decide +kernel
theorem dX10_rise_61 : decode cX10_rise 61 = .ok (.iload 5, 2) := by decide +kernel
theorem dX10_rise_63 : decode cX10_rise 63 = .ok (.isub, 1) := by decide +kernel
theorem dX10_rise_64 : decode cX10_rise 64 = .ok (.imul, 1) := by decide +kernel
theorem dX10_rise_65 : decode cX10_rise 65 = .ok (.if_icmp .lt 9, 3) := by decide +kernel
theorem dX10_rise_68 : decode cX10_rise 68 = .ok (.iload 8, 2) := by decide +kernel
theorem dX10_rise_70 : decode cX10_rise 70 = .ok (.iload 7, 2) := by decide +kernel
theorem dX10_rise_72 : decode cX10_rise 72 = .ok (.isub, 1) := by decide +kernel
theorem dX10_rise_73 : decode cX10_rise 73 = .ok (.ireturn, 1) := by decide +kernel
theorem dX10_rise_74 : decode cX10_rise 74 = .ok (.iload 8, 2) := by decide +kernel
theorem dX10_rise_76 : decode cX10_rise 76 = .ok (.iload 4, 2) := by decide +kernel
theorem dX10_rise_78 : decode cX10_rise 78 = .ok (.iadd, 1) := by decide +kernel
theorem dX10_rise_79 : decode cX10_rise 79 = .ok (.istore 8, 2) := by decide +kernel
theorem dX10_rise_81 : decode cX10_rise 81 = .ok (.goto (-75), 3) := by decide +kernel
theorem dX10_rise_84 : decode cX10_rise 84 = .ok (.ldc 101, 2) := by decide +kernel
theorem dX10_rise_86 : decode cX10_rise 86 = .ok (.ireturn, 1) := by decide +kernel
theorem dX10_leastRise_0 : decode cX10_leastRise 0 = .ok (.iload_n 1, 1) := by decide +kernel
theorem dX10_leastRise_1 : decode cX10_leastRise 1 = .ok (.ldc 101, 2) := by decide +kernel
theorem dX10_leastRise_3 : decode cX10_leastRise 3 = .ok (.if_icmp .ne 8, 3) := by decide +kernel
theorem dX10_leastRise_6 : decode cX10_leastRise 6 = .ok (.ldc 101, 2) := by decide +kernel
theorem dX10_leastRise_8 : decode cX10_leastRise 8 = .ok (.goto 18, 3) := by decide +kernel
theorem dX10_leastRise_11 : decode cX10_leastRise 11 = .ok (.iconst 0, 1) := by decide +kernel
theorem dX10_leastRise_12 : decode cX10_leastRise 12 = .ok (.iload_n 1, 1) := by decide +kernel
theorem dX10_leastRise_13 : decode cX10_leastRise 13 = .ok (.aload_n 0, 1) := by decide +kernel
theorem dX10_leastRise_14 : decode cX10_leastRise 14 = .ok (.getfield 20, 3) := by decide +kernel
theorem dX10_leastRise_17 : decode cX10_leastRise 17 = .ok (.getfield 126, 3) := by decide +kernel
theorem dX10_leastRise_20 : decode cX10_leastRise 20 = .ok (.isub, 1) := by decide +kernel
theorem dX10_leastRise_21 : decode cX10_leastRise 21 = .ok (.iconst 1, 1) := by decide +kernel
theorem dX10_leastRise_22 : decode cX10_leastRise 22 = .ok (.iadd, 1) := by decide +kernel
theorem dX10_leastRise_23 : decode cX10_leastRise 23 = .ok (.invokestatic 202, 3) := by decide +kernel
theorem dX10_leastRise_26 : decode cX10_leastRise 26 = .ok (.ireturn, 1) := by decide +kernel
theorem dX10_greatestRise_0 : decode cX10_greatestRise 0 = .ok (.iload_n 1, 1) := by decide +kernel
theorem dX10_greatestRise_1 : decode cX10_greatestRise 1 = .ok (.ldc 101, 2) := by decide +kernel
theorem dX10_greatestRise_3 : decode cX10_greatestRise 3 = .ok (.if_icmp .ne 8, 3) := by decide +kernel
theorem dX10_greatestRise_6 : decode cX10_greatestRise 6 = .ok (.ldc 101, 2) := by decide +kernel
theorem dX10_greatestRise_8 : decode cX10_greatestRise 8 = .ok (.goto 14, 3) := by decide +kernel
theorem dX10_greatestRise_11 : decode cX10_greatestRise 11 = .ok (.iload_n 1, 1) := by decide +kernel
theorem dX10_greatestRise_12 : decode cX10_greatestRise 12 = .ok (.aload_n 0, 1) := by decide +kernel
theorem dX10_greatestRise_13 : decode cX10_greatestRise 13 = .ok (.getfield 20, 3) := by decide +kernel
theorem dX10_greatestRise_16 : decode cX10_greatestRise 16 = .ok (.getfield 126, 3) := by decide +kernel
theorem dX10_greatestRise_19 : decode cX10_greatestRise 19 = .ok (.iadd, 1) := by decide +kernel
theorem dX10_greatestRise_20 : decode cX10_greatestRise 20 = .ok (.iconst 1, 1) := by decide +kernel
theorem dX10_greatestRise_21 : decode cX10_greatestRise 21 = .ok (.isub, 1) := by decide +kernel
theorem dX10_greatestRise_22 : decode cX10_greatestRise 22 = .ok (.ireturn, 1) := by decide +kernel
theorem dX10_parting_0 : decode cX10_parting 0 = .ok (.iload_n 1, 1) := by decide +kernel
theorem dX10_parting_1 : decode cX10_parting 1 = .ok (.invokestatic 77, 3) := by decide +kernel
theorem dX10_parting_4 : decode cX10_parting 4 = .ok (.ifCond .eq 27, 3) := by decide +kernel
theorem dX10_parting_7 : decode cX10_parting 7 = .ok (.iload_n 2, 1) := by decide +kernel
theorem dX10_parting_8 : decode cX10_parting 8 = .ok (.invokestatic 77, 3) := by decide +kernel
theorem dX10_parting_11 : decode cX10_parting 11 = .ok (.ifCond .eq 20, 3) := by decide +kernel
theorem dX10_parting_14 : decode cX10_parting 14 = .ok (.iload_n 3, 1) := by decide +kernel
theorem dX10_parting_15 : decode cX10_parting 15 = .ok (.invokestatic 165, 3) := by decide +kernel
theorem dX10_parting_18 : decode cX10_parting 18 = .ok (.ifCond .eq 13, 3) := by decide +kernel
theorem dX10_parting_21 : decode cX10_parting 21 = .ok (.iload 4, 2) := by decide +kernel
theorem dX10_parting_23 : decode cX10_parting 23 = .ok (.iconst 0, 1) := by decide +kernel
theorem dX10_parting_24 : decode cX10_parting 24 = .ok (.iconst 1, 1) := by decide +kernel
theorem dX10_parting_25 : decode cX10_parting 25 = .ok (.invokestatic 81, 3) := by decide +kernel
theorem dX10_parting_28 : decode cX10_parting 28 = .ok (.ifCond .ne 5, 3) := by decide +kernel
theorem dX10_parting_31 : decode cX10_parting 31 = .ok (.iconst (-1), 1) := by decide +kernel
theorem dX10_parting_32 : decode cX10_parting 32 = .ok (.ireturn, 1) := by decide +kernel
theorem dX10_parting_33 : decode cX10_parting 33 = .ok (.aload_n 0, 1) := by decide +kernel
theorem dX10_parting_34 : decode cX10_parting 34 = .ok (.getfield 20, 3) := by decide +kernel
theorem dX10_parting_37 : decode cX10_parting 37 = .ok (.getfield 126, 3) := by decide +kernel
theorem dX10_parting_40 : decode cX10_parting 40 = .ok (.istore 5, 2) := by decide +kernel
theorem dX10_parting_42 : decode cX10_parting 42 = .ok (.aload_n 0, 1) := by decide +kernel
theorem dX10_parting_43 : decode cX10_parting 43 = .ok (.getfield 20, 3) := by decide +kernel
theorem dX10_parting_46 : decode cX10_parting 46 = .ok (.getfield 109, 3) := by decide +kernel
theorem dX10_parting_49 : decode cX10_parting 49 = .ok (.iconst 0, 1) := by decide +kernel
theorem dX10_parting_50 : decode cX10_parting 50 = .ok (.aaload, 1) := by decide +kernel
theorem dX10_parting_51 : decode cX10_parting 51 = .ok (.getfield 272, 3) := by decide +kernel
theorem dX10_parting_54 : decode cX10_parting 54 = .ok (.istore 6, 2) := by decide +kernel
theorem dX10_parting_56 : decode cX10_parting 56 = .ok (.iconst (-1), 1) := by decide +kernel
theorem dX10_parting_57 : decode cX10_parting 57 = .ok (.istore 7, 2) := by decide +kernel
theorem dX10_parting_59 : decode cX10_parting 59 = .ok (.iconst (-1), 1) := by decide +kernel
theorem dX10_parting_60 : decode cX10_parting 60 = .ok (.istore 8, 2) := by decide +kernel
theorem dX10_parting_62 : decode cX10_parting 62 = .ok (.iconst 1, 1) := by decide +kernel
theorem dX10_parting_63 : decode cX10_parting 63 = .ok (.istore 9, 2) := by decide +kernel
theorem dX10_parting_65 : decode cX10_parting 65 = .ok (.iload 9, 2) := by decide +kernel
theorem dX10_parting_67 : decode cX10_parting 67 = .ok (.bipush 20, 2) := by decide +kernel
theorem dX10_parting_69 : decode cX10_parting 69 = .ok (.if_icmp .gt 117, 3) := by decide +kernel
theorem dX10_parting_72 : decode cX10_parting 72 = .ok (.aload_n 0, 1) := by decide +kernel
theorem dX10_parting_73 : decode cX10_parting 73 = .ok (.getfield 20, 3) := by decide +kernel
theorem dX10_parting_76 : decode cX10_parting 76 = .ok (.iload 9, 2) := by decide +kernel
theorem dX10_parting_78 : decode cX10_parting 78 = .ok (.putfield 126, 3) := by decide +kernel
theorem dX10_parting_81 : decode cX10_parting 81 = .ok (.aload_n 0, 1) := by decide +kernel
theorem dX10_parting_82 : decode cX10_parting 82 = .ok (.getfield 20, 3) := by decide +kernel
theorem dX10_parting_85 : decode cX10_parting 85 = .ok (.getfield 109, 3) := by decide +kernel
theorem dX10_parting_88 : decode cX10_parting 88 = .ok (.iconst 0, 1) := by decide +kernel
theorem dX10_parting_89 : decode cX10_parting 89 = .ok (.aaload, 1) := by decide +kernel
theorem dX10_parting_90 : decode cX10_parting 90 = .ok (.iload_n 1, 1) := by decide +kernel
theorem dX10_parting_91 : decode cX10_parting 91 = .ok (.putfield 272, 3) := by decide +kernel
theorem dX10_parting_94 : decode cX10_parting 94 = .ok (.aload_n 0, 1) := by decide +kernel
theorem dX10_parting_95 : decode cX10_parting 95 = .ok (.getfield 10, 3) := by decide +kernel
theorem dX10_parting_98 : decode cX10_parting 98 = .ok (.invokevirtual 98, 3) := by decide +kernel
theorem dX10_parting_101 : decode cX10_parting 101 = .ok (.aload_n 0, 1) := by decide +kernel
theorem dX10_parting_102 : decode cX10_parting 102 = .ok (.getfield 10, 3) := by decide +kernel
theorem dX10_parting_105 : decode cX10_parting 105 = .ok (.aload_n 0, 1) := by decide +kernel
theorem dX10_parting_106 : decode cX10_parting 106 = .ok (.getfield 50, 3) := by decide +kernel
theorem dX10_parting_109 : decode cX10_parting 109 = .ok (.iload_n 3, 1) := by decide +kernel
theorem dX10_parting_110 : decode cX10_parting 110 = .ok (.invokevirtual 180, 3) := by decide +kernel
theorem dX10_parting_113 : decode cX10_parting 113 = .ok (.aload_n 0, 1) := by decide +kernel
theorem dX10_parting_114 : decode cX10_parting 114 = .ok (.iconst 1, 1) := by decide +kernel
theorem dX10_parting_115 : decode cX10_parting 115 = .ok (.aload_n 0, 1) := by decide +kernel
theorem dX10_parting_116 : decode cX10_parting 116 = .ok (.getfield 64, 3) := by decide +kernel
theorem dX10_parting_119 : decode cX10_parting 119 = .ok (.invokevirtual 229, 3) := by decide +kernel
theorem dX10_parting_122 : decode cX10_parting 122 = .ok (.aload_n 0, 1) := by decide +kernel
theorem dX10_parting_123 : decode cX10_parting 123 = .ok (.getfield 20, 3) := by decide +kernel
theorem dX10_parting_126 : decode cX10_parting 126 = .ok (.getfield 109, 3) := by decide +kernel
theorem dX10_parting_129 : decode cX10_parting 129 = .ok (.iconst 0, 1) := by decide +kernel
theorem dX10_parting_130 : decode cX10_parting 130 = .ok (.aaload, 1) := by decide +kernel
theorem dX10_parting_131 : decode cX10_parting 131 = .ok (.iload_n 2, 1) := by decide +kernel
theorem dX10_parting_132 : decode cX10_parting 132 = .ok (.putfield 272, 3) := by decide +kernel
theorem dX10_parting_135 : decode cX10_parting 135 = .ok (.aload_n 0, 1) := by decide +kernel
theorem dX10_parting_136 : decode cX10_parting 136 = .ok (.getfield 10, 3) := by decide +kernel
theorem dX10_parting_139 : decode cX10_parting 139 = .ok (.invokevirtual 98, 3) := by decide +kernel
theorem dX10_parting_142 : decode cX10_parting 142 = .ok (.aload_n 0, 1) := by decide +kernel
theorem dX10_parting_143 : decode cX10_parting 143 = .ok (.getfield 10, 3) := by decide +kernel
theorem dX10_parting_146 : decode cX10_parting 146 = .ok (.aload_n 0, 1) := by decide +kernel
theorem dX10_parting_147 : decode cX10_parting 147 = .ok (.getfield 50, 3) := by decide +kernel
theorem dX10_parting_150 : decode cX10_parting 150 = .ok (.iload_n 3, 1) := by decide +kernel
theorem dX10_parting_151 : decode cX10_parting 151 = .ok (.invokevirtual 180, 3) := by decide +kernel
theorem dX10_parting_154 : decode cX10_parting 154 = .ok (.aload_n 0, 1) := by decide +kernel
theorem dX10_parting_155 : decode cX10_parting 155 = .ok (.aload_n 0, 1) := by decide +kernel
theorem dX10_parting_156 : decode cX10_parting 156 = .ok (.getfield 64, 3) := by decide +kernel
theorem dX10_parting_159 : decode cX10_parting 159 = .ok (.iconst 1, 1) := by decide +kernel
theorem dX10_parting_160 : decode cX10_parting 160 = .ok (.invokevirtual 239, 3) := by decide +kernel
theorem dX10_parting_163 : decode cX10_parting 163 = .ok (.istore 10, 2) := by decide +kernel
theorem dX10_parting_165 : decode cX10_parting 165 = .ok (.iload 10, 2) := by decide +kernel
theorem dX10_parting_167 : decode cX10_parting 167 = .ok (.iload 8, 2) := by decide +kernel
theorem dX10_parting_169 : decode cX10_parting 169 = .ok (.if_icmp .le 11, 3) := by decide +kernel
theorem dX10_parting_172 : decode cX10_parting 172 = .ok (.iload 10, 2) := by decide +kernel
theorem dX10_parting_174 : decode cX10_parting 174 = .ok (.istore 8, 2) := by decide +kernel
theorem dX10_parting_176 : decode cX10_parting 176 = .ok (.iload 9, 2) := by decide +kernel
theorem dX10_parting_178 : decode cX10_parting 178 = .ok (.istore 7, 2) := by decide +kernel
theorem dX10_parting_180 : decode cX10_parting 180 = .ok (.iinc 9 1, 3) := by decide +kernel
theorem dX10_parting_183 : decode cX10_parting 183 = .ok (.goto (-118), 3) := by decide +kernel
theorem dX10_parting_186 : decode cX10_parting 186 = .ok (.aload_n 0, 1) := by decide +kernel
theorem dX10_parting_187 : decode cX10_parting 187 = .ok (.getfield 20, 3) := by decide +kernel
theorem dX10_parting_190 : decode cX10_parting 190 = .ok (.iload 5, 2) := by decide +kernel
theorem dX10_parting_192 : decode cX10_parting 192 = .ok (.putfield 126, 3) := by decide +kernel
theorem dX10_parting_195 : decode cX10_parting 195 = .ok (.aload_n 0, 1) := by decide +kernel
theorem dX10_parting_196 : decode cX10_parting 196 = .ok (.getfield 20, 3) := by decide +kernel
theorem dX10_parting_199 : decode cX10_parting 199 = .ok (.getfield 109, 3) := by decide +kernel
theorem dX10_parting_202 : decode cX10_parting 202 = .ok (.iconst 0, 1) := by decide +kernel
theorem dX10_parting_203 : decode cX10_parting 203 = .ok (.aaload, 1) := by decide +kernel
theorem dX10_parting_204 : decode cX10_parting 204 = .ok (.iload 6, 2) := by decide +kernel
theorem dX10_parting_206 : decode cX10_parting 206 = .ok (.putfield 272, 3) := by decide +kernel
theorem dX10_parting_209 : decode cX10_parting 209 = .ok (.aload_n 0, 1) := by decide +kernel
theorem dX10_parting_210 : decode cX10_parting 210 = .ok (.getfield 10, 3) := by decide +kernel
theorem dX10_parting_213 : decode cX10_parting 213 = .ok (.invokevirtual 98, 3) := by decide +kernel
theorem dX10_parting_216 : decode cX10_parting 216 = .ok (.iload 4, 2) := by decide +kernel
theorem dX10_parting_218 : decode cX10_parting 218 = .ok (.ifCond .ne 8, 3) := by decide +kernel
theorem dX10_parting_221 : decode cX10_parting 221 = .ok (.iload 7, 2) := by decide +kernel
theorem dX10_parting_223 : decode cX10_parting 223 = .ok (.goto 5, 3) := by decide +kernel
theorem dX10_parting_226 : decode cX10_parting 226 = .ok (.iload 8, 2) := by decide +kernel
theorem dX10_parting_228 : decode cX10_parting 228 = .ok (.ireturn, 1) := by decide +kernel
theorem dX10_image_0 : decode cX10_image 0 = .ok (.aload_n 0, 1) := by decide +kernel
theorem dX10_image_1 : decode cX10_image 1 = .ok (.getfield 24, 3) := by decide +kernel
theorem dX10_image_4 : decode cX10_image 4 = .ok (.aload_n 0, 1) := by decide +kernel
theorem dX10_image_5 : decode cX10_image 5 = .ok (.getfield 20, 3) := by decide +kernel
theorem dX10_image_8 : decode cX10_image 8 = .ok (.invokevirtual 275, 3) := by decide +kernel
theorem dX10_image_11 : decode cX10_image 11 = .ok (.aload_n 0, 1) := by decide +kernel
theorem dX10_image_12 : decode cX10_image 12 = .ok (.getfield 20, 3) := by decide +kernel
theorem dX10_image_15 : decode cX10_image 15 = .ok (.getfield 145, 3) := by decide +kernel
theorem dX10_image_18 : decode cX10_image 18 = .ok (.ireturn, 1) := by decide +kernel
theorem dX10_back_0 : decode cX10_back 0 = .ok (.aload_n 0, 1) := by decide +kernel
theorem dX10_back_1 : decode cX10_back 1 = .ok (.getfield 20, 3) := by decide +kernel
theorem dX10_back_4 : decode cX10_back 4 = .ok (.aload_n 0, 1) := by decide +kernel
theorem dX10_back_5 : decode cX10_back 5 = .ok (.getfield 24, 3) := by decide +kernel
theorem dX10_back_8 : decode cX10_back 8 = .ok (.invokevirtual 275, 3) := by decide +kernel
theorem dX10_back_11 : decode cX10_back 11 = .ok (.aload_n 0, 1) := by decide +kernel
theorem dX10_back_12 : decode cX10_back 12 = .ok (.getfield 10, 3) := by decide +kernel
theorem dX10_back_15 : decode cX10_back 15 = .ok (.invokevirtual 98, 3) := by decide +kernel
theorem dX10_back_18 : decode cX10_back 18 = .ok (.aload_n 0, 1) := by decide +kernel
theorem dX10_back_19 : decode cX10_back 19 = .ok (.getfield 20, 3) := by decide +kernel
theorem dX10_back_22 : decode cX10_back 22 = .ok (.getfield 145, 3) := by decide +kernel
theorem dX10_back_25 : decode cX10_back 25 = .ok (.ireturn, 1) := by decide +kernel
theorem dX10_about_0 : decode cX10_about 0 = .ok (.iload_n 1, 1) := by decide +kernel
theorem dX10_about_1 : decode cX10_about 1 = .ok (.tableswitch 108 0 7 #[47, 55, 63, 71, 79, 87, 95, 103], 47) := by decide +kernel
theorem dX10_about_48 : decode cX10_about 48 = .ok (.aload_n 0, 1) := by decide +kernel
theorem dX10_about_49 : decode cX10_about 49 = .ok (.getfield 20, 3) := by decide +kernel
theorem dX10_about_52 : decode cX10_about 52 = .ok (.getfield 145, 3) := by decide +kernel
theorem dX10_about_55 : decode cX10_about 55 = .ok (.ireturn, 1) := by decide +kernel
theorem dX10_about_56 : decode cX10_about 56 = .ok (.aload_n 0, 1) := by decide +kernel
theorem dX10_about_57 : decode cX10_about 57 = .ok (.getfield 20, 3) := by decide +kernel
theorem dX10_about_60 : decode cX10_about 60 = .ok (.getfield 162, 3) := by decide +kernel
theorem dX10_about_63 : decode cX10_about 63 = .ok (.ireturn, 1) := by decide +kernel
theorem dX10_about_64 : decode cX10_about 64 = .ok (.aload_n 0, 1) := by decide +kernel
theorem dX10_about_65 : decode cX10_about 65 = .ok (.getfield 20, 3) := by decide +kernel
theorem dX10_about_68 : decode cX10_about 68 = .ok (.getfield 126, 3) := by decide +kernel
theorem dX10_about_71 : decode cX10_about 71 = .ok (.ireturn, 1) := by decide +kernel
theorem dX10_about_72 : decode cX10_about 72 = .ok (.aload_n 0, 1) := by decide +kernel
theorem dX10_about_73 : decode cX10_about 73 = .ok (.getfield 20, 3) := by decide +kernel
theorem dX10_about_76 : decode cX10_about 76 = .ok (.getfield 129, 3) := by decide +kernel
theorem dX10_about_79 : decode cX10_about 79 = .ok (.ireturn, 1) := by decide +kernel
theorem dX10_about_80 : decode cX10_about 80 = .ok (.aload_n 0, 1) := by decide +kernel
theorem dX10_about_81 : decode cX10_about 81 = .ok (.getfield 20, 3) := by decide +kernel
theorem dX10_about_84 : decode cX10_about 84 = .ok (.getfield 132, 3) := by decide +kernel
theorem dX10_about_87 : decode cX10_about 87 = .ok (.ireturn, 1) := by decide +kernel
theorem dX10_about_88 : decode cX10_about 88 = .ok (.aload_n 0, 1) := by decide +kernel
theorem dX10_about_89 : decode cX10_about 89 = .ok (.getfield 20, 3) := by decide +kernel
theorem dX10_about_92 : decode cX10_about 92 = .ok (.getfield 135, 3) := by decide +kernel
theorem dX10_about_95 : decode cX10_about 95 = .ok (.ireturn, 1) := by decide +kernel
theorem dX10_about_96 : decode cX10_about 96 = .ok (.aload_n 0, 1) := by decide +kernel
theorem dX10_about_97 : decode cX10_about 97 = .ok (.getfield 20, 3) := by decide +kernel
theorem dX10_about_100 : decode cX10_about 100 = .ok (.getfield 138, 3) := by decide +kernel
theorem dX10_about_103 : decode cX10_about 103 = .ok (.ireturn, 1) := by decide +kernel
theorem dX10_about_104 : decode cX10_about 104 = .ok (.aload_n 0, 1) := by decide +kernel
theorem dX10_about_105 : decode cX10_about 105 = .ok (.getfield 67, 3) := by decide +kernel
theorem dX10_about_108 : decode cX10_about 108 = .ok (.ireturn, 1) := by decide +kernel
theorem dX10_about_109 : decode cX10_about 109 = .ok (.aload_n 0, 1) := by decide +kernel
theorem dX10_about_110 : decode cX10_about 110 = .ok (.iload_n 1, 1) := by decide +kernel
theorem dX10_about_111 : decode cX10_about 111 = .ok (.invokevirtual 279, 3) := by decide +kernel
theorem dX10_about_114 : decode cX10_about 114 = .ok (.ireturn, 1) := by decide +kernel
theorem dX10_aboutInputs_0 : decode cX10_aboutInputs 0 = .ok (.iload_n 1, 1) := by decide +kernel
theorem dX10_aboutInputs_1 : decode cX10_aboutInputs 1 = .ok (.bipush 10, 2) := by decide +kernel
theorem dX10_aboutInputs_3 : decode cX10_aboutInputs 3 = .ok (.bipush 11, 2) := by decide +kernel
theorem dX10_aboutInputs_5 : decode cX10_aboutInputs 5 = .ok (.invokestatic 81, 3) := by decide +kernel
theorem dX10_aboutInputs_8 : decode cX10_aboutInputs 8 = .ok (.ifCond .eq 19, 3) := by decide +kernel
theorem dX10_aboutInputs_11 : decode cX10_aboutInputs 11 = .ok (.aload_n 0, 1) := by decide +kernel
theorem dX10_aboutInputs_12 : decode cX10_aboutInputs 12 = .ok (.getfield 20, 3) := by decide +kernel
theorem dX10_aboutInputs_15 : decode cX10_aboutInputs 15 = .ok (.getfield 109, 3) := by decide +kernel
theorem dX10_aboutInputs_18 : decode cX10_aboutInputs 18 = .ok (.iload_n 1, 1) := by decide +kernel
theorem dX10_aboutInputs_19 : decode cX10_aboutInputs 19 = .ok (.bipush 10, 2) := by decide +kernel
theorem dX10_aboutInputs_21 : decode cX10_aboutInputs 21 = .ok (.isub, 1) := by decide +kernel
theorem dX10_aboutInputs_22 : decode cX10_aboutInputs 22 = .ok (.aaload, 1) := by decide +kernel
theorem dX10_aboutInputs_23 : decode cX10_aboutInputs 23 = .ok (.getfield 272, 3) := by decide +kernel
theorem dX10_aboutInputs_26 : decode cX10_aboutInputs 26 = .ok (.ireturn, 1) := by decide +kernel
theorem dX10_aboutInputs_27 : decode cX10_aboutInputs 27 = .ok (.iload_n 1, 1) := by decide +kernel
theorem dX10_aboutInputs_28 : decode cX10_aboutInputs 28 = .ok (.bipush 12, 2) := by decide +kernel
theorem dX10_aboutInputs_30 : decode cX10_aboutInputs 30 = .ok (.bipush 13, 2) := by decide +kernel
theorem dX10_aboutInputs_32 : decode cX10_aboutInputs 32 = .ok (.invokestatic 81, 3) := by decide +kernel
theorem dX10_aboutInputs_35 : decode cX10_aboutInputs 35 = .ok (.ifCond .eq 19, 3) := by decide +kernel
theorem dX10_aboutInputs_38 : decode cX10_aboutInputs 38 = .ok (.aload_n 0, 1) := by decide +kernel
theorem dX10_aboutInputs_39 : decode cX10_aboutInputs 39 = .ok (.getfield 20, 3) := by decide +kernel
theorem dX10_aboutInputs_42 : decode cX10_aboutInputs 42 = .ok (.getfield 109, 3) := by decide +kernel
theorem dX10_aboutInputs_45 : decode cX10_aboutInputs 45 = .ok (.iload_n 1, 1) := by decide +kernel
theorem dX10_aboutInputs_46 : decode cX10_aboutInputs 46 = .ok (.bipush 12, 2) := by decide +kernel
theorem dX10_aboutInputs_48 : decode cX10_aboutInputs 48 = .ok (.isub, 1) := by decide +kernel
theorem dX10_aboutInputs_49 : decode cX10_aboutInputs 49 = .ok (.aaload, 1) := by decide +kernel
theorem dX10_aboutInputs_50 : decode cX10_aboutInputs 50 = .ok (.getfield 233, 3) := by decide +kernel
theorem dX10_aboutInputs_53 : decode cX10_aboutInputs 53 = .ok (.ireturn, 1) := by decide +kernel
theorem dX10_aboutInputs_54 : decode cX10_aboutInputs 54 = .ok (.iload_n 1, 1) := by decide +kernel
theorem dX10_aboutInputs_55 : decode cX10_aboutInputs 55 = .ok (.bipush 14, 2) := by decide +kernel
theorem dX10_aboutInputs_57 : decode cX10_aboutInputs 57 = .ok (.bipush 15, 2) := by decide +kernel
theorem dX10_aboutInputs_59 : decode cX10_aboutInputs 59 = .ok (.invokestatic 81, 3) := by decide +kernel
theorem dX10_aboutInputs_62 : decode cX10_aboutInputs 62 = .ok (.ifCond .eq 19, 3) := by decide +kernel
theorem dX10_aboutInputs_65 : decode cX10_aboutInputs 65 = .ok (.aload_n 0, 1) := by decide +kernel
theorem dX10_aboutInputs_66 : decode cX10_aboutInputs 66 = .ok (.getfield 20, 3) := by decide +kernel
theorem dX10_aboutInputs_69 : decode cX10_aboutInputs 69 = .ok (.getfield 109, 3) := by decide +kernel
theorem dX10_aboutInputs_72 : decode cX10_aboutInputs 72 = .ok (.iload_n 1, 1) := by decide +kernel
theorem dX10_aboutInputs_73 : decode cX10_aboutInputs 73 = .ok (.bipush 14, 2) := by decide +kernel
theorem dX10_aboutInputs_75 : decode cX10_aboutInputs 75 = .ok (.isub, 1) := by decide +kernel
theorem dX10_aboutInputs_76 : decode cX10_aboutInputs 76 = .ok (.aaload, 1) := by decide +kernel
theorem dX10_aboutInputs_77 : decode cX10_aboutInputs 77 = .ok (.getfield 282, 3) := by decide +kernel
theorem dX10_aboutInputs_80 : decode cX10_aboutInputs 80 = .ok (.ireturn, 1) := by decide +kernel
theorem dX10_aboutInputs_81 : decode cX10_aboutInputs 81 = .ok (.iload_n 1, 1) := by decide +kernel
theorem dX10_aboutInputs_82 : decode cX10_aboutInputs 82 = .ok (.bipush 20, 2) := by decide +kernel
theorem dX10_aboutInputs_84 : decode cX10_aboutInputs 84 = .ok (.bipush 23, 2) := by decide +kernel
theorem dX10_aboutInputs_86 : decode cX10_aboutInputs 86 = .ok (.invokestatic 81, 3) := by decide +kernel
theorem dX10_aboutInputs_89 : decode cX10_aboutInputs 89 = .ok (.ifCond .eq 21, 3) := by decide +kernel
theorem dX10_aboutInputs_92 : decode cX10_aboutInputs 92 = .ok (.aload_n 0, 1) := by decide +kernel
theorem dX10_aboutInputs_93 : decode cX10_aboutInputs 93 = .ok (.getfield 20, 3) := by decide +kernel
theorem dX10_aboutInputs_96 : decode cX10_aboutInputs 96 = .ok (.getfield 85, 3) := by decide +kernel
theorem dX10_aboutInputs_99 : decode cX10_aboutInputs 99 = .ok (.iload_n 1, 1) := by decide +kernel
theorem dX10_aboutInputs_100 : decode cX10_aboutInputs 100 = .ok (.bipush 20, 2) := by decide +kernel
theorem dX10_aboutInputs_102 : decode cX10_aboutInputs 102 = .ok (.isub, 1) := by decide +kernel
theorem dX10_aboutInputs_103 : decode cX10_aboutInputs 103 = .ok (.aaload, 1) := by decide +kernel
theorem dX10_aboutInputs_104 : decode cX10_aboutInputs 104 = .ok (.getfield 89, 3) := by decide +kernel
theorem dX10_aboutInputs_107 : decode cX10_aboutInputs 107 = .ok (.goto 4, 3) := by decide +kernel
theorem dX10_aboutInputs_110 : decode cX10_aboutInputs 110 = .ok (.iconst (-1), 1) := by decide +kernel
theorem dX10_aboutInputs_111 : decode cX10_aboutInputs 111 = .ok (.ireturn, 1) := by decide +kernel
theorem dX10_within_0 : decode cX10_within 0 = .ok (.iload_n 1, 1) := by decide +kernel
theorem dX10_within_1 : decode cX10_within 1 = .ok (.iload_n 0, 1) := by decide +kernel
theorem dX10_within_2 : decode cX10_within 2 = .ok (.if_icmp .gt 12, 3) := by decide +kernel
theorem dX10_within_5 : decode cX10_within 5 = .ok (.iload_n 0, 1) := by decide +kernel
theorem dX10_within_6 : decode cX10_within 6 = .ok (.iload_n 2, 1) := by decide +kernel
theorem dX10_within_7 : decode cX10_within 7 = .ok (.if_icmp .gt 7, 3) := by decide +kernel
theorem dX10_within_10 : decode cX10_within 10 = .ok (.iconst 1, 1) := by decide +kernel
theorem dX10_within_11 : decode cX10_within 11 = .ok (.goto 4, 3) := by decide +kernel
theorem dX10_within_14 : decode cX10_within 14 = .ok (.iconst 0, 1) := by decide +kernel
theorem dX10_within_15 : decode cX10_within 15 = .ok (.ireturn, 1) := by decide +kernel
theorem dX10_isSignal_0 : decode cX10_isSignal 0 = .ok (.iload_n 0, 1) := by decide +kernel
theorem dX10_isSignal_1 : decode cX10_isSignal 1 = .ok (.iconst 0, 1) := by decide +kernel
theorem dX10_isSignal_2 : decode cX10_isSignal 2 = .ok (.iconst 3, 1) := by decide +kernel
theorem dX10_isSignal_3 : decode cX10_isSignal 3 = .ok (.invokestatic 81, 3) := by decide +kernel
theorem dX10_isSignal_6 : decode cX10_isSignal 6 = .ok (.ireturn, 1) := by decide +kernel
theorem dX10_isChannel_0 : decode cX10_isChannel 0 = .ok (.iload_n 0, 1) := by decide +kernel
theorem dX10_isChannel_1 : decode cX10_isChannel 1 = .ok (.iconst 0, 1) := by decide +kernel
theorem dX10_isChannel_2 : decode cX10_isChannel 2 = .ok (.iconst 1, 1) := by decide +kernel
theorem dX10_isChannel_3 : decode cX10_isChannel 3 = .ok (.invokestatic 81, 3) := by decide +kernel
theorem dX10_isChannel_6 : decode cX10_isChannel 6 = .ok (.ireturn, 1) := by decide +kernel
theorem dX10_isSpan_0 : decode cX10_isSpan 0 = .ok (.iload_n 0, 1) := by decide +kernel
theorem dX10_isSpan_1 : decode cX10_isSpan 1 = .ok (.iconst 1, 1) := by decide +kernel
theorem dX10_isSpan_2 : decode cX10_isSpan 2 = .ok (.sipush 2000, 3) := by decide +kernel
theorem dX10_isSpan_5 : decode cX10_isSpan 5 = .ok (.invokestatic 81, 3) := by decide +kernel
theorem dX10_isSpan_8 : decode cX10_isSpan 8 = .ok (.ireturn, 1) := by decide +kernel
theorem dX11_init_0 : decode cX11_init 0 = .ok (.aload_n 0, 1) := by decide +kernel
theorem dX11_init_1 : decode cX11_init 1 = .ok (.invokespecial 1, 3) := by decide +kernel
theorem dX11_init_4 : decode cX11_init 4 = .ok (.aload_n 0, 1) := by decide +kernel
theorem dX11_init_5 : decode cX11_init 5 = .ok (.sipush 170, 3) := by decide +kernel
theorem dX11_init_8 : decode cX11_init 8 = .ok (.newarray .int, 2) := by decide +kernel
theorem dX11_init_10 : decode cX11_init 10 = .ok (.putfield 7, 3) := by decide +kernel
theorem dX11_init_13 : decode cX11_init 13 = .ok (.aload_n 0, 1) := by decide +kernel
theorem dX11_init_14 : decode cX11_init 14 = .ok (.sipush 170, 3) := by decide +kernel
theorem dX11_init_17 : decode cX11_init 17 = .ok (.newarray .int, 2) := by decide +kernel
theorem dX11_init_19 : decode cX11_init 19 = .ok (.putfield 13, 3) := by decide +kernel
theorem dX11_init_22 : decode cX11_init 22 = .ok (.aload_n 0, 1) := by decide +kernel
theorem dX11_init_23 : decode cX11_init 23 = .ok (.sipush 300, 3) := by decide +kernel
theorem dX11_init_26 : decode cX11_init 26 = .ok (.newarray .byte, 2) := by decide +kernel
theorem dX11_init_28 : decode cX11_init 28 = .ok (.putfield 16, 3) := by decide +kernel
theorem dX11_init_31 : decode cX11_init 31 = .ok (.aload_n 0, 1) := by decide +kernel
theorem dX11_init_32 : decode cX11_init 32 = .ok (.iconst (-1), 1) := by decide +kernel
theorem dX11_init_33 : decode cX11_init 33 = .ok (.putfield 20, 3) := by decide +kernel
theorem dX11_init_36 : decode cX11_init 36 = .ok (.aload_n 0, 1) := by decide +kernel
theorem dX11_init_37 : decode cX11_init 37 = .ok (.iconst (-1), 1) := by decide +kernel
theorem dX11_init_38 : decode cX11_init 38 = .ok (.putfield 24, 3) := by decide +kernel
theorem dX11_init_41 : decode cX11_init 41 = .ok (.aload_n 0, 1) := by decide +kernel
theorem dX11_init_42 : decode cX11_init 42 = .ok (.iconst 4, 1) := by decide +kernel
theorem dX11_init_43 : decode cX11_init 43 = .ok (.newarray .int, 2) := by decide +kernel
theorem dX11_init_45 : decode cX11_init 45 = .ok (.putfield 27, 3) := by decide +kernel
theorem dX11_init_48 : decode cX11_init 48 = .ok (.aload_n 0, 1) := by decide +kernel
theorem dX11_init_49 : decode cX11_init 49 = .ok (.bipush 40, 2) := by decide +kernel
theorem dX11_init_51 : decode cX11_init 51 = .ok (.newarray .int, 2) := by decide +kernel
theorem dX11_init_53 : decode cX11_init 53 = .ok (.putfield 30, 3) := by decide +kernel
theorem dX11_init_56 : decode cX11_init 56 = .ok (.aload_n 0, 1) := by decide +kernel
theorem dX11_init_57 : decode cX11_init 57 = .ok (.bipush 40, 2) := by decide +kernel
theorem dX11_init_59 : decode cX11_init 59 = .ok (.newarray .int, 2) := by decide +kernel
theorem dX11_init_61 : decode cX11_init 61 = .ok (.putfield 33, 3) := by decide +kernel
theorem dX11_init_64 : decode cX11_init 64 = .ok (.aload_n 0, 1) := by decide +kernel
theorem dX11_init_65 : decode cX11_init 65 = .ok (.sipush 1600, 3) := by decide +kernel
theorem dX11_init_68 : decode cX11_init 68 = .ok (.newarray .int, 2) := by decide +kernel
theorem dX11_init_70 : decode cX11_init 70 = .ok (.putfield 36, 3) := by decide +kernel
theorem dX11_init_73 : decode cX11_init 73 = .ok (.aload_n 0, 1) := by decide +kernel
theorem dX11_init_74 : decode cX11_init 74 = .ok (.sipush 1600, 3) := by decide +kernel
theorem dX11_init_77 : decode cX11_init 77 = .ok (.newarray .int, 2) := by decide +kernel
theorem dX11_init_79 : decode cX11_init 79 = .ok (.putfield 39, 3) := by decide +kernel
theorem dX11_init_82 : decode cX11_init 82 = .ok (.aload_n 0, 1) := by decide +kernel
theorem dX11_init_83 : decode cX11_init 83 = .ok (.sipush 4000, 3) := by decide +kernel
theorem dX11_init_86 : decode cX11_init 86 = .ok (.newarray .int, 2) := by decide +kernel
theorem dX11_init_88 : decode cX11_init 88 = .ok (.putfield 42, 3) := by decide +kernel
theorem dX11_init_91 : decode cX11_init 91 = .ok (.aload_n 0, 1) := by decide +kernel
theorem dX11_init_92 : decode cX11_init 92 = .ok (.bipush 40, 2) := by decide +kernel
theorem dX11_init_94 : decode cX11_init 94 = .ok (.newarray .int, 2) := by decide +kernel
theorem dX11_init_96 : decode cX11_init 96 = .ok (.putfield 45, 3) := by decide +kernel
theorem dX11_init_99 : decode cX11_init 99 = .ok (.aload_n 0, 1) := by decide +kernel
theorem dX11_init_100 : decode cX11_init 100 = .ok (.bipush 41, 2) := by decide +kernel
theorem dX11_init_102 : decode cX11_init 102 = .ok (.newarray .int, 2) := by decide +kernel
theorem dX11_init_104 : decode cX11_init 104 = .ok (.putfield 48, 3) := by decide +kernel
theorem dX11_init_107 : decode cX11_init 107 = .ok (.aload_n 0, 1) := by decide +kernel
theorem dX11_init_108 : decode cX11_init 108 = .ok (.bipush 80, 2) := by decide +kernel
theorem dX11_init_110 : decode cX11_init 110 = .ok (.newarray .int, 2) := by decide +kernel
theorem dX11_init_112 : decode cX11_init 112 = .ok (.putfield 51, 3) := by decide +kernel
theorem dX11_init_115 : decode cX11_init 115 = .ok (.aload_n 0, 1) := by decide +kernel
theorem dX11_init_116 : decode cX11_init 116 = .ok (.bipush 80, 2) := by decide +kernel
theorem dX11_init_118 : decode cX11_init 118 = .ok (.newarray .int, 2) := by decide +kernel
theorem dX11_init_120 : decode cX11_init 120 = .ok (.putfield 54, 3) := by decide +kernel
theorem dX11_init_123 : decode cX11_init 123 = .ok (.aload_n 0, 1) := by decide +kernel
theorem dX11_init_124 : decode cX11_init 124 = .ok (.bipush 10, 2) := by decide +kernel
theorem dX11_init_126 : decode cX11_init 126 = .ok (.newarray .int, 2) := by decide +kernel
theorem dX11_init_128 : decode cX11_init 128 = .ok (.putfield 57, 3) := by decide +kernel
theorem dX11_init_131 : decode cX11_init 131 = .ok (.aload_n 0, 1) := by decide +kernel
theorem dX11_init_132 : decode cX11_init 132 = .ok (.bipush 10, 2) := by decide +kernel
theorem dX11_init_134 : decode cX11_init 134 = .ok (.newarray .int, 2) := by decide +kernel
theorem dX11_init_136 : decode cX11_init 136 = .ok (.putfield 60, 3) := by decide +kernel
theorem dX11_init_139 : decode cX11_init 139 = .ok (.aload_n 0, 1) := by decide +kernel
theorem dX11_init_140 : decode cX11_init 140 = .ok (.sipush 400, 3) := by decide +kernel
theorem dX11_init_143 : decode cX11_init 143 = .ok (.newarray .int, 2) := by decide +kernel
theorem dX11_init_145 : decode cX11_init 145 = .ok (.putfield 63, 3) := by decide +kernel
theorem dX11_init_148 : decode cX11_init 148 = .ok (.aload_n 0, 1) := by decide +kernel
theorem dX11_init_149 : decode cX11_init 149 = .ok (.sipush 400, 3) := by decide +kernel
theorem dX11_init_152 : decode cX11_init 152 = .ok (.newarray .int, 2) := by decide +kernel
theorem dX11_init_154 : decode cX11_init 154 = .ok (.putfield 66, 3) := by decide +kernel
theorem dX11_init_157 : decode cX11_init 157 = .ok (.aload_n 0, 1) := by decide +kernel
theorem dX11_init_158 : decode cX11_init 158 = .ok (.bipush 7, 2) := by decide +kernel
theorem dX11_init_160 : decode cX11_init 160 = .ok (.newarray .int, 2) := by decide +kernel
theorem dX11_init_162 : decode cX11_init 162 = .ok (.putfield 69, 3) := by decide +kernel
theorem dX11_init_165 : decode cX11_init 165 = .ok (.aload_n 0, 1) := by decide +kernel
theorem dX11_init_166 : decode cX11_init 166 = .ok (.sipush 200, 3) := by decide +kernel
theorem dX11_init_169 : decode cX11_init 169 = .ok (.newarray .long, 2) := by decide +kernel
theorem dX11_init_171 : decode cX11_init 171 = .ok (.putfield 72, 3) := by decide +kernel
theorem dX11_init_174 : decode cX11_init 174 = .ok (.aload_n 0, 1) := by decide +kernel
theorem dX11_init_175 : decode cX11_init 175 = .ok (.bipush 120, 2) := by decide +kernel
theorem dX11_init_177 : decode cX11_init 177 = .ok (.newarray .int, 2) := by decide +kernel
theorem dX11_init_179 : decode cX11_init 179 = .ok (.putfield 76, 3) := by decide +kernel
theorem dX11_init_182 : decode cX11_init 182 = .ok (.aload_n 0, 1) := by decide +kernel
theorem dX11_init_183 : decode cX11_init 183 = .ok (.sipush 320, 3) := by decide +kernel
theorem dX11_init_186 : decode cX11_init 186 = .ok (.newarray .int, 2) := by decide +kernel
theorem dX11_init_188 : decode cX11_init 188 = .ok (.putfield 79, 3) := by decide +kernel
theorem dX11_init_191 : decode cX11_init 191 = .ok (.aload_n 0, 1) := by decide +kernel
theorem dX11_init_192 : decode cX11_init 192 = .ok (.bipush 20, 2) := by decide +kernel
theorem dX11_init_194 : decode cX11_init 194 = .ok (.newarray .int, 2) := by decide +kernel
theorem dX11_init_196 : decode cX11_init 196 = .ok (.putfield 82, 3) := by decide +kernel
theorem dX11_init_199 : decode cX11_init 199 = .ok (.aload_n 0, 1) := by decide +kernel
theorem dX11_init_200 : decode cX11_init 200 = .ok (.sipush 320, 3) := by decide +kernel
theorem dX11_init_203 : decode cX11_init 203 = .ok (.newarray .boolean, 2) := by decide +kernel
theorem dX11_init_205 : decode cX11_init 205 = .ok (.putfield 85, 3) := by decide +kernel
theorem dX11_init_208 : decode cX11_init 208 = .ok (.aload_n 0, 1) := by decide +kernel
theorem dX11_init_209 : decode cX11_init 209 = .ok (.getfield 7, 3) := by decide +kernel
theorem dX11_init_212 : decode cX11_init 212 = .ok (.iconst 1, 1) := by decide +kernel
theorem dX11_init_213 : decode cX11_init 213 = .ok (.iconst (-1), 1) := by decide +kernel
theorem dX11_init_214 : decode cX11_init 214 = .ok (.iastore, 1) := by decide +kernel
theorem dX11_init_215 : decode cX11_init 215 = .ok (.aload_n 0, 1) := by decide +kernel
theorem dX11_init_216 : decode cX11_init 216 = .ok (.getfield 7, 3) := by decide +kernel
theorem dX11_init_219 : decode cX11_init 219 = .ok (.iconst 2, 1) := by decide +kernel
theorem dX11_init_220 : decode cX11_init 220 = .ok (.bipush 10, 2) := by decide +kernel
theorem dX11_init_222 : decode cX11_init 222 = .ok (.iastore, 1) := by decide +kernel
theorem dX11_init_223 : decode cX11_init 223 = .ok (.aload_n 0, 1) := by decide +kernel
theorem dX11_init_224 : decode cX11_init 224 = .ok (.getfield 7, 3) := by decide +kernel
theorem dX11_init_227 : decode cX11_init 227 = .ok (.iconst 4, 1) := by decide +kernel
theorem dX11_init_228 : decode cX11_init 228 = .ok (.bipush 16, 2) := by decide +kernel
theorem dX11_init_230 : decode cX11_init 230 = .ok (.iastore, 1) := by decide +kernel
theorem dX11_init_231 : decode cX11_init 231 = .ok (.aload_n 0, 1) := by decide +kernel
theorem dX11_init_232 : decode cX11_init 232 = .ok (.getfield 7, 3) := by decide +kernel
theorem dX11_init_235 : decode cX11_init 235 = .ok (.bipush 6, 2) := by decide +kernel
theorem dX11_init_237 : decode cX11_init 237 = .ok (.iconst 1, 1) := by decide +kernel
theorem dX11_init_238 : decode cX11_init 238 = .ok (.iastore, 1) := by decide +kernel
theorem dX11_init_239 : decode cX11_init 239 = .ok (.iconst 0, 1) := by decide +kernel
theorem dX11_init_240 : decode cX11_init 240 = .ok (.istore_n 1, 1) := by decide +kernel
theorem dX11_init_241 : decode cX11_init 241 = .ok (.iload_n 1, 1) := by decide +kernel
theorem dX11_init_242 : decode cX11_init 242 = .ok (.iconst 2, 1) := by decide +kernel
theorem dX11_init_243 : decode cX11_init 243 = .ok (.if_icmp .ge 61, 3) := by decide +kernel
theorem dX11_init_246 : decode cX11_init 246 = .ok (.aload_n 0, 1) := by decide +kernel
theorem dX11_init_247 : decode cX11_init 247 = .ok (.getfield 7, 3) := by decide +kernel
theorem dX11_init_250 : decode cX11_init 250 = .ok (.bipush 10, 2) := by decide +kernel
theorem dX11_init_252 : decode cX11_init 252 = .ok (.iload_n 1, 1) := by decide +kernel
theorem dX11_init_253 : decode cX11_init 253 = .ok (.iadd, 1) := by decide +kernel
theorem dX11_init_254 : decode cX11_init 254 = .ok (.iload_n 1, 1) := by decide +kernel
theorem dX11_init_255 : decode cX11_init 255 = .ok (.iastore, 1) := by decide +kernel
theorem dX11_init_256 : decode cX11_init 256 = .ok (.aload_n 0, 1) := by decide +kernel
theorem dX11_init_257 : decode cX11_init 257 = .ok (.getfield 7, 3) := by decide +kernel
theorem dX11_init_260 : decode cX11_init 260 = .ok (.bipush 12, 2) := by decide +kernel
theorem dX11_init_262 : decode cX11_init 262 = .ok (.iload_n 1, 1) := by decide +kernel
theorem dX11_init_263 : decode cX11_init 263 = .ok (.iadd, 1) := by decide +kernel
theorem dX11_init_264 : decode cX11_init 264 = .ok (.bipush 10, 2) := by decide +kernel
theorem dX11_init_266 : decode cX11_init 266 = .ok (.iastore, 1) := by decide +kernel
theorem dX11_init_267 : decode cX11_init 267 = .ok (.aload_n 0, 1) := by decide +kernel
theorem dX11_init_268 : decode cX11_init 268 = .ok (.getfield 7, 3) := by decide +kernel
theorem dX11_init_271 : decode cX11_init 271 = .ok (.bipush 16, 2) := by decide +kernel
theorem dX11_init_273 : decode cX11_init 273 = .ok (.iload_n 1, 1) := by decide +kernel
theorem dX11_init_274 : decode cX11_init 274 = .ok (.iadd, 1) := by decide +kernel
theorem dX11_init_275 : decode cX11_init 275 = .ok (.iconst 1, 1) := by decide +kernel
theorem dX11_init_276 : decode cX11_init 276 = .ok (.iastore, 1) := by decide +kernel
theorem dX11_init_277 : decode cX11_init 277 = .ok (.aload_n 0, 1) := by decide +kernel
theorem dX11_init_278 : decode cX11_init 278 = .ok (.getfield 7, 3) := by decide +kernel
theorem dX11_init_281 : decode cX11_init 281 = .ok (.bipush 18, 2) := by decide +kernel
theorem dX11_init_283 : decode cX11_init 283 = .ok (.iload_n 1, 1) := by decide +kernel
theorem dX11_init_284 : decode cX11_init 284 = .ok (.iadd, 1) := by decide +kernel
theorem dX11_init_285 : decode cX11_init 285 = .ok (.iconst 1, 1) := by decide +kernel
theorem dX11_init_286 : decode cX11_init 286 = .ok (.iastore, 1) := by decide +kernel
theorem dX11_init_287 : decode cX11_init 287 = .ok (.aload_n 0, 1) := by decide +kernel
theorem dX11_init_288 : decode cX11_init 288 = .ok (.getfield 7, 3) := by decide +kernel
theorem dX11_init_291 : decode cX11_init 291 = .ok (.bipush 20, 2) := by decide +kernel
theorem dX11_init_293 : decode cX11_init 293 = .ok (.iload_n 1, 1) := by decide +kernel
theorem dX11_init_294 : decode cX11_init 294 = .ok (.iadd, 1) := by decide +kernel
theorem dX11_init_295 : decode cX11_init 295 = .ok (.bipush 16, 2) := by decide +kernel
theorem dX11_init_297 : decode cX11_init 297 = .ok (.iastore, 1) := by decide +kernel
theorem dX11_init_298 : decode cX11_init 298 = .ok (.iinc 1 1, 3) := by decide +kernel
theorem dX11_init_301 : decode cX11_init 301 = .ok (.goto (-60), 3) := by decide +kernel
theorem dX11_init_304 : decode cX11_init 304 = .ok (.aload_n 0, 1) := by decide +kernel
theorem dX11_init_305 : decode cX11_init 305 = .ok (.iconst 1, 1) := by decide +kernel
theorem dX11_init_306 : decode cX11_init 306 = .ok (.invokevirtual 89, 3) := by decide +kernel
theorem dX11_init_309 : decode cX11_init 309 = .ok (.return_, 1) := by decide +kernel
theorem dX11_in_0 : decode cX11_in 0 = .ok (.iload_n 0, 1) := by decide +kernel
theorem dX11_in_1 : decode cX11_in 1 = .ok (.iload_n 1, 1) := by decide +kernel
theorem dX11_in_2 : decode cX11_in 2 = .ok (.if_icmp .lt 12, 3) := by decide +kernel
theorem dX11_in_5 : decode cX11_in 5 = .ok (.iload_n 0, 1) := by decide +kernel
theorem dX11_in_6 : decode cX11_in 6 = .ok (.iload_n 2, 1) := by decide +kernel
theorem dX11_in_7 : decode cX11_in 7 = .ok (.if_icmp .gt 7, 3) := by decide +kernel
theorem dX11_in_10 : decode cX11_in 10 = .ok (.iconst 1, 1) := by decide +kernel
theorem dX11_in_11 : decode cX11_in 11 = .ok (.goto 4, 3) := by decide +kernel
theorem dX11_in_14 : decode cX11_in 14 = .ok (.iconst 0, 1) := by decide +kernel
theorem dX11_in_15 : decode cX11_in 15 = .ok (.ireturn, 1) := by decide +kernel
theorem dX11_rest_0 : decode cX11_rest 0 = .ok (.iload_n 0, 1) := by decide +kernel
theorem dX11_rest_1 : decode cX11_rest 1 = .ok (.iload_n 1, 1) := by decide +kernel
theorem dX11_rest_2 : decode cX11_rest 2 = .ok (.irem, 1) := by decide +kernel
theorem dX11_rest_3 : decode cX11_rest 3 = .ok (.istore_n 2, 1) := by decide +kernel
theorem dX11_rest_4 : decode cX11_rest 4 = .ok (.iload_n 2, 1) := by decide +kernel
theorem dX11_rest_5 : decode cX11_rest 5 = .ok (.ifCond .ge 9, 3) := by decide +kernel
theorem dX11_rest_8 : decode cX11_rest 8 = .ok (.iload_n 2, 1) := by decide +kernel
theorem dX11_rest_9 : decode cX11_rest 9 = .ok (.iload_n 1, 1) := by decide +kernel
theorem dX11_rest_10 : decode cX11_rest 10 = .ok (.iadd, 1) := by decide +kernel
theorem dX11_rest_11 : decode cX11_rest 11 = .ok (.goto 4, 3) := by decide +kernel
theorem dX11_rest_14 : decode cX11_rest 14 = .ok (.iload_n 2, 1) := by decide +kernel
theorem dX11_rest_15 : decode cX11_rest 15 = .ok (.ireturn, 1) := by decide +kernel
theorem dX11_down_0 : decode cX11_down 0 = .ok (.iload_n 0, 1) := by decide +kernel
theorem dX11_down_1 : decode cX11_down 1 = .ok (.iload_n 0, 1) := by decide +kernel
theorem dX11_down_2 : decode cX11_down 2 = .ok (.iload_n 1, 1) := by decide +kernel
theorem dX11_down_3 : decode cX11_down 3 = .ok (.invokestatic 93, 3) := by decide +kernel
theorem dX11_down_6 : decode cX11_down 6 = .ok (.isub, 1) := by decide +kernel
theorem dX11_down_7 : decode cX11_down 7 = .ok (.iload_n 1, 1) := by decide +kernel
theorem dX11_down_8 : decode cX11_down 8 = .ok (.idiv, 1) := by decide +kernel
theorem dX11_down_9 : decode cX11_down 9 = .ok (.ireturn, 1) := by decide +kernel
theorem dX11_copies_0 : decode cX11_copies 0 = .ok (.iconst 0, 1) := by decide +kernel
theorem dX11_copies_1 : decode cX11_copies 1 = .ok (.istore_n 2, 1) := by decide +kernel
theorem dX11_copies_2 : decode cX11_copies 2 = .ok (.iload_n 2, 1) := by decide +kernel
theorem dX11_copies_3 : decode cX11_copies 3 = .ok (.sipush 170, 3) := by decide +kernel
theorem dX11_copies_6 : decode cX11_copies 6 = .ok (.if_icmp .ge 40, 3) := by decide +kernel
theorem dX11_copies_9 : decode cX11_copies 9 = .ok (.iload_n 1, 1) := by decide +kernel
theorem dX11_copies_10 : decode cX11_copies 10 = .ok (.ifCond .eq 18, 3) := by decide +kernel
theorem dX11_copies_13 : decode cX11_copies 13 = .ok (.aload_n 0, 1) := by decide +kernel
theorem dX11_copies_14 : decode cX11_copies 14 = .ok (.getfield 13, 3) := by decide +kernel
theorem dX11_copies_17 : decode cX11_copies 17 = .ok (.iload_n 2, 1) := by decide +kernel
theorem dX11_copies_18 : decode cX11_copies 18 = .ok (.aload_n 0, 1) := by decide +kernel
theorem dX11_copies_19 : decode cX11_copies 19 = .ok (.getfield 7, 3) := by decide +kernel
theorem dX11_copies_22 : decode cX11_copies 22 = .ok (.iload_n 2, 1) := by decide +kernel
theorem dX11_copies_23 : decode cX11_copies 23 = .ok (.iaload, 1) := by decide +kernel
theorem dX11_copies_24 : decode cX11_copies 24 = .ok (.iastore, 1) := by decide +kernel
theorem dX11_copies_25 : decode cX11_copies 25 = .ok (.goto 15, 3) := by decide +kernel
theorem dX11_copies_28 : decode cX11_copies 28 = .ok (.aload_n 0, 1) := by decide +kernel
theorem dX11_copies_29 : decode cX11_copies 29 = .ok (.getfield 7, 3) := by decide +kernel
theorem dX11_copies_32 : decode cX11_copies 32 = .ok (.iload_n 2, 1) := by decide +kernel
theorem dX11_copies_33 : decode cX11_copies 33 = .ok (.aload_n 0, 1) := by decide +kernel
theorem dX11_copies_34 : decode cX11_copies 34 = .ok (.getfield 13, 3) := by decide +kernel
theorem dX11_copies_37 : decode cX11_copies 37 = .ok (.iload_n 2, 1) := by decide +kernel
theorem dX11_copies_38 : decode cX11_copies 38 = .ok (.iaload, 1) := by decide +kernel
theorem dX11_copies_39 : decode cX11_copies 39 = .ok (.iastore, 1) := by decide +kernel
theorem dX11_copies_40 : decode cX11_copies 40 = .ok (.iinc 2 1, 3) := by decide +kernel
theorem dX11_copies_43 : decode cX11_copies 43 = .ok (.goto (-41), 3) := by decide +kernel
theorem dX11_copies_46 : decode cX11_copies 46 = .ok (.return_, 1) := by decide +kernel
theorem dX11_isSignal_0 : decode cX11_isSignal 0 = .ok (.iload_n 0, 1) := by decide +kernel
theorem dX11_isSignal_1 : decode cX11_isSignal 1 = .ok (.iconst 0, 1) := by decide +kernel
theorem dX11_isSignal_2 : decode cX11_isSignal 2 = .ok (.iconst 3, 1) := by decide +kernel
theorem dX11_isSignal_3 : decode cX11_isSignal 3 = .ok (.invokestatic 97, 3) := by decide +kernel
theorem dX11_isSignal_6 : decode cX11_isSignal 6 = .ok (.ireturn, 1) := by decide +kernel
theorem dX11_isChannel_0 : decode cX11_isChannel 0 = .ok (.iload_n 0, 1) := by decide +kernel
theorem dX11_isChannel_1 : decode cX11_isChannel 1 = .ok (.iconst 0, 1) := by decide +kernel
theorem dX11_isChannel_2 : decode cX11_isChannel 2 = .ok (.iconst 1, 1) := by decide +kernel
theorem dX11_isChannel_3 : decode cX11_isChannel 3 = .ok (.invokestatic 97, 3) := by decide +kernel
theorem dX11_isChannel_6 : decode cX11_isChannel 6 = .ok (.ireturn, 1) := by decide +kernel
theorem dX11_part_0 : decode cX11_part 0 = .ok (.iload_n 1, 1) := by decide +kernel
theorem dX11_part_1 : decode cX11_part 1 = .ok (.invokestatic 101, 3) := by decide +kernel
theorem dX11_part_4 : decode cX11_part 4 = .ok (.ifCond .eq 65, 3) := by decide +kernel
theorem dX11_part_7 : decode cX11_part 7 = .ok (.iload_n 2, 1) := by decide +kernel
theorem dX11_part_8 : decode cX11_part 8 = .ok (.iconst 0, 1) := by decide +kernel
theorem dX11_part_9 : decode cX11_part 9 = .ok (.iconst 2, 1) := by decide +kernel
theorem dX11_part_10 : decode cX11_part 10 = .ok (.invokestatic 97, 3) := by decide +kernel
theorem dX11_part_13 : decode cX11_part 13 = .ok (.ifCond .eq 56, 3) := by decide +kernel
theorem dX11_part_16 : decode cX11_part 16 = .ok (.iload_n 3, 1) := by decide +kernel
theorem dX11_part_17 : decode cX11_part 17 = .ok (.sipush (-999), 3) := by decide +kernel
theorem dX11_part_20 : decode cX11_part 20 = .ok (.sipush 999, 3) := by decide +kernel
theorem dX11_part_23 : decode cX11_part 23 = .ok (.invokestatic 97, 3) := by decide +kernel
theorem dX11_part_26 : decode cX11_part 26 = .ok (.ifCond .eq 43, 3) := by decide +kernel
theorem dX11_part_29 : decode cX11_part 29 = .ok (.iload 4, 2) := by decide +kernel
theorem dX11_part_31 : decode cX11_part 31 = .ok (.iconst 1, 1) := by decide +kernel
theorem dX11_part_32 : decode cX11_part 32 = .ok (.sipush 500, 3) := by decide +kernel
theorem dX11_part_35 : decode cX11_part 35 = .ok (.invokestatic 97, 3) := by decide +kernel
theorem dX11_part_38 : decode cX11_part 38 = .ok (.ifCond .eq 31, 3) := by decide +kernel
theorem dX11_part_41 : decode cX11_part 41 = .ok (.iload 5, 2) := by decide +kernel
theorem dX11_part_43 : decode cX11_part 43 = .ok (.iconst 0, 1) := by decide +kernel
theorem dX11_part_44 : decode cX11_part 44 = .ok (.sipush 500, 3) := by decide +kernel
theorem dX11_part_47 : decode cX11_part 47 = .ok (.invokestatic 97, 3) := by decide +kernel
theorem dX11_part_50 : decode cX11_part 50 = .ok (.ifCond .eq 19, 3) := by decide +kernel
theorem dX11_part_53 : decode cX11_part 53 = .ok (.iload 6, 2) := by decide +kernel
theorem dX11_part_55 : decode cX11_part 55 = .ok (.iconst 0, 1) := by decide +kernel
theorem dX11_part_56 : decode cX11_part 56 = .ok (.sipush 1999, 3) := by decide +kernel
theorem dX11_part_59 : decode cX11_part 59 = .ok (.invokestatic 97, 3) := by decide +kernel
theorem dX11_part_62 : decode cX11_part 62 = .ok (.ifCond .eq 7, 3) := by decide +kernel
theorem dX11_part_65 : decode cX11_part 65 = .ok (.iconst 1, 1) := by decide +kernel
theorem dX11_part_66 : decode cX11_part 66 = .ok (.goto 4, 3) := by decide +kernel
theorem dX11_part_69 : decode cX11_part 69 = .ok (.iconst 0, 1) := by decide +kernel
theorem dX11_part_70 : decode cX11_part 70 = .ok (.istore 7, 2) := by decide +kernel
theorem dX11_part_72 : decode cX11_part 72 = .ok (.iload 7, 2) := by decide +kernel
theorem dX11_part_74 : decode cX11_part 74 = .ok (.ifCond .eq 17, 3) := by decide +kernel
theorem dX11_part_77 : decode cX11_part 77 = .ok (.aload_n 0, 1) := by decide +kernel
theorem dX11_part_78 : decode cX11_part 78 = .ok (.getfield 7, 3) := by decide +kernel
theorem dX11_part_81 : decode cX11_part 81 = .ok (.bipush 24, 2) := by decide +kernel
theorem dX11_part_83 : decode cX11_part 83 = .ok (.iload_n 1, 1) := by decide +kernel
theorem dX11_part_84 : decode cX11_part 84 = .ok (.iadd, 1) := by decide +kernel
theorem dX11_part_85 : decode cX11_part 85 = .ok (.iaload, 1) := by decide +kernel
theorem dX11_part_86 : decode cX11_part 86 = .ok (.bipush 6, 2) := by decide +kernel
theorem dX11_part_88 : decode cX11_part 88 = .ok (.if_icmp .ne 5, 3) := by decide +kernel
theorem dX11_part_91 : decode cX11_part 91 = .ok (.iconst (-1), 1) := by decide +kernel
theorem dX11_part_92 : decode cX11_part 92 = .ok (.ireturn, 1) := by decide +kernel
theorem dX11_part_93 : decode cX11_part 93 = .ok (.bipush 30, 2) := by decide +kernel
theorem dX11_part_95 : decode cX11_part 95 = .ok (.bipush 30, 2) := by decide +kernel
theorem dX11_part_97 : decode cX11_part 97 = .ok (.iload_n 1, 1) := by decide +kernel
theorem dX11_part_98 : decode cX11_part 98 = .ok (.imul, 1) := by decide +kernel
theorem dX11_part_99 : decode cX11_part 99 = .ok (.iadd, 1) := by decide +kernel
theorem dX11_part_100 : decode cX11_part 100 = .ok (.iconst 5, 1) := by decide +kernel
theorem dX11_part_101 : decode cX11_part 101 = .ok (.aload_n 0, 1) := by decide +kernel
theorem dX11_part_102 : decode cX11_part 102 = .ok (.getfield 7, 3) := by decide +kernel
theorem dX11_part_105 : decode cX11_part 105 = .ok (.bipush 24, 2) := by decide +kernel
theorem dX11_part_107 : decode cX11_part 107 = .ok (.iload_n 1, 1) := by decide +kernel
theorem dX11_part_108 : decode cX11_part 108 = .ok (.iadd, 1) := by decide +kernel
theorem dX11_part_109 : decode cX11_part 109 = .ok (.iaload, 1) := by decide +kernel
theorem dX11_part_110 : decode cX11_part 110 = .ok (.imul, 1) := by decide +kernel
theorem dX11_part_111 : decode cX11_part 111 = .ok (.iadd, 1) := by decide +kernel
theorem dX11_part_112 : decode cX11_part 112 = .ok (.istore 8, 2) := by decide +kernel
theorem dX11_part_114 : decode cX11_part 114 = .ok (.aload_n 0, 1) := by decide +kernel
theorem dX11_part_115 : decode cX11_part 115 = .ok (.getfield 7, 3) := by decide +kernel
theorem dX11_part_118 : decode cX11_part 118 = .ok (.iload 8, 2) := by decide +kernel
theorem dX11_part_120 : decode cX11_part 120 = .ok (.iconst 0, 1) := by decide +kernel
theorem dX11_part_121 : decode cX11_part 121 = .ok (.iadd, 1) := by decide +kernel
theorem dX11_part_122 : decode cX11_part 122 = .ok (.iload_n 2, 1) := by decide +kernel
theorem dX11_part_123 : decode cX11_part 123 = .ok (.iastore, 1) := by decide +kernel
theorem dX11_part_124 : decode cX11_part 124 = .ok (.aload_n 0, 1) := by decide +kernel
theorem dX11_part_125 : decode cX11_part 125 = .ok (.getfield 7, 3) := by decide +kernel
theorem dX11_part_128 : decode cX11_part 128 = .ok (.iload 8, 2) := by decide +kernel
theorem dX11_part_130 : decode cX11_part 130 = .ok (.iconst 1, 1) := by decide +kernel
theorem dX11_part_131 : decode cX11_part 131 = .ok (.iadd, 1) := by decide +kernel
theorem dX11_part_132 : decode cX11_part 132 = .ok (.iload_n 3, 1) := by decide +kernel
theorem dX11_part_133 : decode cX11_part 133 = .ok (.iastore, 1) := by decide +kernel
theorem dX11_part_134 : decode cX11_part 134 = .ok (.aload_n 0, 1) := by decide +kernel
theorem dX11_part_135 : decode cX11_part 135 = .ok (.getfield 7, 3) := by decide +kernel
theorem dX11_part_138 : decode cX11_part 138 = .ok (.iload 8, 2) := by decide +kernel
theorem dX11_part_140 : decode cX11_part 140 = .ok (.iconst 2, 1) := by decide +kernel
theorem dX11_part_141 : decode cX11_part 141 = .ok (.iadd, 1) := by decide +kernel
theorem dX11_part_142 : decode cX11_part 142 = .ok (.iload 4, 2) := by decide +kernel
theorem dX11_part_144 : decode cX11_part 144 = .ok (.iastore, 1) := by decide +kernel
theorem dX11_part_145 : decode cX11_part 145 = .ok (.aload_n 0, 1) := by decide +kernel
theorem dX11_part_146 : decode cX11_part 146 = .ok (.getfield 7, 3) := by decide +kernel
theorem dX11_part_149 : decode cX11_part 149 = .ok (.iload 8, 2) := by decide +kernel
theorem dX11_part_151 : decode cX11_part 151 = .ok (.iconst 3, 1) := by decide +kernel
theorem dX11_part_152 : decode cX11_part 152 = .ok (.iadd, 1) := by decide +kernel
theorem dX11_part_153 : decode cX11_part 153 = .ok (.iload 5, 2) := by decide +kernel
theorem dX11_part_155 : decode cX11_part 155 = .ok (.iastore, 1) := by decide +kernel
theorem dX11_part_156 : decode cX11_part 156 = .ok (.aload_n 0, 1) := by decide +kernel
theorem dX11_part_157 : decode cX11_part 157 = .ok (.getfield 7, 3) := by decide +kernel
theorem dX11_part_160 : decode cX11_part 160 = .ok (.iload 8, 2) := by decide +kernel
theorem dX11_part_162 : decode cX11_part 162 = .ok (.iconst 4, 1) := by decide +kernel
theorem dX11_part_163 : decode cX11_part 163 = .ok (.iadd, 1) := by decide +kernel
theorem dX11_part_164 : decode cX11_part 164 = .ok (.iload 6, 2) := by decide +kernel
theorem dX11_part_166 : decode cX11_part 166 = .ok (.iastore, 1) := by decide +kernel
theorem dX11_part_167 : decode cX11_part 167 = .ok (.aload_n 0, 1) := by decide +kernel
theorem dX11_part_168 : decode cX11_part 168 = .ok (.getfield 7, 3) := by decide +kernel
theorem dX11_part_171 : decode cX11_part 171 = .ok (.bipush 24, 2) := by decide +kernel
theorem dX11_part_173 : decode cX11_part 173 = .ok (.iload_n 1, 1) := by decide +kernel
theorem dX11_part_174 : decode cX11_part 174 = .ok (.iadd, 1) := by decide +kernel
theorem dX11_part_175 : decode cX11_part 175 = .ok (.dup2, 1) := by decide +kernel
theorem dX11_part_176 : decode cX11_part 176 = .ok (.iaload, 1) := by decide +kernel
theorem dX11_part_177 : decode cX11_part 177 = .ok (.iconst 1, 1) := by decide +kernel
theorem dX11_part_178 : decode cX11_part 178 = .ok (.iadd, 1) := by decide +kernel
theorem dX11_part_179 : decode cX11_part 179 = .ok (.iastore, 1) := by decide +kernel
theorem dX11_part_180 : decode cX11_part 180 = .ok (.aload_n 0, 1) := by decide +kernel
theorem dX11_part_181 : decode cX11_part 181 = .ok (.getfield 7, 3) := by decide +kernel
theorem dX11_part_184 : decode cX11_part 184 = .ok (.bipush 24, 2) := by decide +kernel
theorem dX11_part_186 : decode cX11_part 186 = .ok (.iload_n 1, 1) := by decide +kernel
theorem dX11_part_187 : decode cX11_part 187 = .ok (.iadd, 1) := by decide +kernel
theorem dX11_part_188 : decode cX11_part 188 = .ok (.iaload, 1) := by decide +kernel
theorem dX11_part_189 : decode cX11_part 189 = .ok (.ireturn, 1) := by decide +kernel
theorem dX11_clear_0 : decode cX11_clear 0 = .ok (.iload_n 1, 1) := by decide +kernel
theorem dX11_clear_1 : decode cX11_clear 1 = .ok (.invokestatic 101, 3) := by decide +kernel
theorem dX11_clear_4 : decode cX11_clear 4 = .ok (.ifCond .ne 5, 3) := by decide +kernel
theorem dX11_clear_7 : decode cX11_clear 7 = .ok (.iconst (-1), 1) := by decide +kernel
theorem dX11_clear_8 : decode cX11_clear 8 = .ok (.ireturn, 1) := by decide +kernel
theorem dX11_clear_9 : decode cX11_clear 9 = .ok (.aload_n 0, 1) := by decide +kernel
theorem dX11_clear_10 : decode cX11_clear 10 = .ok (.getfield 7, 3) := by decide +kernel
theorem dX11_clear_13 : decode cX11_clear 13 = .ok (.bipush 24, 2) := by decide +kernel
theorem dX11_clear_15 : decode cX11_clear 15 = .ok (.iload_n 1, 1) := by decide +kernel
theorem dX11_clear_16 : decode cX11_clear 16 = .ok (.iadd, 1) := by decide +kernel
theorem dX11_clear_17 : decode cX11_clear 17 = .ok (.iaload, 1) := by decide +kernel
theorem dX11_clear_18 : decode cX11_clear 18 = .ok (.istore_n 2, 1) := by decide +kernel
theorem dX11_clear_19 : decode cX11_clear 19 = .ok (.aload_n 0, 1) := by decide +kernel
theorem dX11_clear_20 : decode cX11_clear 20 = .ok (.getfield 7, 3) := by decide +kernel
theorem dX11_clear_23 : decode cX11_clear 23 = .ok (.bipush 24, 2) := by decide +kernel
theorem dX11_clear_25 : decode cX11_clear 25 = .ok (.iload_n 1, 1) := by decide +kernel
theorem dX11_clear_26 : decode cX11_clear 26 = .ok (.iadd, 1) := by decide +kernel
theorem dX11_clear_27 : decode cX11_clear 27 = .ok (.iconst 0, 1) := by decide +kernel
theorem dX11_clear_28 : decode cX11_clear 28 = .ok (.iastore, 1) := by decide +kernel
theorem dX11_clear_29 : decode cX11_clear 29 = .ok (.iload_n 2, 1) := by decide +kernel
theorem dX11_clear_30 : decode cX11_clear 30 = .ok (.ireturn, 1) := by decide +kernel
theorem dX11_phase_0 : decode cX11_phase 0 = .ok (.iload_n 2, 1) := by decide +kernel
theorem dX11_phase_1 : decode cX11_phase 1 = .ok (.aload_n 0, 1) := by decide +kernel
theorem dX11_phase_2 : decode cX11_phase 2 = .ok (.getfield 7, 3) := by decide +kernel
theorem dX11_phase_5 : decode cX11_phase 5 = .ok (.iload_n 1, 1) := by decide +kernel
theorem dX11_phase_6 : decode cX11_phase 6 = .ok (.iconst 4, 1) := by decide +kernel
theorem dX11_phase_7 : decode cX11_phase 7 = .ok (.iadd, 1) := by decide +kernel
theorem dX11_phase_8 : decode cX11_phase 8 = .ok (.iaload, 1) := by decide +kernel
theorem dX11_phase_9 : decode cX11_phase 9 = .ok (.isub, 1) := by decide +kernel
theorem dX11_phase_10 : decode cX11_phase 10 = .ok (.aload_n 0, 1) := by decide +kernel
theorem dX11_phase_11 : decode cX11_phase 11 = .ok (.getfield 7, 3) := by decide +kernel
theorem dX11_phase_14 : decode cX11_phase 14 = .ok (.iload_n 1, 1) := by decide +kernel
theorem dX11_phase_15 : decode cX11_phase 15 = .ok (.iconst 2, 1) := by decide +kernel
theorem dX11_phase_16 : decode cX11_phase 16 = .ok (.iadd, 1) := by decide +kernel
theorem dX11_phase_17 : decode cX11_phase 17 = .ok (.iaload, 1) := by decide +kernel
theorem dX11_phase_18 : decode cX11_phase 18 = .ok (.invokestatic 93, 3) := by decide +kernel
theorem dX11_phase_21 : decode cX11_phase 21 = .ok (.ireturn, 1) := by decide +kernel
theorem dX11_partAt_0 : decode cX11_partAt 0 = .ok (.aload_n 0, 1) := by decide +kernel
theorem dX11_partAt_1 : decode cX11_partAt 1 = .ok (.getfield 7, 3) := by decide +kernel
theorem dX11_partAt_4 : decode cX11_partAt 4 = .ok (.iload_n 1, 1) := by decide +kernel
theorem dX11_partAt_5 : decode cX11_partAt 5 = .ok (.iconst 1, 1) := by decide +kernel
theorem dX11_partAt_6 : decode cX11_partAt 6 = .ok (.iadd, 1) := by decide +kernel
theorem dX11_partAt_7 : decode cX11_partAt 7 = .ok (.iaload, 1) := by decide +kernel
theorem dX11_partAt_8 : decode cX11_partAt 8 = .ok (.istore_n 3, 1) := by decide +kernel
theorem dX11_partAt_9 : decode cX11_partAt 9 = .ok (.aload_n 0, 1) := by decide +kernel
theorem dX11_partAt_10 : decode cX11_partAt 10 = .ok (.getfield 7, 3) := by decide +kernel
theorem dX11_partAt_13 : decode cX11_partAt 13 = .ok (.iload_n 1, 1) := by decide +kernel
theorem dX11_partAt_14 : decode cX11_partAt 14 = .ok (.iconst 0, 1) := by decide +kernel
theorem dX11_partAt_15 : decode cX11_partAt 15 = .ok (.iadd, 1) := by decide +kernel
theorem dX11_partAt_16 : decode cX11_partAt 16 = .ok (.iaload, 1) := by decide +kernel
theorem dX11_partAt_17 : decode cX11_partAt 17 = .ok (.lookupswitch 68 #[(0, 27), (1, 45)], 27) := by decide +kernel
theorem dX11_partAt_44 : decode cX11_partAt 44 = .ok (.iload_n 2, 1) := by decide +kernel
theorem dX11_partAt_45 : decode cX11_partAt 45 = .ok (.aload_n 0, 1) := by decide +kernel
theorem dX11_partAt_46 : decode cX11_partAt 46 = .ok (.getfield 7, 3) := by decide +kernel
theorem dX11_partAt_49 : decode cX11_partAt 49 = .ok (.iload_n 1, 1) := by decide +kernel
theorem dX11_partAt_50 : decode cX11_partAt 50 = .ok (.iconst 4, 1) := by decide +kernel
theorem dX11_partAt_51 : decode cX11_partAt 51 = .ok (.iadd, 1) := by decide +kernel
theorem dX11_partAt_52 : decode cX11_partAt 52 = .ok (.iaload, 1) := by decide +kernel
theorem dX11_partAt_53 : decode cX11_partAt 53 = .ok (.if_icmp .lt 7, 3) := by decide +kernel
theorem dX11_partAt_56 : decode cX11_partAt 56 = .ok (.iload_n 3, 1) := by decide +kernel
theorem dX11_partAt_57 : decode cX11_partAt 57 = .ok (.goto 4, 3) := by decide +kernel
theorem dX11_partAt_60 : decode cX11_partAt 60 = .ok (.iconst 0, 1) := by decide +kernel
theorem dX11_partAt_61 : decode cX11_partAt 61 = .ok (.ireturn, 1) := by decide +kernel
theorem dX11_partAt_62 : decode cX11_partAt 62 = .ok (.aload_n 0, 1) := by decide +kernel
theorem dX11_partAt_63 : decode cX11_partAt 63 = .ok (.iload_n 1, 1) := by decide +kernel
theorem dX11_partAt_64 : decode cX11_partAt 64 = .ok (.iload_n 2, 1) := by decide +kernel
theorem dX11_partAt_65 : decode cX11_partAt 65 = .ok (.invokevirtual 105, 3) := by decide +kernel
theorem dX11_partAt_68 : decode cX11_partAt 68 = .ok (.aload_n 0, 1) := by decide +kernel
theorem dX11_partAt_69 : decode cX11_partAt 69 = .ok (.getfield 7, 3) := by decide +kernel
theorem dX11_partAt_72 : decode cX11_partAt 72 = .ok (.iload_n 1, 1) := by decide +kernel
theorem dX11_partAt_73 : decode cX11_partAt 73 = .ok (.iconst 3, 1) := by decide +kernel
theorem dX11_partAt_74 : decode cX11_partAt 74 = .ok (.iadd, 1) := by decide +kernel
theorem dX11_partAt_75 : decode cX11_partAt 75 = .ok (.iaload, 1) := by decide +kernel
theorem dX11_partAt_76 : decode cX11_partAt 76 = .ok (.if_icmp .ge 7, 3) := by decide +kernel
theorem dX11_partAt_79 : decode cX11_partAt 79 = .ok (.iload_n 3, 1) := by decide +kernel
theorem dX11_partAt_80 : decode cX11_partAt 80 = .ok (.goto 4, 3) := by decide +kernel
theorem dX11_partAt_83 : decode cX11_partAt 83 = .ok (.iconst 0, 1) := by decide +kernel
theorem dX11_partAt_84 : decode cX11_partAt 84 = .ok (.ireturn, 1) := by decide +kernel
theorem dX11_partAt_85 : decode cX11_partAt 85 = .ok (.iload_n 3, 1) := by decide +kernel
theorem dX11_partAt_86 : decode cX11_partAt 86 = .ok (.aload_n 0, 1) := by decide +kernel
theorem dX11_partAt_87 : decode cX11_partAt 87 = .ok (.iload_n 1, 1) := by decide +kernel
theorem dX11_partAt_88 : decode cX11_partAt 88 = .ok (.iload_n 2, 1) := by decide +kernel
theorem dX11_partAt_89 : decode cX11_partAt 89 = .ok (.invokevirtual 105, 3) := by decide +kernel
theorem dX11_partAt_92 : decode cX11_partAt 92 = .ok (.imul, 1) := by decide +kernel
theorem dX11_partAt_93 : decode cX11_partAt 93 = .ok (.aload_n 0, 1) := by decide +kernel
theorem dX11_partAt_94 : decode cX11_partAt 94 = .ok (.getfield 7, 3) := by decide +kernel
theorem dX11_partAt_97 : decode cX11_partAt 97 = .ok (.iload_n 1, 1) := by decide +kernel
theorem dX11_partAt_98 : decode cX11_partAt 98 = .ok (.iconst 2, 1) := by decide +kernel
theorem dX11_partAt_99 : decode cX11_partAt 99 = .ok (.iadd, 1) := by decide +kernel
theorem dX11_partAt_100 : decode cX11_partAt 100 = .ok (.iaload, 1) := by decide +kernel
theorem dX11_partAt_101 : decode cX11_partAt 101 = .ok (.idiv, 1) := by decide +kernel
theorem dX11_partAt_102 : decode cX11_partAt 102 = .ok (.ireturn, 1) := by decide +kernel
theorem dX11_rawAt_0 : decode cX11_rawAt 0 = .ok (.iconst 0, 1) := by decide +kernel
theorem dX11_rawAt_1 : decode cX11_rawAt 1 = .ok (.istore_n 3, 1) := by decide +kernel
theorem dX11_rawAt_2 : decode cX11_rawAt 2 = .ok (.iconst 0, 1) := by decide +kernel
theorem dX11_rawAt_3 : decode cX11_rawAt 3 = .ok (.istore 4, 2) := by decide +kernel
theorem dX11_rawAt_5 : decode cX11_rawAt 5 = .ok (.iload 4, 2) := by decide +kernel
theorem dX11_rawAt_7 : decode cX11_rawAt 7 = .ok (.aload_n 0, 1) := by decide +kernel
theorem dX11_rawAt_8 : decode cX11_rawAt 8 = .ok (.getfield 7, 3) := by decide +kernel
theorem dX11_rawAt_11 : decode cX11_rawAt 11 = .ok (.bipush 24, 2) := by decide +kernel
theorem dX11_rawAt_13 : decode cX11_rawAt 13 = .ok (.iload_n 1, 1) := by decide +kernel
theorem dX11_rawAt_14 : decode cX11_rawAt 14 = .ok (.iadd, 1) := by decide +kernel
theorem dX11_rawAt_15 : decode cX11_rawAt 15 = .ok (.iaload, 1) := by decide +kernel
theorem dX11_rawAt_16 : decode cX11_rawAt 16 = .ok (.if_icmp .ge 29, 3) := by decide +kernel
theorem dX11_rawAt_19 : decode cX11_rawAt 19 = .ok (.iload_n 3, 1) := by decide +kernel
theorem dX11_rawAt_20 : decode cX11_rawAt 20 = .ok (.aload_n 0, 1) := by decide +kernel
theorem dX11_rawAt_21 : decode cX11_rawAt 21 = .ok (.bipush 30, 2) := by decide +kernel
theorem dX11_rawAt_23 : decode cX11_rawAt 23 = .ok (.bipush 30, 2) := by decide +kernel
theorem dX11_rawAt_25 : decode cX11_rawAt 25 = .ok (.iload_n 1, 1) := by decide +kernel
theorem dX11_rawAt_26 : decode cX11_rawAt 26 = .ok (.imul, 1) := by decide +kernel
theorem dX11_rawAt_27 : decode cX11_rawAt 27 = .ok (.iadd, 1) := by decide +kernel
theorem dX11_rawAt_28 : decode cX11_rawAt 28 = .ok (.iconst 5, 1) := by decide +kernel
theorem dX11_rawAt_29 : decode cX11_rawAt 29 = .ok (.iload 4, 2) := by decide +kernel
theorem dX11_rawAt_31 : decode cX11_rawAt 31 = .ok (.imul, 1) := by decide +kernel
theorem dX11_rawAt_32 : decode cX11_rawAt 32 = .ok (.iadd, 1) := by decide +kernel
theorem dX11_rawAt_33 : decode cX11_rawAt 33 = .ok (.iload_n 2, 1) := by decide +kernel
theorem dX11_rawAt_34 : decode cX11_rawAt 34 = .ok (.invokevirtual 108, 3) := by decide +kernel
theorem dX11_rawAt_37 : decode cX11_rawAt 37 = .ok (.iadd, 1) := by decide +kernel
theorem dX11_rawAt_38 : decode cX11_rawAt 38 = .ok (.istore_n 3, 1) := by decide +kernel
theorem dX11_rawAt_39 : decode cX11_rawAt 39 = .ok (.iinc 4 1, 3) := by decide +kernel
theorem dX11_rawAt_42 : decode cX11_rawAt 42 = .ok (.goto (-37), 3) := by decide +kernel
theorem dX11_rawAt_45 : decode cX11_rawAt 45 = .ok (.iload_n 3, 1) := by decide +kernel
theorem dX11_rawAt_46 : decode cX11_rawAt 46 = .ok (.ireturn, 1) := by decide +kernel
theorem dX11_raw_0 : decode cX11_raw 0 = .ok (.iload_n 1, 1) := by decide +kernel
theorem dX11_raw_1 : decode cX11_raw 1 = .ok (.invokestatic 101, 3) := by decide +kernel
theorem dX11_raw_4 : decode cX11_raw 4 = .ok (.ifCond .eq 23, 3) := by decide +kernel
theorem dX11_raw_7 : decode cX11_raw 7 = .ok (.iload_n 2, 1) := by decide +kernel
theorem dX11_raw_8 : decode cX11_raw 8 = .ok (.iconst 0, 1) := by decide +kernel
theorem dX11_raw_9 : decode cX11_raw 9 = .ok (.sipush 9999, 3) := by decide +kernel
theorem dX11_raw_12 : decode cX11_raw 12 = .ok (.invokestatic 97, 3) := by decide +kernel
theorem dX11_raw_15 : decode cX11_raw 15 = .ok (.ifCond .eq 12, 3) := by decide +kernel
theorem dX11_raw_18 : decode cX11_raw 18 = .ok (.aload_n 0, 1) := by decide +kernel
theorem dX11_raw_19 : decode cX11_raw 19 = .ok (.iload_n 1, 1) := by decide +kernel
theorem dX11_raw_20 : decode cX11_raw 20 = .ok (.iload_n 2, 1) := by decide +kernel
theorem dX11_raw_21 : decode cX11_raw 21 = .ok (.invokevirtual 111, 3) := by decide +kernel
theorem dX11_raw_24 : decode cX11_raw 24 = .ok (.goto 5, 3) := by decide +kernel
theorem dX11_raw_27 : decode cX11_raw 27 = .ok (.ldc 114, 2) := by decide +kernel
theorem dX11_raw_29 : decode cX11_raw 29 = .ok (.ireturn, 1) := by decide +kernel
theorem dX11_probe_0 : decode cX11_probe 0 = .ok (.iload_n 1, 1) := by decide +kernel
theorem dX11_probe_1 : decode cX11_probe 1 = .ok (.invokestatic 115, 3) := by decide +kernel
theorem dX11_probe_4 : decode cX11_probe 4 = .ok (.ifCond .eq 34, 3) := by decide +kernel
theorem dX11_probe_7 : decode cX11_probe 7 = .ok (.iload_n 2, 1) := by decide +kernel
theorem dX11_probe_8 : decode cX11_probe 8 = .ok (.iconst 1, 1) := by decide +kernel
theorem dX11_probe_9 : decode cX11_probe 9 = .ok (.bipush 20, 2) := by decide +kernel
theorem dX11_probe_11 : decode cX11_probe 11 = .ok (.invokestatic 97, 3) := by decide +kernel
theorem dX11_probe_14 : decode cX11_probe 14 = .ok (.ifCond .eq 24, 3) := by decide +kernel
theorem dX11_probe_17 : decode cX11_probe 17 = .ok (.iload_n 3, 1) := by decide +kernel
theorem dX11_probe_18 : decode cX11_probe 18 = .ok (.iconst 1, 1) := by decide +kernel
theorem dX11_probe_19 : decode cX11_probe 19 = .ok (.bipush 20, 2) := by decide +kernel
theorem dX11_probe_21 : decode cX11_probe 21 = .ok (.invokestatic 97, 3) := by decide +kernel
theorem dX11_probe_24 : decode cX11_probe 24 = .ok (.ifCond .eq 14, 3) := by decide +kernel
theorem dX11_probe_27 : decode cX11_probe 27 = .ok (.iload 4, 2) := by decide +kernel
theorem dX11_probe_29 : decode cX11_probe 29 = .ok (.iconst 1, 1) := by decide +kernel
theorem dX11_probe_30 : decode cX11_probe 30 = .ok (.bipush 16, 2) := by decide +kernel
theorem dX11_probe_32 : decode cX11_probe 32 = .ok (.invokestatic 97, 3) := by decide +kernel
theorem dX11_probe_35 : decode cX11_probe 35 = .ok (.ifCond .ne 5, 3) := by decide +kernel
theorem dX11_probe_38 : decode cX11_probe 38 = .ok (.iconst 0, 1) := by decide +kernel
theorem dX11_probe_39 : decode cX11_probe 39 = .ok (.ireturn, 1) := by decide +kernel
theorem dX11_probe_40 : decode cX11_probe 40 = .ok (.aload_n 0, 1) := by decide +kernel
theorem dX11_probe_41 : decode cX11_probe 41 = .ok (.getfield 7, 3) := by decide +kernel
theorem dX11_probe_44 : decode cX11_probe 44 = .ok (.bipush 16, 2) := by decide +kernel
theorem dX11_probe_46 : decode cX11_probe 46 = .ok (.iload_n 1, 1) := by decide +kernel
theorem dX11_probe_47 : decode cX11_probe 47 = .ok (.iadd, 1) := by decide +kernel
theorem dX11_probe_48 : decode cX11_probe 48 = .ok (.iload_n 2, 1) := by decide +kernel
theorem dX11_probe_49 : decode cX11_probe 49 = .ok (.iastore, 1) := by decide +kernel
theorem dX11_probe_50 : decode cX11_probe 50 = .ok (.aload_n 0, 1) := by decide +kernel
theorem dX11_probe_51 : decode cX11_probe 51 = .ok (.getfield 7, 3) := by decide +kernel
theorem dX11_probe_54 : decode cX11_probe 54 = .ok (.bipush 18, 2) := by decide +kernel
theorem dX11_probe_56 : decode cX11_probe 56 = .ok (.iload_n 1, 1) := by decide +kernel
theorem dX11_probe_57 : decode cX11_probe 57 = .ok (.iadd, 1) := by decide +kernel
theorem dX11_probe_58 : decode cX11_probe 58 = .ok (.iload_n 3, 1) := by decide +kernel
theorem dX11_probe_59 : decode cX11_probe 59 = .ok (.iastore, 1) := by decide +kernel
theorem dX11_probe_60 : decode cX11_probe 60 = .ok (.aload_n 0, 1) := by decide +kernel
theorem dX11_probe_61 : decode cX11_probe 61 = .ok (.getfield 7, 3) := by decide +kernel
theorem dX11_probe_64 : decode cX11_probe 64 = .ok (.bipush 20, 2) := by decide +kernel
theorem dX11_probe_66 : decode cX11_probe 66 = .ok (.iload_n 1, 1) := by decide +kernel
theorem dX11_probe_67 : decode cX11_probe 67 = .ok (.iadd, 1) := by decide +kernel
theorem dX11_probe_68 : decode cX11_probe 68 = .ok (.iload 4, 2) := by decide +kernel
theorem dX11_probe_70 : decode cX11_probe 70 = .ok (.iastore, 1) := by decide +kernel
theorem dX11_probe_71 : decode cX11_probe 71 = .ok (.iconst 1, 1) := by decide +kernel
theorem dX11_probe_72 : decode cX11_probe 72 = .ok (.ireturn, 1) := by decide +kernel
theorem dX11_channel_0 : decode cX11_channel 0 = .ok (.iload_n 1, 1) := by decide +kernel
theorem dX11_channel_1 : decode cX11_channel 1 = .ok (.invokestatic 115, 3) := by decide +kernel
theorem dX11_channel_4 : decode cX11_channel 4 = .ok (.ifCond .eq 33, 3) := by decide +kernel
theorem dX11_channel_7 : decode cX11_channel 7 = .ok (.iload_n 2, 1) := by decide +kernel
theorem dX11_channel_8 : decode cX11_channel 8 = .ok (.invokestatic 101, 3) := by decide +kernel
theorem dX11_channel_11 : decode cX11_channel 11 = .ok (.ifCond .eq 26, 3) := by decide +kernel
theorem dX11_channel_14 : decode cX11_channel 14 = .ok (.iload_n 3, 1) := by decide +kernel
theorem dX11_channel_15 : decode cX11_channel 15 = .ok (.iconst 1, 1) := by decide +kernel
theorem dX11_channel_16 : decode cX11_channel 16 = .ok (.sipush 999, 3) := by decide +kernel
theorem dX11_channel_19 : decode cX11_channel 19 = .ok (.invokestatic 97, 3) := by decide +kernel
theorem dX11_channel_22 : decode cX11_channel 22 = .ok (.ifCond .eq 15, 3) := by decide +kernel
theorem dX11_channel_25 : decode cX11_channel 25 = .ok (.iload 4, 2) := by decide +kernel
theorem dX11_channel_27 : decode cX11_channel 27 = .ok (.bipush (-15), 2) := by decide +kernel
theorem dX11_channel_29 : decode cX11_channel 29 = .ok (.bipush 15, 2) := by decide +kernel
theorem dX11_channel_31 : decode cX11_channel 31 = .ok (.invokestatic 97, 3) := by decide +kernel
theorem dX11_channel_34 : decode cX11_channel 34 = .ok (.ifCond .ne 5, 3) := by decide +kernel
theorem dX11_channel_37 : decode cX11_channel 37 = .ok (.iconst 0, 1) := by decide +kernel
theorem dX11_channel_38 : decode cX11_channel 38 = .ok (.ireturn, 1) := by decide +kernel
theorem dX11_channel_39 : decode cX11_channel 39 = .ok (.aload_n 0, 1) := by decide +kernel
theorem dX11_channel_40 : decode cX11_channel 40 = .ok (.getfield 7, 3) := by decide +kernel
theorem dX11_channel_43 : decode cX11_channel 43 = .ok (.bipush 10, 2) := by decide +kernel
theorem dX11_channel_45 : decode cX11_channel 45 = .ok (.iload_n 1, 1) := by decide +kernel
theorem dX11_channel_46 : decode cX11_channel 46 = .ok (.iadd, 1) := by decide +kernel
theorem dX11_channel_47 : decode cX11_channel 47 = .ok (.iload_n 2, 1) := by decide +kernel
theorem dX11_channel_48 : decode cX11_channel 48 = .ok (.iastore, 1) := by decide +kernel
theorem dX11_channel_49 : decode cX11_channel 49 = .ok (.aload_n 0, 1) := by decide +kernel
theorem dX11_channel_50 : decode cX11_channel 50 = .ok (.getfield 7, 3) := by decide +kernel
theorem dX11_channel_53 : decode cX11_channel 53 = .ok (.bipush 12, 2) := by decide +kernel
theorem dX11_channel_55 : decode cX11_channel 55 = .ok (.iload_n 1, 1) := by decide +kernel
theorem dX11_channel_56 : decode cX11_channel 56 = .ok (.iadd, 1) := by decide +kernel
theorem dX11_channel_57 : decode cX11_channel 57 = .ok (.iload_n 3, 1) := by decide +kernel
theorem dX11_channel_58 : decode cX11_channel 58 = .ok (.iastore, 1) := by decide +kernel
theorem dX11_channel_59 : decode cX11_channel 59 = .ok (.aload_n 0, 1) := by decide +kernel
theorem dX11_channel_60 : decode cX11_channel 60 = .ok (.getfield 7, 3) := by decide +kernel
theorem dX11_channel_63 : decode cX11_channel 63 = .ok (.bipush 14, 2) := by decide +kernel
theorem dX11_channel_65 : decode cX11_channel 65 = .ok (.iload_n 1, 1) := by decide +kernel
theorem dX11_channel_66 : decode cX11_channel 66 = .ok (.iadd, 1) := by decide +kernel
theorem dX11_channel_67 : decode cX11_channel 67 = .ok (.iload 4, 2) := by decide +kernel
theorem dX11_channel_69 : decode cX11_channel 69 = .ok (.iastore, 1) := by decide +kernel
theorem dX11_channel_70 : decode cX11_channel 70 = .ok (.iconst 1, 1) := by decide +kernel
theorem dX11_channel_71 : decode cX11_channel 71 = .ok (.ireturn, 1) := by decide +kernel
theorem dX11_laysOut_0 : decode cX11_laysOut 0 = .ok (.iconst 0, 1) := by decide +kernel
theorem dX11_laysOut_1 : decode cX11_laysOut 1 = .ok (.istore_n 2, 1) := by decide +kernel
theorem dX11_laysOut_2 : decode cX11_laysOut 2 = .ok (.iconst 0, 1) := by decide +kernel
theorem dX11_laysOut_3 : decode cX11_laysOut 3 = .ok (.istore_n 3, 1) := by decide +kernel
theorem dX11_laysOut_4 : decode cX11_laysOut 4 = .ok (.iload_n 3, 1) := by decide +kernel
theorem dX11_laysOut_5 : decode cX11_laysOut 5 = .ok (.sipush 2000, 3) := by decide +kernel
theorem dX11_laysOut_8 : decode cX11_laysOut 8 = .ok (.if_icmp .ge 78, 3) := by decide +kernel
theorem dX11_laysOut_11 : decode cX11_laysOut 11 = .ok (.aload_n 0, 1) := by decide +kernel
theorem dX11_laysOut_12 : decode cX11_laysOut 12 = .ok (.aload_n 0, 1) := by decide +kernel
theorem dX11_laysOut_13 : decode cX11_laysOut 13 = .ok (.getfield 7, 3) := by decide +kernel
theorem dX11_laysOut_16 : decode cX11_laysOut 16 = .ok (.bipush 10, 2) := by decide +kernel
theorem dX11_laysOut_18 : decode cX11_laysOut 18 = .ok (.iload_n 1, 1) := by decide +kernel
theorem dX11_laysOut_19 : decode cX11_laysOut 19 = .ok (.iadd, 1) := by decide +kernel
theorem dX11_laysOut_20 : decode cX11_laysOut 20 = .ok (.iaload, 1) := by decide +kernel
theorem dX11_laysOut_21 : decode cX11_laysOut 21 = .ok (.iload_n 3, 1) := by decide +kernel
theorem dX11_laysOut_22 : decode cX11_laysOut 22 = .ok (.invokevirtual 111, 3) := by decide +kernel
theorem dX11_laysOut_25 : decode cX11_laysOut 25 = .ok (.aload_n 0, 1) := by decide +kernel
theorem dX11_laysOut_26 : decode cX11_laysOut 26 = .ok (.getfield 7, 3) := by decide +kernel
theorem dX11_laysOut_29 : decode cX11_laysOut 29 = .ok (.bipush 16, 2) := by decide +kernel
theorem dX11_laysOut_31 : decode cX11_laysOut 31 = .ok (.iload_n 1, 1) := by decide +kernel
theorem dX11_laysOut_32 : decode cX11_laysOut 32 = .ok (.iadd, 1) := by decide +kernel
theorem dX11_laysOut_33 : decode cX11_laysOut 33 = .ok (.iaload, 1) := by decide +kernel
theorem dX11_laysOut_34 : decode cX11_laysOut 34 = .ok (.imul, 1) := by decide +kernel
theorem dX11_laysOut_35 : decode cX11_laysOut 35 = .ok (.aload_n 0, 1) := by decide +kernel
theorem dX11_laysOut_36 : decode cX11_laysOut 36 = .ok (.getfield 7, 3) := by decide +kernel
theorem dX11_laysOut_39 : decode cX11_laysOut 39 = .ok (.bipush 18, 2) := by decide +kernel
theorem dX11_laysOut_41 : decode cX11_laysOut 41 = .ok (.iload_n 1, 1) := by decide +kernel
theorem dX11_laysOut_42 : decode cX11_laysOut 42 = .ok (.iadd, 1) := by decide +kernel
theorem dX11_laysOut_43 : decode cX11_laysOut 43 = .ok (.iaload, 1) := by decide +kernel
theorem dX11_laysOut_44 : decode cX11_laysOut 44 = .ok (.idiv, 1) := by decide +kernel
theorem dX11_laysOut_45 : decode cX11_laysOut 45 = .ok (.istore 4, 2) := by decide +kernel
theorem dX11_laysOut_47 : decode cX11_laysOut 47 = .ok (.iload_n 2, 1) := by decide +kernel
theorem dX11_laysOut_48 : decode cX11_laysOut 48 = .ok (.iload 4, 2) := by decide +kernel
theorem dX11_laysOut_50 : decode cX11_laysOut 50 = .ok (.iload_n 2, 1) := by decide +kernel
theorem dX11_laysOut_51 : decode cX11_laysOut 51 = .ok (.isub, 1) := by decide +kernel
theorem dX11_laysOut_52 : decode cX11_laysOut 52 = .ok (.aload_n 0, 1) := by decide +kernel
theorem dX11_laysOut_53 : decode cX11_laysOut 53 = .ok (.getfield 7, 3) := by decide +kernel
theorem dX11_laysOut_56 : decode cX11_laysOut 56 = .ok (.bipush 20, 2) := by decide +kernel
theorem dX11_laysOut_58 : decode cX11_laysOut 58 = .ok (.iload_n 1, 1) := by decide +kernel
theorem dX11_laysOut_59 : decode cX11_laysOut 59 = .ok (.iadd, 1) := by decide +kernel
theorem dX11_laysOut_60 : decode cX11_laysOut 60 = .ok (.iaload, 1) := by decide +kernel
theorem dX11_laysOut_61 : decode cX11_laysOut 61 = .ok (.imul, 1) := by decide +kernel
theorem dX11_laysOut_62 : decode cX11_laysOut 62 = .ok (.bipush 16, 2) := by decide +kernel
theorem dX11_laysOut_64 : decode cX11_laysOut 64 = .ok (.idiv, 1) := by decide +kernel
theorem dX11_laysOut_65 : decode cX11_laysOut 65 = .ok (.iadd, 1) := by decide +kernel
theorem dX11_laysOut_66 : decode cX11_laysOut 66 = .ok (.istore_n 2, 1) := by decide +kernel
theorem dX11_laysOut_67 : decode cX11_laysOut 67 = .ok (.aload_n 0, 1) := by decide +kernel
theorem dX11_laysOut_68 : decode cX11_laysOut 68 = .ok (.getfield 42, 3) := by decide +kernel
theorem dX11_laysOut_71 : decode cX11_laysOut 71 = .ok (.sipush 2000, 3) := by decide +kernel
theorem dX11_laysOut_74 : decode cX11_laysOut 74 = .ok (.iload_n 1, 1) := by decide +kernel
theorem dX11_laysOut_75 : decode cX11_laysOut 75 = .ok (.imul, 1) := by decide +kernel
theorem dX11_laysOut_76 : decode cX11_laysOut 76 = .ok (.iload_n 3, 1) := by decide +kernel
theorem dX11_laysOut_77 : decode cX11_laysOut 77 = .ok (.iadd, 1) := by decide +kernel
theorem dX11_laysOut_78 : decode cX11_laysOut 78 = .ok (.iload_n 2, 1) := by decide +kernel
theorem dX11_laysOut_79 : decode cX11_laysOut 79 = .ok (.iastore, 1) := by decide +kernel
theorem dX11_laysOut_80 : decode cX11_laysOut 80 = .ok (.iinc 3 1, 3) := by decide +kernel
theorem dX11_laysOut_83 : decode cX11_laysOut 83 = .ok (.goto (-79), 3) := by decide +kernel
theorem dX11_laysOut_86 : decode cX11_laysOut 86 = .ok (.return_, 1) := by decide +kernel
theorem dX11_laysBoth_0 : decode cX11_laysBoth 0 = .ok (.aload_n 0, 1) := by decide +kernel
theorem dX11_laysBoth_1 : decode cX11_laysBoth 1 = .ok (.iconst 0, 1) := by decide +kernel
theorem dX11_laysBoth_2 : decode cX11_laysBoth 2 = .ok (.invokevirtual 118, 3) := by decide +kernel
theorem dX11_laysBoth_5 : decode cX11_laysBoth 5 = .ok (.aload_n 0, 1) := by decide +kernel
theorem dX11_laysBoth_6 : decode cX11_laysBoth 6 = .ok (.iconst 1, 1) := by decide +kernel
theorem dX11_laysBoth_7 : decode cX11_laysBoth 7 = .ok (.invokevirtual 118, 3) := by decide +kernel
theorem dX11_laysBoth_10 : decode cX11_laysBoth 10 = .ok (.return_, 1) := by decide +kernel
theorem dX11_out_0 : decode cX11_out 0 = .ok (.iload_n 1, 1) := by decide +kernel
theorem dX11_out_1 : decode cX11_out 1 = .ok (.invokestatic 115, 3) := by decide +kernel
theorem dX11_out_4 : decode cX11_out 4 = .ok (.ifCond .eq 14, 3) := by decide +kernel
theorem dX11_out_7 : decode cX11_out 7 = .ok (.iload_n 2, 1) := by decide +kernel
theorem dX11_out_8 : decode cX11_out 8 = .ok (.iconst 0, 1) := by decide +kernel
theorem dX11_out_9 : decode cX11_out 9 = .ok (.sipush 1999, 3) := by decide +kernel
theorem dX11_out_12 : decode cX11_out 12 = .ok (.invokestatic 97, 3) := by decide +kernel
theorem dX11_out_15 : decode cX11_out 15 = .ok (.ifCond .ne 6, 3) := by decide +kernel
theorem dX11_out_18 : decode cX11_out 18 = .ok (.ldc 114, 2) := by decide +kernel
theorem dX11_out_20 : decode cX11_out 20 = .ok (.ireturn, 1) := by decide +kernel
theorem dX11_out_21 : decode cX11_out 21 = .ok (.aload_n 0, 1) := by decide +kernel
theorem dX11_out_22 : decode cX11_out 22 = .ok (.iload_n 1, 1) := by decide +kernel
theorem dX11_out_23 : decode cX11_out 23 = .ok (.invokevirtual 118, 3) := by decide +kernel
theorem dX11_out_26 : decode cX11_out 26 = .ok (.aload_n 0, 1) := by decide +kernel
theorem dX11_out_27 : decode cX11_out 27 = .ok (.getfield 42, 3) := by decide +kernel
theorem dX11_out_30 : decode cX11_out 30 = .ok (.sipush 2000, 3) := by decide +kernel
theorem dX11_out_33 : decode cX11_out 33 = .ok (.iload_n 1, 1) := by decide +kernel
theorem dX11_out_34 : decode cX11_out 34 = .ok (.imul, 1) := by decide +kernel
theorem dX11_out_35 : decode cX11_out 35 = .ok (.iload_n 2, 1) := by decide +kernel
theorem dX11_out_36 : decode cX11_out 36 = .ok (.iadd, 1) := by decide +kernel
theorem dX11_out_37 : decode cX11_out 37 = .ok (.iaload, 1) := by decide +kernel
theorem dX11_out_38 : decode cX11_out 38 = .ok (.ireturn, 1) := by decide +kernel
theorem dX11_base_0 : decode cX11_base 0 = .ok (.iload_n 1, 1) := by decide +kernel
theorem dX11_base_1 : decode cX11_base 1 = .ok (.iconst 1, 1) := by decide +kernel
theorem dX11_base_2 : decode cX11_base 2 = .ok (.bipush 50, 2) := by decide +kernel
theorem dX11_base_4 : decode cX11_base 4 = .ok (.invokestatic 97, 3) := by decide +kernel
theorem dX11_base_7 : decode cX11_base 7 = .ok (.ifCond .eq 24, 3) := by decide +kernel
theorem dX11_base_10 : decode cX11_base 10 = .ok (.iload_n 2, 1) := by decide +kernel
theorem dX11_base_11 : decode cX11_base 11 = .ok (.iconst 0, 1) := by decide +kernel
theorem dX11_base_12 : decode cX11_base 12 = .ok (.sipush 999, 3) := by decide +kernel
theorem dX11_base_15 : decode cX11_base 15 = .ok (.invokestatic 97, 3) := by decide +kernel
theorem dX11_base_18 : decode cX11_base 18 = .ok (.ifCond .eq 13, 3) := by decide +kernel
theorem dX11_base_21 : decode cX11_base 21 = .ok (.iload_n 3, 1) := by decide +kernel
theorem dX11_base_22 : decode cX11_base 22 = .ok (.iconst 0, 1) := by decide +kernel
theorem dX11_base_23 : decode cX11_base 23 = .ok (.bipush 16, 2) := by decide +kernel
theorem dX11_base_25 : decode cX11_base 25 = .ok (.invokestatic 97, 3) := by decide +kernel
theorem dX11_base_28 : decode cX11_base 28 = .ok (.ifCond .ne 5, 3) := by decide +kernel
theorem dX11_base_31 : decode cX11_base 31 = .ok (.iconst 0, 1) := by decide +kernel
theorem dX11_base_32 : decode cX11_base 32 = .ok (.ireturn, 1) := by decide +kernel
theorem dX11_base_33 : decode cX11_base 33 = .ok (.aload_n 0, 1) := by decide +kernel
theorem dX11_base_34 : decode cX11_base 34 = .ok (.getfield 7, 3) := by decide +kernel
theorem dX11_base_37 : decode cX11_base 37 = .ok (.iconst 2, 1) := by decide +kernel
theorem dX11_base_38 : decode cX11_base 38 = .ok (.iload_n 1, 1) := by decide +kernel
theorem dX11_base_39 : decode cX11_base 39 = .ok (.iastore, 1) := by decide +kernel
theorem dX11_base_40 : decode cX11_base 40 = .ok (.aload_n 0, 1) := by decide +kernel
theorem dX11_base_41 : decode cX11_base 41 = .ok (.getfield 7, 3) := by decide +kernel
theorem dX11_base_44 : decode cX11_base 44 = .ok (.iconst 3, 1) := by decide +kernel
theorem dX11_base_45 : decode cX11_base 45 = .ok (.iload_n 2, 1) := by decide +kernel
theorem dX11_base_46 : decode cX11_base 46 = .ok (.iastore, 1) := by decide +kernel
theorem dX11_base_47 : decode cX11_base 47 = .ok (.aload_n 0, 1) := by decide +kernel
theorem dX11_base_48 : decode cX11_base 48 = .ok (.getfield 7, 3) := by decide +kernel
theorem dX11_base_51 : decode cX11_base 51 = .ok (.iconst 4, 1) := by decide +kernel
theorem dX11_base_52 : decode cX11_base 52 = .ok (.iload_n 3, 1) := by decide +kernel
theorem dX11_base_53 : decode cX11_base 53 = .ok (.iastore, 1) := by decide +kernel
theorem dX11_base_54 : decode cX11_base 54 = .ok (.iconst 1, 1) := by decide +kernel
theorem dX11_base_55 : decode cX11_base 55 = .ok (.ireturn, 1) := by decide +kernel
theorem dX11_mode_0 : decode cX11_mode 0 = .ok (.iload_n 1, 1) := by decide +kernel
theorem dX11_mode_1 : decode cX11_mode 1 = .ok (.iconst 0, 1) := by decide +kernel
theorem dX11_mode_2 : decode cX11_mode 2 = .ok (.iconst 3, 1) := by decide +kernel
theorem dX11_mode_3 : decode cX11_mode 3 = .ok (.invokestatic 97, 3) := by decide +kernel
theorem dX11_mode_6 : decode cX11_mode 6 = .ok (.ifCond .eq 13, 3) := by decide +kernel
theorem dX11_mode_9 : decode cX11_mode 9 = .ok (.iload_n 2, 1) := by decide +kernel
theorem dX11_mode_10 : decode cX11_mode 10 = .ok (.iconst 1, 1) := by decide +kernel
theorem dX11_mode_11 : decode cX11_mode 11 = .ok (.bipush 50, 2) := by decide +kernel
theorem dX11_mode_13 : decode cX11_mode 13 = .ok (.invokestatic 97, 3) := by decide +kernel
theorem dX11_mode_16 : decode cX11_mode 16 = .ok (.ifCond .ne 5, 3) := by decide +kernel
theorem dX11_mode_19 : decode cX11_mode 19 = .ok (.iconst 0, 1) := by decide +kernel
theorem dX11_mode_20 : decode cX11_mode 20 = .ok (.ireturn, 1) := by decide +kernel
theorem dX11_mode_21 : decode cX11_mode 21 = .ok (.aload_n 0, 1) := by decide +kernel
theorem dX11_mode_22 : decode cX11_mode 22 = .ok (.getfield 7, 3) := by decide +kernel
theorem dX11_mode_25 : decode cX11_mode 25 = .ok (.iconst 5, 1) := by decide +kernel
theorem dX11_mode_26 : decode cX11_mode 26 = .ok (.iload_n 1, 1) := by decide +kernel
theorem dX11_mode_27 : decode cX11_mode 27 = .ok (.iastore, 1) := by decide +kernel
theorem dX11_mode_28 : decode cX11_mode 28 = .ok (.aload_n 0, 1) := by decide +kernel
theorem dX11_mode_29 : decode cX11_mode 29 = .ok (.getfield 7, 3) := by decide +kernel
theorem dX11_mode_32 : decode cX11_mode 32 = .ok (.bipush 6, 2) := by decide +kernel
theorem dX11_mode_34 : decode cX11_mode 34 = .ok (.iload_n 2, 1) := by decide +kernel
theorem dX11_mode_35 : decode cX11_mode 35 = .ok (.iastore, 1) := by decide +kernel
theorem dX11_mode_36 : decode cX11_mode 36 = .ok (.iconst 1, 1) := by decide +kernel
theorem dX11_mode_37 : decode cX11_mode 37 = .ok (.ireturn, 1) := by decide +kernel
theorem dX11_put_0 : decode cX11_put 0 = .ok (.bipush 24, 2) := by decide +kernel
theorem dX11_put_2 : decode cX11_put 2 = .ok (.istore_n 2, 1) := by decide +kernel
theorem dX11_put_3 : decode cX11_put 3 = .ok (.iload_n 2, 1) := by decide +kernel
theorem dX11_put_4 : decode cX11_put 4 = .ok (.ifCond .lt 34, 3) := by decide +kernel
theorem dX11_put_7 : decode cX11_put 7 = .ok (.aload_n 0, 1) := by decide +kernel
theorem dX11_put_8 : decode cX11_put 8 = .ok (.getfield 16, 3) := by decide +kernel
theorem dX11_put_11 : decode cX11_put 11 = .ok (.aload_n 0, 1) := by decide +kernel
theorem dX11_put_12 : decode cX11_put 12 = .ok (.getfield 122, 3) := by decide +kernel
theorem dX11_put_15 : decode cX11_put 15 = .ok (.iload_n 1, 1) := by decide +kernel
theorem dX11_put_16 : decode cX11_put 16 = .ok (.iload_n 2, 1) := by decide +kernel
theorem dX11_put_17 : decode cX11_put 17 = .ok (.ishr, 1) := by decide +kernel
theorem dX11_put_18 : decode cX11_put 18 = .ok (.i2b, 1) := by decide +kernel
theorem dX11_put_19 : decode cX11_put 19 = .ok (.bastore, 1) := by decide +kernel
theorem dX11_put_20 : decode cX11_put 20 = .ok (.aload_n 0, 1) := by decide +kernel
theorem dX11_put_21 : decode cX11_put 21 = .ok (.dup, 1) := by decide +kernel
theorem dX11_put_22 : decode cX11_put 22 = .ok (.getfield 122, 3) := by decide +kernel
theorem dX11_put_25 : decode cX11_put 25 = .ok (.iconst 1, 1) := by decide +kernel
theorem dX11_put_26 : decode cX11_put 26 = .ok (.iadd, 1) := by decide +kernel
theorem dX11_put_27 : decode cX11_put 27 = .ok (.putfield 122, 3) := by decide +kernel
theorem dX11_put_30 : decode cX11_put 30 = .ok (.iload_n 2, 1) := by decide +kernel
theorem dX11_put_31 : decode cX11_put 31 = .ok (.bipush 8, 2) := by decide +kernel
theorem dX11_put_33 : decode cX11_put 33 = .ok (.isub, 1) := by decide +kernel
theorem dX11_put_34 : decode cX11_put 34 = .ok (.istore_n 2, 1) := by decide +kernel
theorem dX11_put_35 : decode cX11_put 35 = .ok (.goto (-32), 3) := by decide +kernel
theorem dX11_put_38 : decode cX11_put 38 = .ok (.return_, 1) := by decide +kernel
theorem dX11_feed_0 : decode cX11_feed 0 = .ok (.aload_n 0, 1) := by decide +kernel
theorem dX11_feed_1 : decode cX11_feed 1 = .ok (.getfield 122, 3) := by decide +kernel
theorem dX11_feed_4 : decode cX11_feed 4 = .ok (.bipush 20, 2) := by decide +kernel
theorem dX11_feed_6 : decode cX11_feed 6 = .ok (.iadd, 1) := by decide +kernel
theorem dX11_feed_7 : decode cX11_feed 7 = .ok (.sipush 300, 3) := by decide +kernel
theorem dX11_feed_10 : decode cX11_feed 10 = .ok (.if_icmp .le 5, 3) := by decide +kernel
theorem dX11_feed_13 : decode cX11_feed 13 = .ok (.iconst (-1), 1) := by decide +kernel
theorem dX11_feed_14 : decode cX11_feed 14 = .ok (.ireturn, 1) := by decide +kernel
theorem dX11_feed_15 : decode cX11_feed 15 = .ok (.aload_n 0, 1) := by decide +kernel
theorem dX11_feed_16 : decode cX11_feed 16 = .ok (.iload_n 1, 1) := by decide +kernel
theorem dX11_feed_17 : decode cX11_feed 17 = .ok (.invokevirtual 125, 3) := by decide +kernel
theorem dX11_feed_20 : decode cX11_feed 20 = .ok (.aload_n 0, 1) := by decide +kernel
theorem dX11_feed_21 : decode cX11_feed 21 = .ok (.iload_n 2, 1) := by decide +kernel
theorem dX11_feed_22 : decode cX11_feed 22 = .ok (.invokevirtual 125, 3) := by decide +kernel
theorem dX11_feed_25 : decode cX11_feed 25 = .ok (.aload_n 0, 1) := by decide +kernel
theorem dX11_feed_26 : decode cX11_feed 26 = .ok (.iload_n 3, 1) := by decide +kernel
theorem dX11_feed_27 : decode cX11_feed 27 = .ok (.invokevirtual 125, 3) := by decide +kernel
theorem dX11_feed_30 : decode cX11_feed 30 = .ok (.aload_n 0, 1) := by decide +kernel
theorem dX11_feed_31 : decode cX11_feed 31 = .ok (.iload 4, 2) := by decide +kernel
theorem dX11_feed_33 : decode cX11_feed 33 = .ok (.invokevirtual 125, 3) := by decide +kernel
theorem dX11_feed_36 : decode cX11_feed 36 = .ok (.aload_n 0, 1) := by decide +kernel
theorem dX11_feed_37 : decode cX11_feed 37 = .ok (.iload 5, 2) := by decide +kernel
theorem dX11_feed_39 : decode cX11_feed 39 = .ok (.invokevirtual 125, 3) := by decide +kernel
theorem dX11_feed_42 : decode cX11_feed 42 = .ok (.aload_n 0, 1) := by decide +kernel
theorem dX11_feed_43 : decode cX11_feed 43 = .ok (.getfield 122, 3) := by decide +kernel
theorem dX11_feed_46 : decode cX11_feed 46 = .ok (.ireturn, 1) := by decide +kernel
theorem dX11_end_0 : decode cX11_end 0 = .ok (.iload_n 1, 1) := by decide +kernel
theorem dX11_end_1 : decode cX11_end 1 = .ok (.iconst 0, 1) := by decide +kernel
theorem dX11_end_2 : decode cX11_end 2 = .ok (.aload_n 0, 1) := by decide +kernel
theorem dX11_end_3 : decode cX11_end 3 = .ok (.getfield 122, 3) := by decide +kernel
theorem dX11_end_6 : decode cX11_end 6 = .ok (.invokestatic 97, 3) := by decide +kernel
theorem dX11_end_9 : decode cX11_end 9 = .ok (.ifCond .ne 5, 3) := by decide +kernel
theorem dX11_end_12 : decode cX11_end 12 = .ok (.iconst (-1), 1) := by decide +kernel
theorem dX11_end_13 : decode cX11_end 13 = .ok (.ireturn, 1) := by decide +kernel
theorem dX11_end_14 : decode cX11_end 14 = .ok (.aload_n 0, 1) := by decide +kernel
theorem dX11_end_15 : decode cX11_end 15 = .ok (.iload_n 1, 1) := by decide +kernel
theorem dX11_end_16 : decode cX11_end 16 = .ok (.putfield 122, 3) := by decide +kernel
theorem dX11_end_19 : decode cX11_end 19 = .ok (.iload_n 1, 1) := by decide +kernel
theorem dX11_end_20 : decode cX11_end 20 = .ok (.ireturn, 1) := by decide +kernel
theorem dX11_isLetter_0 : decode cX11_isLetter 0 = .ok (.iload_n 0, 1) := by decide +kernel
theorem dX11_isLetter_1 : decode cX11_isLetter 1 = .ok (.bipush 97, 2) := by decide +kernel
theorem dX11_isLetter_3 : decode cX11_isLetter 3 = .ok (.bipush 122, 2) := by decide +kernel
theorem dX11_isLetter_5 : decode cX11_isLetter 5 = .ok (.invokestatic 97, 3) := by decide +kernel
theorem dX11_isLetter_8 : decode cX11_isLetter 8 = .ok (.ifCond .ne 14, 3) := by decide +kernel
theorem dX11_isLetter_11 : decode cX11_isLetter 11 = .ok (.iload_n 0, 1) := by decide +kernel
theorem dX11_isLetter_12 : decode cX11_isLetter 12 = .ok (.bipush 65, 2) := by decide +kernel
theorem dX11_isLetter_14 : decode cX11_isLetter 14 = .ok (.bipush 90, 2) := by decide +kernel
theorem dX11_isLetter_16 : decode cX11_isLetter 16 = .ok (.invokestatic 97, 3) := by decide +kernel
theorem dX11_isLetter_19 : decode cX11_isLetter 19 = .ok (.ifCond .eq 7, 3) := by decide +kernel
theorem dX11_isLetter_22 : decode cX11_isLetter 22 = .ok (.iconst 1, 1) := by decide +kernel
theorem dX11_isLetter_23 : decode cX11_isLetter 23 = .ok (.goto 4, 3) := by decide +kernel
theorem dX11_isLetter_26 : decode cX11_isLetter 26 = .ok (.iconst 0, 1) := by decide +kernel
theorem dX11_isLetter_27 : decode cX11_isLetter 27 = .ok (.ireturn, 1) := by decide +kernel
theorem dX11_wordOf_0 : decode cX11_wordOf 0 = .ok (.lload_n 0, 1) := by decide +kernel
theorem dX11_wordOf_1 : decode cX11_wordOf 1 = .ok (.ldc2_w 128, 3) := by decide +kernel
theorem dX11_wordOf_4 : decode cX11_wordOf 4 = .ok (.lcmp, 1) := by decide +kernel
theorem dX11_wordOf_5 : decode cX11_wordOf 5 = .ok (.ifCond .ne 5, 3) := by decide +kernel
theorem dX11_wordOf_8 : decode cX11_wordOf 8 = .ok (.iconst 0, 1) := by decide +kernel
theorem dX11_wordOf_9 : decode cX11_wordOf 9 = .ok (.ireturn, 1) := by decide +kernel
theorem dX11_wordOf_10 : decode cX11_wordOf 10 = .ok (.lload_n 0, 1) := by decide +kernel
theorem dX11_wordOf_11 : decode cX11_wordOf 11 = .ok (.ldc2_w 130, 3) := by decide +kernel
theorem dX11_wordOf_14 : decode cX11_wordOf 14 = .ok (.lcmp, 1) := by decide +kernel
theorem dX11_wordOf_15 : decode cX11_wordOf 15 = .ok (.ifCond .ne 5, 3) := by decide +kernel
theorem dX11_wordOf_18 : decode cX11_wordOf 18 = .ok (.iconst 1, 1) := by decide +kernel
theorem dX11_wordOf_19 : decode cX11_wordOf 19 = .ok (.ireturn, 1) := by decide +kernel
theorem dX11_wordOf_20 : decode cX11_wordOf 20 = .ok (.lload_n 0, 1) := by decide +kernel
theorem dX11_wordOf_21 : decode cX11_wordOf 21 = .ok (.ldc2_w 132, 3) := by decide +kernel
theorem dX11_wordOf_24 : decode cX11_wordOf 24 = .ok (.lcmp, 1) := by decide +kernel
theorem dX11_wordOf_25 : decode cX11_wordOf 25 = .ok (.ifCond .ne 5, 3) := by decide +kernel
theorem dX11_wordOf_28 : decode cX11_wordOf 28 = .ok (.iconst 2, 1) := by decide +kernel
theorem dX11_wordOf_29 : decode cX11_wordOf 29 = .ok (.ireturn, 1) := by decide +kernel
theorem dX11_wordOf_30 : decode cX11_wordOf 30 = .ok (.lload_n 0, 1) := by decide +kernel
theorem dX11_wordOf_31 : decode cX11_wordOf 31 = .ok (.ldc2_w 134, 3) := by decide +kernel
theorem dX11_wordOf_34 : decode cX11_wordOf 34 = .ok (.lcmp, 1) := by decide +kernel
theorem dX11_wordOf_35 : decode cX11_wordOf 35 = .ok (.ifCond .ne 5, 3) := by decide +kernel
theorem dX11_wordOf_38 : decode cX11_wordOf 38 = .ok (.iconst 3, 1) := by decide +kernel
theorem dX11_wordOf_39 : decode cX11_wordOf 39 = .ok (.ireturn, 1) := by decide +kernel
theorem dX11_wordOf_40 : decode cX11_wordOf 40 = .ok (.lload_n 0, 1) := by decide +kernel
theorem dX11_wordOf_41 : decode cX11_wordOf 41 = .ok (.ldc2_w 136, 3) := by decide +kernel
theorem dX11_wordOf_44 : decode cX11_wordOf 44 = .ok (.lcmp, 1) := by decide +kernel
theorem dX11_wordOf_45 : decode cX11_wordOf 45 = .ok (.ifCond .ne 5, 3) := by decide +kernel
theorem dX11_wordOf_48 : decode cX11_wordOf 48 = .ok (.iconst 4, 1) := by decide +kernel
theorem dX11_wordOf_49 : decode cX11_wordOf 49 = .ok (.ireturn, 1) := by decide +kernel
theorem dX11_wordOf_50 : decode cX11_wordOf 50 = .ok (.lload_n 0, 1) := by decide +kernel
theorem dX11_wordOf_51 : decode cX11_wordOf 51 = .ok (.ldc2_w 138, 3) := by decide +kernel
theorem dX11_wordOf_54 : decode cX11_wordOf 54 = .ok (.lcmp, 1) := by decide +kernel
theorem dX11_wordOf_55 : decode cX11_wordOf 55 = .ok (.ifCond .ne 5, 3) := by decide +kernel
theorem dX11_wordOf_58 : decode cX11_wordOf 58 = .ok (.iconst 5, 1) := by decide +kernel
theorem dX11_wordOf_59 : decode cX11_wordOf 59 = .ok (.ireturn, 1) := by decide +kernel
theorem dX11_wordOf_60 : decode cX11_wordOf 60 = .ok (.lload_n 0, 1) := by decide +kernel
theorem dX11_wordOf_61 : decode cX11_wordOf 61 = .ok (.ldc2_w 140, 3) := by decide +kernel
theorem dX11_wordOf_64 : decode cX11_wordOf 64 = .ok (.lcmp, 1) := by decide +kernel
theorem dX11_wordOf_65 : decode cX11_wordOf 65 = .ok (.ifCond .ne 6, 3) := by decide +kernel
theorem dX11_wordOf_68 : decode cX11_wordOf 68 = .ok (.bipush 6, 2) := by decide +kernel
theorem dX11_wordOf_70 : decode cX11_wordOf 70 = .ok (.ireturn, 1) := by decide +kernel
theorem dX11_wordOf_71 : decode cX11_wordOf 71 = .ok (.lload_n 0, 1) := by decide +kernel
theorem dX11_wordOf_72 : decode cX11_wordOf 72 = .ok (.ldc2_w 142, 3) := by decide +kernel
theorem dX11_wordOf_75 : decode cX11_wordOf 75 = .ok (.lcmp, 1) := by decide +kernel
theorem dX11_wordOf_76 : decode cX11_wordOf 76 = .ok (.ifCond .ne 6, 3) := by decide +kernel
theorem dX11_wordOf_79 : decode cX11_wordOf 79 = .ok (.bipush 7, 2) := by decide +kernel
theorem dX11_wordOf_81 : decode cX11_wordOf 81 = .ok (.ireturn, 1) := by decide +kernel
theorem dX11_wordOf_82 : decode cX11_wordOf 82 = .ok (.lload_n 0, 1) := by decide +kernel
theorem dX11_wordOf_83 : decode cX11_wordOf 83 = .ok (.ldc2_w 144, 3) := by decide +kernel
theorem dX11_wordOf_86 : decode cX11_wordOf 86 = .ok (.lcmp, 1) := by decide +kernel
theorem dX11_wordOf_87 : decode cX11_wordOf 87 = .ok (.ifCond .ne 6, 3) := by decide +kernel
theorem dX11_wordOf_90 : decode cX11_wordOf 90 = .ok (.bipush 8, 2) := by decide +kernel
theorem dX11_wordOf_92 : decode cX11_wordOf 92 = .ok (.ireturn, 1) := by decide +kernel
theorem dX11_wordOf_93 : decode cX11_wordOf 93 = .ok (.lload_n 0, 1) := by decide +kernel
theorem dX11_wordOf_94 : decode cX11_wordOf 94 = .ok (.ldc2_w 146, 3) := by decide +kernel
theorem dX11_wordOf_97 : decode cX11_wordOf 97 = .ok (.lcmp, 1) := by decide +kernel
theorem dX11_wordOf_98 : decode cX11_wordOf 98 = .ok (.ifCond .ne 6, 3) := by decide +kernel
theorem dX11_wordOf_101 : decode cX11_wordOf 101 = .ok (.bipush 9, 2) := by decide +kernel
theorem dX11_wordOf_103 : decode cX11_wordOf 103 = .ok (.ireturn, 1) := by decide +kernel
theorem dX11_wordOf_104 : decode cX11_wordOf 104 = .ok (.lload_n 0, 1) := by decide +kernel
theorem dX11_wordOf_105 : decode cX11_wordOf 105 = .ok (.ldc2_w 148, 3) := by decide +kernel
theorem dX11_wordOf_108 : decode cX11_wordOf 108 = .ok (.lcmp, 1) := by decide +kernel
theorem dX11_wordOf_109 : decode cX11_wordOf 109 = .ok (.ifCond .ne 6, 3) := by decide +kernel
theorem dX11_wordOf_112 : decode cX11_wordOf 112 = .ok (.bipush 10, 2) := by decide +kernel
theorem dX11_wordOf_114 : decode cX11_wordOf 114 = .ok (.ireturn, 1) := by decide +kernel
theorem dX11_wordOf_115 : decode cX11_wordOf 115 = .ok (.lload_n 0, 1) := by decide +kernel
theorem dX11_wordOf_116 : decode cX11_wordOf 116 = .ok (.ldc2_w 150, 3) := by decide +kernel
theorem dX11_wordOf_119 : decode cX11_wordOf 119 = .ok (.lcmp, 1) := by decide +kernel
theorem dX11_wordOf_120 : decode cX11_wordOf 120 = .ok (.ifCond .ne 6, 3) := by decide +kernel
theorem dX11_wordOf_123 : decode cX11_wordOf 123 = .ok (.bipush 11, 2) := by decide +kernel
theorem dX11_wordOf_125 : decode cX11_wordOf 125 = .ok (.ireturn, 1) := by decide +kernel
theorem dX11_wordOf_126 : decode cX11_wordOf 126 = .ok (.iconst (-1), 1) := by decide +kernel
theorem dX11_wordOf_127 : decode cX11_wordOf 127 = .ok (.ireturn, 1) := by decide +kernel
theorem dX11_next_0 : decode cX11_next 0 = .ok (.aload_n 0, 1) := by decide +kernel
theorem dX11_next_1 : decode cX11_next 1 = .ok (.getfield 152, 3) := by decide +kernel
theorem dX11_next_4 : decode cX11_next 4 = .ok (.aload_n 0, 1) := by decide +kernel
theorem dX11_next_5 : decode cX11_next 5 = .ok (.getfield 155, 3) := by decide +kernel
theorem dX11_next_8 : decode cX11_next 8 = .ok (.if_icmp .ge 44, 3) := by decide +kernel
theorem dX11_next_11 : decode cX11_next 11 = .ok (.aload_n 0, 1) := by decide +kernel
theorem dX11_next_12 : decode cX11_next 12 = .ok (.getfield 16, 3) := by decide +kernel
theorem dX11_next_15 : decode cX11_next 15 = .ok (.aload_n 0, 1) := by decide +kernel
theorem dX11_next_16 : decode cX11_next 16 = .ok (.getfield 152, 3) := by decide +kernel
theorem dX11_next_19 : decode cX11_next 19 = .ok (.baload, 1) := by decide +kernel
theorem dX11_next_20 : decode cX11_next 20 = .ok (.bipush 32, 2) := by decide +kernel
theorem dX11_next_22 : decode cX11_next 22 = .ok (.if_icmp .eq 17, 3) := by decide +kernel
theorem dX11_next_25 : decode cX11_next 25 = .ok (.aload_n 0, 1) := by decide +kernel
theorem dX11_next_26 : decode cX11_next 26 = .ok (.getfield 16, 3) := by decide +kernel
theorem dX11_next_29 : decode cX11_next 29 = .ok (.aload_n 0, 1) := by decide +kernel
theorem dX11_next_30 : decode cX11_next 30 = .ok (.getfield 152, 3) := by decide +kernel
theorem dX11_next_33 : decode cX11_next 33 = .ok (.baload, 1) := by decide +kernel
theorem dX11_next_34 : decode cX11_next 34 = .ok (.bipush 10, 2) := by decide +kernel
theorem dX11_next_36 : decode cX11_next 36 = .ok (.if_icmp .ne 16, 3) := by decide +kernel
theorem dX11_next_39 : decode cX11_next 39 = .ok (.aload_n 0, 1) := by decide +kernel
theorem dX11_next_40 : decode cX11_next 40 = .ok (.dup, 1) := by decide +kernel
theorem dX11_next_41 : decode cX11_next 41 = .ok (.getfield 152, 3) := by decide +kernel
theorem dX11_next_44 : decode cX11_next 44 = .ok (.iconst 1, 1) := by decide +kernel
theorem dX11_next_45 : decode cX11_next 45 = .ok (.iadd, 1) := by decide +kernel
theorem dX11_next_46 : decode cX11_next 46 = .ok (.putfield 152, 3) := by decide +kernel
theorem dX11_next_49 : decode cX11_next 49 = .ok (.goto (-49), 3) := by decide +kernel
theorem dX11_next_52 : decode cX11_next 52 = .ok (.aload_n 0, 1) := by decide +kernel
theorem dX11_next_53 : decode cX11_next 53 = .ok (.aload_n 0, 1) := by decide +kernel
theorem dX11_next_54 : decode cX11_next 54 = .ok (.getfield 152, 3) := by decide +kernel
theorem dX11_next_57 : decode cX11_next 57 = .ok (.putfield 158, 3) := by decide +kernel
theorem dX11_next_60 : decode cX11_next 60 = .ok (.aload_n 0, 1) := by decide +kernel
theorem dX11_next_61 : decode cX11_next 61 = .ok (.getfield 152, 3) := by decide +kernel
theorem dX11_next_64 : decode cX11_next 64 = .ok (.aload_n 0, 1) := by decide +kernel
theorem dX11_next_65 : decode cX11_next 65 = .ok (.getfield 155, 3) := by decide +kernel
theorem dX11_next_68 : decode cX11_next 68 = .ok (.if_icmp .ne 9, 3) := by decide +kernel
theorem dX11_next_71 : decode cX11_next 71 = .ok (.aload_n 0, 1) := by decide +kernel
theorem dX11_next_72 : decode cX11_next 72 = .ok (.iconst 0, 1) := by decide +kernel
theorem dX11_next_73 : decode cX11_next 73 = .ok (.putfield 161, 3) := by decide +kernel
theorem dX11_next_76 : decode cX11_next 76 = .ok (.return_, 1) := by decide +kernel
theorem dX11_next_77 : decode cX11_next 77 = .ok (.aload_n 0, 1) := by decide +kernel
theorem dX11_next_78 : decode cX11_next 78 = .ok (.getfield 16, 3) := by decide +kernel
theorem dX11_next_81 : decode cX11_next 81 = .ok (.aload_n 0, 1) := by decide +kernel
theorem dX11_next_82 : decode cX11_next 82 = .ok (.getfield 152, 3) := by decide +kernel
theorem dX11_next_85 : decode cX11_next 85 = .ok (.baload, 1) := by decide +kernel
theorem dX11_next_86 : decode cX11_next 86 = .ok (.istore_n 1, 1) := by decide +kernel
theorem dX11_next_87 : decode cX11_next 87 = .ok (.iload_n 1, 1) := by decide +kernel
theorem dX11_next_88 : decode cX11_next 88 = .ok (.invokestatic 164, 3) := by decide +kernel
theorem dX11_next_91 : decode cX11_next 91 = .ok (.ifCond .eq 120, 3) := by decide +kernel
theorem dX11_next_94 : decode cX11_next 94 = .ok (.lconst 0, 1) := by decide +kernel
theorem dX11_next_95 : decode cX11_next 95 = .ok (.lstore_n 2, 1) := by decide +kernel
theorem dX11_next_96 : decode cX11_next 96 = .ok (.iconst 0, 1) := by decide +kernel
theorem dX11_next_97 : decode cX11_next 97 = .ok (.istore 4, 2) := by decide +kernel
theorem dX11_next_99 : decode cX11_next 99 = .ok (.aload_n 0, 1) := by decide +kernel
theorem dX11_next_100 : decode cX11_next 100 = .ok (.getfield 152, 3) := by decide +kernel
theorem dX11_next_103 : decode cX11_next 103 = .ok (.aload_n 0, 1) := by decide +kernel
theorem dX11_next_104 : decode cX11_next 104 = .ok (.getfield 155, 3) := by decide +kernel
theorem dX11_next_107 : decode cX11_next 107 = .ok (.if_icmp .ge 66, 3) := by decide +kernel
theorem dX11_next_110 : decode cX11_next 110 = .ok (.aload_n 0, 1) := by decide +kernel
theorem dX11_next_111 : decode cX11_next 111 = .ok (.getfield 16, 3) := by decide +kernel
theorem dX11_next_114 : decode cX11_next 114 = .ok (.aload_n 0, 1) := by decide +kernel
theorem dX11_next_115 : decode cX11_next 115 = .ok (.getfield 152, 3) := by decide +kernel
theorem dX11_next_118 : decode cX11_next 118 = .ok (.baload, 1) := by decide +kernel
theorem dX11_next_119 : decode cX11_next 119 = .ok (.invokestatic 164, 3) := by decide +kernel
theorem dX11_next_122 : decode cX11_next 122 = .ok (.ifCond .eq 51, 3) := by decide +kernel
theorem dX11_next_125 : decode cX11_next 125 = .ok (.iload 4, 2) := by decide +kernel
theorem dX11_next_127 : decode cX11_next 127 = .ok (.bipush 8, 2) := by decide +kernel
theorem dX11_next_129 : decode cX11_next 129 = .ok (.if_icmp .ge 26, 3) := by decide +kernel
theorem dX11_next_132 : decode cX11_next 132 = .ok (.ldc2_w 167, 3) := by decide +kernel
theorem dX11_next_135 : decode cX11_next 135 = .ok (.lload_n 2, 1) := by decide +kernel
theorem dX11_next_136 : decode cX11_next 136 = .ok (.lmul, 1) := by decide +kernel
theorem dX11_next_137 : decode cX11_next 137 = .ok (.aload_n 0, 1) := by decide +kernel
theorem dX11_next_138 : decode cX11_next 138 = .ok (.getfield 16, 3) := by decide +kernel
theorem dX11_next_141 : decode cX11_next 141 = .ok (.aload_n 0, 1) := by decide +kernel
theorem dX11_next_142 : decode cX11_next 142 = .ok (.getfield 152, 3) := by decide +kernel
theorem dX11_next_145 : decode cX11_next 145 = .ok (.baload, 1) := by decide +kernel
theorem dX11_next_146 : decode cX11_next 146 = .ok (.i2l, 1) := by decide +kernel
theorem dX11_next_147 : decode cX11_next 147 = .ok (.ladd, 1) := by decide +kernel
theorem dX11_next_148 : decode cX11_next 148 = .ok (.ldc2_w 167, 3) := by decide +kernel
theorem dX11_next_151 : decode cX11_next 151 = .ok (.lsub, 1) := by decide +kernel
theorem dX11_next_152 : decode cX11_next 152 = .ok (.goto 4, 3) := by decide +kernel
theorem dX11_next_155 : decode cX11_next 155 = .ok (.lload_n 2, 1) := by decide +kernel
theorem dX11_next_156 : decode cX11_next 156 = .ok (.lstore_n 2, 1) := by decide +kernel
theorem dX11_next_157 : decode cX11_next 157 = .ok (.iinc 4 1, 3) := by decide +kernel
theorem dX11_next_160 : decode cX11_next 160 = .ok (.aload_n 0, 1) := by decide +kernel
theorem dX11_next_161 : decode cX11_next 161 = .ok (.dup, 1) := by decide +kernel
theorem dX11_next_162 : decode cX11_next 162 = .ok (.getfield 152, 3) := by decide +kernel
theorem dX11_next_165 : decode cX11_next 165 = .ok (.iconst 1, 1) := by decide +kernel
theorem dX11_next_166 : decode cX11_next 166 = .ok (.iadd, 1) := by decide +kernel
theorem dX11_next_167 : decode cX11_next 167 = .ok (.putfield 152, 3) := by decide +kernel
theorem dX11_next_170 : decode cX11_next 170 = .ok (.goto (-71), 3) := by decide +kernel
theorem dX11_next_173 : decode cX11_next 173 = .ok (.aload_n 0, 1) := by decide +kernel
theorem dX11_next_174 : decode cX11_next 174 = .ok (.iload 4, 2) := by decide +kernel
theorem dX11_next_176 : decode cX11_next 176 = .ok (.bipush 7, 2) := by decide +kernel
theorem dX11_next_178 : decode cX11_next 178 = .ok (.if_icmp .le 7, 3) := by decide +kernel
theorem dX11_next_181 : decode cX11_next 181 = .ok (.iconst (-1), 1) := by decide +kernel
theorem dX11_next_182 : decode cX11_next 182 = .ok (.goto 7, 3) := by decide +kernel
theorem dX11_next_185 : decode cX11_next 185 = .ok (.lload_n 2, 1) := by decide +kernel
theorem dX11_next_186 : decode cX11_next 186 = .ok (.invokestatic 169, 3) := by decide +kernel
theorem dX11_next_189 : decode cX11_next 189 = .ok (.putfield 173, 3) := by decide +kernel
theorem dX11_next_192 : decode cX11_next 192 = .ok (.aload_n 0, 1) := by decide +kernel
theorem dX11_next_193 : decode cX11_next 193 = .ok (.aload_n 0, 1) := by decide +kernel
theorem dX11_next_194 : decode cX11_next 194 = .ok (.getfield 173, 3) := by decide +kernel
theorem dX11_next_197 : decode cX11_next 197 = .ok (.ifCond .ge 7, 3) := by decide +kernel
theorem dX11_next_200 : decode cX11_next 200 = .ok (.iconst 4, 1) := by decide +kernel
theorem dX11_next_201 : decode cX11_next 201 = .ok (.goto 4, 3) := by decide +kernel
theorem dX11_next_204 : decode cX11_next 204 = .ok (.iconst 1, 1) := by decide +kernel
theorem dX11_next_205 : decode cX11_next 205 = .ok (.putfield 161, 3) := by decide +kernel
theorem dX11_next_208 : decode cX11_next 208 = .ok (.goto 231, 3) := by decide +kernel
theorem dX11_next_211 : decode cX11_next 211 = .ok (.iload_n 1, 1) := by decide +kernel
theorem dX11_next_212 : decode cX11_next 212 = .ok (.bipush 48, 2) := by decide +kernel
theorem dX11_next_214 : decode cX11_next 214 = .ok (.bipush 57, 2) := by decide +kernel
theorem dX11_next_216 : decode cX11_next 216 = .ok (.invokestatic 97, 3) := by decide +kernel
theorem dX11_next_219 : decode cX11_next 219 = .ok (.ifCond .eq 96, 3) := by decide +kernel
theorem dX11_next_222 : decode cX11_next 222 = .ok (.aload_n 0, 1) := by decide +kernel
theorem dX11_next_223 : decode cX11_next 223 = .ok (.iconst 2, 1) := by decide +kernel
theorem dX11_next_224 : decode cX11_next 224 = .ok (.putfield 161, 3) := by decide +kernel
theorem dX11_next_227 : decode cX11_next 227 = .ok (.aload_n 0, 1) := by decide +kernel
theorem dX11_next_228 : decode cX11_next 228 = .ok (.iconst 0, 1) := by decide +kernel
theorem dX11_next_229 : decode cX11_next 229 = .ok (.putfield 173, 3) := by decide +kernel
theorem dX11_next_232 : decode cX11_next 232 = .ok (.aload_n 0, 1) := by decide +kernel
theorem dX11_next_233 : decode cX11_next 233 = .ok (.getfield 152, 3) := by decide +kernel
theorem dX11_next_236 : decode cX11_next 236 = .ok (.aload_n 0, 1) := by decide +kernel
theorem dX11_next_237 : decode cX11_next 237 = .ok (.getfield 155, 3) := by decide +kernel
theorem dX11_next_240 : decode cX11_next 240 = .ok (.if_icmp .ge 199, 3) := by decide +kernel
theorem dX11_next_243 : decode cX11_next 243 = .ok (.aload_n 0, 1) := by decide +kernel
theorem dX11_next_244 : decode cX11_next 244 = .ok (.getfield 16, 3) := by decide +kernel
theorem dX11_next_247 : decode cX11_next 247 = .ok (.aload_n 0, 1) := by decide +kernel
theorem dX11_next_248 : decode cX11_next 248 = .ok (.getfield 152, 3) := by decide +kernel
theorem dX11_next_251 : decode cX11_next 251 = .ok (.baload, 1) := by decide +kernel
theorem dX11_next_252 : decode cX11_next 252 = .ok (.bipush 48, 2) := by decide +kernel
theorem dX11_next_254 : decode cX11_next 254 = .ok (.bipush 57, 2) := by decide +kernel
theorem dX11_next_256 : decode cX11_next 256 = .ok (.invokestatic 97, 3) := by decide +kernel
theorem dX11_next_259 : decode cX11_next 259 = .ok (.ifCond .eq 180, 3) := by decide +kernel
theorem dX11_next_262 : decode cX11_next 262 = .ok (.aload_n 0, 1) := by decide +kernel
theorem dX11_next_263 : decode cX11_next 263 = .ok (.aload_n 0, 1) := by decide +kernel
theorem dX11_next_264 : decode cX11_next 264 = .ok (.getfield 173, 3) := by decide +kernel
theorem dX11_next_267 : decode cX11_next 267 = .ok (.ldc 176, 2) := by decide +kernel
theorem dX11_next_269 : decode cX11_next 269 = .ok (.if_icmp .le 10, 3) := by decide +kernel
theorem dX11_next_272 : decode cX11_next 272 = .ok (.aload_n 0, 1) := by decide +kernel
theorem dX11_next_273 : decode cX11_next 273 = .ok (.getfield 173, 3) := by decide +kernel
theorem dX11_next_276 : decode cX11_next 276 = .ok (.goto 23, 3) := by decide +kernel
theorem dX11_next_279 : decode cX11_next 279 = .ok (.bipush 10, 2) := by decide +kernel
theorem dX11_next_281 : decode cX11_next 281 = .ok (.aload_n 0, 1) := by decide +kernel
theorem dX11_next_282 : decode cX11_next 282 = .ok (.getfield 173, 3) := by decide +kernel
theorem dX11_next_285 : decode cX11_next 285 = .ok (.imul, 1) := by decide +kernel
theorem dX11_next_286 : decode cX11_next 286 = .ok (.aload_n 0, 1) := by decide +kernel
theorem dX11_next_287 : decode cX11_next 287 = .ok (.getfield 16, 3) := by decide +kernel
theorem dX11_next_290 : decode cX11_next 290 = .ok (.aload_n 0, 1) := by decide +kernel
theorem dX11_next_291 : decode cX11_next 291 = .ok (.getfield 152, 3) := by decide +kernel
theorem dX11_next_294 : decode cX11_next 294 = .ok (.baload, 1) := by decide +kernel
theorem dX11_next_295 : decode cX11_next 295 = .ok (.iadd, 1) := by decide +kernel
theorem dX11_next_296 : decode cX11_next 296 = .ok (.bipush 48, 2) := by decide +kernel
theorem dX11_next_298 : decode cX11_next 298 = .ok (.isub, 1) := by decide +kernel
theorem dX11_next_299 : decode cX11_next 299 = .ok (.putfield 173, 3) := by decide +kernel
theorem dX11_next_302 : decode cX11_next 302 = .ok (.aload_n 0, 1) := by decide +kernel
theorem dX11_next_303 : decode cX11_next 303 = .ok (.dup, 1) := by decide +kernel
theorem dX11_next_304 : decode cX11_next 304 = .ok (.getfield 152, 3) := by decide +kernel
theorem dX11_next_307 : decode cX11_next 307 = .ok (.iconst 1, 1) := by decide +kernel
theorem dX11_next_308 : decode cX11_next 308 = .ok (.iadd, 1) := by decide +kernel
theorem dX11_next_309 : decode cX11_next 309 = .ok (.putfield 152, 3) := by decide +kernel
theorem dX11_next_312 : decode cX11_next 312 = .ok (.goto (-80), 3) := by decide +kernel
theorem dX11_next_315 : decode cX11_next 315 = .ok (.aload_n 0, 1) := by decide +kernel
theorem dX11_next_316 : decode cX11_next 316 = .ok (.dup, 1) := by decide +kernel
theorem dX11_next_317 : decode cX11_next 317 = .ok (.getfield 152, 3) := by decide +kernel
theorem dX11_next_320 : decode cX11_next 320 = .ok (.iconst 1, 1) := by decide +kernel
theorem dX11_next_321 : decode cX11_next 321 = .ok (.iadd, 1) := by decide +kernel
theorem dX11_next_322 : decode cX11_next 322 = .ok (.putfield 152, 3) := by decide +kernel
theorem dX11_next_325 : decode cX11_next 325 = .ok (.aload_n 0, 1) := by decide +kernel
theorem dX11_next_326 : decode cX11_next 326 = .ok (.iload_n 1, 1) := by decide +kernel
theorem dX11_next_327 : decode cX11_next 327 = .ok (.putfield 173, 3) := by decide +kernel
theorem dX11_next_330 : decode cX11_next 330 = .ok (.aload_n 0, 1) := by decide +kernel
theorem dX11_next_331 : decode cX11_next 331 = .ok (.iload_n 1, 1) := by decide +kernel
theorem dX11_next_332 : decode cX11_next 332 = .ok (.bipush 59, 2) := by decide +kernel
theorem dX11_next_334 : decode cX11_next 334 = .ok (.bipush 62, 2) := by decide +kernel
theorem dX11_next_336 : decode cX11_next 336 = .ok (.invokestatic 97, 3) := by decide +kernel
theorem dX11_next_339 : decode cX11_next 339 = .ok (.ifCond .ne 26, 3) := by decide +kernel
theorem dX11_next_342 : decode cX11_next 342 = .ok (.iload_n 1, 1) := by decide +kernel
theorem dX11_next_343 : decode cX11_next 343 = .ok (.bipush 40, 2) := by decide +kernel
theorem dX11_next_345 : decode cX11_next 345 = .ok (.bipush 45, 2) := by decide +kernel
theorem dX11_next_347 : decode cX11_next 347 = .ok (.invokestatic 97, 3) := by decide +kernel
theorem dX11_next_350 : decode cX11_next 350 = .ok (.ifCond .ne 15, 3) := by decide +kernel
theorem dX11_next_353 : decode cX11_next 353 = .ok (.iload_n 1, 1) := by decide +kernel
theorem dX11_next_354 : decode cX11_next 354 = .ok (.bipush 47, 2) := by decide +kernel
theorem dX11_next_356 : decode cX11_next 356 = .ok (.if_icmp .eq 9, 3) := by decide +kernel
theorem dX11_next_359 : decode cX11_next 359 = .ok (.iload_n 1, 1) := by decide +kernel
theorem dX11_next_360 : decode cX11_next 360 = .ok (.bipush 35, 2) := by decide +kernel
theorem dX11_next_362 : decode cX11_next 362 = .ok (.if_icmp .ne 7, 3) := by decide +kernel
theorem dX11_next_365 : decode cX11_next 365 = .ok (.iconst 3, 1) := by decide +kernel
theorem dX11_next_366 : decode cX11_next 366 = .ok (.goto 4, 3) := by decide +kernel
theorem dX11_next_369 : decode cX11_next 369 = .ok (.iconst 4, 1) := by decide +kernel
theorem dX11_next_370 : decode cX11_next 370 = .ok (.putfield 161, 3) := by decide +kernel
theorem dX11_next_373 : decode cX11_next 373 = .ok (.iload_n 1, 1) := by decide +kernel
theorem dX11_next_374 : decode cX11_next 374 = .ok (.bipush 60, 2) := by decide +kernel
theorem dX11_next_376 : decode cX11_next 376 = .ok (.if_icmp .eq 9, 3) := by decide +kernel
theorem dX11_next_379 : decode cX11_next 379 = .ok (.iload_n 1, 1) := by decide +kernel
theorem dX11_next_380 : decode cX11_next 380 = .ok (.bipush 62, 2) := by decide +kernel
theorem dX11_next_382 : decode cX11_next 382 = .ok (.if_icmp .ne 57, 3) := by decide +kernel
theorem dX11_next_385 : decode cX11_next 385 = .ok (.aload_n 0, 1) := by decide +kernel
theorem dX11_next_386 : decode cX11_next 386 = .ok (.getfield 152, 3) := by decide +kernel
theorem dX11_next_389 : decode cX11_next 389 = .ok (.aload_n 0, 1) := by decide +kernel
theorem dX11_next_390 : decode cX11_next 390 = .ok (.getfield 155, 3) := by decide +kernel
theorem dX11_next_393 : decode cX11_next 393 = .ok (.if_icmp .ge 46, 3) := by decide +kernel
theorem dX11_next_396 : decode cX11_next 396 = .ok (.aload_n 0, 1) := by decide +kernel
theorem dX11_next_397 : decode cX11_next 397 = .ok (.getfield 16, 3) := by decide +kernel
theorem dX11_next_400 : decode cX11_next 400 = .ok (.aload_n 0, 1) := by decide +kernel
theorem dX11_next_401 : decode cX11_next 401 = .ok (.getfield 152, 3) := by decide +kernel
theorem dX11_next_404 : decode cX11_next 404 = .ok (.baload, 1) := by decide +kernel
theorem dX11_next_405 : decode cX11_next 405 = .ok (.bipush 61, 2) := by decide +kernel
theorem dX11_next_407 : decode cX11_next 407 = .ok (.if_icmp .ne 32, 3) := by decide +kernel
theorem dX11_next_410 : decode cX11_next 410 = .ok (.aload_n 0, 1) := by decide +kernel
theorem dX11_next_411 : decode cX11_next 411 = .ok (.iload_n 1, 1) := by decide +kernel
theorem dX11_next_412 : decode cX11_next 412 = .ok (.bipush 60, 2) := by decide +kernel
theorem dX11_next_414 : decode cX11_next 414 = .ok (.if_icmp .ne 9, 3) := by decide +kernel
theorem dX11_next_417 : decode cX11_next 417 = .ok (.sipush 300, 3) := by decide +kernel
theorem dX11_next_420 : decode cX11_next 420 = .ok (.goto 6, 3) := by decide +kernel
theorem dX11_next_423 : decode cX11_next 423 = .ok (.sipush 301, 3) := by decide +kernel
theorem dX11_next_426 : decode cX11_next 426 = .ok (.putfield 173, 3) := by decide +kernel
theorem dX11_next_429 : decode cX11_next 429 = .ok (.aload_n 0, 1) := by decide +kernel
theorem dX11_next_430 : decode cX11_next 430 = .ok (.dup, 1) := by decide +kernel
theorem dX11_next_431 : decode cX11_next 431 = .ok (.getfield 152, 3) := by decide +kernel
theorem dX11_next_434 : decode cX11_next 434 = .ok (.iconst 1, 1) := by decide +kernel
theorem dX11_next_435 : decode cX11_next 435 = .ok (.iadd, 1) := by decide +kernel
theorem dX11_next_436 : decode cX11_next 436 = .ok (.putfield 152, 3) := by decide +kernel
theorem dX11_next_439 : decode cX11_next 439 = .ok (.return_, 1) := by decide +kernel
theorem dX11_isSign_0 : decode cX11_isSign 0 = .ok (.aload_n 0, 1) := by decide +kernel
theorem dX11_isSign_1 : decode cX11_isSign 1 = .ok (.getfield 161, 3) := by decide +kernel
theorem dX11_isSign_4 : decode cX11_isSign 4 = .ok (.iconst 3, 1) := by decide +kernel
theorem dX11_isSign_5 : decode cX11_isSign 5 = .ok (.if_icmp .ne 15, 3) := by decide +kernel
theorem dX11_isSign_8 : decode cX11_isSign 8 = .ok (.aload_n 0, 1) := by decide +kernel
theorem dX11_isSign_9 : decode cX11_isSign 9 = .ok (.getfield 173, 3) := by decide +kernel
theorem dX11_isSign_12 : decode cX11_isSign 12 = .ok (.iload_n 1, 1) := by decide +kernel
theorem dX11_isSign_13 : decode cX11_isSign 13 = .ok (.if_icmp .ne 7, 3) := by decide +kernel
theorem dX11_isSign_16 : decode cX11_isSign 16 = .ok (.iconst 1, 1) := by decide +kernel
theorem dX11_isSign_17 : decode cX11_isSign 17 = .ok (.goto 4, 3) := by decide +kernel
theorem dX11_isSign_20 : decode cX11_isSign 20 = .ok (.iconst 0, 1) := by decide +kernel
theorem dX11_isSign_21 : decode cX11_isSign 21 = .ok (.ireturn, 1) := by decide +kernel
theorem dX11_isWord_0 : decode cX11_isWord 0 = .ok (.aload_n 0, 1) := by decide +kernel
theorem dX11_isWord_1 : decode cX11_isWord 1 = .ok (.getfield 161, 3) := by decide +kernel
theorem dX11_isWord_4 : decode cX11_isWord 4 = .ok (.iconst 1, 1) := by decide +kernel
theorem dX11_isWord_5 : decode cX11_isWord 5 = .ok (.if_icmp .ne 15, 3) := by decide +kernel
theorem dX11_isWord_8 : decode cX11_isWord 8 = .ok (.aload_n 0, 1) := by decide +kernel
theorem dX11_isWord_9 : decode cX11_isWord 9 = .ok (.getfield 173, 3) := by decide +kernel
theorem dX11_isWord_12 : decode cX11_isWord 12 = .ok (.iload_n 1, 1) := by decide +kernel
theorem dX11_isWord_13 : decode cX11_isWord 13 = .ok (.if_icmp .ne 7, 3) := by decide +kernel
theorem dX11_isWord_16 : decode cX11_isWord 16 = .ok (.iconst 1, 1) := by decide +kernel
theorem dX11_isWord_17 : decode cX11_isWord 17 = .ok (.goto 4, 3) := by decide +kernel
theorem dX11_isWord_20 : decode cX11_isWord 20 = .ok (.iconst 0, 1) := by decide +kernel
theorem dX11_isWord_21 : decode cX11_isWord 21 = .ok (.ireturn, 1) := by decide +kernel
theorem dX11_errs_0 : decode cX11_errs 0 = .ok (.aload_n 0, 1) := by decide +kernel
theorem dX11_errs_1 : decode cX11_errs 1 = .ok (.getfield 177, 3) := by decide +kernel
theorem dX11_errs_4 : decode cX11_errs 4 = .ok (.ifCond .ne 16, 3) := by decide +kernel
theorem dX11_errs_7 : decode cX11_errs 7 = .ok (.aload_n 0, 1) := by decide +kernel
theorem dX11_errs_8 : decode cX11_errs 8 = .ok (.iload_n 1, 1) := by decide +kernel
theorem dX11_errs_9 : decode cX11_errs 9 = .ok (.putfield 177, 3) := by decide +kernel
theorem dX11_errs_12 : decode cX11_errs 12 = .ok (.aload_n 0, 1) := by decide +kernel
theorem dX11_errs_13 : decode cX11_errs 13 = .ok (.aload_n 0, 1) := by decide +kernel
theorem dX11_errs_14 : decode cX11_errs 14 = .ok (.getfield 158, 3) := by decide +kernel
theorem dX11_errs_17 : decode cX11_errs 17 = .ok (.putfield 180, 3) := by decide +kernel
theorem dX11_errs_20 : decode cX11_errs 20 = .ok (.return_, 1) := by decide +kernel
theorem dX11_emits_0 : decode cX11_emits 0 = .ok (.aload_n 0, 1) := by decide +kernel
theorem dX11_emits_1 : decode cX11_emits 1 = .ok (.getfield 63, 3) := by decide +kernel
theorem dX11_emits_4 : decode cX11_emits 4 = .ok (.aload_n 0, 1) := by decide +kernel
theorem dX11_emits_5 : decode cX11_emits 5 = .ok (.getfield 183, 3) := by decide +kernel
theorem dX11_emits_8 : decode cX11_emits 8 = .ok (.iload_n 1, 1) := by decide +kernel
theorem dX11_emits_9 : decode cX11_emits 9 = .ok (.iastore, 1) := by decide +kernel
theorem dX11_emits_10 : decode cX11_emits 10 = .ok (.aload_n 0, 1) := by decide +kernel
theorem dX11_emits_11 : decode cX11_emits 11 = .ok (.getfield 66, 3) := by decide +kernel
theorem dX11_emits_14 : decode cX11_emits 14 = .ok (.aload_n 0, 1) := by decide +kernel
theorem dX11_emits_15 : decode cX11_emits 15 = .ok (.getfield 183, 3) := by decide +kernel
theorem dX11_emits_18 : decode cX11_emits 18 = .ok (.iload_n 2, 1) := by decide +kernel
theorem dX11_emits_19 : decode cX11_emits 19 = .ok (.iastore, 1) := by decide +kernel
theorem dX11_emits_20 : decode cX11_emits 20 = .ok (.aload_n 0, 1) := by decide +kernel
theorem dX11_emits_21 : decode cX11_emits 21 = .ok (.dup, 1) := by decide +kernel
theorem dX11_emits_22 : decode cX11_emits 22 = .ok (.getfield 183, 3) := by decide +kernel
theorem dX11_emits_25 : decode cX11_emits 25 = .ok (.iconst 1, 1) := by decide +kernel
theorem dX11_emits_26 : decode cX11_emits 26 = .ok (.iadd, 1) := by decide +kernel
theorem dX11_emits_27 : decode cX11_emits 27 = .ok (.putfield 183, 3) := by decide +kernel
theorem dX11_emits_30 : decode cX11_emits 30 = .ok (.return_, 1) := by decide +kernel
theorem dX11_opensFrame_0 : decode cX11_opensFrame 0 = .ok (.aload_n 0, 1) := by decide +kernel
theorem dX11_opensFrame_1 : decode cX11_opensFrame 1 = .ok (.getfield 45, 3) := by decide +kernel
theorem dX11_opensFrame_4 : decode cX11_opensFrame 4 = .ok (.aload_n 0, 1) := by decide +kernel
theorem dX11_opensFrame_5 : decode cX11_opensFrame 5 = .ok (.getfield 186, 3) := by decide +kernel
theorem dX11_opensFrame_8 : decode cX11_opensFrame 8 = .ok (.iload_n 1, 1) := by decide +kernel
theorem dX11_opensFrame_9 : decode cX11_opensFrame 9 = .ok (.iastore, 1) := by decide +kernel
theorem dX11_opensFrame_10 : decode cX11_opensFrame 10 = .ok (.aload_n 0, 1) := by decide +kernel
theorem dX11_opensFrame_11 : decode cX11_opensFrame 11 = .ok (.dup, 1) := by decide +kernel
theorem dX11_opensFrame_12 : decode cX11_opensFrame 12 = .ok (.getfield 186, 3) := by decide +kernel
theorem dX11_opensFrame_15 : decode cX11_opensFrame 15 = .ok (.iconst 1, 1) := by decide +kernel
theorem dX11_opensFrame_16 : decode cX11_opensFrame 16 = .ok (.iadd, 1) := by decide +kernel
theorem dX11_opensFrame_17 : decode cX11_opensFrame 17 = .ok (.putfield 186, 3) := by decide +kernel
theorem dX11_opensFrame_20 : decode cX11_opensFrame 20 = .ok (.return_, 1) := by decide +kernel
theorem dX11_top_0 : decode cX11_top 0 = .ok (.aload_n 0, 1) := by decide +kernel
theorem dX11_top_1 : decode cX11_top 1 = .ok (.getfield 45, 3) := by decide +kernel
theorem dX11_top_4 : decode cX11_top 4 = .ok (.aload_n 0, 1) := by decide +kernel
theorem dX11_top_5 : decode cX11_top 5 = .ok (.getfield 186, 3) := by decide +kernel
theorem dX11_top_8 : decode cX11_top 8 = .ok (.iconst 1, 1) := by decide +kernel
theorem dX11_top_9 : decode cX11_top 9 = .ok (.isub, 1) := by decide +kernel
theorem dX11_top_10 : decode cX11_top 10 = .ok (.iaload, 1) := by decide +kernel
theorem dX11_top_11 : decode cX11_top 11 = .ok (.ireturn, 1) := by decide +kernel
theorem dX11_opensSign_0 : decode cX11_opensSign 0 = .ok (.aload_n 0, 1) := by decide +kernel
theorem dX11_opensSign_1 : decode cX11_opensSign 1 = .ok (.getfield 189, 3) := by decide +kernel
theorem dX11_opensSign_4 : decode cX11_opensSign 4 = .ok (.bipush 8, 2) := by decide +kernel
theorem dX11_opensSign_6 : decode cX11_opensSign 6 = .ok (.if_icmp .ne 10, 3) := by decide +kernel
theorem dX11_opensSign_9 : decode cX11_opensSign 9 = .ok (.aload_n 0, 1) := by decide +kernel
theorem dX11_opensSign_10 : decode cX11_opensSign 10 = .ok (.iconst 3, 1) := by decide +kernel
theorem dX11_opensSign_11 : decode cX11_opensSign 11 = .ok (.invokevirtual 192, 3) := by decide +kernel
theorem dX11_opensSign_14 : decode cX11_opensSign 14 = .ok (.iconst 0, 1) := by decide +kernel
theorem dX11_opensSign_15 : decode cX11_opensSign 15 = .ok (.ireturn, 1) := by decide +kernel
theorem dX11_opensSign_16 : decode cX11_opensSign 16 = .ok (.aload_n 0, 1) := by decide +kernel
theorem dX11_opensSign_17 : decode cX11_opensSign 17 = .ok (.dup, 1) := by decide +kernel
theorem dX11_opensSign_18 : decode cX11_opensSign 18 = .ok (.getfield 189, 3) := by decide +kernel
theorem dX11_opensSign_21 : decode cX11_opensSign 21 = .ok (.iconst 1, 1) := by decide +kernel
theorem dX11_opensSign_22 : decode cX11_opensSign 22 = .ok (.iadd, 1) := by decide +kernel
theorem dX11_opensSign_23 : decode cX11_opensSign 23 = .ok (.putfield 189, 3) := by decide +kernel
theorem dX11_opensSign_26 : decode cX11_opensSign 26 = .ok (.aload_n 0, 1) := by decide +kernel
theorem dX11_opensSign_27 : decode cX11_opensSign 27 = .ok (.iload_n 1, 1) := by decide +kernel
theorem dX11_opensSign_28 : decode cX11_opensSign 28 = .ok (.invokevirtual 195, 3) := by decide +kernel
theorem dX11_opensSign_31 : decode cX11_opensSign 31 = .ok (.aload_n 0, 1) := by decide +kernel
theorem dX11_opensSign_32 : decode cX11_opensSign 32 = .ok (.invokevirtual 198, 3) := by decide +kernel
theorem dX11_opensSign_35 : decode cX11_opensSign 35 = .ok (.iconst 1, 1) := by decide +kernel
theorem dX11_opensSign_36 : decode cX11_opensSign 36 = .ok (.ireturn, 1) := by decide +kernel
theorem dX11_rank_0 : decode cX11_rank 0 = .ok (.iload_n 0, 1) := by decide +kernel
theorem dX11_rank_1 : decode cX11_rank 1 = .ok (.sipush 407, 3) := by decide +kernel
theorem dX11_rank_4 : decode cX11_rank 4 = .ok (.if_icmp .ne 7, 3) := by decide +kernel
theorem dX11_rank_7 : decode cX11_rank 7 = .ok (.iconst 1, 1) := by decide +kernel
theorem dX11_rank_8 : decode cX11_rank 8 = .ok (.goto 31, 3) := by decide +kernel
theorem dX11_rank_11 : decode cX11_rank 11 = .ok (.iload_n 0, 1) := by decide +kernel
theorem dX11_rank_12 : decode cX11_rank 12 = .ok (.sipush 406, 3) := by decide +kernel
theorem dX11_rank_15 : decode cX11_rank 15 = .ok (.if_icmp .ne 7, 3) := by decide +kernel
theorem dX11_rank_18 : decode cX11_rank 18 = .ok (.iconst 2, 1) := by decide +kernel
theorem dX11_rank_19 : decode cX11_rank 19 = .ok (.goto 20, 3) := by decide +kernel
theorem dX11_rank_22 : decode cX11_rank 22 = .ok (.iload_n 0, 1) := by decide +kernel
theorem dX11_rank_23 : decode cX11_rank 23 = .ok (.bipush 43, 2) := by decide +kernel
theorem dX11_rank_25 : decode cX11_rank 25 = .ok (.if_icmp .eq 9, 3) := by decide +kernel
theorem dX11_rank_28 : decode cX11_rank 28 = .ok (.iload_n 0, 1) := by decide +kernel
theorem dX11_rank_29 : decode cX11_rank 29 = .ok (.bipush 45, 2) := by decide +kernel
theorem dX11_rank_31 : decode cX11_rank 31 = .ok (.if_icmp .ne 7, 3) := by decide +kernel
theorem dX11_rank_34 : decode cX11_rank 34 = .ok (.iconst 3, 1) := by decide +kernel
theorem dX11_rank_35 : decode cX11_rank 35 = .ok (.goto 4, 3) := by decide +kernel
theorem dX11_rank_38 : decode cX11_rank 38 = .ok (.iconst 4, 1) := by decide +kernel
theorem dX11_rank_39 : decode cX11_rank 39 = .ok (.ireturn, 1) := by decide +kernel
theorem dX11_works_0 : decode cX11_works 0 = .ok (.aload_n 0, 1) := by decide +kernel
theorem dX11_works_1 : decode cX11_works 1 = .ok (.getfield 201, 3) := by decide +kernel
theorem dX11_works_4 : decode cX11_works 4 = .ok (.ifCond .le 66, 3) := by decide +kernel
theorem dX11_works_7 : decode cX11_works 7 = .ok (.aload_n 0, 1) := by decide +kernel
theorem dX11_works_8 : decode cX11_works 8 = .ok (.getfield 54, 3) := by decide +kernel
theorem dX11_works_11 : decode cX11_works 11 = .ok (.aload_n 0, 1) := by decide +kernel
theorem dX11_works_12 : decode cX11_works 12 = .ok (.getfield 201, 3) := by decide +kernel
theorem dX11_works_15 : decode cX11_works 15 = .ok (.iconst 1, 1) := by decide +kernel
theorem dX11_works_16 : decode cX11_works 16 = .ok (.isub, 1) := by decide +kernel
theorem dX11_works_17 : decode cX11_works 17 = .ok (.iaload, 1) := by decide +kernel
theorem dX11_works_18 : decode cX11_works 18 = .ok (.aload_n 0, 1) := by decide +kernel
theorem dX11_works_19 : decode cX11_works 19 = .ok (.getfield 186, 3) := by decide +kernel
theorem dX11_works_22 : decode cX11_works 22 = .ok (.if_icmp .ne 48, 3) := by decide +kernel
theorem dX11_works_25 : decode cX11_works 25 = .ok (.aload_n 0, 1) := by decide +kernel
theorem dX11_works_26 : decode cX11_works 26 = .ok (.getfield 51, 3) := by decide +kernel
theorem dX11_works_29 : decode cX11_works 29 = .ok (.aload_n 0, 1) := by decide +kernel
theorem dX11_works_30 : decode cX11_works 30 = .ok (.getfield 201, 3) := by decide +kernel
theorem dX11_works_33 : decode cX11_works 33 = .ok (.iconst 1, 1) := by decide +kernel
theorem dX11_works_34 : decode cX11_works 34 = .ok (.isub, 1) := by decide +kernel
theorem dX11_works_35 : decode cX11_works 35 = .ok (.iaload, 1) := by decide +kernel
theorem dX11_works_36 : decode cX11_works 36 = .ok (.invokestatic 204, 3) := by decide +kernel
theorem dX11_works_39 : decode cX11_works 39 = .ok (.iload_n 1, 1) := by decide +kernel
theorem dX11_works_40 : decode cX11_works 40 = .ok (.if_icmp .lt 30, 3) := by decide +kernel
theorem dX11_works_43 : decode cX11_works 43 = .ok (.aload_n 0, 1) := by decide +kernel
theorem dX11_works_44 : decode cX11_works 44 = .ok (.dup, 1) := by decide +kernel
theorem dX11_works_45 : decode cX11_works 45 = .ok (.getfield 201, 3) := by decide +kernel
theorem dX11_works_48 : decode cX11_works 48 = .ok (.iconst 1, 1) := by decide +kernel
theorem dX11_works_49 : decode cX11_works 49 = .ok (.isub, 1) := by decide +kernel
theorem dX11_works_50 : decode cX11_works 50 = .ok (.putfield 201, 3) := by decide +kernel
theorem dX11_works_53 : decode cX11_works 53 = .ok (.aload_n 0, 1) := by decide +kernel
theorem dX11_works_54 : decode cX11_works 54 = .ok (.aload_n 0, 1) := by decide +kernel
theorem dX11_works_55 : decode cX11_works 55 = .ok (.getfield 51, 3) := by decide +kernel
theorem dX11_works_58 : decode cX11_works 58 = .ok (.aload_n 0, 1) := by decide +kernel
theorem dX11_works_59 : decode cX11_works 59 = .ok (.getfield 201, 3) := by decide +kernel
theorem dX11_works_62 : decode cX11_works 62 = .ok (.iaload, 1) := by decide +kernel
theorem dX11_works_63 : decode cX11_works 63 = .ok (.iconst 0, 1) := by decide +kernel
theorem dX11_works_64 : decode cX11_works 64 = .ok (.invokevirtual 208, 3) := by decide +kernel
theorem dX11_works_67 : decode cX11_works 67 = .ok (.goto (-67), 3) := by decide +kernel
theorem dX11_works_70 : decode cX11_works 70 = .ok (.return_, 1) := by decide +kernel
theorem dX11_waitsFor_0 : decode cX11_waitsFor 0 = .ok (.aload_n 0, 1) := by decide +kernel
theorem dX11_waitsFor_1 : decode cX11_waitsFor 1 = .ok (.iload_n 1, 1) := by decide +kernel
theorem dX11_waitsFor_2 : decode cX11_waitsFor 2 = .ok (.invokestatic 204, 3) := by decide +kernel
theorem dX11_waitsFor_5 : decode cX11_waitsFor 5 = .ok (.invokevirtual 212, 3) := by decide +kernel
theorem dX11_waitsFor_8 : decode cX11_waitsFor 8 = .ok (.aload_n 0, 1) := by decide +kernel
theorem dX11_waitsFor_9 : decode cX11_waitsFor 9 = .ok (.getfield 51, 3) := by decide +kernel
theorem dX11_waitsFor_12 : decode cX11_waitsFor 12 = .ok (.aload_n 0, 1) := by decide +kernel
theorem dX11_waitsFor_13 : decode cX11_waitsFor 13 = .ok (.getfield 201, 3) := by decide +kernel
theorem dX11_waitsFor_16 : decode cX11_waitsFor 16 = .ok (.iload_n 1, 1) := by decide +kernel
theorem dX11_waitsFor_17 : decode cX11_waitsFor 17 = .ok (.iastore, 1) := by decide +kernel
theorem dX11_waitsFor_18 : decode cX11_waitsFor 18 = .ok (.aload_n 0, 1) := by decide +kernel
theorem dX11_waitsFor_19 : decode cX11_waitsFor 19 = .ok (.getfield 54, 3) := by decide +kernel
theorem dX11_waitsFor_22 : decode cX11_waitsFor 22 = .ok (.aload_n 0, 1) := by decide +kernel
theorem dX11_waitsFor_23 : decode cX11_waitsFor 23 = .ok (.getfield 201, 3) := by decide +kernel
theorem dX11_waitsFor_26 : decode cX11_waitsFor 26 = .ok (.aload_n 0, 1) := by decide +kernel
theorem dX11_waitsFor_27 : decode cX11_waitsFor 27 = .ok (.getfield 186, 3) := by decide +kernel
theorem dX11_waitsFor_30 : decode cX11_waitsFor 30 = .ok (.iastore, 1) := by decide +kernel
theorem dX11_waitsFor_31 : decode cX11_waitsFor 31 = .ok (.aload_n 0, 1) := by decide +kernel
theorem dX11_waitsFor_32 : decode cX11_waitsFor 32 = .ok (.dup, 1) := by decide +kernel
theorem dX11_waitsFor_33 : decode cX11_waitsFor 33 = .ok (.getfield 201, 3) := by decide +kernel
theorem dX11_waitsFor_36 : decode cX11_waitsFor 36 = .ok (.iconst 1, 1) := by decide +kernel
theorem dX11_waitsFor_37 : decode cX11_waitsFor 37 = .ok (.iadd, 1) := by decide +kernel
theorem dX11_waitsFor_38 : decode cX11_waitsFor 38 = .ok (.putfield 201, 3) := by decide +kernel
theorem dX11_waitsFor_41 : decode cX11_waitsFor 41 = .ok (.aload_n 0, 1) := by decide +kernel
theorem dX11_waitsFor_42 : decode cX11_waitsFor 42 = .ok (.invokevirtual 198, 3) := by decide +kernel
theorem dX11_waitsFor_45 : decode cX11_waitsFor 45 = .ok (.return_, 1) := by decide +kernel
theorem dX11_asks_0 : decode cX11_asks 0 = .ok (.aload_n 0, 1) := by decide +kernel
theorem dX11_asks_1 : decode cX11_asks 1 = .ok (.iconst 4, 1) := by decide +kernel
theorem dX11_asks_2 : decode cX11_asks 2 = .ok (.invokevirtual 215, 3) := by decide +kernel
theorem dX11_asks_5 : decode cX11_asks 5 = .ok (.ifCond .eq 12, 3) := by decide +kernel
theorem dX11_asks_8 : decode cX11_asks 8 = .ok (.aload_n 0, 1) := by decide +kernel
theorem dX11_asks_9 : decode cX11_asks 9 = .ok (.iconst 3, 1) := by decide +kernel
theorem dX11_asks_10 : decode cX11_asks 10 = .ok (.invokevirtual 218, 3) := by decide +kernel
theorem dX11_asks_13 : decode cX11_asks 13 = .ok (.istore_n 1, 1) := by decide +kernel
theorem dX11_asks_14 : decode cX11_asks 14 = .ok (.goto 13, 3) := by decide +kernel
theorem dX11_asks_17 : decode cX11_asks 17 = .ok (.aload_n 0, 1) := by decide +kernel
theorem dX11_asks_18 : decode cX11_asks 18 = .ok (.iconst 4, 1) := by decide +kernel
theorem dX11_asks_19 : decode cX11_asks 19 = .ok (.invokevirtual 195, 3) := by decide +kernel
theorem dX11_asks_22 : decode cX11_asks 22 = .ok (.aload_n 0, 1) := by decide +kernel
theorem dX11_asks_23 : decode cX11_asks 23 = .ok (.iconst 1, 1) := by decide +kernel
theorem dX11_asks_24 : decode cX11_asks 24 = .ok (.putfield 221, 3) := by decide +kernel
theorem dX11_asks_27 : decode cX11_asks 27 = .ok (.return_, 1) := by decide +kernel
theorem dX11_begins_0 : decode cX11_begins 0 = .ok (.aload_n 0, 1) := by decide +kernel
theorem dX11_begins_1 : decode cX11_begins 1 = .ok (.getfield 161, 3) := by decide +kernel
theorem dX11_begins_4 : decode cX11_begins 4 = .ok (.iconst 2, 1) := by decide +kernel
theorem dX11_begins_5 : decode cX11_begins 5 = .ok (.if_icmp .ne 41, 3) := by decide +kernel
theorem dX11_begins_8 : decode cX11_begins 8 = .ok (.aload_n 0, 1) := by decide +kernel
theorem dX11_begins_9 : decode cX11_begins 9 = .ok (.getfield 173, 3) := by decide +kernel
theorem dX11_begins_12 : decode cX11_begins 12 = .ok (.sipush 9999, 3) := by decide +kernel
theorem dX11_begins_15 : decode cX11_begins 15 = .ok (.if_icmp .le 9, 3) := by decide +kernel
theorem dX11_begins_18 : decode cX11_begins 18 = .ok (.aload_n 0, 1) := by decide +kernel
theorem dX11_begins_19 : decode cX11_begins 19 = .ok (.iconst 2, 1) := by decide +kernel
theorem dX11_begins_20 : decode cX11_begins 20 = .ok (.invokevirtual 192, 3) := by decide +kernel
theorem dX11_begins_23 : decode cX11_begins 23 = .ok (.return_, 1) := by decide +kernel
theorem dX11_begins_24 : decode cX11_begins 24 = .ok (.aload_n 0, 1) := by decide +kernel
theorem dX11_begins_25 : decode cX11_begins 25 = .ok (.sipush 400, 3) := by decide +kernel
theorem dX11_begins_28 : decode cX11_begins 28 = .ok (.aload_n 0, 1) := by decide +kernel
theorem dX11_begins_29 : decode cX11_begins 29 = .ok (.getfield 173, 3) := by decide +kernel
theorem dX11_begins_32 : decode cX11_begins 32 = .ok (.invokevirtual 208, 3) := by decide +kernel
theorem dX11_begins_35 : decode cX11_begins 35 = .ok (.aload_n 0, 1) := by decide +kernel
theorem dX11_begins_36 : decode cX11_begins 36 = .ok (.invokevirtual 198, 3) := by decide +kernel
theorem dX11_begins_39 : decode cX11_begins 39 = .ok (.aload_n 0, 1) := by decide +kernel
theorem dX11_begins_40 : decode cX11_begins 40 = .ok (.invokevirtual 224, 3) := by decide +kernel
theorem dX11_begins_43 : decode cX11_begins 43 = .ok (.goto 88, 3) := by decide +kernel
theorem dX11_begins_46 : decode cX11_begins 46 = .ok (.aload_n 0, 1) := by decide +kernel
theorem dX11_begins_47 : decode cX11_begins 47 = .ok (.getfield 161, 3) := by decide +kernel
theorem dX11_begins_50 : decode cX11_begins 50 = .ok (.iconst 1, 1) := by decide +kernel
theorem dX11_begins_51 : decode cX11_begins 51 = .ok (.if_icmp .ne 37, 3) := by decide +kernel
theorem dX11_begins_54 : decode cX11_begins 54 = .ok (.aload_n 0, 1) := by decide +kernel
theorem dX11_begins_55 : decode cX11_begins 55 = .ok (.getfield 173, 3) := by decide +kernel
theorem dX11_begins_58 : decode cX11_begins 58 = .ok (.iconst 4, 1) := by decide +kernel
theorem dX11_begins_59 : decode cX11_begins 59 = .ok (.if_icmp .le 29, 3) := by decide +kernel
theorem dX11_begins_62 : decode cX11_begins 62 = .ok (.aload_n 0, 1) := by decide +kernel
theorem dX11_begins_63 : decode cX11_begins 63 = .ok (.sipush 401, 3) := by decide +kernel
theorem dX11_begins_66 : decode cX11_begins 66 = .ok (.aload_n 0, 1) := by decide +kernel
theorem dX11_begins_67 : decode cX11_begins 67 = .ok (.getfield 173, 3) := by decide +kernel
theorem dX11_begins_70 : decode cX11_begins 70 = .ok (.iconst 4, 1) := by decide +kernel
theorem dX11_begins_71 : decode cX11_begins 71 = .ok (.isub, 1) := by decide +kernel
theorem dX11_begins_72 : decode cX11_begins 72 = .ok (.iconst 1, 1) := by decide +kernel
theorem dX11_begins_73 : decode cX11_begins 73 = .ok (.isub, 1) := by decide +kernel
theorem dX11_begins_74 : decode cX11_begins 74 = .ok (.invokevirtual 208, 3) := by decide +kernel
theorem dX11_begins_77 : decode cX11_begins 77 = .ok (.aload_n 0, 1) := by decide +kernel
theorem dX11_begins_78 : decode cX11_begins 78 = .ok (.invokevirtual 198, 3) := by decide +kernel
theorem dX11_begins_81 : decode cX11_begins 81 = .ok (.aload_n 0, 1) := by decide +kernel
theorem dX11_begins_82 : decode cX11_begins 82 = .ok (.invokevirtual 224, 3) := by decide +kernel
theorem dX11_begins_85 : decode cX11_begins 85 = .ok (.goto 46, 3) := by decide +kernel
theorem dX11_begins_88 : decode cX11_begins 88 = .ok (.aload_n 0, 1) := by decide +kernel
theorem dX11_begins_89 : decode cX11_begins 89 = .ok (.bipush 40, 2) := by decide +kernel
theorem dX11_begins_91 : decode cX11_begins 91 = .ok (.invokevirtual 227, 3) := by decide +kernel
theorem dX11_begins_94 : decode cX11_begins 94 = .ok (.ifCond .eq 13, 3) := by decide +kernel
theorem dX11_begins_97 : decode cX11_begins 97 = .ok (.aload_n 0, 1) := by decide +kernel
theorem dX11_begins_98 : decode cX11_begins 98 = .ok (.bipush 6, 2) := by decide +kernel
theorem dX11_begins_100 : decode cX11_begins 100 = .ok (.invokevirtual 218, 3) := by decide +kernel
theorem dX11_begins_103 : decode cX11_begins 103 = .ok (.istore_n 1, 1) := by decide +kernel
theorem dX11_begins_104 : decode cX11_begins 104 = .ok (.goto 27, 3) := by decide +kernel
theorem dX11_begins_107 : decode cX11_begins 107 = .ok (.aload_n 0, 1) := by decide +kernel
theorem dX11_begins_108 : decode cX11_begins 108 = .ok (.bipush 45, 2) := by decide +kernel
theorem dX11_begins_110 : decode cX11_begins 110 = .ok (.invokevirtual 227, 3) := by decide +kernel
theorem dX11_begins_113 : decode cX11_begins 113 = .ok (.ifCond .eq 13, 3) := by decide +kernel
theorem dX11_begins_116 : decode cX11_begins 116 = .ok (.aload_n 0, 1) := by decide +kernel
theorem dX11_begins_117 : decode cX11_begins 117 = .ok (.bipush 7, 2) := by decide +kernel
theorem dX11_begins_119 : decode cX11_begins 119 = .ok (.invokevirtual 218, 3) := by decide +kernel
theorem dX11_begins_122 : decode cX11_begins 122 = .ok (.istore_n 1, 1) := by decide +kernel
theorem dX11_begins_123 : decode cX11_begins 123 = .ok (.goto 8, 3) := by decide +kernel
theorem dX11_begins_126 : decode cX11_begins 126 = .ok (.aload_n 0, 1) := by decide +kernel
theorem dX11_begins_127 : decode cX11_begins 127 = .ok (.iconst 1, 1) := by decide +kernel
theorem dX11_begins_128 : decode cX11_begins 128 = .ok (.invokevirtual 192, 3) := by decide +kernel
theorem dX11_begins_131 : decode cX11_begins 131 = .ok (.return_, 1) := by decide +kernel
theorem dX11_oneIsOver_0 : decode cX11_oneIsOver 0 = .ok (.aload_n 0, 1) := by decide +kernel
theorem dX11_oneIsOver_1 : decode cX11_oneIsOver 1 = .ok (.invokevirtual 230, 3) := by decide +kernel
theorem dX11_oneIsOver_4 : decode cX11_oneIsOver 4 = .ok (.bipush 7, 2) := by decide +kernel
theorem dX11_oneIsOver_6 : decode cX11_oneIsOver 6 = .ok (.if_icmp .ne 34, 3) := by decide +kernel
theorem dX11_oneIsOver_9 : decode cX11_oneIsOver 9 = .ok (.aload_n 0, 1) := by decide +kernel
theorem dX11_oneIsOver_10 : decode cX11_oneIsOver 10 = .ok (.dup, 1) := by decide +kernel
theorem dX11_oneIsOver_11 : decode cX11_oneIsOver 11 = .ok (.getfield 186, 3) := by decide +kernel
theorem dX11_oneIsOver_14 : decode cX11_oneIsOver 14 = .ok (.iconst 1, 1) := by decide +kernel
theorem dX11_oneIsOver_15 : decode cX11_oneIsOver 15 = .ok (.isub, 1) := by decide +kernel
theorem dX11_oneIsOver_16 : decode cX11_oneIsOver 16 = .ok (.putfield 186, 3) := by decide +kernel
theorem dX11_oneIsOver_19 : decode cX11_oneIsOver 19 = .ok (.aload_n 0, 1) := by decide +kernel
theorem dX11_oneIsOver_20 : decode cX11_oneIsOver 20 = .ok (.dup, 1) := by decide +kernel
theorem dX11_oneIsOver_21 : decode cX11_oneIsOver 21 = .ok (.getfield 189, 3) := by decide +kernel
theorem dX11_oneIsOver_24 : decode cX11_oneIsOver 24 = .ok (.iconst 1, 1) := by decide +kernel
theorem dX11_oneIsOver_25 : decode cX11_oneIsOver 25 = .ok (.isub, 1) := by decide +kernel
theorem dX11_oneIsOver_26 : decode cX11_oneIsOver 26 = .ok (.putfield 189, 3) := by decide +kernel
theorem dX11_oneIsOver_29 : decode cX11_oneIsOver 29 = .ok (.aload_n 0, 1) := by decide +kernel
theorem dX11_oneIsOver_30 : decode cX11_oneIsOver 30 = .ok (.sipush 402, 3) := by decide +kernel
theorem dX11_oneIsOver_33 : decode cX11_oneIsOver 33 = .ok (.iconst 0, 1) := by decide +kernel
theorem dX11_oneIsOver_34 : decode cX11_oneIsOver 34 = .ok (.invokevirtual 208, 3) := by decide +kernel
theorem dX11_oneIsOver_37 : decode cX11_oneIsOver 37 = .ok (.goto (-37), 3) := by decide +kernel
theorem dX11_oneIsOver_40 : decode cX11_oneIsOver 40 = .ok (.aload_n 0, 1) := by decide +kernel
theorem dX11_oneIsOver_41 : decode cX11_oneIsOver 41 = .ok (.iconst 2, 1) := by decide +kernel
theorem dX11_oneIsOver_42 : decode cX11_oneIsOver 42 = .ok (.putfield 221, 3) := by decide +kernel
theorem dX11_oneIsOver_45 : decode cX11_oneIsOver 45 = .ok (.return_, 1) := by decide +kernel
theorem dX11_askIsOver_0 : decode cX11_askIsOver 0 = .ok (.aload_n 0, 1) := by decide +kernel
theorem dX11_askIsOver_1 : decode cX11_askIsOver 1 = .ok (.invokevirtual 230, 3) := by decide +kernel
theorem dX11_askIsOver_4 : decode cX11_askIsOver 4 = .ok (.iconst 3, 1) := by decide +kernel
theorem dX11_askIsOver_5 : decode cX11_askIsOver 5 = .ok (.if_icmp .ne 34, 3) := by decide +kernel
theorem dX11_askIsOver_8 : decode cX11_askIsOver 8 = .ok (.aload_n 0, 1) := by decide +kernel
theorem dX11_askIsOver_9 : decode cX11_askIsOver 9 = .ok (.dup, 1) := by decide +kernel
theorem dX11_askIsOver_10 : decode cX11_askIsOver 10 = .ok (.getfield 186, 3) := by decide +kernel
theorem dX11_askIsOver_13 : decode cX11_askIsOver 13 = .ok (.iconst 1, 1) := by decide +kernel
theorem dX11_askIsOver_14 : decode cX11_askIsOver 14 = .ok (.isub, 1) := by decide +kernel
theorem dX11_askIsOver_15 : decode cX11_askIsOver 15 = .ok (.putfield 186, 3) := by decide +kernel
theorem dX11_askIsOver_18 : decode cX11_askIsOver 18 = .ok (.aload_n 0, 1) := by decide +kernel
theorem dX11_askIsOver_19 : decode cX11_askIsOver 19 = .ok (.dup, 1) := by decide +kernel
theorem dX11_askIsOver_20 : decode cX11_askIsOver 20 = .ok (.getfield 189, 3) := by decide +kernel
theorem dX11_askIsOver_23 : decode cX11_askIsOver 23 = .ok (.iconst 1, 1) := by decide +kernel
theorem dX11_askIsOver_24 : decode cX11_askIsOver 24 = .ok (.isub, 1) := by decide +kernel
theorem dX11_askIsOver_25 : decode cX11_askIsOver 25 = .ok (.putfield 189, 3) := by decide +kernel
theorem dX11_askIsOver_28 : decode cX11_askIsOver 28 = .ok (.aload_n 0, 1) := by decide +kernel
theorem dX11_askIsOver_29 : decode cX11_askIsOver 29 = .ok (.sipush 405, 3) := by decide +kernel
theorem dX11_askIsOver_32 : decode cX11_askIsOver 32 = .ok (.iconst 0, 1) := by decide +kernel
theorem dX11_askIsOver_33 : decode cX11_askIsOver 33 = .ok (.invokevirtual 208, 3) := by decide +kernel
theorem dX11_askIsOver_36 : decode cX11_askIsOver 36 = .ok (.goto (-36), 3) := by decide +kernel
theorem dX11_askIsOver_39 : decode cX11_askIsOver 39 = .ok (.aload_n 0, 1) := by decide +kernel
theorem dX11_askIsOver_40 : decode cX11_askIsOver 40 = .ok (.iconst 3, 1) := by decide +kernel
theorem dX11_askIsOver_41 : decode cX11_askIsOver 41 = .ok (.putfield 221, 3) := by decide +kernel
theorem dX11_askIsOver_44 : decode cX11_askIsOver 44 = .ok (.return_, 1) := by decide +kernel
theorem dX11_isAsking_0 : decode cX11_isAsking 0 = .ok (.iload_n 0, 1) := by decide +kernel
theorem dX11_isAsking_1 : decode cX11_isAsking 1 = .ok (.bipush 60, 2) := by decide +kernel
theorem dX11_isAsking_3 : decode cX11_isAsking 3 = .ok (.if_icmp .eq 35, 3) := by decide +kernel
theorem dX11_isAsking_6 : decode cX11_isAsking 6 = .ok (.iload_n 0, 1) := by decide +kernel
theorem dX11_isAsking_7 : decode cX11_isAsking 7 = .ok (.bipush 62, 2) := by decide +kernel
theorem dX11_isAsking_9 : decode cX11_isAsking 9 = .ok (.if_icmp .eq 29, 3) := by decide +kernel
theorem dX11_isAsking_12 : decode cX11_isAsking 12 = .ok (.iload_n 0, 1) := by decide +kernel
theorem dX11_isAsking_13 : decode cX11_isAsking 13 = .ok (.bipush 61, 2) := by decide +kernel
theorem dX11_isAsking_15 : decode cX11_isAsking 15 = .ok (.if_icmp .eq 23, 3) := by decide +kernel
theorem dX11_isAsking_18 : decode cX11_isAsking 18 = .ok (.iload_n 0, 1) := by decide +kernel
theorem dX11_isAsking_19 : decode cX11_isAsking 19 = .ok (.bipush 35, 2) := by decide +kernel
theorem dX11_isAsking_21 : decode cX11_isAsking 21 = .ok (.if_icmp .eq 17, 3) := by decide +kernel
theorem dX11_isAsking_24 : decode cX11_isAsking 24 = .ok (.iload_n 0, 1) := by decide +kernel
theorem dX11_isAsking_25 : decode cX11_isAsking 25 = .ok (.sipush 300, 3) := by decide +kernel
theorem dX11_isAsking_28 : decode cX11_isAsking 28 = .ok (.if_icmp .eq 10, 3) := by decide +kernel
theorem dX11_isAsking_31 : decode cX11_isAsking 31 = .ok (.iload_n 0, 1) := by decide +kernel
theorem dX11_isAsking_32 : decode cX11_isAsking 32 = .ok (.sipush 301, 3) := by decide +kernel
theorem dX11_isAsking_35 : decode cX11_isAsking 35 = .ok (.if_icmp .ne 7, 3) := by decide +kernel
theorem dX11_isAsking_38 : decode cX11_isAsking 38 = .ok (.iconst 1, 1) := by decide +kernel
theorem dX11_isAsking_39 : decode cX11_isAsking 39 = .ok (.goto 4, 3) := by decide +kernel
theorem dX11_isAsking_42 : decode cX11_isAsking 42 = .ok (.iconst 0, 1) := by decide +kernel
theorem dX11_isAsking_43 : decode cX11_isAsking 43 = .ok (.ireturn, 1) := by decide +kernel
theorem dX11_goesOn_0 : decode cX11_goesOn 0 = .ok (.aload_n 0, 1) := by decide +kernel
theorem dX11_goesOn_1 : decode cX11_goesOn 1 = .ok (.invokevirtual 230, 3) := by decide +kernel
theorem dX11_goesOn_4 : decode cX11_goesOn 4 = .ok (.istore_n 1, 1) := by decide +kernel
theorem dX11_goesOn_5 : decode cX11_goesOn 5 = .ok (.aload_n 0, 1) := by decide +kernel
theorem dX11_goesOn_6 : decode cX11_goesOn 6 = .ok (.getfield 161, 3) := by decide +kernel
theorem dX11_goesOn_9 : decode cX11_goesOn 9 = .ok (.iconst 3, 1) := by decide +kernel
theorem dX11_goesOn_10 : decode cX11_goesOn 10 = .ok (.if_icmp .ne 55, 3) := by decide +kernel
theorem dX11_goesOn_13 : decode cX11_goesOn 13 = .ok (.aload_n 0, 1) := by decide +kernel
theorem dX11_goesOn_14 : decode cX11_goesOn 14 = .ok (.getfield 173, 3) := by decide +kernel
theorem dX11_goesOn_17 : decode cX11_goesOn 17 = .ok (.bipush 43, 2) := by decide +kernel
theorem dX11_goesOn_19 : decode cX11_goesOn 19 = .ok (.if_icmp .eq 30, 3) := by decide +kernel
theorem dX11_goesOn_22 : decode cX11_goesOn 22 = .ok (.aload_n 0, 1) := by decide +kernel
theorem dX11_goesOn_23 : decode cX11_goesOn 23 = .ok (.getfield 173, 3) := by decide +kernel
theorem dX11_goesOn_26 : decode cX11_goesOn 26 = .ok (.bipush 45, 2) := by decide +kernel
theorem dX11_goesOn_28 : decode cX11_goesOn 28 = .ok (.if_icmp .eq 21, 3) := by decide +kernel
theorem dX11_goesOn_31 : decode cX11_goesOn 31 = .ok (.aload_n 0, 1) := by decide +kernel
theorem dX11_goesOn_32 : decode cX11_goesOn 32 = .ok (.getfield 173, 3) := by decide +kernel
theorem dX11_goesOn_35 : decode cX11_goesOn 35 = .ok (.bipush 42, 2) := by decide +kernel
theorem dX11_goesOn_37 : decode cX11_goesOn 37 = .ok (.if_icmp .eq 12, 3) := by decide +kernel
theorem dX11_goesOn_40 : decode cX11_goesOn 40 = .ok (.aload_n 0, 1) := by decide +kernel
theorem dX11_goesOn_41 : decode cX11_goesOn 41 = .ok (.getfield 173, 3) := by decide +kernel
theorem dX11_goesOn_44 : decode cX11_goesOn 44 = .ok (.bipush 47, 2) := by decide +kernel
theorem dX11_goesOn_46 : decode cX11_goesOn 46 = .ok (.if_icmp .ne 19, 3) := by decide +kernel
theorem dX11_goesOn_49 : decode cX11_goesOn 49 = .ok (.aload_n 0, 1) := by decide +kernel
theorem dX11_goesOn_50 : decode cX11_goesOn 50 = .ok (.aload_n 0, 1) := by decide +kernel
theorem dX11_goesOn_51 : decode cX11_goesOn 51 = .ok (.getfield 173, 3) := by decide +kernel
theorem dX11_goesOn_54 : decode cX11_goesOn 54 = .ok (.invokevirtual 234, 3) := by decide +kernel
theorem dX11_goesOn_57 : decode cX11_goesOn 57 = .ok (.aload_n 0, 1) := by decide +kernel
theorem dX11_goesOn_58 : decode cX11_goesOn 58 = .ok (.iconst 1, 1) := by decide +kernel
theorem dX11_goesOn_59 : decode cX11_goesOn 59 = .ok (.putfield 221, 3) := by decide +kernel
theorem dX11_goesOn_62 : decode cX11_goesOn 62 = .ok (.goto 188, 3) := by decide +kernel
theorem dX11_goesOn_65 : decode cX11_goesOn 65 = .ok (.iload_n 1, 1) := by decide +kernel
theorem dX11_goesOn_66 : decode cX11_goesOn 66 = .ok (.bipush 6, 2) := by decide +kernel
theorem dX11_goesOn_68 : decode cX11_goesOn 68 = .ok (.if_icmp .ne 48, 3) := by decide +kernel
theorem dX11_goesOn_71 : decode cX11_goesOn 71 = .ok (.aload_n 0, 1) := by decide +kernel
theorem dX11_goesOn_72 : decode cX11_goesOn 72 = .ok (.bipush 41, 2) := by decide +kernel
theorem dX11_goesOn_74 : decode cX11_goesOn 74 = .ok (.invokevirtual 227, 3) := by decide +kernel
theorem dX11_goesOn_77 : decode cX11_goesOn 77 = .ok (.ifCond .eq 39, 3) := by decide +kernel
theorem dX11_goesOn_80 : decode cX11_goesOn 80 = .ok (.aload_n 0, 1) := by decide +kernel
theorem dX11_goesOn_81 : decode cX11_goesOn 81 = .ok (.iconst 3, 1) := by decide +kernel
theorem dX11_goesOn_82 : decode cX11_goesOn 82 = .ok (.invokevirtual 212, 3) := by decide +kernel
theorem dX11_goesOn_85 : decode cX11_goesOn 85 = .ok (.aload_n 0, 1) := by decide +kernel
theorem dX11_goesOn_86 : decode cX11_goesOn 86 = .ok (.dup, 1) := by decide +kernel
theorem dX11_goesOn_87 : decode cX11_goesOn 87 = .ok (.getfield 186, 3) := by decide +kernel
theorem dX11_goesOn_90 : decode cX11_goesOn 90 = .ok (.iconst 1, 1) := by decide +kernel
theorem dX11_goesOn_91 : decode cX11_goesOn 91 = .ok (.isub, 1) := by decide +kernel
theorem dX11_goesOn_92 : decode cX11_goesOn 92 = .ok (.putfield 186, 3) := by decide +kernel
theorem dX11_goesOn_95 : decode cX11_goesOn 95 = .ok (.aload_n 0, 1) := by decide +kernel
theorem dX11_goesOn_96 : decode cX11_goesOn 96 = .ok (.dup, 1) := by decide +kernel
theorem dX11_goesOn_97 : decode cX11_goesOn 97 = .ok (.getfield 189, 3) := by decide +kernel
theorem dX11_goesOn_100 : decode cX11_goesOn 100 = .ok (.iconst 1, 1) := by decide +kernel
theorem dX11_goesOn_101 : decode cX11_goesOn 101 = .ok (.isub, 1) := by decide +kernel
theorem dX11_goesOn_102 : decode cX11_goesOn 102 = .ok (.putfield 189, 3) := by decide +kernel
theorem dX11_goesOn_105 : decode cX11_goesOn 105 = .ok (.aload_n 0, 1) := by decide +kernel
theorem dX11_goesOn_106 : decode cX11_goesOn 106 = .ok (.invokevirtual 198, 3) := by decide +kernel
theorem dX11_goesOn_109 : decode cX11_goesOn 109 = .ok (.aload_n 0, 1) := by decide +kernel
theorem dX11_goesOn_110 : decode cX11_goesOn 110 = .ok (.invokevirtual 224, 3) := by decide +kernel
theorem dX11_goesOn_113 : decode cX11_goesOn 113 = .ok (.goto 137, 3) := by decide +kernel
theorem dX11_goesOn_116 : decode cX11_goesOn 116 = .ok (.iload_n 1, 1) := by decide +kernel
theorem dX11_goesOn_117 : decode cX11_goesOn 117 = .ok (.iconst 4, 1) := by decide +kernel
theorem dX11_goesOn_118 : decode cX11_goesOn 118 = .ok (.if_icmp .ne 63, 3) := by decide +kernel
theorem dX11_goesOn_121 : decode cX11_goesOn 121 = .ok (.aload_n 0, 1) := by decide +kernel
theorem dX11_goesOn_122 : decode cX11_goesOn 122 = .ok (.getfield 161, 3) := by decide +kernel
theorem dX11_goesOn_125 : decode cX11_goesOn 125 = .ok (.iconst 3, 1) := by decide +kernel
theorem dX11_goesOn_126 : decode cX11_goesOn 126 = .ok (.if_icmp .ne 55, 3) := by decide +kernel
theorem dX11_goesOn_129 : decode cX11_goesOn 129 = .ok (.aload_n 0, 1) := by decide +kernel
theorem dX11_goesOn_130 : decode cX11_goesOn 130 = .ok (.getfield 173, 3) := by decide +kernel
theorem dX11_goesOn_133 : decode cX11_goesOn 133 = .ok (.invokestatic 237, 3) := by decide +kernel
theorem dX11_goesOn_136 : decode cX11_goesOn 136 = .ok (.ifCond .eq 45, 3) := by decide +kernel
theorem dX11_goesOn_139 : decode cX11_goesOn 139 = .ok (.aload_n 0, 1) := by decide +kernel
theorem dX11_goesOn_140 : decode cX11_goesOn 140 = .ok (.iconst 3, 1) := by decide +kernel
theorem dX11_goesOn_141 : decode cX11_goesOn 141 = .ok (.invokevirtual 212, 3) := by decide +kernel
theorem dX11_goesOn_144 : decode cX11_goesOn 144 = .ok (.aload_n 0, 1) := by decide +kernel
theorem dX11_goesOn_145 : decode cX11_goesOn 145 = .ok (.getfield 48, 3) := by decide +kernel
theorem dX11_goesOn_148 : decode cX11_goesOn 148 = .ok (.aload_n 0, 1) := by decide +kernel
theorem dX11_goesOn_149 : decode cX11_goesOn 149 = .ok (.getfield 186, 3) := by decide +kernel
theorem dX11_goesOn_152 : decode cX11_goesOn 152 = .ok (.aload_n 0, 1) := by decide +kernel
theorem dX11_goesOn_153 : decode cX11_goesOn 153 = .ok (.getfield 173, 3) := by decide +kernel
theorem dX11_goesOn_156 : decode cX11_goesOn 156 = .ok (.iastore, 1) := by decide +kernel
theorem dX11_goesOn_157 : decode cX11_goesOn 157 = .ok (.aload_n 0, 1) := by decide +kernel
theorem dX11_goesOn_158 : decode cX11_goesOn 158 = .ok (.getfield 45, 3) := by decide +kernel
theorem dX11_goesOn_161 : decode cX11_goesOn 161 = .ok (.aload_n 0, 1) := by decide +kernel
theorem dX11_goesOn_162 : decode cX11_goesOn 162 = .ok (.getfield 186, 3) := by decide +kernel
theorem dX11_goesOn_165 : decode cX11_goesOn 165 = .ok (.iconst 1, 1) := by decide +kernel
theorem dX11_goesOn_166 : decode cX11_goesOn 166 = .ok (.isub, 1) := by decide +kernel
theorem dX11_goesOn_167 : decode cX11_goesOn 167 = .ok (.iconst 5, 1) := by decide +kernel
theorem dX11_goesOn_168 : decode cX11_goesOn 168 = .ok (.iastore, 1) := by decide +kernel
theorem dX11_goesOn_169 : decode cX11_goesOn 169 = .ok (.aload_n 0, 1) := by decide +kernel
theorem dX11_goesOn_170 : decode cX11_goesOn 170 = .ok (.invokevirtual 198, 3) := by decide +kernel
theorem dX11_goesOn_173 : decode cX11_goesOn 173 = .ok (.aload_n 0, 1) := by decide +kernel
theorem dX11_goesOn_174 : decode cX11_goesOn 174 = .ok (.iconst 1, 1) := by decide +kernel
theorem dX11_goesOn_175 : decode cX11_goesOn 175 = .ok (.putfield 221, 3) := by decide +kernel
theorem dX11_goesOn_178 : decode cX11_goesOn 178 = .ok (.goto 72, 3) := by decide +kernel
theorem dX11_goesOn_181 : decode cX11_goesOn 181 = .ok (.iload_n 1, 1) := by decide +kernel
theorem dX11_goesOn_182 : decode cX11_goesOn 182 = .ok (.iconst 5, 1) := by decide +kernel
theorem dX11_goesOn_183 : decode cX11_goesOn 183 = .ok (.if_icmp .ne 41, 3) := by decide +kernel
theorem dX11_goesOn_186 : decode cX11_goesOn 186 = .ok (.aload_n 0, 1) := by decide +kernel
theorem dX11_goesOn_187 : decode cX11_goesOn 187 = .ok (.iconst 3, 1) := by decide +kernel
theorem dX11_goesOn_188 : decode cX11_goesOn 188 = .ok (.invokevirtual 212, 3) := by decide +kernel
theorem dX11_goesOn_191 : decode cX11_goesOn 191 = .ok (.aload_n 0, 1) := by decide +kernel
theorem dX11_goesOn_192 : decode cX11_goesOn 192 = .ok (.getfield 48, 3) := by decide +kernel
theorem dX11_goesOn_195 : decode cX11_goesOn 195 = .ok (.aload_n 0, 1) := by decide +kernel
theorem dX11_goesOn_196 : decode cX11_goesOn 196 = .ok (.getfield 186, 3) := by decide +kernel
theorem dX11_goesOn_199 : decode cX11_goesOn 199 = .ok (.iaload, 1) := by decide +kernel
theorem dX11_goesOn_200 : decode cX11_goesOn 200 = .ok (.istore_n 2, 1) := by decide +kernel
theorem dX11_goesOn_201 : decode cX11_goesOn 201 = .ok (.aload_n 0, 1) := by decide +kernel
theorem dX11_goesOn_202 : decode cX11_goesOn 202 = .ok (.dup, 1) := by decide +kernel
theorem dX11_goesOn_203 : decode cX11_goesOn 203 = .ok (.getfield 186, 3) := by decide +kernel
theorem dX11_goesOn_206 : decode cX11_goesOn 206 = .ok (.iconst 1, 1) := by decide +kernel
theorem dX11_goesOn_207 : decode cX11_goesOn 207 = .ok (.isub, 1) := by decide +kernel
theorem dX11_goesOn_208 : decode cX11_goesOn 208 = .ok (.putfield 186, 3) := by decide +kernel
theorem dX11_goesOn_211 : decode cX11_goesOn 211 = .ok (.aload_n 0, 1) := by decide +kernel
theorem dX11_goesOn_212 : decode cX11_goesOn 212 = .ok (.iload_n 2, 1) := by decide +kernel
theorem dX11_goesOn_213 : decode cX11_goesOn 213 = .ok (.iconst 0, 1) := by decide +kernel
theorem dX11_goesOn_214 : decode cX11_goesOn 214 = .ok (.invokevirtual 208, 3) := by decide +kernel
theorem dX11_goesOn_217 : decode cX11_goesOn 217 = .ok (.aload_n 0, 1) := by decide +kernel
theorem dX11_goesOn_218 : decode cX11_goesOn 218 = .ok (.invokevirtual 240, 3) := by decide +kernel
theorem dX11_goesOn_221 : decode cX11_goesOn 221 = .ok (.goto 29, 3) := by decide +kernel
theorem dX11_goesOn_224 : decode cX11_goesOn 224 = .ok (.iload_n 1, 1) := by decide +kernel
theorem dX11_goesOn_225 : decode cX11_goesOn 225 = .ok (.iconst 1, 1) := by decide +kernel
theorem dX11_goesOn_226 : decode cX11_goesOn 226 = .ok (.if_icmp .ne 19, 3) := by decide +kernel
theorem dX11_goesOn_229 : decode cX11_goesOn 229 = .ok (.aload_n 0, 1) := by decide +kernel
theorem dX11_goesOn_230 : decode cX11_goesOn 230 = .ok (.bipush 59, 2) := by decide +kernel
theorem dX11_goesOn_232 : decode cX11_goesOn 232 = .ok (.invokevirtual 227, 3) := by decide +kernel
theorem dX11_goesOn_235 : decode cX11_goesOn 235 = .ok (.ifCond .eq 10, 3) := by decide +kernel
theorem dX11_goesOn_238 : decode cX11_goesOn 238 = .ok (.aload_n 0, 1) := by decide +kernel
theorem dX11_goesOn_239 : decode cX11_goesOn 239 = .ok (.invokevirtual 243, 3) := by decide +kernel
theorem dX11_goesOn_242 : decode cX11_goesOn 242 = .ok (.goto 8, 3) := by decide +kernel
theorem dX11_goesOn_245 : decode cX11_goesOn 245 = .ok (.aload_n 0, 1) := by decide +kernel
theorem dX11_goesOn_246 : decode cX11_goesOn 246 = .ok (.iconst 1, 1) := by decide +kernel
theorem dX11_goesOn_247 : decode cX11_goesOn 247 = .ok (.invokevirtual 192, 3) := by decide +kernel
theorem dX11_goesOn_250 : decode cX11_goesOn 250 = .ok (.return_, 1) := by decide +kernel
theorem dX11_asksOn_0 : decode cX11_asksOn 0 = .ok (.aload_n 0, 1) := by decide +kernel
theorem dX11_asksOn_1 : decode cX11_asksOn 1 = .ok (.iconst 2, 1) := by decide +kernel
theorem dX11_asksOn_2 : decode cX11_asksOn 2 = .ok (.invokevirtual 215, 3) := by decide +kernel
theorem dX11_asksOn_5 : decode cX11_asksOn 5 = .ok (.ifCond .ne 11, 3) := by decide +kernel
theorem dX11_asksOn_8 : decode cX11_asksOn 8 = .ok (.aload_n 0, 1) := by decide +kernel
theorem dX11_asksOn_9 : decode cX11_asksOn 9 = .ok (.iconst 3, 1) := by decide +kernel
theorem dX11_asksOn_10 : decode cX11_asksOn 10 = .ok (.invokevirtual 215, 3) := by decide +kernel
theorem dX11_asksOn_13 : decode cX11_asksOn 13 = .ok (.ifCond .eq 32, 3) := by decide +kernel
theorem dX11_asksOn_16 : decode cX11_asksOn 16 = .ok (.aload_n 0, 1) := by decide +kernel
theorem dX11_asksOn_17 : decode cX11_asksOn 17 = .ok (.aload_n 0, 1) := by decide +kernel
theorem dX11_asksOn_18 : decode cX11_asksOn 18 = .ok (.iconst 2, 1) := by decide +kernel
theorem dX11_asksOn_19 : decode cX11_asksOn 19 = .ok (.invokevirtual 215, 3) := by decide +kernel
theorem dX11_asksOn_22 : decode cX11_asksOn 22 = .ok (.ifCond .eq 9, 3) := by decide +kernel
theorem dX11_asksOn_25 : decode cX11_asksOn 25 = .ok (.sipush 407, 3) := by decide +kernel
theorem dX11_asksOn_28 : decode cX11_asksOn 28 = .ok (.goto 6, 3) := by decide +kernel
theorem dX11_asksOn_31 : decode cX11_asksOn 31 = .ok (.sipush 406, 3) := by decide +kernel
theorem dX11_asksOn_34 : decode cX11_asksOn 34 = .ok (.invokevirtual 234, 3) := by decide +kernel
theorem dX11_asksOn_37 : decode cX11_asksOn 37 = .ok (.aload_n 0, 1) := by decide +kernel
theorem dX11_asksOn_38 : decode cX11_asksOn 38 = .ok (.iconst 0, 1) := by decide +kernel
theorem dX11_asksOn_39 : decode cX11_asksOn 39 = .ok (.putfield 221, 3) := by decide +kernel
theorem dX11_asksOn_42 : decode cX11_asksOn 42 = .ok (.goto 32, 3) := by decide +kernel
theorem dX11_asksOn_45 : decode cX11_asksOn 45 = .ok (.aload_n 0, 1) := by decide +kernel
theorem dX11_asksOn_46 : decode cX11_asksOn 46 = .ok (.invokevirtual 230, 3) := by decide +kernel
theorem dX11_asksOn_49 : decode cX11_asksOn 49 = .ok (.iconst 2, 1) := by decide +kernel
theorem dX11_asksOn_50 : decode cX11_asksOn 50 = .ok (.if_icmp .ne 19, 3) := by decide +kernel
theorem dX11_asksOn_53 : decode cX11_asksOn 53 = .ok (.aload_n 0, 1) := by decide +kernel
theorem dX11_asksOn_54 : decode cX11_asksOn 54 = .ok (.bipush 59, 2) := by decide +kernel
theorem dX11_asksOn_56 : decode cX11_asksOn 56 = .ok (.invokevirtual 227, 3) := by decide +kernel
theorem dX11_asksOn_59 : decode cX11_asksOn 59 = .ok (.ifCond .eq 10, 3) := by decide +kernel
theorem dX11_asksOn_62 : decode cX11_asksOn 62 = .ok (.aload_n 0, 1) := by decide +kernel
theorem dX11_asksOn_63 : decode cX11_asksOn 63 = .ok (.invokevirtual 243, 3) := by decide +kernel
theorem dX11_asksOn_66 : decode cX11_asksOn 66 = .ok (.goto 8, 3) := by decide +kernel
theorem dX11_asksOn_69 : decode cX11_asksOn 69 = .ok (.aload_n 0, 1) := by decide +kernel
theorem dX11_asksOn_70 : decode cX11_asksOn 70 = .ok (.iconst 1, 1) := by decide +kernel
theorem dX11_asksOn_71 : decode cX11_asksOn 71 = .ok (.invokevirtual 192, 3) := by decide +kernel
theorem dX11_asksOn_74 : decode cX11_asksOn 74 = .ok (.return_, 1) := by decide +kernel
theorem dX11_clauseIsOver_0 : decode cX11_clauseIsOver 0 = .ok (.aload_n 0, 1) := by decide +kernel
theorem dX11_clauseIsOver_1 : decode cX11_clauseIsOver 1 = .ok (.iconst 1, 1) := by decide +kernel
theorem dX11_clauseIsOver_2 : decode cX11_clauseIsOver 2 = .ok (.invokevirtual 212, 3) := by decide +kernel
theorem dX11_clauseIsOver_5 : decode cX11_clauseIsOver 5 = .ok (.aload_n 0, 1) := by decide +kernel
theorem dX11_clauseIsOver_6 : decode cX11_clauseIsOver 6 = .ok (.iconst 0, 1) := by decide +kernel
theorem dX11_clauseIsOver_7 : decode cX11_clauseIsOver 7 = .ok (.putfield 186, 3) := by decide +kernel
theorem dX11_clauseIsOver_10 : decode cX11_clauseIsOver 10 = .ok (.aload_n 0, 1) := by decide +kernel
theorem dX11_clauseIsOver_11 : decode cX11_clauseIsOver 11 = .ok (.sipush 408, 3) := by decide +kernel
theorem dX11_clauseIsOver_14 : decode cX11_clauseIsOver 14 = .ok (.iconst 0, 1) := by decide +kernel
theorem dX11_clauseIsOver_15 : decode cX11_clauseIsOver 15 = .ok (.invokevirtual 208, 3) := by decide +kernel
theorem dX11_clauseIsOver_18 : decode cX11_clauseIsOver 18 = .ok (.aload_n 0, 1) := by decide +kernel
theorem dX11_clauseIsOver_19 : decode cX11_clauseIsOver 19 = .ok (.dup, 1) := by decide +kernel
theorem dX11_clauseIsOver_20 : decode cX11_clauseIsOver 20 = .ok (.getfield 246, 3) := by decide +kernel
theorem dX11_clauseIsOver_23 : decode cX11_clauseIsOver 23 = .ok (.iconst 1, 1) := by decide +kernel
theorem dX11_clauseIsOver_24 : decode cX11_clauseIsOver 24 = .ok (.iadd, 1) := by decide +kernel
theorem dX11_clauseIsOver_25 : decode cX11_clauseIsOver 25 = .ok (.putfield 246, 3) := by decide +kernel
theorem dX11_clauseIsOver_28 : decode cX11_clauseIsOver 28 = .ok (.aload_n 0, 1) := by decide +kernel
theorem dX11_clauseIsOver_29 : decode cX11_clauseIsOver 29 = .ok (.invokevirtual 198, 3) := by decide +kernel
theorem dX11_clauseIsOver_32 : decode cX11_clauseIsOver 32 = .ok (.aload_n 0, 1) := by decide +kernel
theorem dX11_clauseIsOver_33 : decode cX11_clauseIsOver 33 = .ok (.iconst 4, 1) := by decide +kernel
theorem dX11_clauseIsOver_34 : decode cX11_clauseIsOver 34 = .ok (.putfield 221, 3) := by decide +kernel
theorem dX11_clauseIsOver_37 : decode cX11_clauseIsOver 37 = .ok (.return_, 1) := by decide +kernel
theorem dX11_wasHold_0 : decode cX11_wasHold 0 = .ok (.iconst 0, 1) := by decide +kernel
theorem dX11_wasHold_1 : decode cX11_wasHold 1 = .ok (.istore_n 1, 1) := by decide +kernel
theorem dX11_wasHold_2 : decode cX11_wasHold 2 = .ok (.iconst 0, 1) := by decide +kernel
theorem dX11_wasHold_3 : decode cX11_wasHold 3 = .ok (.istore_n 2, 1) := by decide +kernel
theorem dX11_wasHold_4 : decode cX11_wasHold 4 = .ok (.iload_n 2, 1) := by decide +kernel
theorem dX11_wasHold_5 : decode cX11_wasHold 5 = .ok (.aload_n 0, 1) := by decide +kernel
theorem dX11_wasHold_6 : decode cX11_wasHold 6 = .ok (.getfield 246, 3) := by decide +kernel
theorem dX11_wasHold_9 : decode cX11_wasHold 9 = .ok (.if_icmp .ge 28, 3) := by decide +kernel
theorem dX11_wasHold_12 : decode cX11_wasHold 12 = .ok (.iload_n 1, 1) := by decide +kernel
theorem dX11_wasHold_13 : decode cX11_wasHold 13 = .ok (.ifCond .ne 12, 3) := by decide +kernel
theorem dX11_wasHold_16 : decode cX11_wasHold 16 = .ok (.aload_n 0, 1) := by decide +kernel
theorem dX11_wasHold_17 : decode cX11_wasHold 17 = .ok (.getfield 57, 3) := by decide +kernel
theorem dX11_wasHold_20 : decode cX11_wasHold 20 = .ok (.iload_n 2, 1) := by decide +kernel
theorem dX11_wasHold_21 : decode cX11_wasHold 21 = .ok (.iaload, 1) := by decide +kernel
theorem dX11_wasHold_22 : decode cX11_wasHold 22 = .ok (.ifCond .ne 7, 3) := by decide +kernel
theorem dX11_wasHold_25 : decode cX11_wasHold 25 = .ok (.iconst 1, 1) := by decide +kernel
theorem dX11_wasHold_26 : decode cX11_wasHold 26 = .ok (.goto 4, 3) := by decide +kernel
theorem dX11_wasHold_29 : decode cX11_wasHold 29 = .ok (.iconst 0, 1) := by decide +kernel
theorem dX11_wasHold_30 : decode cX11_wasHold 30 = .ok (.istore_n 1, 1) := by decide +kernel
theorem dX11_wasHold_31 : decode cX11_wasHold 31 = .ok (.iinc 2 1, 3) := by decide +kernel
theorem dX11_wasHold_34 : decode cX11_wasHold 34 = .ok (.goto (-30), 3) := by decide +kernel
theorem dX11_wasHold_37 : decode cX11_wasHold 37 = .ok (.iload_n 1, 1) := by decide +kernel
theorem dX11_wasHold_38 : decode cX11_wasHold 38 = .ok (.ireturn, 1) := by decide +kernel
theorem dX11_clause_0 : decode cX11_clause 0 = .ok (.aload_n 0, 1) := by decide +kernel
theorem dX11_clause_1 : decode cX11_clause 1 = .ok (.getfield 161, 3) := by decide +kernel
theorem dX11_clause_4 : decode cX11_clause 4 = .ok (.iconst 1, 1) := by decide +kernel
theorem dX11_clause_5 : decode cX11_clause 5 = .ok (.if_icmp .ne 11, 3) := by decide +kernel
theorem dX11_clause_8 : decode cX11_clause 8 = .ok (.aload_n 0, 1) := by decide +kernel
theorem dX11_clause_9 : decode cX11_clause 9 = .ok (.getfield 173, 3) := by decide +kernel
theorem dX11_clause_12 : decode cX11_clause 12 = .ok (.iconst 1, 1) := by decide +kernel
theorem dX11_clause_13 : decode cX11_clause 13 = .ok (.if_icmp .le 9, 3) := by decide +kernel
theorem dX11_clause_16 : decode cX11_clause 16 = .ok (.aload_n 0, 1) := by decide +kernel
theorem dX11_clause_17 : decode cX11_clause 17 = .ok (.iconst 1, 1) := by decide +kernel
theorem dX11_clause_18 : decode cX11_clause 18 = .ok (.invokevirtual 192, 3) := by decide +kernel
theorem dX11_clause_21 : decode cX11_clause 21 = .ok (.return_, 1) := by decide +kernel
theorem dX11_clause_22 : decode cX11_clause 22 = .ok (.aload_n 0, 1) := by decide +kernel
theorem dX11_clause_23 : decode cX11_clause 23 = .ok (.getfield 173, 3) := by decide +kernel
theorem dX11_clause_26 : decode cX11_clause 26 = .ok (.istore_n 1, 1) := by decide +kernel
theorem dX11_clause_27 : decode cX11_clause 27 = .ok (.iload_n 1, 1) := by decide +kernel
theorem dX11_clause_28 : decode cX11_clause 28 = .ok (.ifCond .ne 18, 3) := by decide +kernel
theorem dX11_clause_31 : decode cX11_clause 31 = .ok (.aload_n 0, 1) := by decide +kernel
theorem dX11_clause_32 : decode cX11_clause 32 = .ok (.invokevirtual 249, 3) := by decide +kernel
theorem dX11_clause_35 : decode cX11_clause 35 = .ok (.ifCond .eq 11, 3) := by decide +kernel
theorem dX11_clause_38 : decode cX11_clause 38 = .ok (.aload_n 0, 1) := by decide +kernel
theorem dX11_clause_39 : decode cX11_clause 39 = .ok (.iconst 4, 1) := by decide +kernel
theorem dX11_clause_40 : decode cX11_clause 40 = .ok (.invokevirtual 192, 3) := by decide +kernel
theorem dX11_clause_43 : decode cX11_clause 43 = .ok (.goto 17, 3) := by decide +kernel
theorem dX11_clause_46 : decode cX11_clause 46 = .ok (.aload_n 0, 1) := by decide +kernel
theorem dX11_clause_47 : decode cX11_clause 47 = .ok (.getfield 246, 3) := by decide +kernel
theorem dX11_clause_50 : decode cX11_clause 50 = .ok (.bipush 10, 2) := by decide +kernel
theorem dX11_clause_52 : decode cX11_clause 52 = .ok (.if_icmp .ne 8, 3) := by decide +kernel
theorem dX11_clause_55 : decode cX11_clause 55 = .ok (.aload_n 0, 1) := by decide +kernel
theorem dX11_clause_56 : decode cX11_clause 56 = .ok (.iconst 5, 1) := by decide +kernel
theorem dX11_clause_57 : decode cX11_clause 57 = .ok (.invokevirtual 192, 3) := by decide +kernel
theorem dX11_clause_60 : decode cX11_clause 60 = .ok (.aload_n 0, 1) := by decide +kernel
theorem dX11_clause_61 : decode cX11_clause 61 = .ok (.getfield 177, 3) := by decide +kernel
theorem dX11_clause_64 : decode cX11_clause 64 = .ok (.ifCond .le 4, 3) := by decide +kernel
theorem dX11_clause_67 : decode cX11_clause 67 = .ok (.return_, 1) := by decide +kernel
theorem dX11_clause_68 : decode cX11_clause 68 = .ok (.aload_n 0, 1) := by decide +kernel
theorem dX11_clause_69 : decode cX11_clause 69 = .ok (.getfield 57, 3) := by decide +kernel
theorem dX11_clause_72 : decode cX11_clause 72 = .ok (.aload_n 0, 1) := by decide +kernel
theorem dX11_clause_73 : decode cX11_clause 73 = .ok (.getfield 246, 3) := by decide +kernel
theorem dX11_clause_76 : decode cX11_clause 76 = .ok (.iload_n 1, 1) := by decide +kernel
theorem dX11_clause_77 : decode cX11_clause 77 = .ok (.iastore, 1) := by decide +kernel
theorem dX11_clause_78 : decode cX11_clause 78 = .ok (.aload_n 0, 1) := by decide +kernel
theorem dX11_clause_79 : decode cX11_clause 79 = .ok (.getfield 60, 3) := by decide +kernel
theorem dX11_clause_82 : decode cX11_clause 82 = .ok (.aload_n 0, 1) := by decide +kernel
theorem dX11_clause_83 : decode cX11_clause 83 = .ok (.getfield 246, 3) := by decide +kernel
theorem dX11_clause_86 : decode cX11_clause 86 = .ok (.aload_n 0, 1) := by decide +kernel
theorem dX11_clause_87 : decode cX11_clause 87 = .ok (.getfield 183, 3) := by decide +kernel
theorem dX11_clause_90 : decode cX11_clause 90 = .ok (.iastore, 1) := by decide +kernel
theorem dX11_clause_91 : decode cX11_clause 91 = .ok (.aload_n 0, 1) := by decide +kernel
theorem dX11_clause_92 : decode cX11_clause 92 = .ok (.invokevirtual 198, 3) := by decide +kernel
theorem dX11_clause_95 : decode cX11_clause 95 = .ok (.aload_n 0, 1) := by decide +kernel
theorem dX11_clause_96 : decode cX11_clause 96 = .ok (.iload_n 1, 1) := by decide +kernel
theorem dX11_clause_97 : decode cX11_clause 97 = .ok (.ifCond .ne 7, 3) := by decide +kernel
theorem dX11_clause_100 : decode cX11_clause 100 = .ok (.iconst 1, 1) := by decide +kernel
theorem dX11_clause_101 : decode cX11_clause 101 = .ok (.goto 4, 3) := by decide +kernel
theorem dX11_clause_104 : decode cX11_clause 104 = .ok (.iconst 2, 1) := by decide +kernel
theorem dX11_clause_105 : decode cX11_clause 105 = .ok (.invokevirtual 195, 3) := by decide +kernel
theorem dX11_clause_108 : decode cX11_clause 108 = .ok (.aload_n 0, 1) := by decide +kernel
theorem dX11_clause_109 : decode cX11_clause 109 = .ok (.iload_n 1, 1) := by decide +kernel
theorem dX11_clause_110 : decode cX11_clause 110 = .ok (.ifCond .ne 7, 3) := by decide +kernel
theorem dX11_clause_113 : decode cX11_clause 113 = .ok (.iconst 1, 1) := by decide +kernel
theorem dX11_clause_114 : decode cX11_clause 114 = .ok (.goto 4, 3) := by decide +kernel
theorem dX11_clause_117 : decode cX11_clause 117 = .ok (.iconst 0, 1) := by decide +kernel
theorem dX11_clause_118 : decode cX11_clause 118 = .ok (.putfield 221, 3) := by decide +kernel
theorem dX11_clause_121 : decode cX11_clause 121 = .ok (.return_, 1) := by decide +kernel
theorem dX11_text_0 : decode cX11_text 0 = .ok (.aload_n 0, 1) := by decide +kernel
theorem dX11_text_1 : decode cX11_text 1 = .ok (.getfield 7, 3) := by decide +kernel
theorem dX11_text_4 : decode cX11_text 4 = .ok (.iconst 0, 1) := by decide +kernel
theorem dX11_text_5 : decode cX11_text 5 = .ok (.iaload, 1) := by decide +kernel
theorem dX11_text_6 : decode cX11_text 6 = .ok (.iconst 4, 1) := by decide +kernel
theorem dX11_text_7 : decode cX11_text 7 = .ok (.if_icmp .ne 5, 3) := by decide +kernel
theorem dX11_text_10 : decode cX11_text 10 = .ok (.iconst (-1), 1) := by decide +kernel
theorem dX11_text_11 : decode cX11_text 11 = .ok (.ireturn, 1) := by decide +kernel
theorem dX11_text_12 : decode cX11_text 12 = .ok (.aload_n 0, 1) := by decide +kernel
theorem dX11_text_13 : decode cX11_text 13 = .ok (.aload_n 0, 1) := by decide +kernel
theorem dX11_text_14 : decode cX11_text 14 = .ok (.getfield 122, 3) := by decide +kernel
theorem dX11_text_17 : decode cX11_text 17 = .ok (.putfield 155, 3) := by decide +kernel
theorem dX11_text_20 : decode cX11_text 20 = .ok (.aload_n 0, 1) := by decide +kernel
theorem dX11_text_21 : decode cX11_text 21 = .ok (.iconst 0, 1) := by decide +kernel
theorem dX11_text_22 : decode cX11_text 22 = .ok (.putfield 122, 3) := by decide +kernel
theorem dX11_text_25 : decode cX11_text 25 = .ok (.aload_n 0, 1) := by decide +kernel
theorem dX11_text_26 : decode cX11_text 26 = .ok (.iconst 0, 1) := by decide +kernel
theorem dX11_text_27 : decode cX11_text 27 = .ok (.putfield 152, 3) := by decide +kernel
theorem dX11_text_30 : decode cX11_text 30 = .ok (.aload_n 0, 1) := by decide +kernel
theorem dX11_text_31 : decode cX11_text 31 = .ok (.iconst 0, 1) := by decide +kernel
theorem dX11_text_32 : decode cX11_text 32 = .ok (.putfield 177, 3) := by decide +kernel
theorem dX11_text_35 : decode cX11_text 35 = .ok (.aload_n 0, 1) := by decide +kernel
theorem dX11_text_36 : decode cX11_text 36 = .ok (.iconst (-1), 1) := by decide +kernel
theorem dX11_text_37 : decode cX11_text 37 = .ok (.putfield 180, 3) := by decide +kernel
theorem dX11_text_40 : decode cX11_text 40 = .ok (.aload_n 0, 1) := by decide +kernel
theorem dX11_text_41 : decode cX11_text 41 = .ok (.iconst 0, 1) := by decide +kernel
theorem dX11_text_42 : decode cX11_text 42 = .ok (.putfield 189, 3) := by decide +kernel
theorem dX11_text_45 : decode cX11_text 45 = .ok (.aload_n 0, 1) := by decide +kernel
theorem dX11_text_46 : decode cX11_text 46 = .ok (.iconst 0, 1) := by decide +kernel
theorem dX11_text_47 : decode cX11_text 47 = .ok (.putfield 186, 3) := by decide +kernel
theorem dX11_text_50 : decode cX11_text 50 = .ok (.aload_n 0, 1) := by decide +kernel
theorem dX11_text_51 : decode cX11_text 51 = .ok (.iconst 0, 1) := by decide +kernel
theorem dX11_text_52 : decode cX11_text 52 = .ok (.putfield 201, 3) := by decide +kernel
theorem dX11_text_55 : decode cX11_text 55 = .ok (.aload_n 0, 1) := by decide +kernel
theorem dX11_text_56 : decode cX11_text 56 = .ok (.iconst 4, 1) := by decide +kernel
theorem dX11_text_57 : decode cX11_text 57 = .ok (.putfield 221, 3) := by decide +kernel
theorem dX11_text_60 : decode cX11_text 60 = .ok (.aload_n 0, 1) := by decide +kernel
theorem dX11_text_61 : decode cX11_text 61 = .ok (.iconst 0, 1) := by decide +kernel
theorem dX11_text_62 : decode cX11_text 62 = .ok (.putfield 246, 3) := by decide +kernel
theorem dX11_text_65 : decode cX11_text 65 = .ok (.aload_n 0, 1) := by decide +kernel
theorem dX11_text_66 : decode cX11_text 66 = .ok (.iconst 0, 1) := by decide +kernel
theorem dX11_text_67 : decode cX11_text 67 = .ok (.putfield 183, 3) := by decide +kernel
theorem dX11_text_70 : decode cX11_text 70 = .ok (.aload_n 0, 1) := by decide +kernel
theorem dX11_text_71 : decode cX11_text 71 = .ok (.invokevirtual 198, 3) := by decide +kernel
theorem dX11_text_74 : decode cX11_text 74 = .ok (.aload_n 0, 1) := by decide +kernel
theorem dX11_text_75 : decode cX11_text 75 = .ok (.getfield 177, 3) := by decide +kernel
theorem dX11_text_78 : decode cX11_text 78 = .ok (.ifCond .ne 89, 3) := by decide +kernel
theorem dX11_text_81 : decode cX11_text 81 = .ok (.aload_n 0, 1) := by decide +kernel
theorem dX11_text_82 : decode cX11_text 82 = .ok (.getfield 221, 3) := by decide +kernel
theorem dX11_text_85 : decode cX11_text 85 = .ok (.iconst 4, 1) := by decide +kernel
theorem dX11_text_86 : decode cX11_text 86 = .ok (.if_icmp .ne 10, 3) := by decide +kernel
theorem dX11_text_89 : decode cX11_text 89 = .ok (.aload_n 0, 1) := by decide +kernel
theorem dX11_text_90 : decode cX11_text 90 = .ok (.getfield 161, 3) := by decide +kernel
theorem dX11_text_93 : decode cX11_text 93 = .ok (.ifCond .eq 74, 3) := by decide +kernel
theorem dX11_text_96 : decode cX11_text 96 = .ok (.aload_n 0, 1) := by decide +kernel
theorem dX11_text_97 : decode cX11_text 97 = .ok (.getfield 221, 3) := by decide +kernel
theorem dX11_text_100 : decode cX11_text 100 = .ok (.tableswitch 60 0 3 #[32, 39, 46, 53], 32) := by decide +kernel
theorem dX11_text_132 : decode cX11_text 132 = .ok (.aload_n 0, 1) := by decide +kernel
theorem dX11_text_133 : decode cX11_text 133 = .ok (.invokevirtual 253, 3) := by decide +kernel
theorem dX11_text_136 : decode cX11_text 136 = .ok (.goto (-62), 3) := by decide +kernel
theorem dX11_text_139 : decode cX11_text 139 = .ok (.aload_n 0, 1) := by decide +kernel
theorem dX11_text_140 : decode cX11_text 140 = .ok (.invokevirtual 256, 3) := by decide +kernel
theorem dX11_text_143 : decode cX11_text 143 = .ok (.goto (-69), 3) := by decide +kernel
theorem dX11_text_146 : decode cX11_text 146 = .ok (.aload_n 0, 1) := by decide +kernel
theorem dX11_text_147 : decode cX11_text 147 = .ok (.invokevirtual 259, 3) := by decide +kernel
theorem dX11_text_150 : decode cX11_text 150 = .ok (.goto (-76), 3) := by decide +kernel
theorem dX11_text_153 : decode cX11_text 153 = .ok (.aload_n 0, 1) := by decide +kernel
theorem dX11_text_154 : decode cX11_text 154 = .ok (.invokevirtual 262, 3) := by decide +kernel
theorem dX11_text_157 : decode cX11_text 157 = .ok (.goto (-83), 3) := by decide +kernel
theorem dX11_text_160 : decode cX11_text 160 = .ok (.aload_n 0, 1) := by decide +kernel
theorem dX11_text_161 : decode cX11_text 161 = .ok (.invokevirtual 265, 3) := by decide +kernel
theorem dX11_text_164 : decode cX11_text 164 = .ok (.goto (-90), 3) := by decide +kernel
theorem dX11_text_167 : decode cX11_text 167 = .ok (.aload_n 0, 1) := by decide +kernel
theorem dX11_text_168 : decode cX11_text 168 = .ok (.aload_n 0, 1) := by decide +kernel
theorem dX11_text_169 : decode cX11_text 169 = .ok (.getfield 177, 3) := by decide +kernel
theorem dX11_text_172 : decode cX11_text 172 = .ok (.putfield 20, 3) := by decide +kernel
theorem dX11_text_175 : decode cX11_text 175 = .ok (.aload_n 0, 1) := by decide +kernel
theorem dX11_text_176 : decode cX11_text 176 = .ok (.aload_n 0, 1) := by decide +kernel
theorem dX11_text_177 : decode cX11_text 177 = .ok (.getfield 180, 3) := by decide +kernel
theorem dX11_text_180 : decode cX11_text 180 = .ok (.putfield 24, 3) := by decide +kernel
theorem dX11_text_183 : decode cX11_text 183 = .ok (.aload_n 0, 1) := by decide +kernel
theorem dX11_text_184 : decode cX11_text 184 = .ok (.getfield 177, 3) := by decide +kernel
theorem dX11_text_187 : decode cX11_text 187 = .ok (.ifCond .le 5, 3) := by decide +kernel
theorem dX11_text_190 : decode cX11_text 190 = .ok (.iconst (-1), 1) := by decide +kernel
theorem dX11_text_191 : decode cX11_text 191 = .ok (.ireturn, 1) := by decide +kernel
theorem dX11_text_192 : decode cX11_text 192 = .ok (.aload_n 0, 1) := by decide +kernel
theorem dX11_text_193 : decode cX11_text 193 = .ok (.aload_n 0, 1) := by decide +kernel
theorem dX11_text_194 : decode cX11_text 194 = .ok (.getfield 7, 3) := by decide +kernel
theorem dX11_text_197 : decode cX11_text 197 = .ok (.iconst 0, 1) := by decide +kernel
theorem dX11_text_198 : decode cX11_text 198 = .ok (.iaload, 1) := by decide +kernel
theorem dX11_text_199 : decode cX11_text 199 = .ok (.invokevirtual 268, 3) := by decide +kernel
theorem dX11_text_202 : decode cX11_text 202 = .ok (.aload_n 0, 1) := by decide +kernel
theorem dX11_text_203 : decode cX11_text 203 = .ok (.getfield 7, 3) := by decide +kernel
theorem dX11_text_206 : decode cX11_text 206 = .ok (.iconst 0, 1) := by decide +kernel
theorem dX11_text_207 : decode cX11_text 207 = .ok (.dup2, 1) := by decide +kernel
theorem dX11_text_208 : decode cX11_text 208 = .ok (.iaload, 1) := by decide +kernel
theorem dX11_text_209 : decode cX11_text 209 = .ok (.iconst 1, 1) := by decide +kernel
theorem dX11_text_210 : decode cX11_text 210 = .ok (.iadd, 1) := by decide +kernel
theorem dX11_text_211 : decode cX11_text 211 = .ok (.iastore, 1) := by decide +kernel
theorem dX11_text_212 : decode cX11_text 212 = .ok (.aload_n 0, 1) := by decide +kernel
theorem dX11_text_213 : decode cX11_text 213 = .ok (.getfield 7, 3) := by decide +kernel
theorem dX11_text_216 : decode cX11_text 216 = .ok (.iconst 0, 1) := by decide +kernel
theorem dX11_text_217 : decode cX11_text 217 = .ok (.iaload, 1) := by decide +kernel
theorem dX11_text_218 : decode cX11_text 218 = .ok (.iconst 1, 1) := by decide +kernel
theorem dX11_text_219 : decode cX11_text 219 = .ok (.isub, 1) := by decide +kernel
theorem dX11_text_220 : decode cX11_text 220 = .ok (.ireturn, 1) := by decide +kernel
theorem dX11_keepsText_0 : decode cX11_keepsText 0 = .ok (.aload_n 0, 1) := by decide +kernel
theorem dX11_keepsText_1 : decode cX11_keepsText 1 = .ok (.getfield 27, 3) := by decide +kernel
theorem dX11_keepsText_4 : decode cX11_keepsText 4 = .ok (.iload_n 1, 1) := by decide +kernel
theorem dX11_keepsText_5 : decode cX11_keepsText 5 = .ok (.aload_n 0, 1) := by decide +kernel
theorem dX11_keepsText_6 : decode cX11_keepsText 6 = .ok (.getfield 246, 3) := by decide +kernel
theorem dX11_keepsText_9 : decode cX11_keepsText 9 = .ok (.iastore, 1) := by decide +kernel
theorem dX11_keepsText_10 : decode cX11_keepsText 10 = .ok (.iconst 0, 1) := by decide +kernel
theorem dX11_keepsText_11 : decode cX11_keepsText 11 = .ok (.istore_n 2, 1) := by decide +kernel
theorem dX11_keepsText_12 : decode cX11_keepsText 12 = .ok (.iload_n 2, 1) := by decide +kernel
theorem dX11_keepsText_13 : decode cX11_keepsText 13 = .ok (.aload_n 0, 1) := by decide +kernel
theorem dX11_keepsText_14 : decode cX11_keepsText 14 = .ok (.getfield 246, 3) := by decide +kernel
theorem dX11_keepsText_17 : decode cX11_keepsText 17 = .ok (.if_icmp .ge 49, 3) := by decide +kernel
theorem dX11_keepsText_20 : decode cX11_keepsText 20 = .ok (.aload_n 0, 1) := by decide +kernel
theorem dX11_keepsText_21 : decode cX11_keepsText 21 = .ok (.getfield 30, 3) := by decide +kernel
theorem dX11_keepsText_24 : decode cX11_keepsText 24 = .ok (.bipush 10, 2) := by decide +kernel
theorem dX11_keepsText_26 : decode cX11_keepsText 26 = .ok (.iload_n 1, 1) := by decide +kernel
theorem dX11_keepsText_27 : decode cX11_keepsText 27 = .ok (.imul, 1) := by decide +kernel
theorem dX11_keepsText_28 : decode cX11_keepsText 28 = .ok (.iload_n 2, 1) := by decide +kernel
theorem dX11_keepsText_29 : decode cX11_keepsText 29 = .ok (.iadd, 1) := by decide +kernel
theorem dX11_keepsText_30 : decode cX11_keepsText 30 = .ok (.aload_n 0, 1) := by decide +kernel
theorem dX11_keepsText_31 : decode cX11_keepsText 31 = .ok (.getfield 57, 3) := by decide +kernel
theorem dX11_keepsText_34 : decode cX11_keepsText 34 = .ok (.iload_n 2, 1) := by decide +kernel
theorem dX11_keepsText_35 : decode cX11_keepsText 35 = .ok (.iaload, 1) := by decide +kernel
theorem dX11_keepsText_36 : decode cX11_keepsText 36 = .ok (.iastore, 1) := by decide +kernel
theorem dX11_keepsText_37 : decode cX11_keepsText 37 = .ok (.aload_n 0, 1) := by decide +kernel
theorem dX11_keepsText_38 : decode cX11_keepsText 38 = .ok (.getfield 33, 3) := by decide +kernel
theorem dX11_keepsText_41 : decode cX11_keepsText 41 = .ok (.bipush 10, 2) := by decide +kernel
theorem dX11_keepsText_43 : decode cX11_keepsText 43 = .ok (.iload_n 1, 1) := by decide +kernel
theorem dX11_keepsText_44 : decode cX11_keepsText 44 = .ok (.imul, 1) := by decide +kernel
theorem dX11_keepsText_45 : decode cX11_keepsText 45 = .ok (.iload_n 2, 1) := by decide +kernel
theorem dX11_keepsText_46 : decode cX11_keepsText 46 = .ok (.iadd, 1) := by decide +kernel
theorem dX11_keepsText_47 : decode cX11_keepsText 47 = .ok (.sipush 400, 3) := by decide +kernel
theorem dX11_keepsText_50 : decode cX11_keepsText 50 = .ok (.iload_n 1, 1) := by decide +kernel
theorem dX11_keepsText_51 : decode cX11_keepsText 51 = .ok (.imul, 1) := by decide +kernel
theorem dX11_keepsText_52 : decode cX11_keepsText 52 = .ok (.aload_n 0, 1) := by decide +kernel
theorem dX11_keepsText_53 : decode cX11_keepsText 53 = .ok (.getfield 60, 3) := by decide +kernel
theorem dX11_keepsText_56 : decode cX11_keepsText 56 = .ok (.iload_n 2, 1) := by decide +kernel
theorem dX11_keepsText_57 : decode cX11_keepsText 57 = .ok (.iaload, 1) := by decide +kernel
theorem dX11_keepsText_58 : decode cX11_keepsText 58 = .ok (.iadd, 1) := by decide +kernel
theorem dX11_keepsText_59 : decode cX11_keepsText 59 = .ok (.iastore, 1) := by decide +kernel
theorem dX11_keepsText_60 : decode cX11_keepsText 60 = .ok (.iinc 2 1, 3) := by decide +kernel
theorem dX11_keepsText_63 : decode cX11_keepsText 63 = .ok (.goto (-51), 3) := by decide +kernel
theorem dX11_keepsText_66 : decode cX11_keepsText 66 = .ok (.iconst 0, 1) := by decide +kernel
theorem dX11_keepsText_67 : decode cX11_keepsText 67 = .ok (.istore_n 2, 1) := by decide +kernel
theorem dX11_keepsText_68 : decode cX11_keepsText 68 = .ok (.iload_n 2, 1) := by decide +kernel
theorem dX11_keepsText_69 : decode cX11_keepsText 69 = .ok (.aload_n 0, 1) := by decide +kernel
theorem dX11_keepsText_70 : decode cX11_keepsText 70 = .ok (.getfield 183, 3) := by decide +kernel
theorem dX11_keepsText_73 : decode cX11_keepsText 73 = .ok (.if_icmp .ge 45, 3) := by decide +kernel
theorem dX11_keepsText_76 : decode cX11_keepsText 76 = .ok (.aload_n 0, 1) := by decide +kernel
theorem dX11_keepsText_77 : decode cX11_keepsText 77 = .ok (.getfield 36, 3) := by decide +kernel
theorem dX11_keepsText_80 : decode cX11_keepsText 80 = .ok (.sipush 400, 3) := by decide +kernel
theorem dX11_keepsText_83 : decode cX11_keepsText 83 = .ok (.iload_n 1, 1) := by decide +kernel
theorem dX11_keepsText_84 : decode cX11_keepsText 84 = .ok (.imul, 1) := by decide +kernel
theorem dX11_keepsText_85 : decode cX11_keepsText 85 = .ok (.iload_n 2, 1) := by decide +kernel
theorem dX11_keepsText_86 : decode cX11_keepsText 86 = .ok (.iadd, 1) := by decide +kernel
theorem dX11_keepsText_87 : decode cX11_keepsText 87 = .ok (.aload_n 0, 1) := by decide +kernel
theorem dX11_keepsText_88 : decode cX11_keepsText 88 = .ok (.getfield 63, 3) := by decide +kernel
theorem dX11_keepsText_91 : decode cX11_keepsText 91 = .ok (.iload_n 2, 1) := by decide +kernel
theorem dX11_keepsText_92 : decode cX11_keepsText 92 = .ok (.iaload, 1) := by decide +kernel
theorem dX11_keepsText_93 : decode cX11_keepsText 93 = .ok (.iastore, 1) := by decide +kernel
theorem dX11_keepsText_94 : decode cX11_keepsText 94 = .ok (.aload_n 0, 1) := by decide +kernel
theorem dX11_keepsText_95 : decode cX11_keepsText 95 = .ok (.getfield 39, 3) := by decide +kernel
theorem dX11_keepsText_98 : decode cX11_keepsText 98 = .ok (.sipush 400, 3) := by decide +kernel
theorem dX11_keepsText_101 : decode cX11_keepsText 101 = .ok (.iload_n 1, 1) := by decide +kernel
theorem dX11_keepsText_102 : decode cX11_keepsText 102 = .ok (.imul, 1) := by decide +kernel
theorem dX11_keepsText_103 : decode cX11_keepsText 103 = .ok (.iload_n 2, 1) := by decide +kernel
theorem dX11_keepsText_104 : decode cX11_keepsText 104 = .ok (.iadd, 1) := by decide +kernel
theorem dX11_keepsText_105 : decode cX11_keepsText 105 = .ok (.aload_n 0, 1) := by decide +kernel
theorem dX11_keepsText_106 : decode cX11_keepsText 106 = .ok (.getfield 66, 3) := by decide +kernel
theorem dX11_keepsText_109 : decode cX11_keepsText 109 = .ok (.iload_n 2, 1) := by decide +kernel
theorem dX11_keepsText_110 : decode cX11_keepsText 110 = .ok (.iaload, 1) := by decide +kernel
theorem dX11_keepsText_111 : decode cX11_keepsText 111 = .ok (.iastore, 1) := by decide +kernel
theorem dX11_keepsText_112 : decode cX11_keepsText 112 = .ok (.iinc 2 1, 3) := by decide +kernel
theorem dX11_keepsText_115 : decode cX11_keepsText 115 = .ok (.goto (-47), 3) := by decide +kernel
theorem dX11_keepsText_118 : decode cX11_keepsText 118 = .ok (.return_, 1) := by decide +kernel
theorem dX11_fault_0 : decode cX11_fault 0 = .ok (.iload_n 1, 1) := by decide +kernel
theorem dX11_fault_1 : decode cX11_fault 1 = .ok (.ifCond .ne 10, 3) := by decide +kernel
theorem dX11_fault_4 : decode cX11_fault 4 = .ok (.aload_n 0, 1) := by decide +kernel
theorem dX11_fault_5 : decode cX11_fault 5 = .ok (.getfield 20, 3) := by decide +kernel
theorem dX11_fault_8 : decode cX11_fault 8 = .ok (.goto 16, 3) := by decide +kernel
theorem dX11_fault_11 : decode cX11_fault 11 = .ok (.iload_n 1, 1) := by decide +kernel
theorem dX11_fault_12 : decode cX11_fault 12 = .ok (.iconst 1, 1) := by decide +kernel
theorem dX11_fault_13 : decode cX11_fault 13 = .ok (.if_icmp .ne 10, 3) := by decide +kernel
theorem dX11_fault_16 : decode cX11_fault 16 = .ok (.aload_n 0, 1) := by decide +kernel
theorem dX11_fault_17 : decode cX11_fault 17 = .ok (.getfield 24, 3) := by decide +kernel
theorem dX11_fault_20 : decode cX11_fault 20 = .ok (.goto 4, 3) := by decide +kernel
theorem dX11_fault_23 : decode cX11_fault 23 = .ok (.iconst (-1), 1) := by decide +kernel
theorem dX11_fault_24 : decode cX11_fault 24 = .ok (.ireturn, 1) := by decide +kernel
theorem dX11_bound_0 : decode cX11_bound 0 = .ok (.lload_n 0, 1) := by decide +kernel
theorem dX11_bound_1 : decode cX11_bound 1 = .ok (.ldc2_w 271, 3) := by decide +kernel
theorem dX11_bound_4 : decode cX11_bound 4 = .ok (.lcmp, 1) := by decide +kernel
theorem dX11_bound_5 : decode cX11_bound 5 = .ok (.ifCond .le 9, 3) := by decide +kernel
theorem dX11_bound_8 : decode cX11_bound 8 = .ok (.ldc2_w 271, 3) := by decide +kernel
theorem dX11_bound_11 : decode cX11_bound 11 = .ok (.goto 18, 3) := by decide +kernel
theorem dX11_bound_14 : decode cX11_bound 14 = .ok (.lload_n 0, 1) := by decide +kernel
theorem dX11_bound_15 : decode cX11_bound 15 = .ok (.ldc2_w 273, 3) := by decide +kernel
theorem dX11_bound_18 : decode cX11_bound 18 = .ok (.lcmp, 1) := by decide +kernel
theorem dX11_bound_19 : decode cX11_bound 19 = .ok (.ifCond .ge 9, 3) := by decide +kernel
theorem dX11_bound_22 : decode cX11_bound 22 = .ok (.ldc2_w 273, 3) := by decide +kernel
theorem dX11_bound_25 : decode cX11_bound 25 = .ok (.goto 4, 3) := by decide +kernel
theorem dX11_bound_28 : decode cX11_bound 28 = .ok (.lload_n 0, 1) := by decide +kernel
theorem dX11_bound_29 : decode cX11_bound 29 = .ok (.lreturn, 1) := by decide +kernel
theorem dX11_worked_0 : decode cX11_worked 0 = .ok (.iload_n 0, 1) := by decide +kernel
theorem dX11_worked_1 : decode cX11_worked 1 = .ok (.lookupswitch 210 #[(35, 170), (42, 113), (43, 99), (45, 106), (47, 120), (60, 134), (61, 158), (62, 146), (300, 182), (301, 194), (406, 206)], 99) := by decide +kernel
theorem dX11_worked_100 : decode cX11_worked 100 = .ok (.lload_n 1, 1) := by decide +kernel
theorem dX11_worked_101 : decode cX11_worked 101 = .ok (.lload_n 3, 1) := by decide +kernel
theorem dX11_worked_102 : decode cX11_worked 102 = .ok (.ladd, 1) := by decide +kernel
theorem dX11_worked_103 : decode cX11_worked 103 = .ok (.invokestatic 275, 3) := by decide +kernel
theorem dX11_worked_106 : decode cX11_worked 106 = .ok (.lreturn, 1) := by decide +kernel
theorem dX11_worked_107 : decode cX11_worked 107 = .ok (.lload_n 1, 1) := by decide +kernel
theorem dX11_worked_108 : decode cX11_worked 108 = .ok (.lload_n 3, 1) := by decide +kernel
theorem dX11_worked_109 : decode cX11_worked 109 = .ok (.lsub, 1) := by decide +kernel
theorem dX11_worked_110 : decode cX11_worked 110 = .ok (.invokestatic 275, 3) := by decide +kernel
theorem dX11_worked_113 : decode cX11_worked 113 = .ok (.lreturn, 1) := by decide +kernel
theorem dX11_worked_114 : decode cX11_worked 114 = .ok (.lload_n 1, 1) := by decide +kernel
theorem dX11_worked_115 : decode cX11_worked 115 = .ok (.lload_n 3, 1) := by decide +kernel
theorem dX11_worked_116 : decode cX11_worked 116 = .ok (.lmul, 1) := by decide +kernel
theorem dX11_worked_117 : decode cX11_worked 117 = .ok (.invokestatic 275, 3) := by decide +kernel
theorem dX11_worked_120 : decode cX11_worked 120 = .ok (.lreturn, 1) := by decide +kernel
theorem dX11_worked_121 : decode cX11_worked 121 = .ok (.lload_n 3, 1) := by decide +kernel
theorem dX11_worked_122 : decode cX11_worked 122 = .ok (.lconst 0, 1) := by decide +kernel
theorem dX11_worked_123 : decode cX11_worked 123 = .ok (.lcmp, 1) := by decide +kernel
theorem dX11_worked_124 : decode cX11_worked 124 = .ok (.ifCond .ne 7, 3) := by decide +kernel
theorem dX11_worked_127 : decode cX11_worked 127 = .ok (.lconst 0, 1) := by decide +kernel
theorem dX11_worked_128 : decode cX11_worked 128 = .ok (.goto 6, 3) := by decide +kernel
theorem dX11_worked_131 : decode cX11_worked 131 = .ok (.lload_n 1, 1) := by decide +kernel
theorem dX11_worked_132 : decode cX11_worked 132 = .ok (.lload_n 3, 1) := by decide +kernel
theorem dX11_worked_133 : decode cX11_worked 133 = .ok (.ldiv, 1) := by decide +kernel
theorem dX11_worked_134 : decode cX11_worked 134 = .ok (.lreturn, 1) := by decide +kernel
theorem dX11_worked_135 : decode cX11_worked 135 = .ok (.lload_n 1, 1) := by decide +kernel
theorem dX11_worked_136 : decode cX11_worked 136 = .ok (.lload_n 3, 1) := by decide +kernel
theorem dX11_worked_137 : decode cX11_worked 137 = .ok (.lcmp, 1) := by decide +kernel
theorem dX11_worked_138 : decode cX11_worked 138 = .ok (.ifCond .ge 7, 3) := by decide +kernel
theorem dX11_worked_141 : decode cX11_worked 141 = .ok (.lconst 1, 1) := by decide +kernel
theorem dX11_worked_142 : decode cX11_worked 142 = .ok (.goto 4, 3) := by decide +kernel
theorem dX11_worked_145 : decode cX11_worked 145 = .ok (.lconst 0, 1) := by decide +kernel
theorem dX11_worked_146 : decode cX11_worked 146 = .ok (.lreturn, 1) := by decide +kernel
theorem dX11_worked_147 : decode cX11_worked 147 = .ok (.lload_n 1, 1) := by decide +kernel
theorem dX11_worked_148 : decode cX11_worked 148 = .ok (.lload_n 3, 1) := by decide +kernel
theorem dX11_worked_149 : decode cX11_worked 149 = .ok (.lcmp, 1) := by decide +kernel
theorem dX11_worked_150 : decode cX11_worked 150 = .ok (.ifCond .le 7, 3) := by decide +kernel
theorem dX11_worked_153 : decode cX11_worked 153 = .ok (.lconst 1, 1) := by decide +kernel
theorem dX11_worked_154 : decode cX11_worked 154 = .ok (.goto 4, 3) := by decide +kernel
theorem dX11_worked_157 : decode cX11_worked 157 = .ok (.lconst 0, 1) := by decide +kernel
theorem dX11_worked_158 : decode cX11_worked 158 = .ok (.lreturn, 1) := by decide +kernel
theorem dX11_worked_159 : decode cX11_worked 159 = .ok (.lload_n 1, 1) := by decide +kernel
theorem dX11_worked_160 : decode cX11_worked 160 = .ok (.lload_n 3, 1) := by decide +kernel
theorem dX11_worked_161 : decode cX11_worked 161 = .ok (.lcmp, 1) := by decide +kernel
theorem dX11_worked_162 : decode cX11_worked 162 = .ok (.ifCond .ne 7, 3) := by decide +kernel
theorem dX11_worked_165 : decode cX11_worked 165 = .ok (.lconst 1, 1) := by decide +kernel
theorem dX11_worked_166 : decode cX11_worked 166 = .ok (.goto 4, 3) := by decide +kernel
theorem dX11_worked_169 : decode cX11_worked 169 = .ok (.lconst 0, 1) := by decide +kernel
theorem dX11_worked_170 : decode cX11_worked 170 = .ok (.lreturn, 1) := by decide +kernel
theorem dX11_worked_171 : decode cX11_worked 171 = .ok (.lload_n 1, 1) := by decide +kernel
theorem dX11_worked_172 : decode cX11_worked 172 = .ok (.lload_n 3, 1) := by decide +kernel
theorem dX11_worked_173 : decode cX11_worked 173 = .ok (.lcmp, 1) := by decide +kernel
theorem dX11_worked_174 : decode cX11_worked 174 = .ok (.ifCond .eq 7, 3) := by decide +kernel
theorem dX11_worked_177 : decode cX11_worked 177 = .ok (.lconst 1, 1) := by decide +kernel
theorem dX11_worked_178 : decode cX11_worked 178 = .ok (.goto 4, 3) := by decide +kernel
theorem dX11_worked_181 : decode cX11_worked 181 = .ok (.lconst 0, 1) := by decide +kernel
theorem dX11_worked_182 : decode cX11_worked 182 = .ok (.lreturn, 1) := by decide +kernel
theorem dX11_worked_183 : decode cX11_worked 183 = .ok (.lload_n 1, 1) := by decide +kernel
theorem dX11_worked_184 : decode cX11_worked 184 = .ok (.lload_n 3, 1) := by decide +kernel
theorem dX11_worked_185 : decode cX11_worked 185 = .ok (.lcmp, 1) := by decide +kernel
theorem dX11_worked_186 : decode cX11_worked 186 = .ok (.ifCond .gt 7, 3) := by decide +kernel
theorem dX11_worked_189 : decode cX11_worked 189 = .ok (.lconst 1, 1) := by decide +kernel
theorem dX11_worked_190 : decode cX11_worked 190 = .ok (.goto 4, 3) := by decide +kernel
theorem dX11_worked_193 : decode cX11_worked 193 = .ok (.lconst 0, 1) := by decide +kernel
theorem dX11_worked_194 : decode cX11_worked 194 = .ok (.lreturn, 1) := by decide +kernel
theorem dX11_worked_195 : decode cX11_worked 195 = .ok (.lload_n 1, 1) := by decide +kernel
theorem dX11_worked_196 : decode cX11_worked 196 = .ok (.lload_n 3, 1) := by decide +kernel
theorem dX11_worked_197 : decode cX11_worked 197 = .ok (.lcmp, 1) := by decide +kernel
theorem dX11_worked_198 : decode cX11_worked 198 = .ok (.ifCond .lt 7, 3) := by decide +kernel
theorem dX11_worked_201 : decode cX11_worked 201 = .ok (.lconst 1, 1) := by decide +kernel
theorem dX11_worked_202 : decode cX11_worked 202 = .ok (.goto 4, 3) := by decide +kernel
theorem dX11_worked_205 : decode cX11_worked 205 = .ok (.lconst 0, 1) := by decide +kernel
theorem dX11_worked_206 : decode cX11_worked 206 = .ok (.lreturn, 1) := by decide +kernel
theorem dX11_worked_207 : decode cX11_worked 207 = .ok (.lload_n 1, 1) := by decide +kernel
theorem dX11_worked_208 : decode cX11_worked 208 = .ok (.lload_n 3, 1) := by decide +kernel
theorem dX11_worked_209 : decode cX11_worked 209 = .ok (.lmul, 1) := by decide +kernel
theorem dX11_worked_210 : decode cX11_worked 210 = .ok (.lreturn, 1) := by decide +kernel
theorem dX11_worked_211 : decode cX11_worked 211 = .ok (.lload_n 1, 1) := by decide +kernel
theorem dX11_worked_212 : decode cX11_worked 212 = .ok (.lload_n 3, 1) := by decide +kernel
theorem dX11_worked_213 : decode cX11_worked 213 = .ok (.ladd, 1) := by decide +kernel
theorem dX11_worked_214 : decode cX11_worked 214 = .ok (.lconst 0, 1) := by decide +kernel
theorem dX11_worked_215 : decode cX11_worked 215 = .ok (.lcmp, 1) := by decide +kernel
theorem dX11_worked_216 : decode cX11_worked 216 = .ok (.ifCond .le 7, 3) := by decide +kernel
theorem dX11_worked_219 : decode cX11_worked 219 = .ok (.lconst 1, 1) := by decide +kernel
theorem dX11_worked_220 : decode cX11_worked 220 = .ok (.goto 4, 3) := by decide +kernel
theorem dX11_worked_223 : decode cX11_worked 223 = .ok (.lconst 0, 1) := by decide +kernel
theorem dX11_worked_224 : decode cX11_worked 224 = .ok (.lreturn, 1) := by decide +kernel
theorem dX11_tells_0 : decode cX11_tells 0 = .ok (.iconst 0, 1) := by decide +kernel
theorem dX11_tells_1 : decode cX11_tells 1 = .ok (.istore_n 2, 1) := by decide +kernel
theorem dX11_tells_2 : decode cX11_tells 2 = .ok (.iload_n 1, 1) := by decide +kernel
theorem dX11_tells_3 : decode cX11_tells 3 = .ok (.istore_n 3, 1) := by decide +kernel
theorem dX11_tells_4 : decode cX11_tells 4 = .ok (.aload_n 0, 1) := by decide +kernel
theorem dX11_tells_5 : decode cX11_tells 5 = .ok (.getfield 36, 3) := by decide +kernel
theorem dX11_tells_8 : decode cX11_tells 8 = .ok (.iload_n 3, 1) := by decide +kernel
theorem dX11_tells_9 : decode cX11_tells 9 = .ok (.iaload, 1) := by decide +kernel
theorem dX11_tells_10 : decode cX11_tells 10 = .ok (.sipush 408, 3) := by decide +kernel
theorem dX11_tells_13 : decode cX11_tells 13 = .ok (.if_icmp .eq 162, 3) := by decide +kernel
theorem dX11_tells_16 : decode cX11_tells 16 = .ok (.aload_n 0, 1) := by decide +kernel
theorem dX11_tells_17 : decode cX11_tells 17 = .ok (.getfield 36, 3) := by decide +kernel
theorem dX11_tells_20 : decode cX11_tells 20 = .ok (.iload_n 3, 1) := by decide +kernel
theorem dX11_tells_21 : decode cX11_tells 21 = .ok (.iaload, 1) := by decide +kernel
theorem dX11_tells_22 : decode cX11_tells 22 = .ok (.istore 4, 2) := by decide +kernel
theorem dX11_tells_24 : decode cX11_tells 24 = .ok (.iload 4, 2) := by decide +kernel
theorem dX11_tells_26 : decode cX11_tells 26 = .ok (.sipush 400, 3) := by decide +kernel
theorem dX11_tells_29 : decode cX11_tells 29 = .ok (.if_icmp .eq 11, 3) := by decide +kernel
theorem dX11_tells_32 : decode cX11_tells 32 = .ok (.iload 4, 2) := by decide +kernel
theorem dX11_tells_34 : decode cX11_tells 34 = .ok (.sipush 401, 3) := by decide +kernel
theorem dX11_tells_37 : decode cX11_tells 37 = .ok (.if_icmp .ne 45, 3) := by decide +kernel
theorem dX11_tells_40 : decode cX11_tells 40 = .ok (.aload_n 0, 1) := by decide +kernel
theorem dX11_tells_41 : decode cX11_tells 41 = .ok (.getfield 72, 3) := by decide +kernel
theorem dX11_tells_44 : decode cX11_tells 44 = .ok (.iload_n 2, 1) := by decide +kernel
theorem dX11_tells_45 : decode cX11_tells 45 = .ok (.iload 4, 2) := by decide +kernel
theorem dX11_tells_47 : decode cX11_tells 47 = .ok (.sipush 400, 3) := by decide +kernel
theorem dX11_tells_50 : decode cX11_tells 50 = .ok (.if_icmp .ne 13, 3) := by decide +kernel
theorem dX11_tells_53 : decode cX11_tells 53 = .ok (.aload_n 0, 1) := by decide +kernel
theorem dX11_tells_54 : decode cX11_tells 54 = .ok (.getfield 39, 3) := by decide +kernel
theorem dX11_tells_57 : decode cX11_tells 57 = .ok (.iload_n 3, 1) := by decide +kernel
theorem dX11_tells_58 : decode cX11_tells 58 = .ok (.iaload, 1) := by decide +kernel
theorem dX11_tells_59 : decode cX11_tells 59 = .ok (.i2l, 1) := by decide +kernel
theorem dX11_tells_60 : decode cX11_tells 60 = .ok (.goto 15, 3) := by decide +kernel
theorem dX11_tells_63 : decode cX11_tells 63 = .ok (.aload_n 0, 1) := by decide +kernel
theorem dX11_tells_64 : decode cX11_tells 64 = .ok (.getfield 69, 3) := by decide +kernel
theorem dX11_tells_67 : decode cX11_tells 67 = .ok (.aload_n 0, 1) := by decide +kernel
theorem dX11_tells_68 : decode cX11_tells 68 = .ok (.getfield 39, 3) := by decide +kernel
theorem dX11_tells_71 : decode cX11_tells 71 = .ok (.iload_n 3, 1) := by decide +kernel
theorem dX11_tells_72 : decode cX11_tells 72 = .ok (.iaload, 1) := by decide +kernel
theorem dX11_tells_73 : decode cX11_tells 73 = .ok (.iaload, 1) := by decide +kernel
theorem dX11_tells_74 : decode cX11_tells 74 = .ok (.i2l, 1) := by decide +kernel
theorem dX11_tells_75 : decode cX11_tells 75 = .ok (.lastore, 1) := by decide +kernel
theorem dX11_tells_76 : decode cX11_tells 76 = .ok (.iinc 2 1, 3) := by decide +kernel
theorem dX11_tells_79 : decode cX11_tells 79 = .ok (.goto 90, 3) := by decide +kernel
theorem dX11_tells_82 : decode cX11_tells 82 = .ok (.iload 4, 2) := by decide +kernel
theorem dX11_tells_84 : decode cX11_tells 84 = .ok (.sipush 402, 3) := by decide +kernel
theorem dX11_tells_87 : decode cX11_tells 87 = .ok (.if_icmp .ne 23, 3) := by decide +kernel
theorem dX11_tells_90 : decode cX11_tells 90 = .ok (.aload_n 0, 1) := by decide +kernel
theorem dX11_tells_91 : decode cX11_tells 91 = .ok (.getfield 72, 3) := by decide +kernel
theorem dX11_tells_94 : decode cX11_tells 94 = .ok (.iload_n 2, 1) := by decide +kernel
theorem dX11_tells_95 : decode cX11_tells 95 = .ok (.iconst 1, 1) := by decide +kernel
theorem dX11_tells_96 : decode cX11_tells 96 = .ok (.isub, 1) := by decide +kernel
theorem dX11_tells_97 : decode cX11_tells 97 = .ok (.aload_n 0, 1) := by decide +kernel
theorem dX11_tells_98 : decode cX11_tells 98 = .ok (.getfield 72, 3) := by decide +kernel
theorem dX11_tells_101 : decode cX11_tells 101 = .ok (.iload_n 2, 1) := by decide +kernel
theorem dX11_tells_102 : decode cX11_tells 102 = .ok (.iconst 1, 1) := by decide +kernel
theorem dX11_tells_103 : decode cX11_tells 103 = .ok (.isub, 1) := by decide +kernel
theorem dX11_tells_104 : decode cX11_tells 104 = .ok (.laload, 1) := by decide +kernel
theorem dX11_tells_105 : decode cX11_tells 105 = .ok (.lneg, 1) := by decide +kernel
theorem dX11_tells_106 : decode cX11_tells 106 = .ok (.lastore, 1) := by decide +kernel
theorem dX11_tells_107 : decode cX11_tells 107 = .ok (.goto 62, 3) := by decide +kernel
theorem dX11_tells_110 : decode cX11_tells 110 = .ok (.iload 4, 2) := by decide +kernel
theorem dX11_tells_112 : decode cX11_tells 112 = .ok (.sipush 405, 3) := by decide +kernel
theorem dX11_tells_115 : decode cX11_tells 115 = .ok (.if_icmp .ne 24, 3) := by decide +kernel
theorem dX11_tells_118 : decode cX11_tells 118 = .ok (.aload_n 0, 1) := by decide +kernel
theorem dX11_tells_119 : decode cX11_tells 119 = .ok (.getfield 72, 3) := by decide +kernel
theorem dX11_tells_122 : decode cX11_tells 122 = .ok (.iload_n 2, 1) := by decide +kernel
theorem dX11_tells_123 : decode cX11_tells 123 = .ok (.iconst 1, 1) := by decide +kernel
theorem dX11_tells_124 : decode cX11_tells 124 = .ok (.isub, 1) := by decide +kernel
theorem dX11_tells_125 : decode cX11_tells 125 = .ok (.lconst 1, 1) := by decide +kernel
theorem dX11_tells_126 : decode cX11_tells 126 = .ok (.aload_n 0, 1) := by decide +kernel
theorem dX11_tells_127 : decode cX11_tells 127 = .ok (.getfield 72, 3) := by decide +kernel
theorem dX11_tells_130 : decode cX11_tells 130 = .ok (.iload_n 2, 1) := by decide +kernel
theorem dX11_tells_131 : decode cX11_tells 131 = .ok (.iconst 1, 1) := by decide +kernel
theorem dX11_tells_132 : decode cX11_tells 132 = .ok (.isub, 1) := by decide +kernel
theorem dX11_tells_133 : decode cX11_tells 133 = .ok (.laload, 1) := by decide +kernel
theorem dX11_tells_134 : decode cX11_tells 134 = .ok (.lsub, 1) := by decide +kernel
theorem dX11_tells_135 : decode cX11_tells 135 = .ok (.lastore, 1) := by decide +kernel
theorem dX11_tells_136 : decode cX11_tells 136 = .ok (.goto 33, 3) := by decide +kernel
theorem dX11_tells_139 : decode cX11_tells 139 = .ok (.iinc 2 (-1), 3) := by decide +kernel
theorem dX11_tells_142 : decode cX11_tells 142 = .ok (.aload_n 0, 1) := by decide +kernel
theorem dX11_tells_143 : decode cX11_tells 143 = .ok (.getfield 72, 3) := by decide +kernel
theorem dX11_tells_146 : decode cX11_tells 146 = .ok (.iload_n 2, 1) := by decide +kernel
theorem dX11_tells_147 : decode cX11_tells 147 = .ok (.iconst 1, 1) := by decide +kernel
theorem dX11_tells_148 : decode cX11_tells 148 = .ok (.isub, 1) := by decide +kernel
theorem dX11_tells_149 : decode cX11_tells 149 = .ok (.iload 4, 2) := by decide +kernel
theorem dX11_tells_151 : decode cX11_tells 151 = .ok (.aload_n 0, 1) := by decide +kernel
theorem dX11_tells_152 : decode cX11_tells 152 = .ok (.getfield 72, 3) := by decide +kernel
theorem dX11_tells_155 : decode cX11_tells 155 = .ok (.iload_n 2, 1) := by decide +kernel
theorem dX11_tells_156 : decode cX11_tells 156 = .ok (.iconst 1, 1) := by decide +kernel
theorem dX11_tells_157 : decode cX11_tells 157 = .ok (.isub, 1) := by decide +kernel
theorem dX11_tells_158 : decode cX11_tells 158 = .ok (.laload, 1) := by decide +kernel
theorem dX11_tells_159 : decode cX11_tells 159 = .ok (.aload_n 0, 1) := by decide +kernel
theorem dX11_tells_160 : decode cX11_tells 160 = .ok (.getfield 72, 3) := by decide +kernel
theorem dX11_tells_163 : decode cX11_tells 163 = .ok (.iload_n 2, 1) := by decide +kernel
theorem dX11_tells_164 : decode cX11_tells 164 = .ok (.laload, 1) := by decide +kernel
theorem dX11_tells_165 : decode cX11_tells 165 = .ok (.invokestatic 279, 3) := by decide +kernel
theorem dX11_tells_168 : decode cX11_tells 168 = .ok (.lastore, 1) := by decide +kernel
theorem dX11_tells_169 : decode cX11_tells 169 = .ok (.iinc 3 1, 3) := by decide +kernel
theorem dX11_tells_172 : decode cX11_tells 172 = .ok (.goto (-168), 3) := by decide +kernel
theorem dX11_tells_175 : decode cX11_tells 175 = .ok (.aload_n 0, 1) := by decide +kernel
theorem dX11_tells_176 : decode cX11_tells 176 = .ok (.getfield 72, 3) := by decide +kernel
theorem dX11_tells_179 : decode cX11_tells 179 = .ok (.iconst 0, 1) := by decide +kernel
theorem dX11_tells_180 : decode cX11_tells 180 = .ok (.laload, 1) := by decide +kernel
theorem dX11_tells_181 : decode cX11_tells 181 = .ok (.lreturn, 1) := by decide +kernel
theorem dX11_by_0 : decode cX11_by 0 = .ok (.iload_n 1, 1) := by decide +kernel
theorem dX11_by_1 : decode cX11_by 1 = .ok (.iconst (-1), 1) := by decide +kernel
theorem dX11_by_2 : decode cX11_by 2 = .ok (.if_icmp .eq 21, 3) := by decide +kernel
theorem dX11_by_5 : decode cX11_by 5 = .ok (.iload_n 1, 1) := by decide +kernel
theorem dX11_by_6 : decode cX11_by 6 = .ok (.iconst 0, 1) := by decide +kernel
theorem dX11_by_7 : decode cX11_by 7 = .ok (.aload_n 0, 1) := by decide +kernel
theorem dX11_by_8 : decode cX11_by 8 = .ok (.getfield 7, 3) := by decide +kernel
theorem dX11_by_11 : decode cX11_by 11 = .ok (.iconst 0, 1) := by decide +kernel
theorem dX11_by_12 : decode cX11_by 12 = .ok (.iaload, 1) := by decide +kernel
theorem dX11_by_13 : decode cX11_by 13 = .ok (.iconst 1, 1) := by decide +kernel
theorem dX11_by_14 : decode cX11_by 14 = .ok (.isub, 1) := by decide +kernel
theorem dX11_by_15 : decode cX11_by 15 = .ok (.invokestatic 97, 3) := by decide +kernel
theorem dX11_by_18 : decode cX11_by 18 = .ok (.ifCond .ne 5, 3) := by decide +kernel
theorem dX11_by_21 : decode cX11_by 21 = .ok (.iconst 0, 1) := by decide +kernel
theorem dX11_by_22 : decode cX11_by 22 = .ok (.ireturn, 1) := by decide +kernel
theorem dX11_by_23 : decode cX11_by 23 = .ok (.aload_n 0, 1) := by decide +kernel
theorem dX11_by_24 : decode cX11_by 24 = .ok (.getfield 7, 3) := by decide +kernel
theorem dX11_by_27 : decode cX11_by 27 = .ok (.iconst 1, 1) := by decide +kernel
theorem dX11_by_28 : decode cX11_by 28 = .ok (.iload_n 1, 1) := by decide +kernel
theorem dX11_by_29 : decode cX11_by 29 = .ok (.iastore, 1) := by decide +kernel
theorem dX11_by_30 : decode cX11_by 30 = .ok (.iconst 1, 1) := by decide +kernel
theorem dX11_by_31 : decode cX11_by 31 = .ok (.ireturn, 1) := by decide +kernel
theorem dX11_words_0 : decode cX11_words 0 = .ok (.aload_n 0, 1) := by decide +kernel
theorem dX11_words_1 : decode cX11_words 1 = .ok (.getfield 69, 3) := by decide +kernel
theorem dX11_words_4 : decode cX11_words 4 = .ok (.iconst 0, 1) := by decide +kernel
theorem dX11_words_5 : decode cX11_words 5 = .ok (.aload_n 0, 1) := by decide +kernel
theorem dX11_words_6 : decode cX11_words 6 = .ok (.getfield 42, 3) := by decide +kernel
theorem dX11_words_9 : decode cX11_words 9 = .ok (.iload_n 1, 1) := by decide +kernel
theorem dX11_words_10 : decode cX11_words 10 = .ok (.iaload, 1) := by decide +kernel
theorem dX11_words_11 : decode cX11_words 11 = .ok (.iastore, 1) := by decide +kernel
theorem dX11_words_12 : decode cX11_words 12 = .ok (.aload_n 0, 1) := by decide +kernel
theorem dX11_words_13 : decode cX11_words 13 = .ok (.getfield 69, 3) := by decide +kernel
theorem dX11_words_16 : decode cX11_words 16 = .ok (.iconst 1, 1) := by decide +kernel
theorem dX11_words_17 : decode cX11_words 17 = .ok (.iload_n 1, 1) := by decide +kernel
theorem dX11_words_18 : decode cX11_words 18 = .ok (.ifCond .ne 7, 3) := by decide +kernel
theorem dX11_words_21 : decode cX11_words 21 = .ok (.iconst 0, 1) := by decide +kernel
theorem dX11_words_22 : decode cX11_words 22 = .ok (.goto 11, 3) := by decide +kernel
theorem dX11_words_25 : decode cX11_words 25 = .ok (.aload_n 0, 1) := by decide +kernel
theorem dX11_words_26 : decode cX11_words 26 = .ok (.getfield 42, 3) := by decide +kernel
theorem dX11_words_29 : decode cX11_words 29 = .ok (.iload_n 1, 1) := by decide +kernel
theorem dX11_words_30 : decode cX11_words 30 = .ok (.iconst 1, 1) := by decide +kernel
theorem dX11_words_31 : decode cX11_words 31 = .ok (.isub, 1) := by decide +kernel
theorem dX11_words_32 : decode cX11_words 32 = .ok (.iaload, 1) := by decide +kernel
theorem dX11_words_33 : decode cX11_words 33 = .ok (.iastore, 1) := by decide +kernel
theorem dX11_words_34 : decode cX11_words 34 = .ok (.aload_n 0, 1) := by decide +kernel
theorem dX11_words_35 : decode cX11_words 35 = .ok (.getfield 69, 3) := by decide +kernel
theorem dX11_words_38 : decode cX11_words 38 = .ok (.iconst 2, 1) := by decide +kernel
theorem dX11_words_39 : decode cX11_words 39 = .ok (.aload_n 0, 1) := by decide +kernel
theorem dX11_words_40 : decode cX11_words 40 = .ok (.getfield 42, 3) := by decide +kernel
theorem dX11_words_43 : decode cX11_words 43 = .ok (.sipush 2000, 3) := by decide +kernel
theorem dX11_words_46 : decode cX11_words 46 = .ok (.iload_n 1, 1) := by decide +kernel
theorem dX11_words_47 : decode cX11_words 47 = .ok (.iadd, 1) := by decide +kernel
theorem dX11_words_48 : decode cX11_words 48 = .ok (.iaload, 1) := by decide +kernel
theorem dX11_words_49 : decode cX11_words 49 = .ok (.iastore, 1) := by decide +kernel
theorem dX11_words_50 : decode cX11_words 50 = .ok (.aload_n 0, 1) := by decide +kernel
theorem dX11_words_51 : decode cX11_words 51 = .ok (.getfield 69, 3) := by decide +kernel
theorem dX11_words_54 : decode cX11_words 54 = .ok (.iconst 3, 1) := by decide +kernel
theorem dX11_words_55 : decode cX11_words 55 = .ok (.iload_n 1, 1) := by decide +kernel
theorem dX11_words_56 : decode cX11_words 56 = .ok (.iastore, 1) := by decide +kernel
theorem dX11_words_57 : decode cX11_words 57 = .ok (.aload_n 0, 1) := by decide +kernel
theorem dX11_words_58 : decode cX11_words 58 = .ok (.getfield 69, 3) := by decide +kernel
theorem dX11_words_61 : decode cX11_words 61 = .ok (.iconst 4, 1) := by decide +kernel
theorem dX11_words_62 : decode cX11_words 62 = .ok (.iload_n 1, 1) := by decide +kernel
theorem dX11_words_63 : decode cX11_words 63 = .ok (.bipush 40, 2) := by decide +kernel
theorem dX11_words_65 : decode cX11_words 65 = .ok (.irem, 1) := by decide +kernel
theorem dX11_words_66 : decode cX11_words 66 = .ok (.iastore, 1) := by decide +kernel
theorem dX11_words_67 : decode cX11_words 67 = .ok (.aload_n 0, 1) := by decide +kernel
theorem dX11_words_68 : decode cX11_words 68 = .ok (.getfield 69, 3) := by decide +kernel
theorem dX11_words_71 : decode cX11_words 71 = .ok (.iconst 5, 1) := by decide +kernel
theorem dX11_words_72 : decode cX11_words 72 = .ok (.aload_n 0, 1) := by decide +kernel
theorem dX11_words_73 : decode cX11_words 73 = .ok (.getfield 283, 3) := by decide +kernel
theorem dX11_words_76 : decode cX11_words 76 = .ok (.iastore, 1) := by decide +kernel
theorem dX11_words_77 : decode cX11_words 77 = .ok (.aload_n 0, 1) := by decide +kernel
theorem dX11_words_78 : decode cX11_words 78 = .ok (.getfield 69, 3) := by decide +kernel
theorem dX11_words_81 : decode cX11_words 81 = .ok (.bipush 6, 2) := by decide +kernel
theorem dX11_words_83 : decode cX11_words 83 = .ok (.iload_n 1, 1) := by decide +kernel
theorem dX11_words_84 : decode cX11_words 84 = .ok (.iload_n 2, 1) := by decide +kernel
theorem dX11_words_85 : decode cX11_words 85 = .ok (.isub, 1) := by decide +kernel
theorem dX11_words_86 : decode cX11_words 86 = .ok (.iastore, 1) := by decide +kernel
theorem dX11_words_87 : decode cX11_words 87 = .ok (.return_, 1) := by decide +kernel
theorem dX11_triggers_0 : decode cX11_triggers 0 = .ok (.aload_n 0, 1) := by decide +kernel
theorem dX11_triggers_1 : decode cX11_triggers 1 = .ok (.getfield 7, 3) := by decide +kernel
theorem dX11_triggers_4 : decode cX11_triggers 4 = .ok (.iconst 1, 1) := by decide +kernel
theorem dX11_triggers_5 : decode cX11_triggers 5 = .ok (.iaload, 1) := by decide +kernel
theorem dX11_triggers_6 : decode cX11_triggers 6 = .ok (.istore_n 1, 1) := by decide +kernel
theorem dX11_triggers_7 : decode cX11_triggers 7 = .ok (.iconst 0, 1) := by decide +kernel
theorem dX11_triggers_8 : decode cX11_triggers 8 = .ok (.istore_n 2, 1) := by decide +kernel
theorem dX11_triggers_9 : decode cX11_triggers 9 = .ok (.iconst 0, 1) := by decide +kernel
theorem dX11_triggers_10 : decode cX11_triggers 10 = .ok (.istore_n 3, 1) := by decide +kernel
theorem dX11_triggers_11 : decode cX11_triggers 11 = .ok (.iconst 0, 1) := by decide +kernel
theorem dX11_triggers_12 : decode cX11_triggers 12 = .ok (.istore 4, 2) := by decide +kernel
theorem dX11_triggers_14 : decode cX11_triggers 14 = .ok (.iload_n 1, 1) := by decide +kernel
theorem dX11_triggers_15 : decode cX11_triggers 15 = .ok (.iconst (-1), 1) := by decide +kernel
theorem dX11_triggers_16 : decode cX11_triggers 16 = .ok (.if_icmp .eq 69, 3) := by decide +kernel
theorem dX11_triggers_19 : decode cX11_triggers 19 = .ok (.iload 4, 2) := by decide +kernel
theorem dX11_triggers_21 : decode cX11_triggers 21 = .ok (.aload_n 0, 1) := by decide +kernel
theorem dX11_triggers_22 : decode cX11_triggers 22 = .ok (.getfield 27, 3) := by decide +kernel
theorem dX11_triggers_25 : decode cX11_triggers 25 = .ok (.iload_n 1, 1) := by decide +kernel
theorem dX11_triggers_26 : decode cX11_triggers 26 = .ok (.iaload, 1) := by decide +kernel
theorem dX11_triggers_27 : decode cX11_triggers 27 = .ok (.if_icmp .ge 58, 3) := by decide +kernel
theorem dX11_triggers_30 : decode cX11_triggers 30 = .ok (.aload_n 0, 1) := by decide +kernel
theorem dX11_triggers_31 : decode cX11_triggers 31 = .ok (.getfield 30, 3) := by decide +kernel
theorem dX11_triggers_34 : decode cX11_triggers 34 = .ok (.bipush 10, 2) := by decide +kernel
theorem dX11_triggers_36 : decode cX11_triggers 36 = .ok (.iload_n 1, 1) := by decide +kernel
theorem dX11_triggers_37 : decode cX11_triggers 37 = .ok (.imul, 1) := by decide +kernel
theorem dX11_triggers_38 : decode cX11_triggers 38 = .ok (.iload 4, 2) := by decide +kernel
theorem dX11_triggers_40 : decode cX11_triggers 40 = .ok (.iadd, 1) := by decide +kernel
theorem dX11_triggers_41 : decode cX11_triggers 41 = .ok (.iaload, 1) := by decide +kernel
theorem dX11_triggers_42 : decode cX11_triggers 42 = .ok (.iconst 1, 1) := by decide +kernel
theorem dX11_triggers_43 : decode cX11_triggers 43 = .ok (.if_icmp .ne 36, 3) := by decide +kernel
theorem dX11_triggers_46 : decode cX11_triggers 46 = .ok (.iconst 1, 1) := by decide +kernel
theorem dX11_triggers_47 : decode cX11_triggers 47 = .ok (.istore_n 3, 1) := by decide +kernel
theorem dX11_triggers_48 : decode cX11_triggers 48 = .ok (.iload_n 2, 1) := by decide +kernel
theorem dX11_triggers_49 : decode cX11_triggers 49 = .ok (.ifCond .ne 24, 3) := by decide +kernel
theorem dX11_triggers_52 : decode cX11_triggers 52 = .ok (.aload_n 0, 1) := by decide +kernel
theorem dX11_triggers_53 : decode cX11_triggers 53 = .ok (.aload_n 0, 1) := by decide +kernel
theorem dX11_triggers_54 : decode cX11_triggers 54 = .ok (.getfield 33, 3) := by decide +kernel
theorem dX11_triggers_57 : decode cX11_triggers 57 = .ok (.bipush 10, 2) := by decide +kernel
theorem dX11_triggers_59 : decode cX11_triggers 59 = .ok (.iload_n 1, 1) := by decide +kernel
theorem dX11_triggers_60 : decode cX11_triggers 60 = .ok (.imul, 1) := by decide +kernel
theorem dX11_triggers_61 : decode cX11_triggers 61 = .ok (.iload 4, 2) := by decide +kernel
theorem dX11_triggers_63 : decode cX11_triggers 63 = .ok (.iadd, 1) := by decide +kernel
theorem dX11_triggers_64 : decode cX11_triggers 64 = .ok (.iaload, 1) := by decide +kernel
theorem dX11_triggers_65 : decode cX11_triggers 65 = .ok (.invokevirtual 286, 3) := by decide +kernel
theorem dX11_triggers_68 : decode cX11_triggers 68 = .ok (.lconst 0, 1) := by decide +kernel
theorem dX11_triggers_69 : decode cX11_triggers 69 = .ok (.lcmp, 1) := by decide +kernel
theorem dX11_triggers_70 : decode cX11_triggers 70 = .ok (.ifCond .le 7, 3) := by decide +kernel
theorem dX11_triggers_73 : decode cX11_triggers 73 = .ok (.iconst 1, 1) := by decide +kernel
theorem dX11_triggers_74 : decode cX11_triggers 74 = .ok (.goto 4, 3) := by decide +kernel
theorem dX11_triggers_77 : decode cX11_triggers 77 = .ok (.iconst 0, 1) := by decide +kernel
theorem dX11_triggers_78 : decode cX11_triggers 78 = .ok (.istore_n 2, 1) := by decide +kernel
theorem dX11_triggers_79 : decode cX11_triggers 79 = .ok (.iinc 4 1, 3) := by decide +kernel
theorem dX11_triggers_82 : decode cX11_triggers 82 = .ok (.goto (-68), 3) := by decide +kernel
theorem dX11_triggers_85 : decode cX11_triggers 85 = .ok (.iload_n 2, 1) := by decide +kernel
theorem dX11_triggers_86 : decode cX11_triggers 86 = .ok (.ifCond .ne 7, 3) := by decide +kernel
theorem dX11_triggers_89 : decode cX11_triggers 89 = .ok (.iload_n 3, 1) := by decide +kernel
theorem dX11_triggers_90 : decode cX11_triggers 90 = .ok (.ifCond .ne 7, 3) := by decide +kernel
theorem dX11_triggers_93 : decode cX11_triggers 93 = .ok (.iconst 1, 1) := by decide +kernel
theorem dX11_triggers_94 : decode cX11_triggers 94 = .ok (.goto 4, 3) := by decide +kernel
theorem dX11_triggers_97 : decode cX11_triggers 97 = .ok (.iconst 0, 1) := by decide +kernel
theorem dX11_triggers_98 : decode cX11_triggers 98 = .ok (.ireturn, 1) := by decide +kernel
theorem dX11_hold_0 : decode cX11_hold 0 = .ok (.aload_n 0, 1) := by decide +kernel
theorem dX11_hold_1 : decode cX11_hold 1 = .ok (.getfield 7, 3) := by decide +kernel
theorem dX11_hold_4 : decode cX11_hold 4 = .ok (.iconst 1, 1) := by decide +kernel
theorem dX11_hold_5 : decode cX11_hold 5 = .ok (.iaload, 1) := by decide +kernel
theorem dX11_hold_6 : decode cX11_hold 6 = .ok (.istore_n 1, 1) := by decide +kernel
theorem dX11_hold_7 : decode cX11_hold 7 = .ok (.lconst 0, 1) := by decide +kernel
theorem dX11_hold_8 : decode cX11_hold 8 = .ok (.lstore_n 2, 1) := by decide +kernel
theorem dX11_hold_9 : decode cX11_hold 9 = .ok (.iconst 0, 1) := by decide +kernel
theorem dX11_hold_10 : decode cX11_hold 10 = .ok (.istore 4, 2) := by decide +kernel
theorem dX11_hold_12 : decode cX11_hold 12 = .ok (.iload_n 1, 1) := by decide +kernel
theorem dX11_hold_13 : decode cX11_hold 13 = .ok (.iconst (-1), 1) := by decide +kernel
theorem dX11_hold_14 : decode cX11_hold 14 = .ok (.if_icmp .eq 56, 3) := by decide +kernel
theorem dX11_hold_17 : decode cX11_hold 17 = .ok (.iload 4, 2) := by decide +kernel
theorem dX11_hold_19 : decode cX11_hold 19 = .ok (.aload_n 0, 1) := by decide +kernel
theorem dX11_hold_20 : decode cX11_hold 20 = .ok (.getfield 27, 3) := by decide +kernel
theorem dX11_hold_23 : decode cX11_hold 23 = .ok (.iload_n 1, 1) := by decide +kernel
theorem dX11_hold_24 : decode cX11_hold 24 = .ok (.iaload, 1) := by decide +kernel
theorem dX11_hold_25 : decode cX11_hold 25 = .ok (.if_icmp .ge 45, 3) := by decide +kernel
theorem dX11_hold_28 : decode cX11_hold 28 = .ok (.aload_n 0, 1) := by decide +kernel
theorem dX11_hold_29 : decode cX11_hold 29 = .ok (.getfield 30, 3) := by decide +kernel
theorem dX11_hold_32 : decode cX11_hold 32 = .ok (.bipush 10, 2) := by decide +kernel
theorem dX11_hold_34 : decode cX11_hold 34 = .ok (.iload_n 1, 1) := by decide +kernel
theorem dX11_hold_35 : decode cX11_hold 35 = .ok (.imul, 1) := by decide +kernel
theorem dX11_hold_36 : decode cX11_hold 36 = .ok (.iload 4, 2) := by decide +kernel
theorem dX11_hold_38 : decode cX11_hold 38 = .ok (.iadd, 1) := by decide +kernel
theorem dX11_hold_39 : decode cX11_hold 39 = .ok (.iaload, 1) := by decide +kernel
theorem dX11_hold_40 : decode cX11_hold 40 = .ok (.ifCond .ne 22, 3) := by decide +kernel
theorem dX11_hold_43 : decode cX11_hold 43 = .ok (.aload_n 0, 1) := by decide +kernel
theorem dX11_hold_44 : decode cX11_hold 44 = .ok (.aload_n 0, 1) := by decide +kernel
theorem dX11_hold_45 : decode cX11_hold 45 = .ok (.getfield 33, 3) := by decide +kernel
theorem dX11_hold_48 : decode cX11_hold 48 = .ok (.bipush 10, 2) := by decide +kernel
theorem dX11_hold_50 : decode cX11_hold 50 = .ok (.iload_n 1, 1) := by decide +kernel
theorem dX11_hold_51 : decode cX11_hold 51 = .ok (.imul, 1) := by decide +kernel
theorem dX11_hold_52 : decode cX11_hold 52 = .ok (.iload 4, 2) := by decide +kernel
theorem dX11_hold_54 : decode cX11_hold 54 = .ok (.iadd, 1) := by decide +kernel
theorem dX11_hold_55 : decode cX11_hold 55 = .ok (.iaload, 1) := by decide +kernel
theorem dX11_hold_56 : decode cX11_hold 56 = .ok (.invokevirtual 286, 3) := by decide +kernel
theorem dX11_hold_59 : decode cX11_hold 59 = .ok (.goto 4, 3) := by decide +kernel
theorem dX11_hold_62 : decode cX11_hold 62 = .ok (.lload_n 2, 1) := by decide +kernel
theorem dX11_hold_63 : decode cX11_hold 63 = .ok (.lstore_n 2, 1) := by decide +kernel
theorem dX11_hold_64 : decode cX11_hold 64 = .ok (.iinc 4 1, 3) := by decide +kernel
theorem dX11_hold_67 : decode cX11_hold 67 = .ok (.goto (-55), 3) := by decide +kernel
theorem dX11_hold_70 : decode cX11_hold 70 = .ok (.lload_n 2, 1) := by decide +kernel
theorem dX11_hold_71 : decode cX11_hold 71 = .ok (.lconst 0, 1) := by decide +kernel
theorem dX11_hold_72 : decode cX11_hold 72 = .ok (.lcmp, 1) := by decide +kernel
theorem dX11_hold_73 : decode cX11_hold 73 = .ok (.ifCond .ge 7, 3) := by decide +kernel
theorem dX11_hold_76 : decode cX11_hold 76 = .ok (.iconst 0, 1) := by decide +kernel
theorem dX11_hold_77 : decode cX11_hold 77 = .ok (.goto 19, 3) := by decide +kernel
theorem dX11_hold_80 : decode cX11_hold 80 = .ok (.lload_n 2, 1) := by decide +kernel
theorem dX11_hold_81 : decode cX11_hold 81 = .ok (.ldc2_w 290, 3) := by decide +kernel
theorem dX11_hold_84 : decode cX11_hold 84 = .ok (.lcmp, 1) := by decide +kernel
theorem dX11_hold_85 : decode cX11_hold 85 = .ok (.ifCond .le 9, 3) := by decide +kernel
theorem dX11_hold_88 : decode cX11_hold 88 = .ok (.sipush 9999, 3) := by decide +kernel
theorem dX11_hold_91 : decode cX11_hold 91 = .ok (.goto 5, 3) := by decide +kernel
theorem dX11_hold_94 : decode cX11_hold 94 = .ok (.lload_n 2, 1) := by decide +kernel
theorem dX11_hold_95 : decode cX11_hold 95 = .ok (.l2i, 1) := by decide +kernel
theorem dX11_hold_96 : decode cX11_hold 96 = .ok (.ireturn, 1) := by decide +kernel
theorem dX11_sweeps_0 : decode cX11_sweeps 0 = .ok (.aload_n 0, 1) := by decide +kernel
theorem dX11_sweeps_1 : decode cX11_sweeps 1 = .ok (.iconst 0, 1) := by decide +kernel
theorem dX11_sweeps_2 : decode cX11_sweeps 2 = .ok (.putfield 283, 3) := by decide +kernel
theorem dX11_sweeps_5 : decode cX11_sweeps 5 = .ok (.iconst 0, 1) := by decide +kernel
theorem dX11_sweeps_6 : decode cX11_sweeps 6 = .ok (.istore_n 2, 1) := by decide +kernel
theorem dX11_sweeps_7 : decode cX11_sweeps 7 = .ok (.iconst 0, 1) := by decide +kernel
theorem dX11_sweeps_8 : decode cX11_sweeps 8 = .ok (.istore_n 3, 1) := by decide +kernel
theorem dX11_sweeps_9 : decode cX11_sweeps 9 = .ok (.iload_n 3, 1) := by decide +kernel
theorem dX11_sweeps_10 : decode cX11_sweeps 10 = .ok (.iload_n 1, 1) := by decide +kernel
theorem dX11_sweeps_11 : decode cX11_sweeps 11 = .ok (.if_icmp .ge 78, 3) := by decide +kernel
theorem dX11_sweeps_14 : decode cX11_sweeps 14 = .ok (.iload_n 3, 1) := by decide +kernel
theorem dX11_sweeps_15 : decode cX11_sweeps 15 = .ok (.iload_n 2, 1) := by decide +kernel
theorem dX11_sweeps_16 : decode cX11_sweeps 16 = .ok (.if_icmp .lt 67, 3) := by decide +kernel
theorem dX11_sweeps_19 : decode cX11_sweeps 19 = .ok (.aload_n 0, 1) := by decide +kernel
theorem dX11_sweeps_20 : decode cX11_sweeps 20 = .ok (.iload_n 3, 1) := by decide +kernel
theorem dX11_sweeps_21 : decode cX11_sweeps 21 = .ok (.iload_n 2, 1) := by decide +kernel
theorem dX11_sweeps_22 : decode cX11_sweeps 22 = .ok (.invokevirtual 292, 3) := by decide +kernel
theorem dX11_sweeps_25 : decode cX11_sweeps 25 = .ok (.aload_n 0, 1) := by decide +kernel
theorem dX11_sweeps_26 : decode cX11_sweeps 26 = .ok (.invokevirtual 295, 3) := by decide +kernel
theorem dX11_sweeps_29 : decode cX11_sweeps 29 = .ok (.ifCond .eq 54, 3) := by decide +kernel
theorem dX11_sweeps_32 : decode cX11_sweeps 32 = .ok (.iload_n 3, 1) := by decide +kernel
theorem dX11_sweeps_33 : decode cX11_sweeps 33 = .ok (.aload_n 0, 1) := by decide +kernel
theorem dX11_sweeps_34 : decode cX11_sweeps 34 = .ok (.getfield 7, 3) := by decide +kernel
theorem dX11_sweeps_37 : decode cX11_sweeps 37 = .ok (.iconst 3, 1) := by decide +kernel
theorem dX11_sweeps_38 : decode cX11_sweeps 38 = .ok (.iaload, 1) := by decide +kernel
theorem dX11_sweeps_39 : decode cX11_sweeps 39 = .ok (.iadd, 1) := by decide +kernel
theorem dX11_sweeps_40 : decode cX11_sweeps 40 = .ok (.bipush 20, 2) := by decide +kernel
theorem dX11_sweeps_42 : decode cX11_sweeps 42 = .ok (.aload_n 0, 1) := by decide +kernel
theorem dX11_sweeps_43 : decode cX11_sweeps 43 = .ok (.getfield 7, 3) := by decide +kernel
theorem dX11_sweeps_46 : decode cX11_sweeps 46 = .ok (.iconst 2, 1) := by decide +kernel
theorem dX11_sweeps_47 : decode cX11_sweeps 47 = .ok (.iaload, 1) := by decide +kernel
theorem dX11_sweeps_48 : decode cX11_sweeps 48 = .ok (.imul, 1) := by decide +kernel
theorem dX11_sweeps_49 : decode cX11_sweeps 49 = .ok (.iadd, 1) := by decide +kernel
theorem dX11_sweeps_50 : decode cX11_sweeps 50 = .ok (.aload_n 0, 1) := by decide +kernel
theorem dX11_sweeps_51 : decode cX11_sweeps 51 = .ok (.invokevirtual 298, 3) := by decide +kernel
theorem dX11_sweeps_54 : decode cX11_sweeps 54 = .ok (.iadd, 1) := by decide +kernel
theorem dX11_sweeps_55 : decode cX11_sweeps 55 = .ok (.istore_n 2, 1) := by decide +kernel
theorem dX11_sweeps_56 : decode cX11_sweeps 56 = .ok (.aload_n 0, 1) := by decide +kernel
theorem dX11_sweeps_57 : decode cX11_sweeps 57 = .ok (.getfield 76, 3) := by decide +kernel
theorem dX11_sweeps_60 : decode cX11_sweeps 60 = .ok (.aload_n 0, 1) := by decide +kernel
theorem dX11_sweeps_61 : decode cX11_sweeps 61 = .ok (.getfield 283, 3) := by decide +kernel
theorem dX11_sweeps_64 : decode cX11_sweeps 64 = .ok (.iload_n 3, 1) := by decide +kernel
theorem dX11_sweeps_65 : decode cX11_sweeps 65 = .ok (.aload_n 0, 1) := by decide +kernel
theorem dX11_sweeps_66 : decode cX11_sweeps 66 = .ok (.getfield 7, 3) := by decide +kernel
theorem dX11_sweeps_69 : decode cX11_sweeps 69 = .ok (.iconst 3, 1) := by decide +kernel
theorem dX11_sweeps_70 : decode cX11_sweeps 70 = .ok (.iaload, 1) := by decide +kernel
theorem dX11_sweeps_71 : decode cX11_sweeps 71 = .ok (.iadd, 1) := by decide +kernel
theorem dX11_sweeps_72 : decode cX11_sweeps 72 = .ok (.iastore, 1) := by decide +kernel
theorem dX11_sweeps_73 : decode cX11_sweeps 73 = .ok (.aload_n 0, 1) := by decide +kernel
theorem dX11_sweeps_74 : decode cX11_sweeps 74 = .ok (.dup, 1) := by decide +kernel
theorem dX11_sweeps_75 : decode cX11_sweeps 75 = .ok (.getfield 283, 3) := by decide +kernel
theorem dX11_sweeps_78 : decode cX11_sweeps 78 = .ok (.iconst 1, 1) := by decide +kernel
theorem dX11_sweeps_79 : decode cX11_sweeps 79 = .ok (.iadd, 1) := by decide +kernel
theorem dX11_sweeps_80 : decode cX11_sweeps 80 = .ok (.putfield 283, 3) := by decide +kernel
theorem dX11_sweeps_83 : decode cX11_sweeps 83 = .ok (.iinc 3 1, 3) := by decide +kernel
theorem dX11_sweeps_86 : decode cX11_sweeps 86 = .ok (.goto (-77), 3) := by decide +kernel
theorem dX11_sweeps_89 : decode cX11_sweeps 89 = .ok (.return_, 1) := by decide +kernel
theorem dX11_isEnd_0 : decode cX11_isEnd 0 = .ok (.iload_n 0, 1) := by decide +kernel
theorem dX11_isEnd_1 : decode cX11_isEnd 1 = .ok (.iconst 1, 1) := by decide +kernel
theorem dX11_isEnd_2 : decode cX11_isEnd 2 = .ok (.sipush 2000, 3) := by decide +kernel
theorem dX11_isEnd_5 : decode cX11_isEnd 5 = .ok (.invokestatic 97, 3) := by decide +kernel
theorem dX11_isEnd_8 : decode cX11_isEnd 8 = .ok (.ireturn, 1) := by decide +kernel
theorem dX11_swept_0 : decode cX11_swept 0 = .ok (.iload_n 1, 1) := by decide +kernel
theorem dX11_swept_1 : decode cX11_swept 1 = .ok (.invokestatic 301, 3) := by decide +kernel
theorem dX11_swept_4 : decode cX11_swept 4 = .ok (.ifCond .eq 8, 3) := by decide +kernel
theorem dX11_swept_7 : decode cX11_swept 7 = .ok (.iload_n 2, 1) := by decide +kernel
theorem dX11_swept_8 : decode cX11_swept 8 = .ok (.iconst (-1), 1) := by decide +kernel
theorem dX11_swept_9 : decode cX11_swept 9 = .ok (.if_icmp .ge 5, 3) := by decide +kernel
theorem dX11_swept_12 : decode cX11_swept 12 = .ok (.iconst (-1), 1) := by decide +kernel
theorem dX11_swept_13 : decode cX11_swept 13 = .ok (.ireturn, 1) := by decide +kernel
theorem dX11_swept_14 : decode cX11_swept 14 = .ok (.aload_n 0, 1) := by decide +kernel
theorem dX11_swept_15 : decode cX11_swept 15 = .ok (.invokevirtual 304, 3) := by decide +kernel
theorem dX11_swept_18 : decode cX11_swept 18 = .ok (.aload_n 0, 1) := by decide +kernel
theorem dX11_swept_19 : decode cX11_swept 19 = .ok (.iload_n 1, 1) := by decide +kernel
theorem dX11_swept_20 : decode cX11_swept 20 = .ok (.invokevirtual 307, 3) := by decide +kernel
theorem dX11_swept_23 : decode cX11_swept 23 = .ok (.iload_n 2, 1) := by decide +kernel
theorem dX11_swept_24 : decode cX11_swept 24 = .ok (.iconst (-1), 1) := by decide +kernel
theorem dX11_swept_25 : decode cX11_swept 25 = .ok (.if_icmp .ne 10, 3) := by decide +kernel
theorem dX11_swept_28 : decode cX11_swept 28 = .ok (.aload_n 0, 1) := by decide +kernel
theorem dX11_swept_29 : decode cX11_swept 29 = .ok (.getfield 283, 3) := by decide +kernel
theorem dX11_swept_32 : decode cX11_swept 32 = .ok (.goto 21, 3) := by decide +kernel
theorem dX11_swept_35 : decode cX11_swept 35 = .ok (.iload_n 2, 1) := by decide +kernel
theorem dX11_swept_36 : decode cX11_swept 36 = .ok (.aload_n 0, 1) := by decide +kernel
theorem dX11_swept_37 : decode cX11_swept 37 = .ok (.getfield 283, 3) := by decide +kernel
theorem dX11_swept_40 : decode cX11_swept 40 = .ok (.if_icmp .ge 12, 3) := by decide +kernel
theorem dX11_swept_43 : decode cX11_swept 43 = .ok (.aload_n 0, 1) := by decide +kernel
theorem dX11_swept_44 : decode cX11_swept 44 = .ok (.getfield 76, 3) := by decide +kernel
theorem dX11_swept_47 : decode cX11_swept 47 = .ok (.iload_n 2, 1) := by decide +kernel
theorem dX11_swept_48 : decode cX11_swept 48 = .ok (.iaload, 1) := by decide +kernel
theorem dX11_swept_49 : decode cX11_swept 49 = .ok (.goto 4, 3) := by decide +kernel
theorem dX11_swept_52 : decode cX11_swept 52 = .ok (.iconst (-1), 1) := by decide +kernel
theorem dX11_swept_53 : decode cX11_swept 53 = .ok (.ireturn, 1) := by decide +kernel
theorem dX11_rowOf_0 : decode cX11_rowOf 0 = .ok (.aload_n 0, 1) := by decide +kernel
theorem dX11_rowOf_1 : decode cX11_rowOf 1 = .ok (.getfield 42, 3) := by decide +kernel
theorem dX11_rowOf_4 : decode cX11_rowOf 4 = .ok (.sipush 2000, 3) := by decide +kernel
theorem dX11_rowOf_7 : decode cX11_rowOf 7 = .ok (.iload_n 1, 1) := by decide +kernel
theorem dX11_rowOf_8 : decode cX11_rowOf 8 = .ok (.imul, 1) := by decide +kernel
theorem dX11_rowOf_9 : decode cX11_rowOf 9 = .ok (.iload_n 2, 1) := by decide +kernel
theorem dX11_rowOf_10 : decode cX11_rowOf 10 = .ok (.iadd, 1) := by decide +kernel
theorem dX11_rowOf_11 : decode cX11_rowOf 11 = .ok (.iaload, 1) := by decide +kernel
theorem dX11_rowOf_12 : decode cX11_rowOf 12 = .ok (.aload_n 0, 1) := by decide +kernel
theorem dX11_rowOf_13 : decode cX11_rowOf 13 = .ok (.getfield 7, 3) := by decide +kernel
theorem dX11_rowOf_16 : decode cX11_rowOf 16 = .ok (.bipush 12, 2) := by decide +kernel
theorem dX11_rowOf_18 : decode cX11_rowOf 18 = .ok (.iload_n 1, 1) := by decide +kernel
theorem dX11_rowOf_19 : decode cX11_rowOf 19 = .ok (.iadd, 1) := by decide +kernel
theorem dX11_rowOf_20 : decode cX11_rowOf 20 = .ok (.iaload, 1) := by decide +kernel
theorem dX11_rowOf_21 : decode cX11_rowOf 21 = .ok (.invokestatic 309, 3) := by decide +kernel
theorem dX11_rowOf_24 : decode cX11_rowOf 24 = .ok (.bipush 8, 2) := by decide +kernel
theorem dX11_rowOf_26 : decode cX11_rowOf 26 = .ok (.iadd, 1) := by decide +kernel
theorem dX11_rowOf_27 : decode cX11_rowOf 27 = .ok (.aload_n 0, 1) := by decide +kernel
theorem dX11_rowOf_28 : decode cX11_rowOf 28 = .ok (.getfield 7, 3) := by decide +kernel
theorem dX11_rowOf_31 : decode cX11_rowOf 31 = .ok (.bipush 14, 2) := by decide +kernel
theorem dX11_rowOf_33 : decode cX11_rowOf 33 = .ok (.iload_n 1, 1) := by decide +kernel
theorem dX11_rowOf_34 : decode cX11_rowOf 34 = .ok (.iadd, 1) := by decide +kernel
theorem dX11_rowOf_35 : decode cX11_rowOf 35 = .ok (.iaload, 1) := by decide +kernel
theorem dX11_rowOf_36 : decode cX11_rowOf 36 = .ok (.iadd, 1) := by decide +kernel
theorem dX11_rowOf_37 : decode cX11_rowOf 37 = .ok (.istore_n 3, 1) := by decide +kernel
theorem dX11_rowOf_38 : decode cX11_rowOf 38 = .ok (.iload_n 3, 1) := by decide +kernel
theorem dX11_rowOf_39 : decode cX11_rowOf 39 = .ok (.iconst 0, 1) := by decide +kernel
theorem dX11_rowOf_40 : decode cX11_rowOf 40 = .ok (.bipush 15, 2) := by decide +kernel
theorem dX11_rowOf_42 : decode cX11_rowOf 42 = .ok (.invokestatic 97, 3) := by decide +kernel
theorem dX11_rowOf_45 : decode cX11_rowOf 45 = .ok (.ifCond .eq 7, 3) := by decide +kernel
theorem dX11_rowOf_48 : decode cX11_rowOf 48 = .ok (.iload_n 3, 1) := by decide +kernel
theorem dX11_rowOf_49 : decode cX11_rowOf 49 = .ok (.goto 4, 3) := by decide +kernel
theorem dX11_rowOf_52 : decode cX11_rowOf 52 = .ok (.iconst (-1), 1) := by decide +kernel
theorem dX11_rowOf_53 : decode cX11_rowOf 53 = .ok (.ireturn, 1) := by decide +kernel
theorem dX11_turnOf_0 : decode cX11_turnOf 0 = .ok (.aload_n 0, 1) := by decide +kernel
theorem dX11_turnOf_1 : decode cX11_turnOf 1 = .ok (.getfield 7, 3) := by decide +kernel
theorem dX11_turnOf_4 : decode cX11_turnOf 4 = .ok (.iconst 5, 1) := by decide +kernel
theorem dX11_turnOf_5 : decode cX11_turnOf 5 = .ok (.iaload, 1) := by decide +kernel
theorem dX11_turnOf_6 : decode cX11_turnOf 6 = .ok (.iconst 1, 1) := by decide +kernel
theorem dX11_turnOf_7 : decode cX11_turnOf 7 = .ok (.if_icmp .ne 9, 3) := by decide +kernel
theorem dX11_turnOf_10 : decode cX11_turnOf 10 = .ok (.iload_n 1, 1) := by decide +kernel
theorem dX11_turnOf_11 : decode cX11_turnOf 11 = .ok (.iconst 2, 1) := by decide +kernel
theorem dX11_turnOf_12 : decode cX11_turnOf 12 = .ok (.irem, 1) := by decide +kernel
theorem dX11_turnOf_13 : decode cX11_turnOf 13 = .ok (.goto 28, 3) := by decide +kernel
theorem dX11_turnOf_16 : decode cX11_turnOf 16 = .ok (.aload_n 0, 1) := by decide +kernel
theorem dX11_turnOf_17 : decode cX11_turnOf 17 = .ok (.getfield 7, 3) := by decide +kernel
theorem dX11_turnOf_20 : decode cX11_turnOf 20 = .ok (.iconst 5, 1) := by decide +kernel
theorem dX11_turnOf_21 : decode cX11_turnOf 21 = .ok (.iaload, 1) := by decide +kernel
theorem dX11_turnOf_22 : decode cX11_turnOf 22 = .ok (.iconst 2, 1) := by decide +kernel
theorem dX11_turnOf_23 : decode cX11_turnOf 23 = .ok (.if_icmp .ne 17, 3) := by decide +kernel
theorem dX11_turnOf_26 : decode cX11_turnOf 26 = .ok (.iload_n 2, 1) := by decide +kernel
theorem dX11_turnOf_27 : decode cX11_turnOf 27 = .ok (.aload_n 0, 1) := by decide +kernel
theorem dX11_turnOf_28 : decode cX11_turnOf 28 = .ok (.getfield 7, 3) := by decide +kernel
theorem dX11_turnOf_31 : decode cX11_turnOf 31 = .ok (.bipush 6, 2) := by decide +kernel
theorem dX11_turnOf_33 : decode cX11_turnOf 33 = .ok (.iaload, 1) := by decide +kernel
theorem dX11_turnOf_34 : decode cX11_turnOf 34 = .ok (.idiv, 1) := by decide +kernel
theorem dX11_turnOf_35 : decode cX11_turnOf 35 = .ok (.iconst 2, 1) := by decide +kernel
theorem dX11_turnOf_36 : decode cX11_turnOf 36 = .ok (.irem, 1) := by decide +kernel
theorem dX11_turnOf_37 : decode cX11_turnOf 37 = .ok (.goto 4, 3) := by decide +kernel
theorem dX11_turnOf_40 : decode cX11_turnOf 40 = .ok (.iconst 0, 1) := by decide +kernel
theorem dX11_turnOf_41 : decode cX11_turnOf 41 = .ok (.ireturn, 1) := by decide +kernel
theorem dX11_dotOf_0 : decode cX11_dotOf 0 = .ok (.aload_n 0, 1) := by decide +kernel
theorem dX11_dotOf_1 : decode cX11_dotOf 1 = .ok (.getfield 7, 3) := by decide +kernel
theorem dX11_dotOf_4 : decode cX11_dotOf 4 = .ok (.iconst 5, 1) := by decide +kernel
theorem dX11_dotOf_5 : decode cX11_dotOf 5 = .ok (.iaload, 1) := by decide +kernel
theorem dX11_dotOf_6 : decode cX11_dotOf 6 = .ok (.iconst 3, 1) := by decide +kernel
theorem dX11_dotOf_7 : decode cX11_dotOf 7 = .ok (.if_icmp .ne 70, 3) := by decide +kernel
theorem dX11_dotOf_10 : decode cX11_dotOf 10 = .ok (.aload_n 0, 1) := by decide +kernel
theorem dX11_dotOf_11 : decode cX11_dotOf 11 = .ok (.getfield 42, 3) := by decide +kernel
theorem dX11_dotOf_14 : decode cX11_dotOf 14 = .ok (.iload_n 3, 1) := by decide +kernel
theorem dX11_dotOf_15 : decode cX11_dotOf 15 = .ok (.iaload, 1) := by decide +kernel
theorem dX11_dotOf_16 : decode cX11_dotOf 16 = .ok (.aload_n 0, 1) := by decide +kernel
theorem dX11_dotOf_17 : decode cX11_dotOf 17 = .ok (.getfield 7, 3) := by decide +kernel
theorem dX11_dotOf_20 : decode cX11_dotOf 20 = .ok (.bipush 12, 2) := by decide +kernel
theorem dX11_dotOf_22 : decode cX11_dotOf 22 = .ok (.iaload, 1) := by decide +kernel
theorem dX11_dotOf_23 : decode cX11_dotOf 23 = .ok (.invokestatic 309, 3) := by decide +kernel
theorem dX11_dotOf_26 : decode cX11_dotOf 26 = .ok (.bipush 10, 2) := by decide +kernel
theorem dX11_dotOf_28 : decode cX11_dotOf 28 = .ok (.iadd, 1) := by decide +kernel
theorem dX11_dotOf_29 : decode cX11_dotOf 29 = .ok (.aload_n 0, 1) := by decide +kernel
theorem dX11_dotOf_30 : decode cX11_dotOf 30 = .ok (.getfield 7, 3) := by decide +kernel
theorem dX11_dotOf_33 : decode cX11_dotOf 33 = .ok (.bipush 14, 2) := by decide +kernel
theorem dX11_dotOf_35 : decode cX11_dotOf 35 = .ok (.iaload, 1) := by decide +kernel
theorem dX11_dotOf_36 : decode cX11_dotOf 36 = .ok (.iadd, 1) := by decide +kernel
theorem dX11_dotOf_37 : decode cX11_dotOf 37 = .ok (.istore 4, 2) := by decide +kernel
theorem dX11_dotOf_39 : decode cX11_dotOf 39 = .ok (.aload_n 0, 1) := by decide +kernel
theorem dX11_dotOf_40 : decode cX11_dotOf 40 = .ok (.iconst 1, 1) := by decide +kernel
theorem dX11_dotOf_41 : decode cX11_dotOf 41 = .ok (.iload_n 3, 1) := by decide +kernel
theorem dX11_dotOf_42 : decode cX11_dotOf 42 = .ok (.invokevirtual 312, 3) := by decide +kernel
theorem dX11_dotOf_45 : decode cX11_dotOf 45 = .ok (.istore 5, 2) := by decide +kernel
theorem dX11_dotOf_47 : decode cX11_dotOf 47 = .ok (.iload 4, 2) := by decide +kernel
theorem dX11_dotOf_49 : decode cX11_dotOf 49 = .ok (.iconst 0, 1) := by decide +kernel
theorem dX11_dotOf_50 : decode cX11_dotOf 50 = .ok (.bipush 19, 2) := by decide +kernel
theorem dX11_dotOf_52 : decode cX11_dotOf 52 = .ok (.invokestatic 97, 3) := by decide +kernel
theorem dX11_dotOf_55 : decode cX11_dotOf 55 = .ok (.ifCond .eq 20, 3) := by decide +kernel
theorem dX11_dotOf_58 : decode cX11_dotOf 58 = .ok (.iload 5, 2) := by decide +kernel
theorem dX11_dotOf_60 : decode cX11_dotOf 60 = .ok (.iconst (-1), 1) := by decide +kernel
theorem dX11_dotOf_61 : decode cX11_dotOf 61 = .ok (.if_icmp .eq 14, 3) := by decide +kernel
theorem dX11_dotOf_64 : decode cX11_dotOf 64 = .ok (.bipush 16, 2) := by decide +kernel
theorem dX11_dotOf_66 : decode cX11_dotOf 66 = .ok (.iload 4, 2) := by decide +kernel
theorem dX11_dotOf_68 : decode cX11_dotOf 68 = .ok (.imul, 1) := by decide +kernel
theorem dX11_dotOf_69 : decode cX11_dotOf 69 = .ok (.iload 5, 2) := by decide +kernel
theorem dX11_dotOf_71 : decode cX11_dotOf 71 = .ok (.iadd, 1) := by decide +kernel
theorem dX11_dotOf_72 : decode cX11_dotOf 72 = .ok (.goto 4, 3) := by decide +kernel
theorem dX11_dotOf_75 : decode cX11_dotOf 75 = .ok (.iconst (-1), 1) := by decide +kernel
theorem dX11_dotOf_76 : decode cX11_dotOf 76 = .ok (.ireturn, 1) := by decide +kernel
theorem dX11_dotOf_77 : decode cX11_dotOf 77 = .ok (.aload_n 0, 1) := by decide +kernel
theorem dX11_dotOf_78 : decode cX11_dotOf 78 = .ok (.aload_n 0, 1) := by decide +kernel
theorem dX11_dotOf_79 : decode cX11_dotOf 79 = .ok (.iload_n 1, 1) := by decide +kernel
theorem dX11_dotOf_80 : decode cX11_dotOf 80 = .ok (.iload_n 3, 1) := by decide +kernel
theorem dX11_dotOf_81 : decode cX11_dotOf 81 = .ok (.invokevirtual 315, 3) := by decide +kernel
theorem dX11_dotOf_84 : decode cX11_dotOf 84 = .ok (.iload_n 3, 1) := by decide +kernel
theorem dX11_dotOf_85 : decode cX11_dotOf 85 = .ok (.invokevirtual 312, 3) := by decide +kernel
theorem dX11_dotOf_88 : decode cX11_dotOf 88 = .ok (.istore 4, 2) := by decide +kernel
theorem dX11_dotOf_90 : decode cX11_dotOf 90 = .ok (.iload 4, 2) := by decide +kernel
theorem dX11_dotOf_92 : decode cX11_dotOf 92 = .ok (.iconst (-1), 1) := by decide +kernel
theorem dX11_dotOf_93 : decode cX11_dotOf 93 = .ok (.if_icmp .ne 7, 3) := by decide +kernel
theorem dX11_dotOf_96 : decode cX11_dotOf 96 = .ok (.iconst (-1), 1) := by decide +kernel
theorem dX11_dotOf_97 : decode cX11_dotOf 97 = .ok (.goto 10, 3) := by decide +kernel
theorem dX11_dotOf_100 : decode cX11_dotOf 100 = .ok (.bipush 16, 2) := by decide +kernel
theorem dX11_dotOf_102 : decode cX11_dotOf 102 = .ok (.iload_n 2, 1) := by decide +kernel
theorem dX11_dotOf_103 : decode cX11_dotOf 103 = .ok (.imul, 1) := by decide +kernel
theorem dX11_dotOf_104 : decode cX11_dotOf 104 = .ok (.iload 4, 2) := by decide +kernel
theorem dX11_dotOf_106 : decode cX11_dotOf 106 = .ok (.iadd, 1) := by decide +kernel
theorem dX11_dotOf_107 : decode cX11_dotOf 107 = .ok (.ireturn, 1) := by decide +kernel
theorem dX11_draws_0 : decode cX11_draws 0 = .ok (.iconst 0, 1) := by decide +kernel
theorem dX11_draws_1 : decode cX11_draws 1 = .ok (.istore_n 2, 1) := by decide +kernel
theorem dX11_draws_2 : decode cX11_draws 2 = .ok (.iload_n 2, 1) := by decide +kernel
theorem dX11_draws_3 : decode cX11_draws 3 = .ok (.sipush 320, 3) := by decide +kernel
theorem dX11_draws_6 : decode cX11_draws 6 = .ok (.if_icmp .ge 16, 3) := by decide +kernel
theorem dX11_draws_9 : decode cX11_draws 9 = .ok (.aload_n 0, 1) := by decide +kernel
theorem dX11_draws_10 : decode cX11_draws 10 = .ok (.getfield 79, 3) := by decide +kernel
theorem dX11_draws_13 : decode cX11_draws 13 = .ok (.iload_n 2, 1) := by decide +kernel
theorem dX11_draws_14 : decode cX11_draws 14 = .ok (.iconst 0, 1) := by decide +kernel
theorem dX11_draws_15 : decode cX11_draws 15 = .ok (.iastore, 1) := by decide +kernel
theorem dX11_draws_16 : decode cX11_draws 16 = .ok (.iinc 2 1, 3) := by decide +kernel
theorem dX11_draws_19 : decode cX11_draws 19 = .ok (.goto (-17), 3) := by decide +kernel
theorem dX11_draws_22 : decode cX11_draws 22 = .ok (.iconst 0, 1) := by decide +kernel
theorem dX11_draws_23 : decode cX11_draws 23 = .ok (.istore_n 2, 1) := by decide +kernel
theorem dX11_draws_24 : decode cX11_draws 24 = .ok (.iload_n 2, 1) := by decide +kernel
theorem dX11_draws_25 : decode cX11_draws 25 = .ok (.aload_n 0, 1) := by decide +kernel
theorem dX11_draws_26 : decode cX11_draws 26 = .ok (.getfield 283, 3) := by decide +kernel
theorem dX11_draws_29 : decode cX11_draws 29 = .ok (.if_icmp .ge 152, 3) := by decide +kernel
theorem dX11_draws_32 : decode cX11_draws 32 = .ok (.iconst 0, 1) := by decide +kernel
theorem dX11_draws_33 : decode cX11_draws 33 = .ok (.istore_n 3, 1) := by decide +kernel
theorem dX11_draws_34 : decode cX11_draws 34 = .ok (.iload_n 3, 1) := by decide +kernel
theorem dX11_draws_35 : decode cX11_draws 35 = .ok (.sipush 320, 3) := by decide +kernel
theorem dX11_draws_38 : decode cX11_draws 38 = .ok (.if_icmp .ge 41, 3) := by decide +kernel
theorem dX11_draws_41 : decode cX11_draws 41 = .ok (.aload_n 0, 1) := by decide +kernel
theorem dX11_draws_42 : decode cX11_draws 42 = .ok (.getfield 76, 3) := by decide +kernel
theorem dX11_draws_45 : decode cX11_draws 45 = .ok (.iload_n 2, 1) := by decide +kernel
theorem dX11_draws_46 : decode cX11_draws 46 = .ok (.iaload, 1) := by decide +kernel
theorem dX11_draws_47 : decode cX11_draws 47 = .ok (.iload_n 1, 1) := by decide +kernel
theorem dX11_draws_48 : decode cX11_draws 48 = .ok (.if_icmp .ge 31, 3) := by decide +kernel
theorem dX11_draws_51 : decode cX11_draws 51 = .ok (.aload_n 0, 1) := by decide +kernel
theorem dX11_draws_52 : decode cX11_draws 52 = .ok (.getfield 79, 3) := by decide +kernel
theorem dX11_draws_55 : decode cX11_draws 55 = .ok (.iload_n 3, 1) := by decide +kernel
theorem dX11_draws_56 : decode cX11_draws 56 = .ok (.aload_n 0, 1) := by decide +kernel
theorem dX11_draws_57 : decode cX11_draws 57 = .ok (.getfield 79, 3) := by decide +kernel
theorem dX11_draws_60 : decode cX11_draws 60 = .ok (.iload_n 3, 1) := by decide +kernel
theorem dX11_draws_61 : decode cX11_draws 61 = .ok (.iaload, 1) := by decide +kernel
theorem dX11_draws_62 : decode cX11_draws 62 = .ok (.aload_n 0, 1) := by decide +kernel
theorem dX11_draws_63 : decode cX11_draws 63 = .ok (.getfield 7, 3) := by decide +kernel
theorem dX11_draws_66 : decode cX11_draws 66 = .ok (.iconst 4, 1) := by decide +kernel
theorem dX11_draws_67 : decode cX11_draws 67 = .ok (.iaload, 1) := by decide +kernel
theorem dX11_draws_68 : decode cX11_draws 68 = .ok (.imul, 1) := by decide +kernel
theorem dX11_draws_69 : decode cX11_draws 69 = .ok (.bipush 16, 2) := by decide +kernel
theorem dX11_draws_71 : decode cX11_draws 71 = .ok (.idiv, 1) := by decide +kernel
theorem dX11_draws_72 : decode cX11_draws 72 = .ok (.iastore, 1) := by decide +kernel
theorem dX11_draws_73 : decode cX11_draws 73 = .ok (.iinc 3 1, 3) := by decide +kernel
theorem dX11_draws_76 : decode cX11_draws 76 = .ok (.goto (-42), 3) := by decide +kernel
theorem dX11_draws_79 : decode cX11_draws 79 = .ok (.iconst 0, 1) := by decide +kernel
theorem dX11_draws_80 : decode cX11_draws 80 = .ok (.istore_n 3, 1) := by decide +kernel
theorem dX11_draws_81 : decode cX11_draws 81 = .ok (.iload_n 3, 1) := by decide +kernel
theorem dX11_draws_82 : decode cX11_draws 82 = .ok (.bipush 20, 2) := by decide +kernel
theorem dX11_draws_84 : decode cX11_draws 84 = .ok (.if_icmp .ge 91, 3) := by decide +kernel
theorem dX11_draws_87 : decode cX11_draws 87 = .ok (.aload_n 0, 1) := by decide +kernel
theorem dX11_draws_88 : decode cX11_draws 88 = .ok (.getfield 76, 3) := by decide +kernel
theorem dX11_draws_91 : decode cX11_draws 91 = .ok (.iload_n 2, 1) := by decide +kernel
theorem dX11_draws_92 : decode cX11_draws 92 = .ok (.iaload, 1) := by decide +kernel
theorem dX11_draws_93 : decode cX11_draws 93 = .ok (.iload_n 3, 1) := by decide +kernel
theorem dX11_draws_94 : decode cX11_draws 94 = .ok (.aload_n 0, 1) := by decide +kernel
theorem dX11_draws_95 : decode cX11_draws 95 = .ok (.getfield 7, 3) := by decide +kernel
theorem dX11_draws_98 : decode cX11_draws 98 = .ok (.iconst 2, 1) := by decide +kernel
theorem dX11_draws_99 : decode cX11_draws 99 = .ok (.iaload, 1) := by decide +kernel
theorem dX11_draws_100 : decode cX11_draws 100 = .ok (.imul, 1) := by decide +kernel
theorem dX11_draws_101 : decode cX11_draws 101 = .ok (.iadd, 1) := by decide +kernel
theorem dX11_draws_102 : decode cX11_draws 102 = .ok (.istore 4, 2) := by decide +kernel
theorem dX11_draws_104 : decode cX11_draws 104 = .ok (.iload 4, 2) := by decide +kernel
theorem dX11_draws_106 : decode cX11_draws 106 = .ok (.iload_n 1, 1) := by decide +kernel
theorem dX11_draws_107 : decode cX11_draws 107 = .ok (.if_icmp .ge 14, 3) := by decide +kernel
theorem dX11_draws_110 : decode cX11_draws 110 = .ok (.aload_n 0, 1) := by decide +kernel
theorem dX11_draws_111 : decode cX11_draws 111 = .ok (.iload_n 2, 1) := by decide +kernel
theorem dX11_draws_112 : decode cX11_draws 112 = .ok (.iload_n 3, 1) := by decide +kernel
theorem dX11_draws_113 : decode cX11_draws 113 = .ok (.iload 4, 2) := by decide +kernel
theorem dX11_draws_115 : decode cX11_draws 115 = .ok (.invokevirtual 318, 3) := by decide +kernel
theorem dX11_draws_118 : decode cX11_draws 118 = .ok (.goto 4, 3) := by decide +kernel
theorem dX11_draws_121 : decode cX11_draws 121 = .ok (.iconst (-1), 1) := by decide +kernel
theorem dX11_draws_122 : decode cX11_draws 122 = .ok (.istore 5, 2) := by decide +kernel
theorem dX11_draws_124 : decode cX11_draws 124 = .ok (.iload 5, 2) := by decide +kernel
theorem dX11_draws_126 : decode cX11_draws 126 = .ok (.iconst (-1), 1) := by decide +kernel
theorem dX11_draws_127 : decode cX11_draws 127 = .ok (.if_icmp .eq 42, 3) := by decide +kernel
theorem dX11_draws_130 : decode cX11_draws 130 = .ok (.aload_n 0, 1) := by decide +kernel
theorem dX11_draws_131 : decode cX11_draws 131 = .ok (.getfield 79, 3) := by decide +kernel
theorem dX11_draws_134 : decode cX11_draws 134 = .ok (.iload 5, 2) := by decide +kernel
theorem dX11_draws_136 : decode cX11_draws 136 = .ok (.aload_n 0, 1) := by decide +kernel
theorem dX11_draws_137 : decode cX11_draws 137 = .ok (.getfield 79, 3) := by decide +kernel
theorem dX11_draws_140 : decode cX11_draws 140 = .ok (.iload 5, 2) := by decide +kernel
theorem dX11_draws_142 : decode cX11_draws 142 = .ok (.iaload, 1) := by decide +kernel
theorem dX11_draws_143 : decode cX11_draws 143 = .ok (.bipush 16, 2) := by decide +kernel
theorem dX11_draws_145 : decode cX11_draws 145 = .ok (.iadd, 1) := by decide +kernel
theorem dX11_draws_146 : decode cX11_draws 146 = .ok (.sipush 999, 3) := by decide +kernel
theorem dX11_draws_149 : decode cX11_draws 149 = .ok (.if_icmp .le 9, 3) := by decide +kernel
theorem dX11_draws_152 : decode cX11_draws 152 = .ok (.sipush 999, 3) := by decide +kernel
theorem dX11_draws_155 : decode cX11_draws 155 = .ok (.goto 13, 3) := by decide +kernel
theorem dX11_draws_158 : decode cX11_draws 158 = .ok (.aload_n 0, 1) := by decide +kernel
theorem dX11_draws_159 : decode cX11_draws 159 = .ok (.getfield 79, 3) := by decide +kernel
theorem dX11_draws_162 : decode cX11_draws 162 = .ok (.iload 5, 2) := by decide +kernel
theorem dX11_draws_164 : decode cX11_draws 164 = .ok (.iaload, 1) := by decide +kernel
theorem dX11_draws_165 : decode cX11_draws 165 = .ok (.bipush 16, 2) := by decide +kernel
theorem dX11_draws_167 : decode cX11_draws 167 = .ok (.iadd, 1) := by decide +kernel
theorem dX11_draws_168 : decode cX11_draws 168 = .ok (.iastore, 1) := by decide +kernel
theorem dX11_draws_169 : decode cX11_draws 169 = .ok (.iinc 3 1, 3) := by decide +kernel
theorem dX11_draws_172 : decode cX11_draws 172 = .ok (.goto (-91), 3) := by decide +kernel
theorem dX11_draws_175 : decode cX11_draws 175 = .ok (.iinc 2 1, 3) := by decide +kernel
theorem dX11_draws_178 : decode cX11_draws 178 = .ok (.goto (-154), 3) := by decide +kernel
theorem dX11_draws_181 : decode cX11_draws 181 = .ok (.return_, 1) := by decide +kernel
theorem dX11_shows_0 : decode cX11_shows 0 = .ok (.aload_n 0, 1) := by decide +kernel
theorem dX11_shows_1 : decode cX11_shows 1 = .ok (.invokevirtual 304, 3) := by decide +kernel
theorem dX11_shows_4 : decode cX11_shows 4 = .ok (.aload_n 0, 1) := by decide +kernel
theorem dX11_shows_5 : decode cX11_shows 5 = .ok (.iload_n 1, 1) := by decide +kernel
theorem dX11_shows_6 : decode cX11_shows 6 = .ok (.invokevirtual 307, 3) := by decide +kernel
theorem dX11_shows_9 : decode cX11_shows 9 = .ok (.aload_n 0, 1) := by decide +kernel
theorem dX11_shows_10 : decode cX11_shows 10 = .ok (.iload_n 1, 1) := by decide +kernel
theorem dX11_shows_11 : decode cX11_shows 11 = .ok (.invokevirtual 322, 3) := by decide +kernel
theorem dX11_shows_14 : decode cX11_shows 14 = .ok (.return_, 1) := by decide +kernel
theorem dX11_glow_0 : decode cX11_glow 0 = .ok (.iload_n 1, 1) := by decide +kernel
theorem dX11_glow_1 : decode cX11_glow 1 = .ok (.invokestatic 301, 3) := by decide +kernel
theorem dX11_glow_4 : decode cX11_glow 4 = .ok (.ifCond .eq 23, 3) := by decide +kernel
theorem dX11_glow_7 : decode cX11_glow 7 = .ok (.iload_n 2, 1) := by decide +kernel
theorem dX11_glow_8 : decode cX11_glow 8 = .ok (.iconst 0, 1) := by decide +kernel
theorem dX11_glow_9 : decode cX11_glow 9 = .ok (.bipush 19, 2) := by decide +kernel
theorem dX11_glow_11 : decode cX11_glow 11 = .ok (.invokestatic 97, 3) := by decide +kernel
theorem dX11_glow_14 : decode cX11_glow 14 = .ok (.ifCond .eq 13, 3) := by decide +kernel
theorem dX11_glow_17 : decode cX11_glow 17 = .ok (.iload_n 3, 1) := by decide +kernel
theorem dX11_glow_18 : decode cX11_glow 18 = .ok (.iconst 0, 1) := by decide +kernel
theorem dX11_glow_19 : decode cX11_glow 19 = .ok (.bipush 15, 2) := by decide +kernel
theorem dX11_glow_21 : decode cX11_glow 21 = .ok (.invokestatic 97, 3) := by decide +kernel
theorem dX11_glow_24 : decode cX11_glow 24 = .ok (.ifCond .ne 5, 3) := by decide +kernel
theorem dX11_glow_27 : decode cX11_glow 27 = .ok (.iconst (-1), 1) := by decide +kernel
theorem dX11_glow_28 : decode cX11_glow 28 = .ok (.ireturn, 1) := by decide +kernel
theorem dX11_glow_29 : decode cX11_glow 29 = .ok (.aload_n 0, 1) := by decide +kernel
theorem dX11_glow_30 : decode cX11_glow 30 = .ok (.iload_n 1, 1) := by decide +kernel
theorem dX11_glow_31 : decode cX11_glow 31 = .ok (.invokevirtual 325, 3) := by decide +kernel
theorem dX11_glow_34 : decode cX11_glow 34 = .ok (.aload_n 0, 1) := by decide +kernel
theorem dX11_glow_35 : decode cX11_glow 35 = .ok (.getfield 79, 3) := by decide +kernel
theorem dX11_glow_38 : decode cX11_glow 38 = .ok (.bipush 16, 2) := by decide +kernel
theorem dX11_glow_40 : decode cX11_glow 40 = .ok (.iload_n 2, 1) := by decide +kernel
theorem dX11_glow_41 : decode cX11_glow 41 = .ok (.imul, 1) := by decide +kernel
theorem dX11_glow_42 : decode cX11_glow 42 = .ok (.iload_n 3, 1) := by decide +kernel
theorem dX11_glow_43 : decode cX11_glow 43 = .ok (.iadd, 1) := by decide +kernel
theorem dX11_glow_44 : decode cX11_glow 44 = .ok (.iaload, 1) := by decide +kernel
theorem dX11_glow_45 : decode cX11_glow 45 = .ok (.ireturn, 1) := by decide +kernel
theorem dX11_rowsOf_0 : decode cX11_rowsOf 0 = .ok (.iconst 0, 1) := by decide +kernel
theorem dX11_rowsOf_1 : decode cX11_rowsOf 1 = .ok (.istore_n 3, 1) := by decide +kernel
theorem dX11_rowsOf_2 : decode cX11_rowsOf 2 = .ok (.iconst 0, 1) := by decide +kernel
theorem dX11_rowsOf_3 : decode cX11_rowsOf 3 = .ok (.istore 4, 2) := by decide +kernel
theorem dX11_rowsOf_5 : decode cX11_rowsOf 5 = .ok (.iload 4, 2) := by decide +kernel
theorem dX11_rowsOf_7 : decode cX11_rowsOf 7 = .ok (.bipush 16, 2) := by decide +kernel
theorem dX11_rowsOf_9 : decode cX11_rowsOf 9 = .ok (.if_icmp .ge 36, 3) := by decide +kernel
theorem dX11_rowsOf_12 : decode cX11_rowsOf 12 = .ok (.aload_n 0, 1) := by decide +kernel
theorem dX11_rowsOf_13 : decode cX11_rowsOf 13 = .ok (.getfield 79, 3) := by decide +kernel
theorem dX11_rowsOf_16 : decode cX11_rowsOf 16 = .ok (.bipush 16, 2) := by decide +kernel
theorem dX11_rowsOf_18 : decode cX11_rowsOf 18 = .ok (.iload_n 1, 1) := by decide +kernel
theorem dX11_rowsOf_19 : decode cX11_rowsOf 19 = .ok (.imul, 1) := by decide +kernel
theorem dX11_rowsOf_20 : decode cX11_rowsOf 20 = .ok (.iload 4, 2) := by decide +kernel
theorem dX11_rowsOf_22 : decode cX11_rowsOf 22 = .ok (.iadd, 1) := by decide +kernel
theorem dX11_rowsOf_23 : decode cX11_rowsOf 23 = .ok (.iaload, 1) := by decide +kernel
theorem dX11_rowsOf_24 : decode cX11_rowsOf 24 = .ok (.iload_n 2, 1) := by decide +kernel
theorem dX11_rowsOf_25 : decode cX11_rowsOf 25 = .ok (.if_icmp .lt 12, 3) := by decide +kernel
theorem dX11_rowsOf_28 : decode cX11_rowsOf 28 = .ok (.iload_n 3, 1) := by decide +kernel
theorem dX11_rowsOf_29 : decode cX11_rowsOf 29 = .ok (.iconst 1, 1) := by decide +kernel
theorem dX11_rowsOf_30 : decode cX11_rowsOf 30 = .ok (.iload 4, 2) := by decide +kernel
theorem dX11_rowsOf_32 : decode cX11_rowsOf 32 = .ok (.ishl, 1) := by decide +kernel
theorem dX11_rowsOf_33 : decode cX11_rowsOf 33 = .ok (.ior, 1) := by decide +kernel
theorem dX11_rowsOf_34 : decode cX11_rowsOf 34 = .ok (.goto 4, 3) := by decide +kernel
theorem dX11_rowsOf_37 : decode cX11_rowsOf 37 = .ok (.iload_n 3, 1) := by decide +kernel
theorem dX11_rowsOf_38 : decode cX11_rowsOf 38 = .ok (.istore_n 3, 1) := by decide +kernel
theorem dX11_rowsOf_39 : decode cX11_rowsOf 39 = .ok (.iinc 4 1, 3) := by decide +kernel
theorem dX11_rowsOf_42 : decode cX11_rowsOf 42 = .ok (.goto (-37), 3) := by decide +kernel
theorem dX11_rowsOf_45 : decode cX11_rowsOf 45 = .ok (.iload_n 3, 1) := by decide +kernel
theorem dX11_rowsOf_46 : decode cX11_rowsOf 46 = .ok (.ireturn, 1) := by decide +kernel
theorem dX11_dots_0 : decode cX11_dots 0 = .ok (.iconst 0, 1) := by decide +kernel
theorem dX11_dots_1 : decode cX11_dots 1 = .ok (.istore_n 2, 1) := by decide +kernel
theorem dX11_dots_2 : decode cX11_dots 2 = .ok (.iconst 0, 1) := by decide +kernel
theorem dX11_dots_3 : decode cX11_dots 3 = .ok (.istore_n 3, 1) := by decide +kernel
theorem dX11_dots_4 : decode cX11_dots 4 = .ok (.iload_n 3, 1) := by decide +kernel
theorem dX11_dots_5 : decode cX11_dots 5 = .ok (.sipush 320, 3) := by decide +kernel
