theorem dX11_dots_8 : decode cX11_dots 8 = .ok (.if_icmp .ge 27, 3) := by decide +kernel
theorem dX11_dots_11 : decode cX11_dots 11 = .ok (.iload_n 2, 1) := by decide +kernel
theorem dX11_dots_12 : decode cX11_dots 12 = .ok (.aload_n 0, 1) := by decide +kernel
theorem dX11_dots_13 : decode cX11_dots 13 = .ok (.getfield 79, 3) := by decide +kernel
theorem dX11_dots_16 : decode cX11_dots 16 = .ok (.iload_n 3, 1) := by decide +kernel
theorem dX11_dots_17 : decode cX11_dots 17 = .ok (.iaload, 1) := by decide +kernel
theorem dX11_dots_18 : decode cX11_dots 18 = .ok (.iload_n 1, 1) := by decide +kernel
theorem dX11_dots_19 : decode cX11_dots 19 = .ok (.if_icmp .lt 7, 3) := by decide +kernel
theorem dX11_dots_22 : decode cX11_dots 22 = .ok (.iconst 1, 1) := by decide +kernel
theorem dX11_dots_23 : decode cX11_dots 23 = .ok (.goto 4, 3) := by decide +kernel
theorem dX11_dots_26 : decode cX11_dots 26 = .ok (.iconst 0, 1) := by decide +kernel
theorem dX11_dots_27 : decode cX11_dots 27 = .ok (.iadd, 1) := by decide +kernel
theorem dX11_dots_28 : decode cX11_dots 28 = .ok (.istore_n 2, 1) := by decide +kernel
theorem dX11_dots_29 : decode cX11_dots 29 = .ok (.iinc 3 1, 3) := by decide +kernel
theorem dX11_dots_32 : decode cX11_dots 32 = .ok (.goto (-28), 3) := by decide +kernel
theorem dX11_dots_35 : decode cX11_dots 35 = .ok (.iload_n 2, 1) := by decide +kernel
theorem dX11_dots_36 : decode cX11_dots 36 = .ok (.ireturn, 1) := by decide +kernel
theorem dX11_isLight_0 : decode cX11_isLight 0 = .ok (.iload_n 0, 1) := by decide +kernel
theorem dX11_isLight_1 : decode cX11_isLight 1 = .ok (.iconst 1, 1) := by decide +kernel
theorem dX11_isLight_2 : decode cX11_isLight 2 = .ok (.sipush 999, 3) := by decide +kernel
theorem dX11_isLight_5 : decode cX11_isLight 5 = .ok (.invokestatic 97, 3) := by decide +kernel
theorem dX11_isLight_8 : decode cX11_isLight 8 = .ok (.ireturn, 1) := by decide +kernel
theorem dX11_lit_0 : decode cX11_lit 0 = .ok (.iload_n 1, 1) := by decide +kernel
theorem dX11_lit_1 : decode cX11_lit 1 = .ok (.invokestatic 301, 3) := by decide +kernel
theorem dX11_lit_4 : decode cX11_lit 4 = .ok (.ifCond .eq 20, 3) := by decide +kernel
theorem dX11_lit_7 : decode cX11_lit 7 = .ok (.iload_n 2, 1) := by decide +kernel
theorem dX11_lit_8 : decode cX11_lit 8 = .ok (.invokestatic 328, 3) := by decide +kernel
theorem dX11_lit_11 : decode cX11_lit 11 = .ok (.ifCond .eq 13, 3) := by decide +kernel
theorem dX11_lit_14 : decode cX11_lit 14 = .ok (.iload_n 3, 1) := by decide +kernel
theorem dX11_lit_15 : decode cX11_lit 15 = .ok (.iconst (-1), 1) := by decide +kernel
theorem dX11_lit_16 : decode cX11_lit 16 = .ok (.bipush 19, 2) := by decide +kernel
theorem dX11_lit_18 : decode cX11_lit 18 = .ok (.invokestatic 97, 3) := by decide +kernel
theorem dX11_lit_21 : decode cX11_lit 21 = .ok (.ifCond .ne 5, 3) := by decide +kernel
theorem dX11_lit_24 : decode cX11_lit 24 = .ok (.iconst (-1), 1) := by decide +kernel
theorem dX11_lit_25 : decode cX11_lit 25 = .ok (.ireturn, 1) := by decide +kernel
theorem dX11_lit_26 : decode cX11_lit 26 = .ok (.aload_n 0, 1) := by decide +kernel
theorem dX11_lit_27 : decode cX11_lit 27 = .ok (.iload_n 1, 1) := by decide +kernel
theorem dX11_lit_28 : decode cX11_lit 28 = .ok (.invokevirtual 325, 3) := by decide +kernel
theorem dX11_lit_31 : decode cX11_lit 31 = .ok (.iload_n 3, 1) := by decide +kernel
theorem dX11_lit_32 : decode cX11_lit 32 = .ok (.iconst (-1), 1) := by decide +kernel
theorem dX11_lit_33 : decode cX11_lit 33 = .ok (.if_icmp .ne 11, 3) := by decide +kernel
theorem dX11_lit_36 : decode cX11_lit 36 = .ok (.aload_n 0, 1) := by decide +kernel
theorem dX11_lit_37 : decode cX11_lit 37 = .ok (.iload_n 2, 1) := by decide +kernel
theorem dX11_lit_38 : decode cX11_lit 38 = .ok (.invokevirtual 331, 3) := by decide +kernel
theorem dX11_lit_41 : decode cX11_lit 41 = .ok (.goto 9, 3) := by decide +kernel
theorem dX11_lit_44 : decode cX11_lit 44 = .ok (.aload_n 0, 1) := by decide +kernel
theorem dX11_lit_45 : decode cX11_lit 45 = .ok (.iload_n 3, 1) := by decide +kernel
theorem dX11_lit_46 : decode cX11_lit 46 = .ok (.iload_n 2, 1) := by decide +kernel
theorem dX11_lit_47 : decode cX11_lit 47 = .ok (.invokevirtual 334, 3) := by decide +kernel
theorem dX11_lit_50 : decode cX11_lit 50 = .ok (.ireturn, 1) := by decide +kernel
theorem dX11_otherwise_0 : decode cX11_otherwise 0 = .ok (.iload_n 1, 1) := by decide +kernel
theorem dX11_otherwise_1 : decode cX11_otherwise 1 = .ok (.invokestatic 115, 3) := by decide +kernel
theorem dX11_otherwise_4 : decode cX11_otherwise 4 = .ok (.ifCond .eq 19, 3) := by decide +kernel
theorem dX11_otherwise_7 : decode cX11_otherwise 7 = .ok (.iload_n 2, 1) := by decide +kernel
theorem dX11_otherwise_8 : decode cX11_otherwise 8 = .ok (.iconst 0, 1) := by decide +kernel
theorem dX11_otherwise_9 : decode cX11_otherwise 9 = .ok (.sipush 1000, 3) := by decide +kernel
theorem dX11_otherwise_12 : decode cX11_otherwise 12 = .ok (.invokestatic 97, 3) := by decide +kernel
theorem dX11_otherwise_15 : decode cX11_otherwise 15 = .ok (.ifCond .eq 8, 3) := by decide +kernel
theorem dX11_otherwise_18 : decode cX11_otherwise 18 = .ok (.iload_n 3, 1) := by decide +kernel
theorem dX11_otherwise_19 : decode cX11_otherwise 19 = .ok (.iconst (-1), 1) := by decide +kernel
theorem dX11_otherwise_20 : decode cX11_otherwise 20 = .ok (.if_icmp .ge 5, 3) := by decide +kernel
theorem dX11_otherwise_23 : decode cX11_otherwise 23 = .ok (.iconst (-1), 1) := by decide +kernel
theorem dX11_otherwise_24 : decode cX11_otherwise 24 = .ok (.ireturn, 1) := by decide +kernel
theorem dX11_otherwise_25 : decode cX11_otherwise 25 = .ok (.aload_n 0, 1) := by decide +kernel
theorem dX11_otherwise_26 : decode cX11_otherwise 26 = .ok (.iload_n 1, 1) := by decide +kernel
theorem dX11_otherwise_27 : decode cX11_otherwise 27 = .ok (.invokevirtual 118, 3) := by decide +kernel
theorem dX11_otherwise_30 : decode cX11_otherwise 30 = .ok (.iconst 0, 1) := by decide +kernel
theorem dX11_otherwise_31 : decode cX11_otherwise 31 = .ok (.istore 4, 2) := by decide +kernel
theorem dX11_otherwise_33 : decode cX11_otherwise 33 = .ok (.iconst 0, 1) := by decide +kernel
theorem dX11_otherwise_34 : decode cX11_otherwise 34 = .ok (.istore 5, 2) := by decide +kernel
theorem dX11_otherwise_36 : decode cX11_otherwise 36 = .ok (.iload 5, 2) := by decide +kernel
theorem dX11_otherwise_38 : decode cX11_otherwise 38 = .ok (.bipush 20, 2) := by decide +kernel
theorem dX11_otherwise_40 : decode cX11_otherwise 40 = .ok (.if_icmp .ge 64, 3) := by decide +kernel
theorem dX11_otherwise_43 : decode cX11_otherwise 43 = .ok (.aload_n 0, 1) := by decide +kernel
theorem dX11_otherwise_44 : decode cX11_otherwise 44 = .ok (.getfield 82, 3) := by decide +kernel
theorem dX11_otherwise_47 : decode cX11_otherwise 47 = .ok (.iload 5, 2) := by decide +kernel
theorem dX11_otherwise_49 : decode cX11_otherwise 49 = .ok (.aload_n 0, 1) := by decide +kernel
theorem dX11_otherwise_50 : decode cX11_otherwise 50 = .ok (.getfield 42, 3) := by decide +kernel
theorem dX11_otherwise_53 : decode cX11_otherwise 53 = .ok (.sipush 2000, 3) := by decide +kernel
theorem dX11_otherwise_56 : decode cX11_otherwise 56 = .ok (.iload_n 1, 1) := by decide +kernel
theorem dX11_otherwise_57 : decode cX11_otherwise 57 = .ok (.imul, 1) := by decide +kernel
theorem dX11_otherwise_58 : decode cX11_otherwise 58 = .ok (.iload_n 2, 1) := by decide +kernel
theorem dX11_otherwise_59 : decode cX11_otherwise 59 = .ok (.iadd, 1) := by decide +kernel
theorem dX11_otherwise_60 : decode cX11_otherwise 60 = .ok (.iload 5, 2) := by decide +kernel
theorem dX11_otherwise_62 : decode cX11_otherwise 62 = .ok (.aload_n 0, 1) := by decide +kernel
theorem dX11_otherwise_63 : decode cX11_otherwise 63 = .ok (.getfield 7, 3) := by decide +kernel
theorem dX11_otherwise_66 : decode cX11_otherwise 66 = .ok (.iconst 2, 1) := by decide +kernel
theorem dX11_otherwise_67 : decode cX11_otherwise 67 = .ok (.iaload, 1) := by decide +kernel
theorem dX11_otherwise_68 : decode cX11_otherwise 68 = .ok (.imul, 1) := by decide +kernel
theorem dX11_otherwise_69 : decode cX11_otherwise 69 = .ok (.iadd, 1) := by decide +kernel
theorem dX11_otherwise_70 : decode cX11_otherwise 70 = .ok (.iaload, 1) := by decide +kernel
theorem dX11_otherwise_71 : decode cX11_otherwise 71 = .ok (.iastore, 1) := by decide +kernel
theorem dX11_otherwise_72 : decode cX11_otherwise 72 = .ok (.aload_n 0, 1) := by decide +kernel
theorem dX11_otherwise_73 : decode cX11_otherwise 73 = .ok (.getfield 82, 3) := by decide +kernel
theorem dX11_otherwise_76 : decode cX11_otherwise 76 = .ok (.iload 5, 2) := by decide +kernel
theorem dX11_otherwise_78 : decode cX11_otherwise 78 = .ok (.iaload, 1) := by decide +kernel
theorem dX11_otherwise_79 : decode cX11_otherwise 79 = .ok (.iload 4, 2) := by decide +kernel
theorem dX11_otherwise_81 : decode cX11_otherwise 81 = .ok (.if_icmp .le 13, 3) := by decide +kernel
theorem dX11_otherwise_84 : decode cX11_otherwise 84 = .ok (.aload_n 0, 1) := by decide +kernel
theorem dX11_otherwise_85 : decode cX11_otherwise 85 = .ok (.getfield 82, 3) := by decide +kernel
theorem dX11_otherwise_88 : decode cX11_otherwise 88 = .ok (.iload 5, 2) := by decide +kernel
theorem dX11_otherwise_90 : decode cX11_otherwise 90 = .ok (.iaload, 1) := by decide +kernel
theorem dX11_otherwise_91 : decode cX11_otherwise 91 = .ok (.goto 5, 3) := by decide +kernel
theorem dX11_otherwise_94 : decode cX11_otherwise 94 = .ok (.iload 4, 2) := by decide +kernel
theorem dX11_otherwise_96 : decode cX11_otherwise 96 = .ok (.istore 4, 2) := by decide +kernel
theorem dX11_otherwise_98 : decode cX11_otherwise 98 = .ok (.iinc 5 1, 3) := by decide +kernel
theorem dX11_otherwise_101 : decode cX11_otherwise 101 = .ok (.goto (-65), 3) := by decide +kernel
theorem dX11_otherwise_104 : decode cX11_otherwise 104 = .ok (.iconst 0, 1) := by decide +kernel
theorem dX11_otherwise_105 : decode cX11_otherwise 105 = .ok (.istore 5, 2) := by decide +kernel
theorem dX11_otherwise_107 : decode cX11_otherwise 107 = .ok (.iconst 2, 1) := by decide +kernel
theorem dX11_otherwise_108 : decode cX11_otherwise 108 = .ok (.istore 6, 2) := by decide +kernel
theorem dX11_otherwise_110 : decode cX11_otherwise 110 = .ok (.iload 6, 2) := by decide +kernel
theorem dX11_otherwise_112 : decode cX11_otherwise 112 = .ok (.bipush 25, 2) := by decide +kernel
theorem dX11_otherwise_114 : decode cX11_otherwise 114 = .ok (.if_icmp .ge 87, 3) := by decide +kernel
theorem dX11_otherwise_117 : decode cX11_otherwise 117 = .ok (.iload 4, 2) := by decide +kernel
theorem dX11_otherwise_119 : decode cX11_otherwise 119 = .ok (.ifCond .le 82, 3) := by decide +kernel
theorem dX11_otherwise_122 : decode cX11_otherwise 122 = .ok (.iconst 1, 1) := by decide +kernel
theorem dX11_otherwise_123 : decode cX11_otherwise 123 = .ok (.istore 7, 2) := by decide +kernel
theorem dX11_otherwise_125 : decode cX11_otherwise 125 = .ok (.iload 7, 2) := by decide +kernel
theorem dX11_otherwise_127 : decode cX11_otherwise 127 = .ok (.iload 6, 2) := by decide +kernel
theorem dX11_otherwise_129 : decode cX11_otherwise 129 = .ok (.if_icmp .ge 66, 3) := by decide +kernel
theorem dX11_otherwise_132 : decode cX11_otherwise 132 = .ok (.iconst 0, 1) := by decide +kernel
theorem dX11_otherwise_133 : decode cX11_otherwise 133 = .ok (.istore 8, 2) := by decide +kernel
theorem dX11_otherwise_135 : decode cX11_otherwise 135 = .ok (.iload 8, 2) := by decide +kernel
theorem dX11_otherwise_137 : decode cX11_otherwise 137 = .ok (.iload 6, 2) := by decide +kernel
theorem dX11_otherwise_139 : decode cX11_otherwise 139 = .ok (.if_icmp .ge 50, 3) := by decide +kernel
theorem dX11_otherwise_142 : decode cX11_otherwise 142 = .ok (.aload_n 0, 1) := by decide +kernel
theorem dX11_otherwise_143 : decode cX11_otherwise 143 = .ok (.iload 6, 2) := by decide +kernel
theorem dX11_otherwise_145 : decode cX11_otherwise 145 = .ok (.iload 7, 2) := by decide +kernel
theorem dX11_otherwise_147 : decode cX11_otherwise 147 = .ok (.iload 8, 2) := by decide +kernel
theorem dX11_otherwise_149 : decode cX11_otherwise 149 = .ok (.iload 4, 2) := by decide +kernel
theorem dX11_otherwise_151 : decode cX11_otherwise 151 = .ok (.iload_n 2, 1) := by decide +kernel
theorem dX11_otherwise_152 : decode cX11_otherwise 152 = .ok (.invokevirtual 337, 3) := by decide +kernel
theorem dX11_otherwise_155 : decode cX11_otherwise 155 = .ok (.ifCond .eq 28, 3) := by decide +kernel
theorem dX11_otherwise_158 : decode cX11_otherwise 158 = .ok (.iload 5, 2) := by decide +kernel
theorem dX11_otherwise_160 : decode cX11_otherwise 160 = .ok (.iload_n 3, 1) := by decide +kernel
theorem dX11_otherwise_161 : decode cX11_otherwise 161 = .ok (.if_icmp .ne 19, 3) := by decide +kernel
theorem dX11_otherwise_164 : decode cX11_otherwise 164 = .ok (.sipush 10000, 3) := by decide +kernel
theorem dX11_otherwise_167 : decode cX11_otherwise 167 = .ok (.iload 6, 2) := by decide +kernel
theorem dX11_otherwise_169 : decode cX11_otherwise 169 = .ok (.imul, 1) := by decide +kernel
theorem dX11_otherwise_170 : decode cX11_otherwise 170 = .ok (.bipush 100, 2) := by decide +kernel
theorem dX11_otherwise_172 : decode cX11_otherwise 172 = .ok (.iload 7, 2) := by decide +kernel
theorem dX11_otherwise_174 : decode cX11_otherwise 174 = .ok (.imul, 1) := by decide +kernel
theorem dX11_otherwise_175 : decode cX11_otherwise 175 = .ok (.iadd, 1) := by decide +kernel
theorem dX11_otherwise_176 : decode cX11_otherwise 176 = .ok (.iload 8, 2) := by decide +kernel
theorem dX11_otherwise_178 : decode cX11_otherwise 178 = .ok (.iadd, 1) := by decide +kernel
theorem dX11_otherwise_179 : decode cX11_otherwise 179 = .ok (.ireturn, 1) := by decide +kernel
theorem dX11_otherwise_180 : decode cX11_otherwise 180 = .ok (.iinc 5 1, 3) := by decide +kernel
theorem dX11_otherwise_183 : decode cX11_otherwise 183 = .ok (.iinc 8 1, 3) := by decide +kernel
theorem dX11_otherwise_186 : decode cX11_otherwise 186 = .ok (.goto (-51), 3) := by decide +kernel
theorem dX11_otherwise_189 : decode cX11_otherwise 189 = .ok (.iinc 7 1, 3) := by decide +kernel
theorem dX11_otherwise_192 : decode cX11_otherwise 192 = .ok (.goto (-67), 3) := by decide +kernel
theorem dX11_otherwise_195 : decode cX11_otherwise 195 = .ok (.iinc 6 1, 3) := by decide +kernel
theorem dX11_otherwise_198 : decode cX11_otherwise 198 = .ok (.goto (-88), 3) := by decide +kernel
theorem dX11_otherwise_201 : decode cX11_otherwise 201 = .ok (.iload_n 3, 1) := by decide +kernel
theorem dX11_otherwise_202 : decode cX11_otherwise 202 = .ok (.iconst (-1), 1) := by decide +kernel
theorem dX11_otherwise_203 : decode cX11_otherwise 203 = .ok (.if_icmp .ne 8, 3) := by decide +kernel
theorem dX11_otherwise_206 : decode cX11_otherwise 206 = .ok (.iload 5, 2) := by decide +kernel
theorem dX11_otherwise_208 : decode cX11_otherwise 208 = .ok (.goto 4, 3) := by decide +kernel
theorem dX11_otherwise_211 : decode cX11_otherwise 211 = .ok (.iconst (-1), 1) := by decide +kernel
theorem dX11_otherwise_212 : decode cX11_otherwise 212 = .ok (.ireturn, 1) := by decide +kernel
theorem dX11_isAs_0 : decode cX11_isAs 0 = .ok (.iconst 1, 1) := by decide +kernel
theorem dX11_isAs_1 : decode cX11_isAs 1 = .ok (.istore 6, 2) := by decide +kernel
theorem dX11_isAs_3 : decode cX11_isAs 3 = .ok (.iconst 0, 1) := by decide +kernel
theorem dX11_isAs_4 : decode cX11_isAs 4 = .ok (.istore 7, 2) := by decide +kernel
theorem dX11_isAs_6 : decode cX11_isAs 6 = .ok (.iload 7, 2) := by decide +kernel
theorem dX11_isAs_8 : decode cX11_isAs 8 = .ok (.bipush 20, 2) := by decide +kernel
theorem dX11_isAs_10 : decode cX11_isAs 10 = .ok (.if_icmp .ge 59, 3) := by decide +kernel
theorem dX11_isAs_13 : decode cX11_isAs 13 = .ok (.iload 6, 2) := by decide +kernel
theorem dX11_isAs_15 : decode cX11_isAs 15 = .ok (.ifCond .eq 54, 3) := by decide +kernel
theorem dX11_isAs_18 : decode cX11_isAs 18 = .ok (.aload_n 0, 1) := by decide +kernel
theorem dX11_isAs_19 : decode cX11_isAs 19 = .ok (.getfield 82, 3) := by decide +kernel
theorem dX11_isAs_22 : decode cX11_isAs 22 = .ok (.iload 7, 2) := by decide +kernel
theorem dX11_isAs_24 : decode cX11_isAs 24 = .ok (.iaload, 1) := by decide +kernel
theorem dX11_isAs_25 : decode cX11_isAs 25 = .ok (.iload 5, 2) := by decide +kernel
theorem dX11_isAs_27 : decode cX11_isAs 27 = .ok (.iload 7, 2) := by decide +kernel
theorem dX11_isAs_29 : decode cX11_isAs 29 = .ok (.aload_n 0, 1) := by decide +kernel
theorem dX11_isAs_30 : decode cX11_isAs 30 = .ok (.getfield 7, 3) := by decide +kernel
theorem dX11_isAs_33 : decode cX11_isAs 33 = .ok (.iconst 2, 1) := by decide +kernel
theorem dX11_isAs_34 : decode cX11_isAs 34 = .ok (.iaload, 1) := by decide +kernel
theorem dX11_isAs_35 : decode cX11_isAs 35 = .ok (.imul, 1) := by decide +kernel
theorem dX11_isAs_36 : decode cX11_isAs 36 = .ok (.iadd, 1) := by decide +kernel
theorem dX11_isAs_37 : decode cX11_isAs 37 = .ok (.iload_n 3, 1) := by decide +kernel
theorem dX11_isAs_38 : decode cX11_isAs 38 = .ok (.isub, 1) := by decide +kernel
theorem dX11_isAs_39 : decode cX11_isAs 39 = .ok (.iload_n 1, 1) := by decide +kernel
theorem dX11_isAs_40 : decode cX11_isAs 40 = .ok (.invokestatic 93, 3) := by decide +kernel
theorem dX11_isAs_43 : decode cX11_isAs 43 = .ok (.iload_n 2, 1) := by decide +kernel
theorem dX11_isAs_44 : decode cX11_isAs 44 = .ok (.if_icmp .ge 8, 3) := by decide +kernel
theorem dX11_isAs_47 : decode cX11_isAs 47 = .ok (.iload 4, 2) := by decide +kernel
theorem dX11_isAs_49 : decode cX11_isAs 49 = .ok (.goto 4, 3) := by decide +kernel
theorem dX11_isAs_52 : decode cX11_isAs 52 = .ok (.iconst 0, 1) := by decide +kernel
theorem dX11_isAs_53 : decode cX11_isAs 53 = .ok (.if_icmp .ne 7, 3) := by decide +kernel
theorem dX11_isAs_56 : decode cX11_isAs 56 = .ok (.iconst 1, 1) := by decide +kernel
theorem dX11_isAs_57 : decode cX11_isAs 57 = .ok (.goto 4, 3) := by decide +kernel
theorem dX11_isAs_60 : decode cX11_isAs 60 = .ok (.iconst 0, 1) := by decide +kernel
theorem dX11_isAs_61 : decode cX11_isAs 61 = .ok (.istore 6, 2) := by decide +kernel
theorem dX11_isAs_63 : decode cX11_isAs 63 = .ok (.iinc 7 1, 3) := by decide +kernel
theorem dX11_isAs_66 : decode cX11_isAs 66 = .ok (.goto (-60), 3) := by decide +kernel
theorem dX11_isAs_69 : decode cX11_isAs 69 = .ok (.iload 6, 2) := by decide +kernel
theorem dX11_isAs_71 : decode cX11_isAs 71 = .ok (.ireturn, 1) := by decide +kernel
theorem dX11_catches_0 : decode cX11_catches 0 = .ok (.iconst 0, 1) := by decide +kernel
theorem dX11_catches_1 : decode cX11_catches 1 = .ok (.istore 4, 2) := by decide +kernel
theorem dX11_catches_3 : decode cX11_catches 3 = .ok (.iconst 0, 1) := by decide +kernel
theorem dX11_catches_4 : decode cX11_catches 4 = .ok (.istore 5, 2) := by decide +kernel
theorem dX11_catches_6 : decode cX11_catches 6 = .ok (.iload 5, 2) := by decide +kernel
theorem dX11_catches_8 : decode cX11_catches 8 = .ok (.aload_n 0, 1) := by decide +kernel
theorem dX11_catches_9 : decode cX11_catches 9 = .ok (.getfield 283, 3) := by decide +kernel
theorem dX11_catches_12 : decode cX11_catches 12 = .ok (.if_icmp .ge 137, 3) := by decide +kernel
theorem dX11_catches_15 : decode cX11_catches 15 = .ok (.iconst 0, 1) := by decide +kernel
theorem dX11_catches_16 : decode cX11_catches 16 = .ok (.istore 6, 2) := by decide +kernel
theorem dX11_catches_18 : decode cX11_catches 18 = .ok (.iload 6, 2) := by decide +kernel
theorem dX11_catches_20 : decode cX11_catches 20 = .ok (.bipush 20, 2) := by decide +kernel
theorem dX11_catches_22 : decode cX11_catches 22 = .ok (.if_icmp .ge 121, 3) := by decide +kernel
theorem dX11_catches_25 : decode cX11_catches 25 = .ok (.aload_n 0, 1) := by decide +kernel
theorem dX11_catches_26 : decode cX11_catches 26 = .ok (.getfield 76, 3) := by decide +kernel
theorem dX11_catches_29 : decode cX11_catches 29 = .ok (.iload 5, 2) := by decide +kernel
theorem dX11_catches_31 : decode cX11_catches 31 = .ok (.iaload, 1) := by decide +kernel
theorem dX11_catches_32 : decode cX11_catches 32 = .ok (.iload 6, 2) := by decide +kernel
theorem dX11_catches_34 : decode cX11_catches 34 = .ok (.aload_n 0, 1) := by decide +kernel
theorem dX11_catches_35 : decode cX11_catches 35 = .ok (.getfield 7, 3) := by decide +kernel
theorem dX11_catches_38 : decode cX11_catches 38 = .ok (.iconst 2, 1) := by decide +kernel
theorem dX11_catches_39 : decode cX11_catches 39 = .ok (.iaload, 1) := by decide +kernel
theorem dX11_catches_40 : decode cX11_catches 40 = .ok (.imul, 1) := by decide +kernel
theorem dX11_catches_41 : decode cX11_catches 41 = .ok (.iadd, 1) := by decide +kernel
theorem dX11_catches_42 : decode cX11_catches 42 = .ok (.istore 7, 2) := by decide +kernel
theorem dX11_catches_44 : decode cX11_catches 44 = .ok (.iload 7, 2) := by decide +kernel
theorem dX11_catches_46 : decode cX11_catches 46 = .ok (.iload_n 3, 1) := by decide +kernel
theorem dX11_catches_47 : decode cX11_catches 47 = .ok (.if_icmp .ge 90, 3) := by decide +kernel
theorem dX11_catches_50 : decode cX11_catches 50 = .ok (.aload_n 0, 1) := by decide +kernel
theorem dX11_catches_51 : decode cX11_catches 51 = .ok (.iload 5, 2) := by decide +kernel
theorem dX11_catches_53 : decode cX11_catches 53 = .ok (.iload 7, 2) := by decide +kernel
theorem dX11_catches_55 : decode cX11_catches 55 = .ok (.invokevirtual 315, 3) := by decide +kernel
theorem dX11_catches_58 : decode cX11_catches 58 = .ok (.istore 8, 2) := by decide +kernel
theorem dX11_catches_60 : decode cX11_catches 60 = .ok (.aload_n 0, 1) := by decide +kernel
theorem dX11_catches_61 : decode cX11_catches 61 = .ok (.getfield 7, 3) := by decide +kernel
theorem dX11_catches_64 : decode cX11_catches 64 = .ok (.bipush 10, 2) := by decide +kernel
theorem dX11_catches_66 : decode cX11_catches 66 = .ok (.iload 8, 2) := by decide +kernel
theorem dX11_catches_68 : decode cX11_catches 68 = .ok (.iadd, 1) := by decide +kernel
theorem dX11_catches_69 : decode cX11_catches 69 = .ok (.iaload, 1) := by decide +kernel
theorem dX11_catches_70 : decode cX11_catches 70 = .ok (.iload_n 1, 1) := by decide +kernel
theorem dX11_catches_71 : decode cX11_catches 71 = .ok (.if_icmp .eq 24, 3) := by decide +kernel
theorem dX11_catches_74 : decode cX11_catches 74 = .ok (.aload_n 0, 1) := by decide +kernel
theorem dX11_catches_75 : decode cX11_catches 75 = .ok (.getfield 7, 3) := by decide +kernel
theorem dX11_catches_78 : decode cX11_catches 78 = .ok (.iconst 5, 1) := by decide +kernel
theorem dX11_catches_79 : decode cX11_catches 79 = .ok (.iaload, 1) := by decide +kernel
theorem dX11_catches_80 : decode cX11_catches 80 = .ok (.iconst 3, 1) := by decide +kernel
theorem dX11_catches_81 : decode cX11_catches 81 = .ok (.if_icmp .ne 18, 3) := by decide +kernel
theorem dX11_catches_84 : decode cX11_catches 84 = .ok (.aload_n 0, 1) := by decide +kernel
theorem dX11_catches_85 : decode cX11_catches 85 = .ok (.getfield 7, 3) := by decide +kernel
theorem dX11_catches_88 : decode cX11_catches 88 = .ok (.bipush 11, 2) := by decide +kernel
theorem dX11_catches_90 : decode cX11_catches 90 = .ok (.iaload, 1) := by decide +kernel
theorem dX11_catches_91 : decode cX11_catches 91 = .ok (.iload_n 1, 1) := by decide +kernel
theorem dX11_catches_92 : decode cX11_catches 92 = .ok (.if_icmp .ne 7, 3) := by decide +kernel
theorem dX11_catches_95 : decode cX11_catches 95 = .ok (.iconst 1, 1) := by decide +kernel
theorem dX11_catches_96 : decode cX11_catches 96 = .ok (.goto 4, 3) := by decide +kernel
theorem dX11_catches_99 : decode cX11_catches 99 = .ok (.iconst 0, 1) := by decide +kernel
theorem dX11_catches_100 : decode cX11_catches 100 = .ok (.istore 9, 2) := by decide +kernel
theorem dX11_catches_102 : decode cX11_catches 102 = .ok (.iload 4, 2) := by decide +kernel
theorem dX11_catches_104 : decode cX11_catches 104 = .ok (.ifCond .ne 26, 3) := by decide +kernel
theorem dX11_catches_107 : decode cX11_catches 107 = .ok (.iload 9, 2) := by decide +kernel
theorem dX11_catches_109 : decode cX11_catches 109 = .ok (.ifCond .eq 25, 3) := by decide +kernel
theorem dX11_catches_112 : decode cX11_catches 112 = .ok (.aload_n 0, 1) := by decide +kernel
theorem dX11_catches_113 : decode cX11_catches 113 = .ok (.iload_n 2, 1) := by decide +kernel
theorem dX11_catches_114 : decode cX11_catches 114 = .ok (.iload 7, 2) := by decide +kernel
theorem dX11_catches_116 : decode cX11_catches 116 = .ok (.invokevirtual 105, 3) := by decide +kernel
theorem dX11_catches_119 : decode cX11_catches 119 = .ok (.aload_n 0, 1) := by decide +kernel
theorem dX11_catches_120 : decode cX11_catches 120 = .ok (.getfield 7, 3) := by decide +kernel
theorem dX11_catches_123 : decode cX11_catches 123 = .ok (.iload_n 2, 1) := by decide +kernel
theorem dX11_catches_124 : decode cX11_catches 124 = .ok (.iconst 3, 1) := by decide +kernel
theorem dX11_catches_125 : decode cX11_catches 125 = .ok (.iadd, 1) := by decide +kernel
theorem dX11_catches_126 : decode cX11_catches 126 = .ok (.iaload, 1) := by decide +kernel
theorem dX11_catches_127 : decode cX11_catches 127 = .ok (.if_icmp .ge 7, 3) := by decide +kernel
theorem dX11_catches_130 : decode cX11_catches 130 = .ok (.iconst 1, 1) := by decide +kernel
theorem dX11_catches_131 : decode cX11_catches 131 = .ok (.goto 4, 3) := by decide +kernel
theorem dX11_catches_134 : decode cX11_catches 134 = .ok (.iconst 0, 1) := by decide +kernel
theorem dX11_catches_135 : decode cX11_catches 135 = .ok (.istore 4, 2) := by decide +kernel
theorem dX11_catches_137 : decode cX11_catches 137 = .ok (.iinc 6 1, 3) := by decide +kernel
theorem dX11_catches_140 : decode cX11_catches 140 = .ok (.goto (-122), 3) := by decide +kernel
theorem dX11_catches_143 : decode cX11_catches 143 = .ok (.iinc 5 1, 3) := by decide +kernel
theorem dX11_catches_146 : decode cX11_catches 146 = .ok (.goto (-140), 3) := by decide +kernel
theorem dX11_catches_149 : decode cX11_catches 149 = .ok (.iload 4, 2) := by decide +kernel
theorem dX11_catches_151 : decode cX11_catches 151 = .ok (.ireturn, 1) := by decide +kernel
theorem dX11_caught_0 : decode cX11_caught 0 = .ok (.iload_n 1, 1) := by decide +kernel
theorem dX11_caught_1 : decode cX11_caught 1 = .ok (.invokestatic 101, 3) := by decide +kernel
theorem dX11_caught_4 : decode cX11_caught 4 = .ok (.ifCond .eq 22, 3) := by decide +kernel
theorem dX11_caught_7 : decode cX11_caught 7 = .ok (.iload_n 2, 1) := by decide +kernel
theorem dX11_caught_8 : decode cX11_caught 8 = .ok (.invokestatic 301, 3) := by decide +kernel
theorem dX11_caught_11 : decode cX11_caught 11 = .ok (.ifCond .eq 15, 3) := by decide +kernel
theorem dX11_caught_14 : decode cX11_caught 14 = .ok (.aload_n 0, 1) := by decide +kernel
theorem dX11_caught_15 : decode cX11_caught 15 = .ok (.getfield 7, 3) := by decide +kernel
theorem dX11_caught_18 : decode cX11_caught 18 = .ok (.bipush 24, 2) := by decide +kernel
theorem dX11_caught_20 : decode cX11_caught 20 = .ok (.iload_n 1, 1) := by decide +kernel
theorem dX11_caught_21 : decode cX11_caught 21 = .ok (.iadd, 1) := by decide +kernel
theorem dX11_caught_22 : decode cX11_caught 22 = .ok (.iaload, 1) := by decide +kernel
theorem dX11_caught_23 : decode cX11_caught 23 = .ok (.ifCond .ne 5, 3) := by decide +kernel
theorem dX11_caught_26 : decode cX11_caught 26 = .ok (.iconst (-1), 1) := by decide +kernel
theorem dX11_caught_27 : decode cX11_caught 27 = .ok (.ireturn, 1) := by decide +kernel
theorem dX11_caught_28 : decode cX11_caught 28 = .ok (.bipush 30, 2) := by decide +kernel
theorem dX11_caught_30 : decode cX11_caught 30 = .ok (.bipush 30, 2) := by decide +kernel
theorem dX11_caught_32 : decode cX11_caught 32 = .ok (.iload_n 1, 1) := by decide +kernel
theorem dX11_caught_33 : decode cX11_caught 33 = .ok (.imul, 1) := by decide +kernel
theorem dX11_caught_34 : decode cX11_caught 34 = .ok (.iadd, 1) := by decide +kernel
theorem dX11_caught_35 : decode cX11_caught 35 = .ok (.iconst 5, 1) := by decide +kernel
theorem dX11_caught_36 : decode cX11_caught 36 = .ok (.aload_n 0, 1) := by decide +kernel
theorem dX11_caught_37 : decode cX11_caught 37 = .ok (.getfield 7, 3) := by decide +kernel
theorem dX11_caught_40 : decode cX11_caught 40 = .ok (.bipush 24, 2) := by decide +kernel
theorem dX11_caught_42 : decode cX11_caught 42 = .ok (.iload_n 1, 1) := by decide +kernel
theorem dX11_caught_43 : decode cX11_caught 43 = .ok (.iadd, 1) := by decide +kernel
theorem dX11_caught_44 : decode cX11_caught 44 = .ok (.iaload, 1) := by decide +kernel
theorem dX11_caught_45 : decode cX11_caught 45 = .ok (.imul, 1) := by decide +kernel
theorem dX11_caught_46 : decode cX11_caught 46 = .ok (.iadd, 1) := by decide +kernel
theorem dX11_caught_47 : decode cX11_caught 47 = .ok (.iconst 5, 1) := by decide +kernel
theorem dX11_caught_48 : decode cX11_caught 48 = .ok (.isub, 1) := by decide +kernel
theorem dX11_caught_49 : decode cX11_caught 49 = .ok (.istore_n 3, 1) := by decide +kernel
theorem dX11_caught_50 : decode cX11_caught 50 = .ok (.aload_n 0, 1) := by decide +kernel
theorem dX11_caught_51 : decode cX11_caught 51 = .ok (.getfield 7, 3) := by decide +kernel
theorem dX11_caught_54 : decode cX11_caught 54 = .ok (.iload_n 3, 1) := by decide +kernel
theorem dX11_caught_55 : decode cX11_caught 55 = .ok (.iconst 0, 1) := by decide +kernel
theorem dX11_caught_56 : decode cX11_caught 56 = .ok (.iadd, 1) := by decide +kernel
theorem dX11_caught_57 : decode cX11_caught 57 = .ok (.iaload, 1) := by decide +kernel
theorem dX11_caught_58 : decode cX11_caught 58 = .ok (.iconst 1, 1) := by decide +kernel
theorem dX11_caught_59 : decode cX11_caught 59 = .ok (.if_icmp .eq 5, 3) := by decide +kernel
theorem dX11_caught_62 : decode cX11_caught 62 = .ok (.iconst (-1), 1) := by decide +kernel
theorem dX11_caught_63 : decode cX11_caught 63 = .ok (.ireturn, 1) := by decide +kernel
theorem dX11_caught_64 : decode cX11_caught 64 = .ok (.aload_n 0, 1) := by decide +kernel
theorem dX11_caught_65 : decode cX11_caught 65 = .ok (.getfield 7, 3) := by decide +kernel
theorem dX11_caught_68 : decode cX11_caught 68 = .ok (.iload_n 3, 1) := by decide +kernel
theorem dX11_caught_69 : decode cX11_caught 69 = .ok (.iconst 4, 1) := by decide +kernel
theorem dX11_caught_70 : decode cX11_caught 70 = .ok (.iadd, 1) := by decide +kernel
theorem dX11_caught_71 : decode cX11_caught 71 = .ok (.iaload, 1) := by decide +kernel
theorem dX11_caught_72 : decode cX11_caught 72 = .ok (.istore 4, 2) := by decide +kernel
theorem dX11_caught_74 : decode cX11_caught 74 = .ok (.iconst 0, 1) := by decide +kernel
theorem dX11_caught_75 : decode cX11_caught 75 = .ok (.istore 5, 2) := by decide +kernel
theorem dX11_caught_77 : decode cX11_caught 77 = .ok (.iconst 0, 1) := by decide +kernel
theorem dX11_caught_78 : decode cX11_caught 78 = .ok (.istore 6, 2) := by decide +kernel
theorem dX11_caught_80 : decode cX11_caught 80 = .ok (.iload 6, 2) := by decide +kernel
theorem dX11_caught_82 : decode cX11_caught 82 = .ok (.aload_n 0, 1) := by decide +kernel
theorem dX11_caught_83 : decode cX11_caught 83 = .ok (.getfield 7, 3) := by decide +kernel
theorem dX11_caught_86 : decode cX11_caught 86 = .ok (.iload_n 3, 1) := by decide +kernel
theorem dX11_caught_87 : decode cX11_caught 87 = .ok (.iconst 2, 1) := by decide +kernel
theorem dX11_caught_88 : decode cX11_caught 88 = .ok (.iadd, 1) := by decide +kernel
theorem dX11_caught_89 : decode cX11_caught 89 = .ok (.iaload, 1) := by decide +kernel
theorem dX11_caught_90 : decode cX11_caught 90 = .ok (.if_icmp .ge 48, 3) := by decide +kernel
theorem dX11_caught_93 : decode cX11_caught 93 = .ok (.aload_n 0, 1) := by decide +kernel
theorem dX11_caught_94 : decode cX11_caught 94 = .ok (.getfield 7, 3) := by decide +kernel
theorem dX11_caught_97 : decode cX11_caught 97 = .ok (.iload_n 3, 1) := by decide +kernel
theorem dX11_caught_98 : decode cX11_caught 98 = .ok (.iconst 4, 1) := by decide +kernel
theorem dX11_caught_99 : decode cX11_caught 99 = .ok (.iadd, 1) := by decide +kernel
theorem dX11_caught_100 : decode cX11_caught 100 = .ok (.iload 6, 2) := by decide +kernel
theorem dX11_caught_102 : decode cX11_caught 102 = .ok (.iastore, 1) := by decide +kernel
theorem dX11_caught_103 : decode cX11_caught 103 = .ok (.aload_n 0, 1) := by decide +kernel
theorem dX11_caught_104 : decode cX11_caught 104 = .ok (.invokevirtual 304, 3) := by decide +kernel
theorem dX11_caught_107 : decode cX11_caught 107 = .ok (.aload_n 0, 1) := by decide +kernel
theorem dX11_caught_108 : decode cX11_caught 108 = .ok (.iload_n 2, 1) := by decide +kernel
theorem dX11_caught_109 : decode cX11_caught 109 = .ok (.invokevirtual 307, 3) := by decide +kernel
theorem dX11_caught_112 : decode cX11_caught 112 = .ok (.iload 5, 2) := by decide +kernel
theorem dX11_caught_114 : decode cX11_caught 114 = .ok (.aload_n 0, 1) := by decide +kernel
theorem dX11_caught_115 : decode cX11_caught 115 = .ok (.iload_n 1, 1) := by decide +kernel
theorem dX11_caught_116 : decode cX11_caught 116 = .ok (.iload_n 3, 1) := by decide +kernel
theorem dX11_caught_117 : decode cX11_caught 117 = .ok (.iload_n 2, 1) := by decide +kernel
theorem dX11_caught_118 : decode cX11_caught 118 = .ok (.invokevirtual 341, 3) := by decide +kernel
theorem dX11_caught_121 : decode cX11_caught 121 = .ok (.ifCond .eq 7, 3) := by decide +kernel
theorem dX11_caught_124 : decode cX11_caught 124 = .ok (.iconst 1, 1) := by decide +kernel
theorem dX11_caught_125 : decode cX11_caught 125 = .ok (.goto 4, 3) := by decide +kernel
theorem dX11_caught_128 : decode cX11_caught 128 = .ok (.iconst 0, 1) := by decide +kernel
theorem dX11_caught_129 : decode cX11_caught 129 = .ok (.iadd, 1) := by decide +kernel
theorem dX11_caught_130 : decode cX11_caught 130 = .ok (.istore 5, 2) := by decide +kernel
theorem dX11_caught_132 : decode cX11_caught 132 = .ok (.iinc 6 1, 3) := by decide +kernel
theorem dX11_caught_135 : decode cX11_caught 135 = .ok (.goto (-55), 3) := by decide +kernel
theorem dX11_caught_138 : decode cX11_caught 138 = .ok (.aload_n 0, 1) := by decide +kernel
theorem dX11_caught_139 : decode cX11_caught 139 = .ok (.getfield 7, 3) := by decide +kernel
theorem dX11_caught_142 : decode cX11_caught 142 = .ok (.iload_n 3, 1) := by decide +kernel
theorem dX11_caught_143 : decode cX11_caught 143 = .ok (.iconst 4, 1) := by decide +kernel
theorem dX11_caught_144 : decode cX11_caught 144 = .ok (.iadd, 1) := by decide +kernel
theorem dX11_caught_145 : decode cX11_caught 145 = .ok (.iload 4, 2) := by decide +kernel
theorem dX11_caught_147 : decode cX11_caught 147 = .ok (.iastore, 1) := by decide +kernel
theorem dX11_caught_148 : decode cX11_caught 148 = .ok (.iload 5, 2) := by decide +kernel
theorem dX11_caught_150 : decode cX11_caught 150 = .ok (.ireturn, 1) := by decide +kernel
theorem dX11_photo_0 : decode cX11_photo 0 = .ok (.iload_n 1, 1) := by decide +kernel
theorem dX11_photo_1 : decode cX11_photo 1 = .ok (.iconst 0, 1) := by decide +kernel
theorem dX11_photo_2 : decode cX11_photo 2 = .ok (.bipush 19, 2) := by decide +kernel
theorem dX11_photo_4 : decode cX11_photo 4 = .ok (.invokestatic 97, 3) := by decide +kernel
theorem dX11_photo_7 : decode cX11_photo 7 = .ok (.ifCond .eq 14, 3) := by decide +kernel
theorem dX11_photo_10 : decode cX11_photo 10 = .ok (.iload_n 2, 1) := by decide +kernel
theorem dX11_photo_11 : decode cX11_photo 11 = .ok (.iconst 0, 1) := by decide +kernel
theorem dX11_photo_12 : decode cX11_photo 12 = .ok (.ldc_w 344, 3) := by decide +kernel
theorem dX11_photo_15 : decode cX11_photo 15 = .ok (.invokestatic 97, 3) := by decide +kernel
theorem dX11_photo_18 : decode cX11_photo 18 = .ok (.ifCond .ne 5, 3) := by decide +kernel
theorem dX11_photo_21 : decode cX11_photo 21 = .ok (.iconst 0, 1) := by decide +kernel
theorem dX11_photo_22 : decode cX11_photo 22 = .ok (.ireturn, 1) := by decide +kernel
theorem dX11_photo_23 : decode cX11_photo 23 = .ok (.aload_n 0, 1) := by decide +kernel
theorem dX11_photo_24 : decode cX11_photo 24 = .ok (.getfield 7, 3) := by decide +kernel
theorem dX11_photo_27 : decode cX11_photo 27 = .ok (.sipush 150, 3) := by decide +kernel
theorem dX11_photo_30 : decode cX11_photo 30 = .ok (.iload_n 1, 1) := by decide +kernel
theorem dX11_photo_31 : decode cX11_photo 31 = .ok (.iadd, 1) := by decide +kernel
theorem dX11_photo_32 : decode cX11_photo 32 = .ok (.iload_n 2, 1) := by decide +kernel
theorem dX11_photo_33 : decode cX11_photo 33 = .ok (.iastore, 1) := by decide +kernel
theorem dX11_photo_34 : decode cX11_photo 34 = .ok (.iconst 1, 1) := by decide +kernel
theorem dX11_photo_35 : decode cX11_photo 35 = .ok (.ireturn, 1) := by decide +kernel
theorem dX11_shoot_0 : decode cX11_shoot 0 = .ok (.iload_n 1, 1) := by decide +kernel
theorem dX11_shoot_1 : decode cX11_shoot 1 = .ok (.invokestatic 301, 3) := by decide +kernel
theorem dX11_shoot_4 : decode cX11_shoot 4 = .ok (.ifCond .eq 10, 3) := by decide +kernel
theorem dX11_shoot_7 : decode cX11_shoot 7 = .ok (.iload_n 2, 1) := by decide +kernel
theorem dX11_shoot_8 : decode cX11_shoot 8 = .ok (.invokestatic 328, 3) := by decide +kernel
theorem dX11_shoot_11 : decode cX11_shoot 11 = .ok (.ifCond .ne 5, 3) := by decide +kernel
theorem dX11_shoot_14 : decode cX11_shoot 14 = .ok (.iconst (-1), 1) := by decide +kernel
theorem dX11_shoot_15 : decode cX11_shoot 15 = .ok (.ireturn, 1) := by decide +kernel
theorem dX11_shoot_16 : decode cX11_shoot 16 = .ok (.aload_n 0, 1) := by decide +kernel
theorem dX11_shoot_17 : decode cX11_shoot 17 = .ok (.iload_n 1, 1) := by decide +kernel
theorem dX11_shoot_18 : decode cX11_shoot 18 = .ok (.invokevirtual 325, 3) := by decide +kernel
theorem dX11_shoot_21 : decode cX11_shoot 21 = .ok (.iconst 0, 1) := by decide +kernel
theorem dX11_shoot_22 : decode cX11_shoot 22 = .ok (.istore_n 3, 1) := by decide +kernel
theorem dX11_shoot_23 : decode cX11_shoot 23 = .ok (.iload_n 3, 1) := by decide +kernel
theorem dX11_shoot_24 : decode cX11_shoot 24 = .ok (.bipush 20, 2) := by decide +kernel
theorem dX11_shoot_26 : decode cX11_shoot 26 = .ok (.if_icmp .ge 25, 3) := by decide +kernel
theorem dX11_shoot_29 : decode cX11_shoot 29 = .ok (.aload_n 0, 1) := by decide +kernel
theorem dX11_shoot_30 : decode cX11_shoot 30 = .ok (.getfield 7, 3) := by decide +kernel
theorem dX11_shoot_33 : decode cX11_shoot 33 = .ok (.sipush 150, 3) := by decide +kernel
theorem dX11_shoot_36 : decode cX11_shoot 36 = .ok (.iload_n 3, 1) := by decide +kernel
theorem dX11_shoot_37 : decode cX11_shoot 37 = .ok (.iadd, 1) := by decide +kernel
theorem dX11_shoot_38 : decode cX11_shoot 38 = .ok (.aload_n 0, 1) := by decide +kernel
theorem dX11_shoot_39 : decode cX11_shoot 39 = .ok (.iload_n 3, 1) := by decide +kernel
theorem dX11_shoot_40 : decode cX11_shoot 40 = .ok (.iload_n 2, 1) := by decide +kernel
theorem dX11_shoot_41 : decode cX11_shoot 41 = .ok (.invokevirtual 334, 3) := by decide +kernel
theorem dX11_shoot_44 : decode cX11_shoot 44 = .ok (.iastore, 1) := by decide +kernel
theorem dX11_shoot_45 : decode cX11_shoot 45 = .ok (.iinc 3 1, 3) := by decide +kernel
theorem dX11_shoot_48 : decode cX11_shoot 48 = .ok (.goto (-25), 3) := by decide +kernel
theorem dX11_shoot_51 : decode cX11_shoot 51 = .ok (.aload_n 0, 1) := by decide +kernel
theorem dX11_shoot_52 : decode cX11_shoot 52 = .ok (.iload_n 2, 1) := by decide +kernel
theorem dX11_shoot_53 : decode cX11_shoot 53 = .ok (.invokevirtual 331, 3) := by decide +kernel
theorem dX11_shoot_56 : decode cX11_shoot 56 = .ok (.ireturn, 1) := by decide +kernel
theorem dX11_isPhoto_0 : decode cX11_isPhoto 0 = .ok (.iconst 1, 1) := by decide +kernel
theorem dX11_isPhoto_1 : decode cX11_isPhoto 1 = .ok (.istore_n 2, 1) := by decide +kernel
theorem dX11_isPhoto_2 : decode cX11_isPhoto 2 = .ok (.iconst 0, 1) := by decide +kernel
theorem dX11_isPhoto_3 : decode cX11_isPhoto 3 = .ok (.istore_n 3, 1) := by decide +kernel
theorem dX11_isPhoto_4 : decode cX11_isPhoto 4 = .ok (.iload_n 3, 1) := by decide +kernel
theorem dX11_isPhoto_5 : decode cX11_isPhoto 5 = .ok (.bipush 20, 2) := by decide +kernel
theorem dX11_isPhoto_7 : decode cX11_isPhoto 7 = .ok (.if_icmp .ge 38, 3) := by decide +kernel
theorem dX11_isPhoto_10 : decode cX11_isPhoto 10 = .ok (.iload_n 2, 1) := by decide +kernel
theorem dX11_isPhoto_11 : decode cX11_isPhoto 11 = .ok (.ifCond .eq 34, 3) := by decide +kernel
theorem dX11_isPhoto_14 : decode cX11_isPhoto 14 = .ok (.aload_n 0, 1) := by decide +kernel
theorem dX11_isPhoto_15 : decode cX11_isPhoto 15 = .ok (.iload_n 3, 1) := by decide +kernel
theorem dX11_isPhoto_16 : decode cX11_isPhoto 16 = .ok (.iload_n 1, 1) := by decide +kernel
theorem dX11_isPhoto_17 : decode cX11_isPhoto 17 = .ok (.invokevirtual 334, 3) := by decide +kernel
theorem dX11_isPhoto_20 : decode cX11_isPhoto 20 = .ok (.aload_n 0, 1) := by decide +kernel
theorem dX11_isPhoto_21 : decode cX11_isPhoto 21 = .ok (.getfield 7, 3) := by decide +kernel
theorem dX11_isPhoto_24 : decode cX11_isPhoto 24 = .ok (.sipush 150, 3) := by decide +kernel
theorem dX11_isPhoto_27 : decode cX11_isPhoto 27 = .ok (.iload_n 3, 1) := by decide +kernel
theorem dX11_isPhoto_28 : decode cX11_isPhoto 28 = .ok (.iadd, 1) := by decide +kernel
theorem dX11_isPhoto_29 : decode cX11_isPhoto 29 = .ok (.iaload, 1) := by decide +kernel
theorem dX11_isPhoto_30 : decode cX11_isPhoto 30 = .ok (.if_icmp .ne 7, 3) := by decide +kernel
theorem dX11_isPhoto_33 : decode cX11_isPhoto 33 = .ok (.iconst 1, 1) := by decide +kernel
theorem dX11_isPhoto_34 : decode cX11_isPhoto 34 = .ok (.goto 4, 3) := by decide +kernel
theorem dX11_isPhoto_37 : decode cX11_isPhoto 37 = .ok (.iconst 0, 1) := by decide +kernel
theorem dX11_isPhoto_38 : decode cX11_isPhoto 38 = .ok (.istore_n 2, 1) := by decide +kernel
theorem dX11_isPhoto_39 : decode cX11_isPhoto 39 = .ok (.iinc 3 1, 3) := by decide +kernel
theorem dX11_isPhoto_42 : decode cX11_isPhoto 42 = .ok (.goto (-38), 3) := by decide +kernel
theorem dX11_isPhoto_45 : decode cX11_isPhoto 45 = .ok (.iload_n 2, 1) := by decide +kernel
theorem dX11_isPhoto_46 : decode cX11_isPhoto 46 = .ok (.ireturn, 1) := by decide +kernel
theorem dX11_gainOf_0 : decode cX11_gainOf 0 = .ok (.iload_n 0, 1) := by decide +kernel
theorem dX11_gainOf_1 : decode cX11_gainOf 1 = .ok (.iconst 3, 1) := by decide +kernel
theorem dX11_gainOf_2 : decode cX11_gainOf 2 = .ok (.idiv, 1) := by decide +kernel
theorem dX11_gainOf_3 : decode cX11_gainOf 3 = .ok (.ifCond .ne 7, 3) := by decide +kernel
theorem dX11_gainOf_6 : decode cX11_gainOf 6 = .ok (.iconst 1, 1) := by decide +kernel
theorem dX11_gainOf_7 : decode cX11_gainOf 7 = .ok (.goto 17, 3) := by decide +kernel
theorem dX11_gainOf_10 : decode cX11_gainOf 10 = .ok (.iload_n 0, 1) := by decide +kernel
theorem dX11_gainOf_11 : decode cX11_gainOf 11 = .ok (.iconst 3, 1) := by decide +kernel
theorem dX11_gainOf_12 : decode cX11_gainOf 12 = .ok (.idiv, 1) := by decide +kernel
theorem dX11_gainOf_13 : decode cX11_gainOf 13 = .ok (.iconst 1, 1) := by decide +kernel
theorem dX11_gainOf_14 : decode cX11_gainOf 14 = .ok (.if_icmp .ne 8, 3) := by decide +kernel
theorem dX11_gainOf_17 : decode cX11_gainOf 17 = .ok (.bipush 10, 2) := by decide +kernel
theorem dX11_gainOf_19 : decode cX11_gainOf 19 = .ok (.goto 5, 3) := by decide +kernel
theorem dX11_gainOf_22 : decode cX11_gainOf 22 = .ok (.bipush 100, 2) := by decide +kernel
theorem dX11_gainOf_24 : decode cX11_gainOf 24 = .ok (.istore_n 1, 1) := by decide +kernel
theorem dX11_gainOf_25 : decode cX11_gainOf 25 = .ok (.iload_n 1, 1) := by decide +kernel
theorem dX11_gainOf_26 : decode cX11_gainOf 26 = .ok (.iload_n 0, 1) := by decide +kernel
theorem dX11_gainOf_27 : decode cX11_gainOf 27 = .ok (.iconst 3, 1) := by decide +kernel
theorem dX11_gainOf_28 : decode cX11_gainOf 28 = .ok (.irem, 1) := by decide +kernel
theorem dX11_gainOf_29 : decode cX11_gainOf 29 = .ok (.ifCond .ne 7, 3) := by decide +kernel
theorem dX11_gainOf_32 : decode cX11_gainOf 32 = .ok (.iconst 1, 1) := by decide +kernel
theorem dX11_gainOf_33 : decode cX11_gainOf 33 = .ok (.goto 15, 3) := by decide +kernel
theorem dX11_gainOf_36 : decode cX11_gainOf 36 = .ok (.iload_n 0, 1) := by decide +kernel
theorem dX11_gainOf_37 : decode cX11_gainOf 37 = .ok (.iconst 3, 1) := by decide +kernel
theorem dX11_gainOf_38 : decode cX11_gainOf 38 = .ok (.irem, 1) := by decide +kernel
theorem dX11_gainOf_39 : decode cX11_gainOf 39 = .ok (.iconst 1, 1) := by decide +kernel
theorem dX11_gainOf_40 : decode cX11_gainOf 40 = .ok (.if_icmp .ne 7, 3) := by decide +kernel
theorem dX11_gainOf_43 : decode cX11_gainOf 43 = .ok (.iconst 2, 1) := by decide +kernel
theorem dX11_gainOf_44 : decode cX11_gainOf 44 = .ok (.goto 4, 3) := by decide +kernel
theorem dX11_gainOf_47 : decode cX11_gainOf 47 = .ok (.iconst 5, 1) := by decide +kernel
theorem dX11_gainOf_48 : decode cX11_gainOf 48 = .ok (.imul, 1) := by decide +kernel
theorem dX11_gainOf_49 : decode cX11_gainOf 49 = .ok (.ireturn, 1) := by decide +kernel
theorem dX11_settings_0 : decode cX11_settings 0 = .ok (.iload_n 1, 1) := by decide +kernel
theorem dX11_settings_1 : decode cX11_settings 1 = .ok (.invokestatic 301, 3) := by decide +kernel
theorem dX11_settings_4 : decode cX11_settings 4 = .ok (.ifCond .eq 15, 3) := by decide +kernel
theorem dX11_settings_7 : decode cX11_settings 7 = .ok (.iload_n 2, 1) := by decide +kernel
theorem dX11_settings_8 : decode cX11_settings 8 = .ok (.invokestatic 328, 3) := by decide +kernel
theorem dX11_settings_11 : decode cX11_settings 11 = .ok (.ifCond .eq 8, 3) := by decide +kernel
theorem dX11_settings_14 : decode cX11_settings 14 = .ok (.iload_n 3, 1) := by decide +kernel
theorem dX11_settings_15 : decode cX11_settings 15 = .ok (.iconst (-1), 1) := by decide +kernel
theorem dX11_settings_16 : decode cX11_settings 16 = .ok (.if_icmp .ge 5, 3) := by decide +kernel
theorem dX11_settings_19 : decode cX11_settings 19 = .ok (.iconst (-1), 1) := by decide +kernel
theorem dX11_settings_20 : decode cX11_settings 20 = .ok (.ireturn, 1) := by decide +kernel
theorem dX11_settings_21 : decode cX11_settings 21 = .ok (.aload_n 0, 1) := by decide +kernel
theorem dX11_settings_22 : decode cX11_settings 22 = .ok (.getfield 7, 3) := by decide +kernel
theorem dX11_settings_25 : decode cX11_settings 25 = .ok (.iconst 2, 1) := by decide +kernel
theorem dX11_settings_26 : decode cX11_settings 26 = .ok (.iaload, 1) := by decide +kernel
theorem dX11_settings_27 : decode cX11_settings 27 = .ok (.istore 4, 2) := by decide +kernel
theorem dX11_settings_29 : decode cX11_settings 29 = .ok (.aload_n 0, 1) := by decide +kernel
theorem dX11_settings_30 : decode cX11_settings 30 = .ok (.getfield 7, 3) := by decide +kernel
theorem dX11_settings_33 : decode cX11_settings 33 = .ok (.bipush 12, 2) := by decide +kernel
theorem dX11_settings_35 : decode cX11_settings 35 = .ok (.iaload, 1) := by decide +kernel
theorem dX11_settings_36 : decode cX11_settings 36 = .ok (.istore 5, 2) := by decide +kernel
theorem dX11_settings_38 : decode cX11_settings 38 = .ok (.iconst 0, 1) := by decide +kernel
theorem dX11_settings_39 : decode cX11_settings 39 = .ok (.istore 6, 2) := by decide +kernel
theorem dX11_settings_41 : decode cX11_settings 41 = .ok (.iconst (-1), 1) := by decide +kernel
theorem dX11_settings_42 : decode cX11_settings 42 = .ok (.istore 7, 2) := by decide +kernel
theorem dX11_settings_44 : decode cX11_settings 44 = .ok (.aload_n 0, 1) := by decide +kernel
theorem dX11_settings_45 : decode cX11_settings 45 = .ok (.invokevirtual 304, 3) := by decide +kernel
theorem dX11_settings_48 : decode cX11_settings 48 = .ok (.iconst 1, 1) := by decide +kernel
theorem dX11_settings_49 : decode cX11_settings 49 = .ok (.istore 8, 2) := by decide +kernel
theorem dX11_settings_51 : decode cX11_settings 51 = .ok (.iload 8, 2) := by decide +kernel
theorem dX11_settings_53 : decode cX11_settings 53 = .ok (.bipush 21, 2) := by decide +kernel
theorem dX11_settings_55 : decode cX11_settings 55 = .ok (.if_icmp .ge 91, 3) := by decide +kernel
theorem dX11_settings_58 : decode cX11_settings 58 = .ok (.aload_n 0, 1) := by decide +kernel
theorem dX11_settings_59 : decode cX11_settings 59 = .ok (.getfield 7, 3) := by decide +kernel
theorem dX11_settings_62 : decode cX11_settings 62 = .ok (.iconst 2, 1) := by decide +kernel
theorem dX11_settings_63 : decode cX11_settings 63 = .ok (.iload 8, 2) := by decide +kernel
theorem dX11_settings_65 : decode cX11_settings 65 = .ok (.iastore, 1) := by decide +kernel
theorem dX11_settings_66 : decode cX11_settings 66 = .ok (.aload_n 0, 1) := by decide +kernel
theorem dX11_settings_67 : decode cX11_settings 67 = .ok (.iload_n 1, 1) := by decide +kernel
theorem dX11_settings_68 : decode cX11_settings 68 = .ok (.invokevirtual 307, 3) := by decide +kernel
theorem dX11_settings_71 : decode cX11_settings 71 = .ok (.iconst 0, 1) := by decide +kernel
theorem dX11_settings_72 : decode cX11_settings 72 = .ok (.istore 9, 2) := by decide +kernel
theorem dX11_settings_74 : decode cX11_settings 74 = .ok (.iload 9, 2) := by decide +kernel
theorem dX11_settings_76 : decode cX11_settings 76 = .ok (.bipush 8, 2) := by decide +kernel
theorem dX11_settings_78 : decode cX11_settings 78 = .ok (.if_icmp .ge 62, 3) := by decide +kernel
theorem dX11_settings_81 : decode cX11_settings 81 = .ok (.aload_n 0, 1) := by decide +kernel
theorem dX11_settings_82 : decode cX11_settings 82 = .ok (.getfield 7, 3) := by decide +kernel
theorem dX11_settings_85 : decode cX11_settings 85 = .ok (.bipush 12, 2) := by decide +kernel
theorem dX11_settings_87 : decode cX11_settings 87 = .ok (.iload 9, 2) := by decide +kernel
theorem dX11_settings_89 : decode cX11_settings 89 = .ok (.invokestatic 345, 3) := by decide +kernel
theorem dX11_settings_92 : decode cX11_settings 92 = .ok (.iastore, 1) := by decide +kernel
theorem dX11_settings_93 : decode cX11_settings 93 = .ok (.aload_n 0, 1) := by decide +kernel
theorem dX11_settings_94 : decode cX11_settings 94 = .ok (.iload_n 1, 1) := by decide +kernel
theorem dX11_settings_95 : decode cX11_settings 95 = .ok (.invokevirtual 322, 3) := by decide +kernel
theorem dX11_settings_98 : decode cX11_settings 98 = .ok (.aload_n 0, 1) := by decide +kernel
theorem dX11_settings_99 : decode cX11_settings 99 = .ok (.iload_n 2, 1) := by decide +kernel
theorem dX11_settings_100 : decode cX11_settings 100 = .ok (.invokevirtual 348, 3) := by decide +kernel
theorem dX11_settings_103 : decode cX11_settings 103 = .ok (.ifCond .eq 31, 3) := by decide +kernel
theorem dX11_settings_106 : decode cX11_settings 106 = .ok (.iload 6, 2) := by decide +kernel
theorem dX11_settings_108 : decode cX11_settings 108 = .ok (.iload_n 3, 1) := by decide +kernel
theorem dX11_settings_109 : decode cX11_settings 109 = .ok (.if_icmp .ne 18, 3) := by decide +kernel
theorem dX11_settings_112 : decode cX11_settings 112 = .ok (.sipush 1000, 3) := by decide +kernel
theorem dX11_settings_115 : decode cX11_settings 115 = .ok (.iload 8, 2) := by decide +kernel
theorem dX11_settings_117 : decode cX11_settings 117 = .ok (.imul, 1) := by decide +kernel
theorem dX11_settings_118 : decode cX11_settings 118 = .ok (.iload 9, 2) := by decide +kernel
theorem dX11_settings_120 : decode cX11_settings 120 = .ok (.invokestatic 345, 3) := by decide +kernel
theorem dX11_settings_123 : decode cX11_settings 123 = .ok (.iadd, 1) := by decide +kernel
theorem dX11_settings_124 : decode cX11_settings 124 = .ok (.goto 5, 3) := by decide +kernel
theorem dX11_settings_127 : decode cX11_settings 127 = .ok (.iload 7, 2) := by decide +kernel
theorem dX11_settings_129 : decode cX11_settings 129 = .ok (.istore 7, 2) := by decide +kernel
theorem dX11_settings_131 : decode cX11_settings 131 = .ok (.iinc 6 1, 3) := by decide +kernel
theorem dX11_settings_134 : decode cX11_settings 134 = .ok (.iinc 9 1, 3) := by decide +kernel
theorem dX11_settings_137 : decode cX11_settings 137 = .ok (.goto (-63), 3) := by decide +kernel
theorem dX11_settings_140 : decode cX11_settings 140 = .ok (.iinc 8 1, 3) := by decide +kernel
theorem dX11_settings_143 : decode cX11_settings 143 = .ok (.goto (-92), 3) := by decide +kernel
theorem dX11_settings_146 : decode cX11_settings 146 = .ok (.aload_n 0, 1) := by decide +kernel
theorem dX11_settings_147 : decode cX11_settings 147 = .ok (.getfield 7, 3) := by decide +kernel
theorem dX11_settings_150 : decode cX11_settings 150 = .ok (.iconst 2, 1) := by decide +kernel
theorem dX11_settings_151 : decode cX11_settings 151 = .ok (.iload 4, 2) := by decide +kernel
theorem dX11_settings_153 : decode cX11_settings 153 = .ok (.iastore, 1) := by decide +kernel
theorem dX11_settings_154 : decode cX11_settings 154 = .ok (.aload_n 0, 1) := by decide +kernel
theorem dX11_settings_155 : decode cX11_settings 155 = .ok (.getfield 7, 3) := by decide +kernel
theorem dX11_settings_158 : decode cX11_settings 158 = .ok (.bipush 12, 2) := by decide +kernel
theorem dX11_settings_160 : decode cX11_settings 160 = .ok (.iload 5, 2) := by decide +kernel
theorem dX11_settings_162 : decode cX11_settings 162 = .ok (.iastore, 1) := by decide +kernel
theorem dX11_settings_163 : decode cX11_settings 163 = .ok (.iload_n 3, 1) := by decide +kernel
theorem dX11_settings_164 : decode cX11_settings 164 = .ok (.iconst (-1), 1) := by decide +kernel
theorem dX11_settings_165 : decode cX11_settings 165 = .ok (.if_icmp .ne 8, 3) := by decide +kernel
theorem dX11_settings_168 : decode cX11_settings 168 = .ok (.iload 6, 2) := by decide +kernel
theorem dX11_settings_170 : decode cX11_settings 170 = .ok (.goto 5, 3) := by decide +kernel
theorem dX11_settings_173 : decode cX11_settings 173 = .ok (.iload 7, 2) := by decide +kernel
theorem dX11_settings_175 : decode cX11_settings 175 = .ok (.ireturn, 1) := by decide +kernel
theorem dX11_risen_0 : decode cX11_risen 0 = .ok (.iload_n 2, 1) := by decide +kernel
theorem dX11_risen_1 : decode cX11_risen 1 = .ok (.istore 6, 2) := by decide +kernel
theorem dX11_risen_3 : decode cX11_risen 3 = .ok (.iload 6, 2) := by decide +kernel
theorem dX11_risen_5 : decode cX11_risen 5 = .ok (.iload_n 3, 1) := by decide +kernel
theorem dX11_risen_6 : decode cX11_risen 6 = .ok (.if_icmp .ge 52, 3) := by decide +kernel
theorem dX11_risen_9 : decode cX11_risen 9 = .ok (.bipush 10, 2) := by decide +kernel
theorem dX11_risen_11 : decode cX11_risen 11 = .ok (.aload_n 0, 1) := by decide +kernel
theorem dX11_risen_12 : decode cX11_risen 12 = .ok (.getfield 42, 3) := by decide +kernel
theorem dX11_risen_15 : decode cX11_risen 15 = .ok (.sipush 2000, 3) := by decide +kernel
theorem dX11_risen_18 : decode cX11_risen 18 = .ok (.iload_n 1, 1) := by decide +kernel
theorem dX11_risen_19 : decode cX11_risen 19 = .ok (.imul, 1) := by decide +kernel
theorem dX11_risen_20 : decode cX11_risen 20 = .ok (.iload 6, 2) := by decide +kernel
theorem dX11_risen_22 : decode cX11_risen 22 = .ok (.iadd, 1) := by decide +kernel
theorem dX11_risen_23 : decode cX11_risen 23 = .ok (.iaload, 1) := by decide +kernel
theorem dX11_risen_24 : decode cX11_risen 24 = .ok (.aload_n 0, 1) := by decide +kernel
theorem dX11_risen_25 : decode cX11_risen 25 = .ok (.getfield 351, 3) := by decide +kernel
theorem dX11_risen_28 : decode cX11_risen 28 = .ok (.isub, 1) := by decide +kernel
theorem dX11_risen_29 : decode cX11_risen 29 = .ok (.imul, 1) := by decide +kernel
theorem dX11_risen_30 : decode cX11_risen 30 = .ok (.iload 5, 2) := by decide +kernel
theorem dX11_risen_32 : decode cX11_risen 32 = .ok (.aload_n 0, 1) := by decide +kernel
theorem dX11_risen_33 : decode cX11_risen 33 = .ok (.getfield 354, 3) := by decide +kernel
theorem dX11_risen_36 : decode cX11_risen 36 = .ok (.aload_n 0, 1) := by decide +kernel
theorem dX11_risen_37 : decode cX11_risen 37 = .ok (.getfield 351, 3) := by decide +kernel
theorem dX11_risen_40 : decode cX11_risen 40 = .ok (.isub, 1) := by decide +kernel
theorem dX11_risen_41 : decode cX11_risen 41 = .ok (.imul, 1) := by decide +kernel
theorem dX11_risen_42 : decode cX11_risen 42 = .ok (.if_icmp .lt 6, 3) := by decide +kernel
theorem dX11_risen_45 : decode cX11_risen 45 = .ok (.iload 6, 2) := by decide +kernel
theorem dX11_risen_47 : decode cX11_risen 47 = .ok (.ireturn, 1) := by decide +kernel
theorem dX11_risen_48 : decode cX11_risen 48 = .ok (.iload 6, 2) := by decide +kernel
theorem dX11_risen_50 : decode cX11_risen 50 = .ok (.iload 4, 2) := by decide +kernel
theorem dX11_risen_52 : decode cX11_risen 52 = .ok (.iadd, 1) := by decide +kernel
theorem dX11_risen_53 : decode cX11_risen 53 = .ok (.istore 6, 2) := by decide +kernel
theorem dX11_risen_55 : decode cX11_risen 55 = .ok (.goto (-52), 3) := by decide +kernel
theorem dX11_risen_58 : decode cX11_risen 58 = .ok (.iconst (-1), 1) := by decide +kernel
theorem dX11_risen_59 : decode cX11_risen 59 = .ok (.ireturn, 1) := by decide +kernel
theorem dX11_measure_0 : decode cX11_measure 0 = .ok (.iload_n 1, 1) := by decide +kernel
theorem dX11_measure_1 : decode cX11_measure 1 = .ok (.invokestatic 115, 3) := by decide +kernel
theorem dX11_measure_4 : decode cX11_measure 4 = .ok (.ifCond .eq 37, 3) := by decide +kernel
theorem dX11_measure_7 : decode cX11_measure 7 = .ok (.iload_n 2, 1) := by decide +kernel
theorem dX11_measure_8 : decode cX11_measure 8 = .ok (.iconst 0, 1) := by decide +kernel
theorem dX11_measure_9 : decode cX11_measure 9 = .ok (.sipush 1999, 3) := by decide +kernel
theorem dX11_measure_12 : decode cX11_measure 12 = .ok (.invokestatic 97, 3) := by decide +kernel
theorem dX11_measure_15 : decode cX11_measure 15 = .ok (.ifCond .eq 26, 3) := by decide +kernel
theorem dX11_measure_18 : decode cX11_measure 18 = .ok (.iload_n 3, 1) := by decide +kernel
theorem dX11_measure_19 : decode cX11_measure 19 = .ok (.iload_n 2, 1) := by decide +kernel
theorem dX11_measure_20 : decode cX11_measure 20 = .ok (.iconst 1, 1) := by decide +kernel
theorem dX11_measure_21 : decode cX11_measure 21 = .ok (.iadd, 1) := by decide +kernel
theorem dX11_measure_22 : decode cX11_measure 22 = .ok (.sipush 2000, 3) := by decide +kernel
theorem dX11_measure_25 : decode cX11_measure 25 = .ok (.invokestatic 97, 3) := by decide +kernel
theorem dX11_measure_28 : decode cX11_measure 28 = .ok (.ifCond .eq 13, 3) := by decide +kernel
theorem dX11_measure_31 : decode cX11_measure 31 = .ok (.iload 4, 2) := by decide +kernel
theorem dX11_measure_33 : decode cX11_measure 33 = .ok (.iconst 0, 1) := by decide +kernel
theorem dX11_measure_34 : decode cX11_measure 34 = .ok (.iconst 5, 1) := by decide +kernel
theorem dX11_measure_35 : decode cX11_measure 35 = .ok (.invokestatic 97, 3) := by decide +kernel
theorem dX11_measure_38 : decode cX11_measure 38 = .ok (.ifCond .ne 6, 3) := by decide +kernel
theorem dX11_measure_41 : decode cX11_measure 41 = .ok (.ldc 114, 2) := by decide +kernel
theorem dX11_measure_43 : decode cX11_measure 43 = .ok (.ireturn, 1) := by decide +kernel
theorem dX11_measure_44 : decode cX11_measure 44 = .ok (.aload_n 0, 1) := by decide +kernel
theorem dX11_measure_45 : decode cX11_measure 45 = .ok (.iload_n 1, 1) := by decide +kernel
theorem dX11_measure_46 : decode cX11_measure 46 = .ok (.invokevirtual 118, 3) := by decide +kernel
theorem dX11_measure_49 : decode cX11_measure 49 = .ok (.aload_n 0, 1) := by decide +kernel
theorem dX11_measure_50 : decode cX11_measure 50 = .ok (.aload_n 0, 1) := by decide +kernel
theorem dX11_measure_51 : decode cX11_measure 51 = .ok (.getfield 42, 3) := by decide +kernel
theorem dX11_measure_54 : decode cX11_measure 54 = .ok (.sipush 2000, 3) := by decide +kernel
theorem dX11_measure_57 : decode cX11_measure 57 = .ok (.iload_n 1, 1) := by decide +kernel
theorem dX11_measure_58 : decode cX11_measure 58 = .ok (.imul, 1) := by decide +kernel
theorem dX11_measure_59 : decode cX11_measure 59 = .ok (.iload_n 2, 1) := by decide +kernel
theorem dX11_measure_60 : decode cX11_measure 60 = .ok (.iadd, 1) := by decide +kernel
theorem dX11_measure_61 : decode cX11_measure 61 = .ok (.iaload, 1) := by decide +kernel
theorem dX11_measure_62 : decode cX11_measure 62 = .ok (.putfield 351, 3) := by decide +kernel
theorem dX11_measure_65 : decode cX11_measure 65 = .ok (.aload_n 0, 1) := by decide +kernel
theorem dX11_measure_66 : decode cX11_measure 66 = .ok (.aload_n 0, 1) := by decide +kernel
theorem dX11_measure_67 : decode cX11_measure 67 = .ok (.getfield 351, 3) := by decide +kernel
theorem dX11_measure_70 : decode cX11_measure 70 = .ok (.putfield 354, 3) := by decide +kernel
theorem dX11_measure_73 : decode cX11_measure 73 = .ok (.iload_n 2, 1) := by decide +kernel
theorem dX11_measure_74 : decode cX11_measure 74 = .ok (.istore 5, 2) := by decide +kernel
theorem dX11_measure_76 : decode cX11_measure 76 = .ok (.iload 5, 2) := by decide +kernel
theorem dX11_measure_78 : decode cX11_measure 78 = .ok (.iload_n 3, 1) := by decide +kernel
theorem dX11_measure_79 : decode cX11_measure 79 = .ok (.if_icmp .ge 68, 3) := by decide +kernel
theorem dX11_measure_82 : decode cX11_measure 82 = .ok (.aload_n 0, 1) := by decide +kernel
theorem dX11_measure_83 : decode cX11_measure 83 = .ok (.getfield 42, 3) := by decide +kernel
theorem dX11_measure_86 : decode cX11_measure 86 = .ok (.sipush 2000, 3) := by decide +kernel
theorem dX11_measure_89 : decode cX11_measure 89 = .ok (.iload_n 1, 1) := by decide +kernel
theorem dX11_measure_90 : decode cX11_measure 90 = .ok (.imul, 1) := by decide +kernel
theorem dX11_measure_91 : decode cX11_measure 91 = .ok (.iload 5, 2) := by decide +kernel
theorem dX11_measure_93 : decode cX11_measure 93 = .ok (.iadd, 1) := by decide +kernel
theorem dX11_measure_94 : decode cX11_measure 94 = .ok (.iaload, 1) := by decide +kernel
theorem dX11_measure_95 : decode cX11_measure 95 = .ok (.istore 6, 2) := by decide +kernel
theorem dX11_measure_97 : decode cX11_measure 97 = .ok (.aload_n 0, 1) := by decide +kernel
theorem dX11_measure_98 : decode cX11_measure 98 = .ok (.iload 6, 2) := by decide +kernel
theorem dX11_measure_100 : decode cX11_measure 100 = .ok (.aload_n 0, 1) := by decide +kernel
theorem dX11_measure_101 : decode cX11_measure 101 = .ok (.getfield 351, 3) := by decide +kernel
theorem dX11_measure_104 : decode cX11_measure 104 = .ok (.if_icmp .ge 8, 3) := by decide +kernel
theorem dX11_measure_107 : decode cX11_measure 107 = .ok (.iload 6, 2) := by decide +kernel
theorem dX11_measure_109 : decode cX11_measure 109 = .ok (.goto 7, 3) := by decide +kernel
theorem dX11_measure_112 : decode cX11_measure 112 = .ok (.aload_n 0, 1) := by decide +kernel
theorem dX11_measure_113 : decode cX11_measure 113 = .ok (.getfield 351, 3) := by decide +kernel
theorem dX11_measure_116 : decode cX11_measure 116 = .ok (.putfield 351, 3) := by decide +kernel
theorem dX11_measure_119 : decode cX11_measure 119 = .ok (.aload_n 0, 1) := by decide +kernel
theorem dX11_measure_120 : decode cX11_measure 120 = .ok (.iload 6, 2) := by decide +kernel
theorem dX11_measure_122 : decode cX11_measure 122 = .ok (.aload_n 0, 1) := by decide +kernel
theorem dX11_measure_123 : decode cX11_measure 123 = .ok (.getfield 354, 3) := by decide +kernel
theorem dX11_measure_126 : decode cX11_measure 126 = .ok (.if_icmp .le 8, 3) := by decide +kernel
theorem dX11_measure_129 : decode cX11_measure 129 = .ok (.iload 6, 2) := by decide +kernel
theorem dX11_measure_131 : decode cX11_measure 131 = .ok (.goto 7, 3) := by decide +kernel
theorem dX11_measure_134 : decode cX11_measure 134 = .ok (.aload_n 0, 1) := by decide +kernel
theorem dX11_measure_135 : decode cX11_measure 135 = .ok (.getfield 354, 3) := by decide +kernel
theorem dX11_measure_138 : decode cX11_measure 138 = .ok (.putfield 354, 3) := by decide +kernel
theorem dX11_measure_141 : decode cX11_measure 141 = .ok (.iinc 5 1, 3) := by decide +kernel
theorem dX11_measure_144 : decode cX11_measure 144 = .ok (.goto (-68), 3) := by decide +kernel
theorem dX11_measure_147 : decode cX11_measure 147 = .ok (.iload 4, 2) := by decide +kernel
theorem dX11_measure_149 : decode cX11_measure 149 = .ok (.iconst 2, 1) := by decide +kernel
theorem dX11_measure_150 : decode cX11_measure 150 = .ok (.if_icmp .ge 20, 3) := by decide +kernel
theorem dX11_measure_153 : decode cX11_measure 153 = .ok (.iload 4, 2) := by decide +kernel
theorem dX11_measure_155 : decode cX11_measure 155 = .ok (.ifCond .ne 10, 3) := by decide +kernel
theorem dX11_measure_158 : decode cX11_measure 158 = .ok (.aload_n 0, 1) := by decide +kernel
theorem dX11_measure_159 : decode cX11_measure 159 = .ok (.getfield 351, 3) := by decide +kernel
theorem dX11_measure_162 : decode cX11_measure 162 = .ok (.goto 7, 3) := by decide +kernel
theorem dX11_measure_165 : decode cX11_measure 165 = .ok (.aload_n 0, 1) := by decide +kernel
theorem dX11_measure_166 : decode cX11_measure 166 = .ok (.getfield 354, 3) := by decide +kernel
theorem dX11_measure_169 : decode cX11_measure 169 = .ok (.ireturn, 1) := by decide +kernel
theorem dX11_measure_170 : decode cX11_measure 170 = .ok (.iload 4, 2) := by decide +kernel
theorem dX11_measure_172 : decode cX11_measure 172 = .ok (.iconst 3, 1) := by decide +kernel
theorem dX11_measure_173 : decode cX11_measure 173 = .ok (.if_icmp .ne 61, 3) := by decide +kernel
theorem dX11_measure_176 : decode cX11_measure 176 = .ok (.iconst 0, 1) := by decide +kernel
theorem dX11_measure_177 : decode cX11_measure 177 = .ok (.istore 5, 2) := by decide +kernel
theorem dX11_measure_179 : decode cX11_measure 179 = .ok (.iload_n 2, 1) := by decide +kernel
theorem dX11_measure_180 : decode cX11_measure 180 = .ok (.istore 6, 2) := by decide +kernel
theorem dX11_measure_182 : decode cX11_measure 182 = .ok (.iload 6, 2) := by decide +kernel
theorem dX11_measure_184 : decode cX11_measure 184 = .ok (.iload_n 3, 1) := by decide +kernel
theorem dX11_measure_185 : decode cX11_measure 185 = .ok (.if_icmp .ge 46, 3) := by decide +kernel
theorem dX11_measure_188 : decode cX11_measure 188 = .ok (.iload 5, 2) := by decide +kernel
theorem dX11_measure_190 : decode cX11_measure 190 = .ok (.iconst 2, 1) := by decide +kernel
theorem dX11_measure_191 : decode cX11_measure 191 = .ok (.aload_n 0, 1) := by decide +kernel
theorem dX11_measure_192 : decode cX11_measure 192 = .ok (.getfield 42, 3) := by decide +kernel
theorem dX11_measure_195 : decode cX11_measure 195 = .ok (.sipush 2000, 3) := by decide +kernel
theorem dX11_measure_198 : decode cX11_measure 198 = .ok (.iload_n 1, 1) := by decide +kernel
theorem dX11_measure_199 : decode cX11_measure 199 = .ok (.imul, 1) := by decide +kernel
theorem dX11_measure_200 : decode cX11_measure 200 = .ok (.iload 6, 2) := by decide +kernel
theorem dX11_measure_202 : decode cX11_measure 202 = .ok (.iadd, 1) := by decide +kernel
theorem dX11_measure_203 : decode cX11_measure 203 = .ok (.iaload, 1) := by decide +kernel
theorem dX11_measure_204 : decode cX11_measure 204 = .ok (.imul, 1) := by decide +kernel
theorem dX11_measure_205 : decode cX11_measure 205 = .ok (.aload_n 0, 1) := by decide +kernel
theorem dX11_measure_206 : decode cX11_measure 206 = .ok (.getfield 351, 3) := by decide +kernel
theorem dX11_measure_209 : decode cX11_measure 209 = .ok (.aload_n 0, 1) := by decide +kernel
theorem dX11_measure_210 : decode cX11_measure 210 = .ok (.getfield 354, 3) := by decide +kernel
theorem dX11_measure_213 : decode cX11_measure 213 = .ok (.iadd, 1) := by decide +kernel
theorem dX11_measure_214 : decode cX11_measure 214 = .ok (.if_icmp .lt 7, 3) := by decide +kernel
theorem dX11_measure_217 : decode cX11_measure 217 = .ok (.iconst 1, 1) := by decide +kernel
theorem dX11_measure_218 : decode cX11_measure 218 = .ok (.goto 4, 3) := by decide +kernel
theorem dX11_measure_221 : decode cX11_measure 221 = .ok (.iconst 0, 1) := by decide +kernel
theorem dX11_measure_222 : decode cX11_measure 222 = .ok (.iadd, 1) := by decide +kernel
theorem dX11_measure_223 : decode cX11_measure 223 = .ok (.istore 5, 2) := by decide +kernel
theorem dX11_measure_225 : decode cX11_measure 225 = .ok (.iinc 6 1, 3) := by decide +kernel
theorem dX11_measure_228 : decode cX11_measure 228 = .ok (.goto (-46), 3) := by decide +kernel
theorem dX11_measure_231 : decode cX11_measure 231 = .ok (.iload 5, 2) := by decide +kernel
theorem dX11_measure_233 : decode cX11_measure 233 = .ok (.ireturn, 1) := by decide +kernel
theorem dX11_measure_234 : decode cX11_measure 234 = .ok (.iload 4, 2) := by decide +kernel
theorem dX11_measure_236 : decode cX11_measure 236 = .ok (.iconst 2, 1) := by decide +kernel
theorem dX11_measure_237 : decode cX11_measure 237 = .ok (.if_icmp .ne 7, 3) := by decide +kernel
theorem dX11_measure_240 : decode cX11_measure 240 = .ok (.iconst 1, 1) := by decide +kernel
theorem dX11_measure_241 : decode cX11_measure 241 = .ok (.goto 9, 3) := by decide +kernel
theorem dX11_measure_244 : decode cX11_measure 244 = .ok (.aload_n 0, 1) := by decide +kernel
theorem dX11_measure_245 : decode cX11_measure 245 = .ok (.getfield 7, 3) := by decide +kernel
theorem dX11_measure_248 : decode cX11_measure 248 = .ok (.iconst 2, 1) := by decide +kernel
theorem dX11_measure_249 : decode cX11_measure 249 = .ok (.iaload, 1) := by decide +kernel
theorem dX11_measure_250 : decode cX11_measure 250 = .ok (.istore 5, 2) := by decide +kernel
theorem dX11_measure_252 : decode cX11_measure 252 = .ok (.aload_n 0, 1) := by decide +kernel
theorem dX11_measure_253 : decode cX11_measure 253 = .ok (.iload_n 1, 1) := by decide +kernel
theorem dX11_measure_254 : decode cX11_measure 254 = .ok (.iload_n 2, 1) := by decide +kernel
theorem dX11_measure_255 : decode cX11_measure 255 = .ok (.iload_n 3, 1) := by decide +kernel
theorem dX11_measure_256 : decode cX11_measure 256 = .ok (.iload 5, 2) := by decide +kernel
theorem dX11_measure_258 : decode cX11_measure 258 = .ok (.iconst 1, 1) := by decide +kernel
theorem dX11_measure_259 : decode cX11_measure 259 = .ok (.invokevirtual 357, 3) := by decide +kernel
theorem dX11_measure_262 : decode cX11_measure 262 = .ok (.istore 6, 2) := by decide +kernel
theorem dX11_measure_264 : decode cX11_measure 264 = .ok (.aload_n 0, 1) := by decide +kernel
theorem dX11_measure_265 : decode cX11_measure 265 = .ok (.iload_n 1, 1) := by decide +kernel
theorem dX11_measure_266 : decode cX11_measure 266 = .ok (.iload_n 2, 1) := by decide +kernel
theorem dX11_measure_267 : decode cX11_measure 267 = .ok (.iload_n 3, 1) := by decide +kernel
theorem dX11_measure_268 : decode cX11_measure 268 = .ok (.iload 5, 2) := by decide +kernel
theorem dX11_measure_270 : decode cX11_measure 270 = .ok (.bipush 9, 2) := by decide +kernel
theorem dX11_measure_272 : decode cX11_measure 272 = .ok (.invokevirtual 357, 3) := by decide +kernel
theorem dX11_measure_275 : decode cX11_measure 275 = .ok (.istore 7, 2) := by decide +kernel
theorem dX11_measure_277 : decode cX11_measure 277 = .ok (.iload 6, 2) := by decide +kernel
theorem dX11_measure_279 : decode cX11_measure 279 = .ok (.iconst (-1), 1) := by decide +kernel
theorem dX11_measure_280 : decode cX11_measure 280 = .ok (.if_icmp .eq 9, 3) := by decide +kernel
theorem dX11_measure_283 : decode cX11_measure 283 = .ok (.iload 7, 2) := by decide +kernel
theorem dX11_measure_285 : decode cX11_measure 285 = .ok (.iconst (-1), 1) := by decide +kernel
theorem dX11_measure_286 : decode cX11_measure 286 = .ok (.if_icmp .ne 6, 3) := by decide +kernel
theorem dX11_measure_289 : decode cX11_measure 289 = .ok (.ldc 114, 2) := by decide +kernel
theorem dX11_measure_291 : decode cX11_measure 291 = .ok (.ireturn, 1) := by decide +kernel
theorem dX11_measure_292 : decode cX11_measure 292 = .ok (.iload 7, 2) := by decide +kernel
theorem dX11_measure_294 : decode cX11_measure 294 = .ok (.iload 6, 2) := by decide +kernel
theorem dX11_measure_296 : decode cX11_measure 296 = .ok (.isub, 1) := by decide +kernel
theorem dX11_measure_297 : decode cX11_measure 297 = .ok (.istore 8, 2) := by decide +kernel
theorem dX11_measure_299 : decode cX11_measure 299 = .ok (.iload 8, 2) := by decide +kernel
theorem dX11_measure_301 : decode cX11_measure 301 = .ok (.iload 5, 2) := by decide +kernel
theorem dX11_measure_303 : decode cX11_measure 303 = .ok (.isub, 1) := by decide +kernel
theorem dX11_measure_304 : decode cX11_measure 304 = .ok (.iconst 1, 1) := by decide +kernel
theorem dX11_measure_305 : decode cX11_measure 305 = .ok (.iadd, 1) := by decide +kernel
theorem dX11_measure_306 : decode cX11_measure 306 = .ok (.istore 9, 2) := by decide +kernel
theorem dX11_measure_308 : decode cX11_measure 308 = .ok (.iload 4, 2) := by decide +kernel
theorem dX11_measure_310 : decode cX11_measure 310 = .ok (.iconst 2, 1) := by decide +kernel
theorem dX11_measure_311 : decode cX11_measure 311 = .ok (.if_icmp .ne 8, 3) := by decide +kernel
theorem dX11_measure_314 : decode cX11_measure 314 = .ok (.iload 8, 2) := by decide +kernel
theorem dX11_measure_316 : decode cX11_measure 316 = .ok (.goto 30, 3) := by decide +kernel
theorem dX11_measure_319 : decode cX11_measure 319 = .ok (.iload 4, 2) := by decide +kernel
theorem dX11_measure_321 : decode cX11_measure 321 = .ok (.iconst 4, 1) := by decide +kernel
theorem dX11_measure_322 : decode cX11_measure 322 = .ok (.if_icmp .ne 17, 3) := by decide +kernel
theorem dX11_measure_325 : decode cX11_measure 325 = .ok (.iload 9, 2) := by decide +kernel
theorem dX11_measure_327 : decode cX11_measure 327 = .ok (.ifCond .ge 7, 3) := by decide +kernel
theorem dX11_measure_330 : decode cX11_measure 330 = .ok (.iconst 0, 1) := by decide +kernel
theorem dX11_measure_331 : decode cX11_measure 331 = .ok (.goto 15, 3) := by decide +kernel
theorem dX11_measure_334 : decode cX11_measure 334 = .ok (.iload 9, 2) := by decide +kernel
theorem dX11_measure_336 : decode cX11_measure 336 = .ok (.goto 10, 3) := by decide +kernel
theorem dX11_measure_339 : decode cX11_measure 339 = .ok (.iload 8, 2) := by decide +kernel
theorem dX11_measure_341 : decode cX11_measure 341 = .ok (.iload 5, 2) := by decide +kernel
theorem dX11_measure_343 : decode cX11_measure 343 = .ok (.iadd, 1) := by decide +kernel
theorem dX11_measure_344 : decode cX11_measure 344 = .ok (.iconst 1, 1) := by decide +kernel
theorem dX11_measure_345 : decode cX11_measure 345 = .ok (.isub, 1) := by decide +kernel
theorem dX11_measure_346 : decode cX11_measure 346 = .ok (.ireturn, 1) := by decide +kernel
theorem dX11_parting_0 : decode cX11_parting 0 = .ok (.iload_n 1, 1) := by decide +kernel
theorem dX11_parting_1 : decode cX11_parting 1 = .ok (.invokestatic 101, 3) := by decide +kernel
theorem dX11_parting_4 : decode cX11_parting 4 = .ok (.ifCond .eq 27, 3) := by decide +kernel
theorem dX11_parting_7 : decode cX11_parting 7 = .ok (.iload_n 2, 1) := by decide +kernel
theorem dX11_parting_8 : decode cX11_parting 8 = .ok (.invokestatic 101, 3) := by decide +kernel
theorem dX11_parting_11 : decode cX11_parting 11 = .ok (.ifCond .eq 20, 3) := by decide +kernel
theorem dX11_parting_14 : decode cX11_parting 14 = .ok (.iload_n 3, 1) := by decide +kernel
theorem dX11_parting_15 : decode cX11_parting 15 = .ok (.invokestatic 301, 3) := by decide +kernel
theorem dX11_parting_18 : decode cX11_parting 18 = .ok (.ifCond .eq 13, 3) := by decide +kernel
theorem dX11_parting_21 : decode cX11_parting 21 = .ok (.iload 4, 2) := by decide +kernel
theorem dX11_parting_23 : decode cX11_parting 23 = .ok (.iconst 0, 1) := by decide +kernel
theorem dX11_parting_24 : decode cX11_parting 24 = .ok (.iconst 1, 1) := by decide +kernel
theorem dX11_parting_25 : decode cX11_parting 25 = .ok (.invokestatic 97, 3) := by decide +kernel
theorem dX11_parting_28 : decode cX11_parting 28 = .ok (.ifCond .ne 5, 3) := by decide +kernel
theorem dX11_parting_31 : decode cX11_parting 31 = .ok (.iconst (-1), 1) := by decide +kernel
theorem dX11_parting_32 : decode cX11_parting 32 = .ok (.ireturn, 1) := by decide +kernel
theorem dX11_parting_33 : decode cX11_parting 33 = .ok (.aload_n 0, 1) := by decide +kernel
theorem dX11_parting_34 : decode cX11_parting 34 = .ok (.getfield 7, 3) := by decide +kernel
theorem dX11_parting_37 : decode cX11_parting 37 = .ok (.iconst 2, 1) := by decide +kernel
theorem dX11_parting_38 : decode cX11_parting 38 = .ok (.iaload, 1) := by decide +kernel
theorem dX11_parting_39 : decode cX11_parting 39 = .ok (.istore 5, 2) := by decide +kernel
theorem dX11_parting_41 : decode cX11_parting 41 = .ok (.aload_n 0, 1) := by decide +kernel
theorem dX11_parting_42 : decode cX11_parting 42 = .ok (.getfield 7, 3) := by decide +kernel
theorem dX11_parting_45 : decode cX11_parting 45 = .ok (.bipush 10, 2) := by decide +kernel
theorem dX11_parting_47 : decode cX11_parting 47 = .ok (.iaload, 1) := by decide +kernel
theorem dX11_parting_48 : decode cX11_parting 48 = .ok (.istore 6, 2) := by decide +kernel
theorem dX11_parting_50 : decode cX11_parting 50 = .ok (.iconst (-1), 1) := by decide +kernel
theorem dX11_parting_51 : decode cX11_parting 51 = .ok (.istore 7, 2) := by decide +kernel
theorem dX11_parting_53 : decode cX11_parting 53 = .ok (.iconst (-1), 1) := by decide +kernel
theorem dX11_parting_54 : decode cX11_parting 54 = .ok (.istore 8, 2) := by decide +kernel
theorem dX11_parting_56 : decode cX11_parting 56 = .ok (.iconst 1, 1) := by decide +kernel
theorem dX11_parting_57 : decode cX11_parting 57 = .ok (.istore 9, 2) := by decide +kernel
theorem dX11_parting_59 : decode cX11_parting 59 = .ok (.iload 9, 2) := by decide +kernel
theorem dX11_parting_61 : decode cX11_parting 61 = .ok (.bipush 21, 2) := by decide +kernel
theorem dX11_parting_63 : decode cX11_parting 63 = .ok (.if_icmp .ge 152, 3) := by decide +kernel
theorem dX11_parting_66 : decode cX11_parting 66 = .ok (.aload_n 0, 1) := by decide +kernel
theorem dX11_parting_67 : decode cX11_parting 67 = .ok (.getfield 7, 3) := by decide +kernel
theorem dX11_parting_70 : decode cX11_parting 70 = .ok (.iconst 2, 1) := by decide +kernel
theorem dX11_parting_71 : decode cX11_parting 71 = .ok (.iload 9, 2) := by decide +kernel
theorem dX11_parting_73 : decode cX11_parting 73 = .ok (.iastore, 1) := by decide +kernel
theorem dX11_parting_74 : decode cX11_parting 74 = .ok (.aload_n 0, 1) := by decide +kernel
theorem dX11_parting_75 : decode cX11_parting 75 = .ok (.getfield 7, 3) := by decide +kernel
theorem dX11_parting_78 : decode cX11_parting 78 = .ok (.bipush 10, 2) := by decide +kernel
theorem dX11_parting_80 : decode cX11_parting 80 = .ok (.iload_n 1, 1) := by decide +kernel
theorem dX11_parting_81 : decode cX11_parting 81 = .ok (.iastore, 1) := by decide +kernel
theorem dX11_parting_82 : decode cX11_parting 82 = .ok (.aload_n 0, 1) := by decide +kernel
theorem dX11_parting_83 : decode cX11_parting 83 = .ok (.iload_n 3, 1) := by decide +kernel
theorem dX11_parting_84 : decode cX11_parting 84 = .ok (.invokevirtual 325, 3) := by decide +kernel
theorem dX11_parting_87 : decode cX11_parting 87 = .ok (.iconst 0, 1) := by decide +kernel
theorem dX11_parting_88 : decode cX11_parting 88 = .ok (.istore 10, 2) := by decide +kernel
theorem dX11_parting_90 : decode cX11_parting 90 = .ok (.iload 10, 2) := by decide +kernel
theorem dX11_parting_92 : decode cX11_parting 92 = .ok (.sipush 320, 3) := by decide +kernel
theorem dX11_parting_95 : decode cX11_parting 95 = .ok (.if_icmp .ge 31, 3) := by decide +kernel
theorem dX11_parting_98 : decode cX11_parting 98 = .ok (.aload_n 0, 1) := by decide +kernel
theorem dX11_parting_99 : decode cX11_parting 99 = .ok (.getfield 85, 3) := by decide +kernel
theorem dX11_parting_102 : decode cX11_parting 102 = .ok (.iload 10, 2) := by decide +kernel
theorem dX11_parting_104 : decode cX11_parting 104 = .ok (.aload_n 0, 1) := by decide +kernel
theorem dX11_parting_105 : decode cX11_parting 105 = .ok (.getfield 79, 3) := by decide +kernel
theorem dX11_parting_108 : decode cX11_parting 108 = .ok (.iload 10, 2) := by decide +kernel
theorem dX11_parting_110 : decode cX11_parting 110 = .ok (.iaload, 1) := by decide +kernel
theorem dX11_parting_111 : decode cX11_parting 111 = .ok (.ifCond .le 7, 3) := by decide +kernel
theorem dX11_parting_114 : decode cX11_parting 114 = .ok (.iconst 1, 1) := by decide +kernel
theorem dX11_parting_115 : decode cX11_parting 115 = .ok (.goto 4, 3) := by decide +kernel
theorem dX11_parting_118 : decode cX11_parting 118 = .ok (.iconst 0, 1) := by decide +kernel
theorem dX11_parting_119 : decode cX11_parting 119 = .ok (.bastore, 1) := by decide +kernel
theorem dX11_parting_120 : decode cX11_parting 120 = .ok (.iinc 10 1, 3) := by decide +kernel
theorem dX11_parting_123 : decode cX11_parting 123 = .ok (.goto (-33), 3) := by decide +kernel
theorem dX11_parting_126 : decode cX11_parting 126 = .ok (.aload_n 0, 1) := by decide +kernel
theorem dX11_parting_127 : decode cX11_parting 127 = .ok (.getfield 7, 3) := by decide +kernel
theorem dX11_parting_130 : decode cX11_parting 130 = .ok (.bipush 10, 2) := by decide +kernel
theorem dX11_parting_132 : decode cX11_parting 132 = .ok (.iload_n 2, 1) := by decide +kernel
theorem dX11_parting_133 : decode cX11_parting 133 = .ok (.iastore, 1) := by decide +kernel
theorem dX11_parting_134 : decode cX11_parting 134 = .ok (.aload_n 0, 1) := by decide +kernel
theorem dX11_parting_135 : decode cX11_parting 135 = .ok (.iload_n 3, 1) := by decide +kernel
theorem dX11_parting_136 : decode cX11_parting 136 = .ok (.invokevirtual 325, 3) := by decide +kernel
theorem dX11_parting_139 : decode cX11_parting 139 = .ok (.iconst 0, 1) := by decide +kernel
theorem dX11_parting_140 : decode cX11_parting 140 = .ok (.istore 10, 2) := by decide +kernel
theorem dX11_parting_142 : decode cX11_parting 142 = .ok (.iconst 0, 1) := by decide +kernel
theorem dX11_parting_143 : decode cX11_parting 143 = .ok (.istore 11, 2) := by decide +kernel
theorem dX11_parting_145 : decode cX11_parting 145 = .ok (.iload 11, 2) := by decide +kernel
theorem dX11_parting_147 : decode cX11_parting 147 = .ok (.sipush 320, 3) := by decide +kernel
theorem dX11_parting_150 : decode cX11_parting 150 = .ok (.if_icmp .ge 44, 3) := by decide +kernel
theorem dX11_parting_153 : decode cX11_parting 153 = .ok (.iload 10, 2) := by decide +kernel
theorem dX11_parting_155 : decode cX11_parting 155 = .ok (.aload_n 0, 1) := by decide +kernel
theorem dX11_parting_156 : decode cX11_parting 156 = .ok (.getfield 85, 3) := by decide +kernel
theorem dX11_parting_159 : decode cX11_parting 159 = .ok (.iload 11, 2) := by decide +kernel
theorem dX11_parting_161 : decode cX11_parting 161 = .ok (.baload, 1) := by decide +kernel
theorem dX11_parting_162 : decode cX11_parting 162 = .ok (.aload_n 0, 1) := by decide +kernel
theorem dX11_parting_163 : decode cX11_parting 163 = .ok (.getfield 79, 3) := by decide +kernel
theorem dX11_parting_166 : decode cX11_parting 166 = .ok (.iload 11, 2) := by decide +kernel
theorem dX11_parting_168 : decode cX11_parting 168 = .ok (.iaload, 1) := by decide +kernel
theorem dX11_parting_169 : decode cX11_parting 169 = .ok (.ifCond .le 7, 3) := by decide +kernel
theorem dX11_parting_172 : decode cX11_parting 172 = .ok (.iconst 1, 1) := by decide +kernel
theorem dX11_parting_173 : decode cX11_parting 173 = .ok (.goto 4, 3) := by decide +kernel
theorem dX11_parting_176 : decode cX11_parting 176 = .ok (.iconst 0, 1) := by decide +kernel
theorem dX11_parting_177 : decode cX11_parting 177 = .ok (.if_icmp .eq 7, 3) := by decide +kernel
theorem dX11_parting_180 : decode cX11_parting 180 = .ok (.iconst 1, 1) := by decide +kernel
theorem dX11_parting_181 : decode cX11_parting 181 = .ok (.goto 4, 3) := by decide +kernel
theorem dX11_parting_184 : decode cX11_parting 184 = .ok (.iconst 0, 1) := by decide +kernel
theorem dX11_parting_185 : decode cX11_parting 185 = .ok (.iadd, 1) := by decide +kernel
theorem dX11_parting_186 : decode cX11_parting 186 = .ok (.istore 10, 2) := by decide +kernel
theorem dX11_parting_188 : decode cX11_parting 188 = .ok (.iinc 11 1, 3) := by decide +kernel
theorem dX11_parting_191 : decode cX11_parting 191 = .ok (.goto (-46), 3) := by decide +kernel
theorem dX11_parting_194 : decode cX11_parting 194 = .ok (.iload 10, 2) := by decide +kernel
theorem dX11_parting_196 : decode cX11_parting 196 = .ok (.iload 8, 2) := by decide +kernel
theorem dX11_parting_198 : decode cX11_parting 198 = .ok (.if_icmp .le 11, 3) := by decide +kernel
theorem dX11_parting_201 : decode cX11_parting 201 = .ok (.iload 10, 2) := by decide +kernel
theorem dX11_parting_203 : decode cX11_parting 203 = .ok (.istore 8, 2) := by decide +kernel
theorem dX11_parting_205 : decode cX11_parting 205 = .ok (.iload 9, 2) := by decide +kernel
theorem dX11_parting_207 : decode cX11_parting 207 = .ok (.istore 7, 2) := by decide +kernel
theorem dX11_parting_209 : decode cX11_parting 209 = .ok (.iinc 9 1, 3) := by decide +kernel
theorem dX11_parting_212 : decode cX11_parting 212 = .ok (.goto (-153), 3) := by decide +kernel
theorem dX11_parting_215 : decode cX11_parting 215 = .ok (.aload_n 0, 1) := by decide +kernel
theorem dX11_parting_216 : decode cX11_parting 216 = .ok (.getfield 7, 3) := by decide +kernel
theorem dX11_parting_219 : decode cX11_parting 219 = .ok (.iconst 2, 1) := by decide +kernel
theorem dX11_parting_220 : decode cX11_parting 220 = .ok (.iload 5, 2) := by decide +kernel
theorem dX11_parting_222 : decode cX11_parting 222 = .ok (.iastore, 1) := by decide +kernel
theorem dX11_parting_223 : decode cX11_parting 223 = .ok (.aload_n 0, 1) := by decide +kernel
theorem dX11_parting_224 : decode cX11_parting 224 = .ok (.getfield 7, 3) := by decide +kernel
theorem dX11_parting_227 : decode cX11_parting 227 = .ok (.bipush 10, 2) := by decide +kernel
theorem dX11_parting_229 : decode cX11_parting 229 = .ok (.iload 6, 2) := by decide +kernel
theorem dX11_parting_231 : decode cX11_parting 231 = .ok (.iastore, 1) := by decide +kernel
theorem dX11_parting_232 : decode cX11_parting 232 = .ok (.iload 4, 2) := by decide +kernel
theorem dX11_parting_234 : decode cX11_parting 234 = .ok (.ifCond .ne 8, 3) := by decide +kernel
theorem dX11_parting_237 : decode cX11_parting 237 = .ok (.iload 7, 2) := by decide +kernel
theorem dX11_parting_239 : decode cX11_parting 239 = .ok (.goto 5, 3) := by decide +kernel
theorem dX11_parting_242 : decode cX11_parting 242 = .ok (.iload 8, 2) := by decide +kernel
theorem dX11_parting_244 : decode cX11_parting 244 = .ok (.ireturn, 1) := by decide +kernel
theorem dX11_image_0 : decode cX11_image 0 = .ok (.aload_n 0, 1) := by decide +kernel
theorem dX11_image_1 : decode cX11_image 1 = .ok (.iconst 1, 1) := by decide +kernel
theorem dX11_image_2 : decode cX11_image 2 = .ok (.invokevirtual 89, 3) := by decide +kernel
theorem dX11_image_5 : decode cX11_image 5 = .ok (.aload_n 0, 1) := by decide +kernel
theorem dX11_image_6 : decode cX11_image 6 = .ok (.getfield 7, 3) := by decide +kernel
theorem dX11_image_9 : decode cX11_image 9 = .ok (.iconst 0, 1) := by decide +kernel
theorem dX11_image_10 : decode cX11_image 10 = .ok (.iaload, 1) := by decide +kernel
theorem dX11_image_11 : decode cX11_image 11 = .ok (.ireturn, 1) := by decide +kernel
theorem dX11_back_0 : decode cX11_back 0 = .ok (.aload_n 0, 1) := by decide +kernel
theorem dX11_back_1 : decode cX11_back 1 = .ok (.iconst 0, 1) := by decide +kernel
theorem dX11_back_2 : decode cX11_back 2 = .ok (.invokevirtual 89, 3) := by decide +kernel
theorem dX11_back_5 : decode cX11_back 5 = .ok (.aload_n 0, 1) := by decide +kernel
theorem dX11_back_6 : decode cX11_back 6 = .ok (.getfield 7, 3) := by decide +kernel
theorem dX11_back_9 : decode cX11_back 9 = .ok (.iconst 0, 1) := by decide +kernel
theorem dX11_back_10 : decode cX11_back 10 = .ok (.iaload, 1) := by decide +kernel
theorem dX11_back_11 : decode cX11_back 11 = .ok (.ireturn, 1) := by decide +kernel
theorem dX11_about_0 : decode cX11_about 0 = .ok (.iload_n 1, 1) := by decide +kernel
theorem dX11_about_1 : decode cX11_about 1 = .ok (.iconst 0, 1) := by decide +kernel
theorem dX11_about_2 : decode cX11_about 2 = .ok (.bipush 6, 2) := by decide +kernel
theorem dX11_about_4 : decode cX11_about 4 = .ok (.invokestatic 97, 3) := by decide +kernel
theorem dX11_about_7 : decode cX11_about 7 = .ok (.ifCond .eq 10, 3) := by decide +kernel
theorem dX11_about_10 : decode cX11_about 10 = .ok (.aload_n 0, 1) := by decide +kernel
theorem dX11_about_11 : decode cX11_about 11 = .ok (.getfield 7, 3) := by decide +kernel
theorem dX11_about_14 : decode cX11_about 14 = .ok (.iload_n 1, 1) := by decide +kernel
theorem dX11_about_15 : decode cX11_about 15 = .ok (.iaload, 1) := by decide +kernel
theorem dX11_about_16 : decode cX11_about 16 = .ok (.ireturn, 1) := by decide +kernel
theorem dX11_about_17 : decode cX11_about 17 = .ok (.iload_n 1, 1) := by decide +kernel
theorem dX11_about_18 : decode cX11_about 18 = .ok (.bipush 7, 2) := by decide +kernel
theorem dX11_about_20 : decode cX11_about 20 = .ok (.if_icmp .ne 10, 3) := by decide +kernel
theorem dX11_about_23 : decode cX11_about 23 = .ok (.aload_n 0, 1) := by decide +kernel
theorem dX11_about_24 : decode cX11_about 24 = .ok (.getfield 122, 3) := by decide +kernel
theorem dX11_about_27 : decode cX11_about 27 = .ok (.goto 50, 3) := by decide +kernel
theorem dX11_about_30 : decode cX11_about 30 = .ok (.iload_n 1, 1) := by decide +kernel
theorem dX11_about_31 : decode cX11_about 31 = .ok (.bipush 10, 2) := by decide +kernel
theorem dX11_about_33 : decode cX11_about 33 = .ok (.bipush 15, 2) := by decide +kernel
theorem dX11_about_35 : decode cX11_about 35 = .ok (.invokestatic 97, 3) := by decide +kernel
theorem dX11_about_38 : decode cX11_about 38 = .ok (.ifCond .eq 12, 3) := by decide +kernel
theorem dX11_about_41 : decode cX11_about 41 = .ok (.aload_n 0, 1) := by decide +kernel
theorem dX11_about_42 : decode cX11_about 42 = .ok (.getfield 7, 3) := by decide +kernel
theorem dX11_about_45 : decode cX11_about 45 = .ok (.iload_n 1, 1) := by decide +kernel
theorem dX11_about_46 : decode cX11_about 46 = .ok (.iaload, 1) := by decide +kernel
theorem dX11_about_47 : decode cX11_about 47 = .ok (.goto 30, 3) := by decide +kernel
theorem dX11_about_50 : decode cX11_about 50 = .ok (.iload_n 1, 1) := by decide +kernel
theorem dX11_about_51 : decode cX11_about 51 = .ok (.bipush 20, 2) := by decide +kernel
theorem dX11_about_53 : decode cX11_about 53 = .ok (.bipush 23, 2) := by decide +kernel
theorem dX11_about_55 : decode cX11_about 55 = .ok (.invokestatic 97, 3) := by decide +kernel
theorem dX11_about_58 : decode cX11_about 58 = .ok (.ifCond .eq 18, 3) := by decide +kernel
theorem dX11_about_61 : decode cX11_about 61 = .ok (.aload_n 0, 1) := by decide +kernel
theorem dX11_about_62 : decode cX11_about 62 = .ok (.getfield 7, 3) := by decide +kernel
theorem dX11_about_65 : decode cX11_about 65 = .ok (.bipush 24, 2) := by decide +kernel
theorem dX11_about_67 : decode cX11_about 67 = .ok (.iload_n 1, 1) := by decide +kernel
theorem dX11_about_68 : decode cX11_about 68 = .ok (.iadd, 1) := by decide +kernel
theorem dX11_about_69 : decode cX11_about 69 = .ok (.bipush 20, 2) := by decide +kernel
theorem dX11_about_71 : decode cX11_about 71 = .ok (.isub, 1) := by decide +kernel
theorem dX11_about_72 : decode cX11_about 72 = .ok (.iaload, 1) := by decide +kernel
theorem dX11_about_73 : decode cX11_about 73 = .ok (.goto 4, 3) := by decide +kernel
theorem dX11_about_76 : decode cX11_about 76 = .ok (.iconst (-1), 1) := by decide +kernel
theorem dX11_about_77 : decode cX11_about 77 = .ok (.ireturn, 1) := by decide +kernel
theorem dJ6_bitCount_0f7a4_0 : decode cJ6_bitCount_0f7a4 0 = .ok (.iload_n 0, 1) := by decide +kernel
theorem dJ6_bitCount_0f7a4_1 : decode cJ6_bitCount_0f7a4 1 = .ok (.iload_n 0, 1) := by decide +kernel
theorem dJ6_bitCount_0f7a4_2 : decode cJ6_bitCount_0f7a4 2 = .ok (.iconst 1, 1) := by decide +kernel
theorem dJ6_bitCount_0f7a4_3 : decode cJ6_bitCount_0f7a4 3 = .ok (.iushr, 1) := by decide +kernel
theorem dJ6_bitCount_0f7a4_4 : decode cJ6_bitCount_0f7a4 4 = .ok (.ldc_w 265, 3) := by decide +kernel
theorem dJ6_bitCount_0f7a4_7 : decode cJ6_bitCount_0f7a4 7 = .ok (.iand, 1) := by decide +kernel
theorem dJ6_bitCount_0f7a4_8 : decode cJ6_bitCount_0f7a4 8 = .ok (.isub, 1) := by decide +kernel
theorem dJ6_bitCount_0f7a4_9 : decode cJ6_bitCount_0f7a4 9 = .ok (.istore_n 0, 1) := by decide +kernel
theorem dJ6_bitCount_0f7a4_10 : decode cJ6_bitCount_0f7a4 10 = .ok (.iload_n 0, 1) := by decide +kernel
theorem dJ6_bitCount_0f7a4_11 : decode cJ6_bitCount_0f7a4 11 = .ok (.ldc_w 266, 3) := by decide +kernel
theorem dJ6_bitCount_0f7a4_14 : decode cJ6_bitCount_0f7a4 14 = .ok (.iand, 1) := by decide +kernel
theorem dJ6_bitCount_0f7a4_15 : decode cJ6_bitCount_0f7a4 15 = .ok (.iload_n 0, 1) := by decide +kernel
theorem dJ6_bitCount_0f7a4_16 : decode cJ6_bitCount_0f7a4 16 = .ok (.iconst 2, 1) := by decide +kernel
theorem dJ6_bitCount_0f7a4_17 : decode cJ6_bitCount_0f7a4 17 = .ok (.iushr, 1) := by decide +kernel
theorem dJ6_bitCount_0f7a4_18 : decode cJ6_bitCount_0f7a4 18 = .ok (.ldc_w 266, 3) := by decide +kernel
theorem dJ6_bitCount_0f7a4_21 : decode cJ6_bitCount_0f7a4 21 = .ok (.iand, 1) := by decide +kernel
theorem dJ6_bitCount_0f7a4_22 : decode cJ6_bitCount_0f7a4 22 = .ok (.iadd, 1) := by decide +kernel
theorem dJ6_bitCount_0f7a4_23 : decode cJ6_bitCount_0f7a4 23 = .ok (.istore_n 0, 1) := by decide +kernel
theorem dJ6_bitCount_0f7a4_24 : decode cJ6_bitCount_0f7a4 24 = .ok (.iload_n 0, 1) := by decide +kernel
theorem dJ6_bitCount_0f7a4_25 : decode cJ6_bitCount_0f7a4 25 = .ok (.iload_n 0, 1) := by decide +kernel
theorem dJ6_bitCount_0f7a4_26 : decode cJ6_bitCount_0f7a4 26 = .ok (.iconst 4, 1) := by decide +kernel
theorem dJ6_bitCount_0f7a4_27 : decode cJ6_bitCount_0f7a4 27 = .ok (.iushr, 1) := by decide +kernel
theorem dJ6_bitCount_0f7a4_28 : decode cJ6_bitCount_0f7a4 28 = .ok (.iadd, 1) := by decide +kernel
theorem dJ6_bitCount_0f7a4_29 : decode cJ6_bitCount_0f7a4 29 = .ok (.ldc_w 267, 3) := by decide +kernel
theorem dJ6_bitCount_0f7a4_32 : decode cJ6_bitCount_0f7a4 32 = .ok (.iand, 1) := by decide +kernel
theorem dJ6_bitCount_0f7a4_33 : decode cJ6_bitCount_0f7a4 33 = .ok (.istore_n 0, 1) := by decide +kernel
theorem dJ6_bitCount_0f7a4_34 : decode cJ6_bitCount_0f7a4 34 = .ok (.iload_n 0, 1) := by decide +kernel
theorem dJ6_bitCount_0f7a4_35 : decode cJ6_bitCount_0f7a4 35 = .ok (.iload_n 0, 1) := by decide +kernel
theorem dJ6_bitCount_0f7a4_36 : decode cJ6_bitCount_0f7a4 36 = .ok (.bipush 8, 2) := by decide +kernel
theorem dJ6_bitCount_0f7a4_38 : decode cJ6_bitCount_0f7a4 38 = .ok (.iushr, 1) := by decide +kernel
theorem dJ6_bitCount_0f7a4_39 : decode cJ6_bitCount_0f7a4 39 = .ok (.iadd, 1) := by decide +kernel
theorem dJ6_bitCount_0f7a4_40 : decode cJ6_bitCount_0f7a4 40 = .ok (.istore_n 0, 1) := by decide +kernel
theorem dJ6_bitCount_0f7a4_41 : decode cJ6_bitCount_0f7a4 41 = .ok (.iload_n 0, 1) := by decide +kernel
theorem dJ6_bitCount_0f7a4_42 : decode cJ6_bitCount_0f7a4 42 = .ok (.iload_n 0, 1) := by decide +kernel
theorem dJ6_bitCount_0f7a4_43 : decode cJ6_bitCount_0f7a4 43 = .ok (.bipush 16, 2) := by decide +kernel
theorem dJ6_bitCount_0f7a4_45 : decode cJ6_bitCount_0f7a4 45 = .ok (.iushr, 1) := by decide +kernel
theorem dJ6_bitCount_0f7a4_46 : decode cJ6_bitCount_0f7a4 46 = .ok (.iadd, 1) := by decide +kernel
theorem dJ6_bitCount_0f7a4_47 : decode cJ6_bitCount_0f7a4 47 = .ok (.istore_n 0, 1) := by decide +kernel
theorem dJ6_bitCount_0f7a4_48 : decode cJ6_bitCount_0f7a4 48 = .ok (.iload_n 0, 1) := by decide +kernel
theorem dJ6_bitCount_0f7a4_49 : decode cJ6_bitCount_0f7a4 49 = .ok (.bipush 63, 2) := by decide +kernel
theorem dJ6_bitCount_0f7a4_51 : decode cJ6_bitCount_0f7a4 51 = .ok (.iand, 1) := by decide +kernel
theorem dJ6_bitCount_0f7a4_52 : decode cJ6_bitCount_0f7a4 52 = .ok (.ireturn, 1) := by decide +kernel
theorem dJ9_floorDiv_7cf53_0 : decode cJ9_floorDiv_7cf53 0 = .ok (.iload_n 0, 1) := by decide +kernel
theorem dJ9_floorDiv_7cf53_1 : decode cJ9_floorDiv_7cf53 1 = .ok (.iload_n 1, 1) := by decide +kernel
theorem dJ9_floorDiv_7cf53_2 : decode cJ9_floorDiv_7cf53 2 = .ok (.idiv, 1) := by decide +kernel
theorem dJ9_floorDiv_7cf53_3 : decode cJ9_floorDiv_7cf53 3 = .ok (.istore_n 2, 1) := by decide +kernel
theorem dJ9_floorDiv_7cf53_4 : decode cJ9_floorDiv_7cf53 4 = .ok (.iload_n 0, 1) := by decide +kernel
theorem dJ9_floorDiv_7cf53_5 : decode cJ9_floorDiv_7cf53 5 = .ok (.iload_n 1, 1) := by decide +kernel
theorem dJ9_floorDiv_7cf53_6 : decode cJ9_floorDiv_7cf53 6 = .ok (.ixor, 1) := by decide +kernel
theorem dJ9_floorDiv_7cf53_7 : decode cJ9_floorDiv_7cf53 7 = .ok (.ifCond .ge 14, 3) := by decide +kernel
theorem dJ9_floorDiv_7cf53_10 : decode cJ9_floorDiv_7cf53 10 = .ok (.iload_n 2, 1) := by decide +kernel
theorem dJ9_floorDiv_7cf53_11 : decode cJ9_floorDiv_7cf53 11 = .ok (.iload_n 1, 1) := by decide +kernel
theorem dJ9_floorDiv_7cf53_12 : decode cJ9_floorDiv_7cf53 12 = .ok (.imul, 1) := by decide +kernel
theorem dJ9_floorDiv_7cf53_13 : decode cJ9_floorDiv_7cf53 13 = .ok (.iload_n 0, 1) := by decide +kernel
theorem dJ9_floorDiv_7cf53_14 : decode cJ9_floorDiv_7cf53 14 = .ok (.if_icmp .eq 7, 3) := by decide +kernel
theorem dJ9_floorDiv_7cf53_17 : decode cJ9_floorDiv_7cf53 17 = .ok (.iload_n 2, 1) := by decide +kernel
theorem dJ9_floorDiv_7cf53_18 : decode cJ9_floorDiv_7cf53 18 = .ok (.iconst 1, 1) := by decide +kernel
theorem dJ9_floorDiv_7cf53_19 : decode cJ9_floorDiv_7cf53 19 = .ok (.isub, 1) := by decide +kernel
theorem dJ9_floorDiv_7cf53_20 : decode cJ9_floorDiv_7cf53 20 = .ok (.ireturn, 1) := by decide +kernel
theorem dJ9_floorDiv_7cf53_21 : decode cJ9_floorDiv_7cf53 21 = .ok (.iload_n 2, 1) := by decide +kernel
theorem dJ9_floorDiv_7cf53_22 : decode cJ9_floorDiv_7cf53 22 = .ok (.ireturn, 1) := by decide +kernel
theorem dJ9_max_7cf53_0 : decode cJ9_max_7cf53 0 = .ok (.iload_n 0, 1) := by decide +kernel
theorem dJ9_max_7cf53_1 : decode cJ9_max_7cf53 1 = .ok (.iload_n 1, 1) := by decide +kernel
theorem dJ9_max_7cf53_2 : decode cJ9_max_7cf53 2 = .ok (.if_icmp .lt 7, 3) := by decide +kernel
theorem dJ9_max_7cf53_5 : decode cJ9_max_7cf53 5 = .ok (.iload_n 0, 1) := by decide +kernel
theorem dJ9_max_7cf53_6 : decode cJ9_max_7cf53 6 = .ok (.goto 4, 3) := by decide +kernel
theorem dJ9_max_7cf53_9 : decode cJ9_max_7cf53 9 = .ok (.iload_n 1, 1) := by decide +kernel
theorem dJ9_max_7cf53_10 : decode cJ9_max_7cf53 10 = .ok (.ireturn, 1) := by decide +kernel
theorem dJ9_min_7cf53_0 : decode cJ9_min_7cf53 0 = .ok (.iload_n 0, 1) := by decide +kernel
theorem dJ9_min_7cf53_1 : decode cJ9_min_7cf53 1 = .ok (.iload_n 1, 1) := by decide +kernel
theorem dJ9_min_7cf53_2 : decode cJ9_min_7cf53 2 = .ok (.if_icmp .gt 7, 3) := by decide +kernel
theorem dJ9_min_7cf53_5 : decode cJ9_min_7cf53 5 = .ok (.iload_n 0, 1) := by decide +kernel
theorem dJ9_min_7cf53_6 : decode cJ9_min_7cf53 6 = .ok (.goto 4, 3) := by decide +kernel
theorem dJ9_min_7cf53_9 : decode cJ9_min_7cf53 9 = .ok (.iload_n 1, 1) := by decide +kernel
theorem dJ9_min_7cf53_10 : decode cJ9_min_7cf53 10 = .ok (.ireturn, 1) := by decide +kernel
theorem dJ0_length_8abf5_0 : decode cJ0_length_8abf5 0 = .ok (.aload_n 0, 1) := by decide +kernel
theorem dJ0_length_8abf5_1 : decode cJ0_length_8abf5 1 = .ok (.getfield 9, 3) := by decide +kernel
theorem dJ0_length_8abf5_4 : decode cJ0_length_8abf5 4 = .ok (.arraylength, 1) := by decide +kernel
theorem dJ0_length_8abf5_5 : decode cJ0_length_8abf5 5 = .ok (.aload_n 0, 1) := by decide +kernel
theorem dJ0_length_8abf5_6 : decode cJ0_length_8abf5 6 = .ok (.invokevirtual 335, 3) := by decide +kernel
theorem dJ0_length_8abf5_9 : decode cJ0_length_8abf5 9 = .ok (.ishr, 1) := by decide +kernel
theorem dJ0_length_8abf5_10 : decode cJ0_length_8abf5 10 = .ok (.ireturn, 1) := by decide +kernel
theorem dJ0_charAt_5068e_0 : decode cJ0_charAt_5068e 0 = .ok (.aload_n 0, 1) := by decide +kernel
theorem dJ0_charAt_5068e_1 : decode cJ0_charAt_5068e 1 = .ok (.invokevirtual 492, 3) := by decide +kernel
theorem dJ0_charAt_5068e_4 : decode cJ0_charAt_5068e 4 = .ok (.ifCond .eq 12, 3) := by decide +kernel
theorem dJ0_charAt_5068e_7 : decode cJ0_charAt_5068e 7 = .ok (.aload_n 0, 1) := by decide +kernel
theorem dJ0_charAt_5068e_8 : decode cJ0_charAt_5068e 8 = .ok (.getfield 9, 3) := by decide +kernel
theorem dJ0_charAt_5068e_11 : decode cJ0_charAt_5068e 11 = .ok (.iload_n 1, 1) := by decide +kernel
theorem dJ0_charAt_5068e_12 : decode cJ0_charAt_5068e 12 = .ok (.invokestatic 495, 3) := by decide +kernel
theorem dJ0_charAt_5068e_15 : decode cJ0_charAt_5068e 15 = .ok (.ireturn, 1) := by decide +kernel
theorem dJ0_charAt_5068e_16 : decode cJ0_charAt_5068e 16 = .ok (.aload_n 0, 1) := by decide +kernel
theorem dJ0_charAt_5068e_17 : decode cJ0_charAt_5068e 17 = .ok (.getfield 9, 3) := by decide +kernel
theorem dJ0_charAt_5068e_20 : decode cJ0_charAt_5068e 20 = .ok (.iload_n 1, 1) := by decide +kernel
theorem dJ0_charAt_5068e_21 : decode cJ0_charAt_5068e 21 = .ok (.invokestatic 498, 3) := by decide +kernel
theorem dJ0_charAt_5068e_24 : decode cJ0_charAt_5068e 24 = .ok (.ireturn, 1) := by decide +kernel
theorem dJ0_coder_7d493_0 : decode cJ0_coder_7d493 0 = .ok (.getstatic 38, 3) := by decide +kernel
theorem dJ0_coder_7d493_3 : decode cJ0_coder_7d493 3 = .ok (.ifCond .eq 10, 3) := by decide +kernel
theorem dJ0_coder_7d493_6 : decode cJ0_coder_7d493 6 = .ok (.aload_n 0, 1) := by decide +kernel
theorem dJ0_coder_7d493_7 : decode cJ0_coder_7d493 7 = .ok (.getfield 15, 3) := by decide +kernel
theorem dJ0_coder_7d493_10 : decode cJ0_coder_7d493 10 = .ok (.goto 4, 3) := by decide +kernel
theorem dJ0_coder_7d493_13 : decode cJ0_coder_7d493 13 = .ok (.iconst 1, 1) := by decide +kernel
theorem dJ0_coder_7d493_14 : decode cJ0_coder_7d493 14 = .ok (.ireturn, 1) := by decide +kernel
theorem dJ0_isLatin1_aae02_0 : decode cJ0_isLatin1_aae02 0 = .ok (.getstatic 38, 3) := by decide +kernel
theorem dJ0_isLatin1_aae02_3 : decode cJ0_isLatin1_aae02 3 = .ok (.ifCond .eq 14, 3) := by decide +kernel
theorem dJ0_isLatin1_aae02_6 : decode cJ0_isLatin1_aae02 6 = .ok (.aload_n 0, 1) := by decide +kernel
theorem dJ0_isLatin1_aae02_7 : decode cJ0_isLatin1_aae02 7 = .ok (.getfield 15, 3) := by decide +kernel
theorem dJ0_isLatin1_aae02_10 : decode cJ0_isLatin1_aae02 10 = .ok (.ifCond .ne 7, 3) := by decide +kernel
theorem dJ0_isLatin1_aae02_13 : decode cJ0_isLatin1_aae02 13 = .ok (.iconst 1, 1) := by decide +kernel
theorem dJ0_isLatin1_aae02_14 : decode cJ0_isLatin1_aae02 14 = .ok (.goto 4, 3) := by decide +kernel
theorem dJ0_isLatin1_aae02_17 : decode cJ0_isLatin1_aae02 17 = .ok (.iconst 0, 1) := by decide +kernel
theorem dJ0_isLatin1_aae02_18 : decode cJ0_isLatin1_aae02 18 = .ok (.ireturn, 1) := by decide +kernel
theorem dJ0_checkIndex_df160_0 : decode cJ0_checkIndex_df160 0 = .ok (.iload_n 0, 1) := by decide +kernel
theorem dJ0_checkIndex_df160_1 : decode cJ0_checkIndex_df160 1 = .ok (.iload_n 1, 1) := by decide +kernel
theorem dJ0_checkIndex_df160_2 : decode cJ0_checkIndex_df160 2 = .ok (.getstatic 1053, 3) := by decide +kernel
theorem dJ0_checkIndex_df160_5 : decode cJ0_checkIndex_df160 5 = .ok (.invokestatic 1059, 3) := by decide +kernel
theorem dJ0_checkIndex_df160_8 : decode cJ0_checkIndex_df160 8 = .ok (.pop, 1) := by decide +kernel
theorem dJ0_checkIndex_df160_9 : decode cJ0_checkIndex_df160 9 = .ok (.return_, 1) := by decide +kernel
theorem dJ1_charAt_3b067_0 : decode cJ1_charAt_3b067 0 = .ok (.iload_n 1, 1) := by decide +kernel
theorem dJ1_charAt_3b067_1 : decode cJ1_charAt_3b067 1 = .ok (.aload_n 0, 1) := by decide +kernel
theorem dJ1_charAt_3b067_2 : decode cJ1_charAt_3b067 2 = .ok (.arraylength, 1) := by decide +kernel
theorem dJ1_charAt_3b067_3 : decode cJ1_charAt_3b067 3 = .ok (.invokestatic 9, 3) := by decide +kernel
theorem dJ1_charAt_3b067_6 : decode cJ1_charAt_3b067 6 = .ok (.aload_n 0, 1) := by decide +kernel
theorem dJ1_charAt_3b067_7 : decode cJ1_charAt_3b067 7 = .ok (.iload_n 1, 1) := by decide +kernel
theorem dJ1_charAt_3b067_8 : decode cJ1_charAt_3b067 8 = .ok (.baload, 1) := by decide +kernel
theorem dJ1_charAt_3b067_9 : decode cJ1_charAt_3b067 9 = .ok (.sipush 255, 3) := by decide +kernel
theorem dJ1_charAt_3b067_12 : decode cJ1_charAt_3b067 12 = .ok (.iand, 1) := by decide +kernel
theorem dJ1_charAt_3b067_13 : decode cJ1_charAt_3b067 13 = .ok (.i2c, 1) := by decide +kernel
theorem dJ1_charAt_3b067_14 : decode cJ1_charAt_3b067 14 = .ok (.ireturn, 1) := by decide +kernel
theorem dJ2_getChar_3b067_0 : decode cJ2_getChar_3b067 0 = .ok (.getstatic 44, 3) := by decide +kernel
theorem dJ2_getChar_3b067_3 : decode cJ2_getChar_3b067 3 = .ok (.ifCond .ne 25, 3) := by decide +kernel
theorem dJ2_getChar_3b067_6 : decode cJ2_getChar_3b067 6 = .ok (.iload_n 1, 1) := by decide +kernel
theorem dJ2_getChar_3b067_7 : decode cJ2_getChar_3b067 7 = .ok (.ifCond .lt 11, 3) := by decide +kernel
theorem dJ2_getChar_3b067_10 : decode cJ2_getChar_3b067 10 = .ok (.iload_n 1, 1) := by decide +kernel
theorem dJ2_getChar_3b067_11 : decode cJ2_getChar_3b067 11 = .ok (.aload_n 0, 1) := by decide +kernel
theorem dJ2_getChar_3b067_12 : decode cJ2_getChar_3b067 12 = .ok (.invokestatic 48, 3) := by decide +kernel
theorem dJ2_getChar_3b067_15 : decode cJ2_getChar_3b067 15 = .ok (.if_icmp .lt 13, 3) := by decide +kernel
theorem dJ2_getChar_3b067_18 : decode cJ2_getChar_3b067 18 = .ok (.new 52, 3) := by decide +kernel
theorem dJ2_getChar_3b067_21 : decode cJ2_getChar_3b067 21 = .ok (.dup, 1) := by decide +kernel
theorem dJ2_getChar_3b067_22 : decode cJ2_getChar_3b067 22 = .ok (.ldc 54, 2) := by decide +kernel
theorem dJ2_getChar_3b067_24 : decode cJ2_getChar_3b067 24 = .ok (.invokespecial 56, 3) := by decide +kernel
theorem dJ2_getChar_3b067_27 : decode cJ2_getChar_3b067 27 = .ok (.athrow, 1) := by decide +kernel
theorem dJ2_getChar_3b067_28 : decode cJ2_getChar_3b067 28 = .ok (.iload_n 1, 1) := by decide +kernel
theorem dJ2_getChar_3b067_29 : decode cJ2_getChar_3b067 29 = .ok (.iconst 1, 1) := by decide +kernel
theorem dJ2_getChar_3b067_30 : decode cJ2_getChar_3b067 30 = .ok (.ishl, 1) := by decide +kernel
theorem dJ2_getChar_3b067_31 : decode cJ2_getChar_3b067 31 = .ok (.istore_n 1, 1) := by decide +kernel
theorem dJ2_getChar_3b067_32 : decode cJ2_getChar_3b067 32 = .ok (.aload_n 0, 1) := by decide +kernel
theorem dJ2_getChar_3b067_33 : decode cJ2_getChar_3b067 33 = .ok (.iload_n 1, 1) := by decide +kernel
theorem dJ2_getChar_3b067_34 : decode cJ2_getChar_3b067 34 = .ok (.iinc 1 1, 3) := by decide +kernel
theorem dJ2_getChar_3b067_37 : decode cJ2_getChar_3b067 37 = .ok (.baload, 1) := by decide +kernel
theorem dJ2_getChar_3b067_38 : decode cJ2_getChar_3b067 38 = .ok (.sipush 255, 3) := by decide +kernel
theorem dJ2_getChar_3b067_41 : decode cJ2_getChar_3b067 41 = .ok (.iand, 1) := by decide +kernel
theorem dJ2_getChar_3b067_42 : decode cJ2_getChar_3b067 42 = .ok (.getstatic 59, 3) := by decide +kernel
theorem dJ2_getChar_3b067_45 : decode cJ2_getChar_3b067 45 = .ok (.ishl, 1) := by decide +kernel
theorem dJ2_getChar_3b067_46 : decode cJ2_getChar_3b067 46 = .ok (.aload_n 0, 1) := by decide +kernel
theorem dJ2_getChar_3b067_47 : decode cJ2_getChar_3b067 47 = .ok (.iload_n 1, 1) := by decide +kernel
theorem dJ2_getChar_3b067_48 : decode cJ2_getChar_3b067 48 = .ok (.baload, 1) := by decide +kernel
theorem dJ2_getChar_3b067_49 : decode cJ2_getChar_3b067 49 = .ok (.sipush 255, 3) := by decide +kernel
theorem dJ2_getChar_3b067_52 : decode cJ2_getChar_3b067 52 = .ok (.iand, 1) := by decide +kernel
theorem dJ2_getChar_3b067_53 : decode cJ2_getChar_3b067 53 = .ok (.getstatic 63, 3) := by decide +kernel
theorem dJ2_getChar_3b067_56 : decode cJ2_getChar_3b067 56 = .ok (.ishl, 1) := by decide +kernel
theorem dJ2_getChar_3b067_57 : decode cJ2_getChar_3b067 57 = .ok (.ior, 1) := by decide +kernel
theorem dJ2_getChar_3b067_58 : decode cJ2_getChar_3b067 58 = .ok (.i2c, 1) := by decide +kernel
theorem dJ2_getChar_3b067_59 : decode cJ2_getChar_3b067 59 = .ok (.ireturn, 1) := by decide +kernel
theorem dJ2_length_9d52b_0 : decode cJ2_length_9d52b 0 = .ok (.aload_n 0, 1) := by decide +kernel
theorem dJ2_length_9d52b_1 : decode cJ2_length_9d52b 1 = .ok (.arraylength, 1) := by decide +kernel
theorem dJ2_length_9d52b_2 : decode cJ2_length_9d52b 2 = .ok (.iconst 1, 1) := by decide +kernel
theorem dJ2_length_9d52b_3 : decode cJ2_length_9d52b 3 = .ok (.ishr, 1) := by decide +kernel
theorem dJ2_length_9d52b_4 : decode cJ2_length_9d52b 4 = .ok (.ireturn, 1) := by decide +kernel
theorem dJ2_charAt_3b067_0 : decode cJ2_charAt_3b067 0 = .ok (.iload_n 1, 1) := by decide +kernel
theorem dJ2_charAt_3b067_1 : decode cJ2_charAt_3b067 1 = .ok (.aload_n 0, 1) := by decide +kernel
theorem dJ2_charAt_3b067_2 : decode cJ2_charAt_3b067 2 = .ok (.invokestatic 67, 3) := by decide +kernel
theorem dJ2_charAt_3b067_5 : decode cJ2_charAt_3b067 5 = .ok (.aload_n 0, 1) := by decide +kernel
theorem dJ2_charAt_3b067_6 : decode cJ2_charAt_3b067 6 = .ok (.iload_n 1, 1) := by decide +kernel
theorem dJ2_charAt_3b067_7 : decode cJ2_charAt_3b067 7 = .ok (.invokestatic 71, 3) := by decide +kernel
theorem dJ2_charAt_3b067_10 : decode cJ2_charAt_3b067 10 = .ok (.ireturn, 1) := by decide +kernel
theorem dJ2_checkIndex_2214a_0 : decode cJ2_checkIndex_2214a 0 = .ok (.iload_n 0, 1) := by decide +kernel
theorem dJ2_checkIndex_2214a_1 : decode cJ2_checkIndex_2214a 1 = .ok (.aload_n 1, 1) := by decide +kernel
theorem dJ2_checkIndex_2214a_2 : decode cJ2_checkIndex_2214a 2 = .ok (.invokestatic 48, 3) := by decide +kernel
theorem dJ2_checkIndex_2214a_5 : decode cJ2_checkIndex_2214a 5 = .ok (.invokestatic 414, 3) := by decide +kernel
theorem dJ2_checkIndex_2214a_8 : decode cJ2_checkIndex_2214a 8 = .ok (.return_, 1) := by decide +kernel
theorem dJ3_checkIndex_8e157_0 : decode cJ3_checkIndex_8e157 0 = .ok (.iload_n 0, 1) := by decide +kernel
theorem dJ3_checkIndex_8e157_1 : decode cJ3_checkIndex_8e157 1 = .ok (.ifCond .lt 8, 3) := by decide +kernel
theorem dJ3_checkIndex_8e157_4 : decode cJ3_checkIndex_8e157 4 = .ok (.iload_n 0, 1) := by decide +kernel
theorem dJ3_checkIndex_8e157_5 : decode cJ3_checkIndex_8e157 5 = .ok (.iload_n 1, 1) := by decide +kernel
theorem dJ3_checkIndex_8e157_6 : decode cJ3_checkIndex_8e157 6 = .ok (.if_icmp .lt 10, 3) := by decide +kernel
theorem dJ3_checkIndex_8e157_9 : decode cJ3_checkIndex_8e157 9 = .ok (.aload_n 2, 1) := by decide +kernel
theorem dJ3_checkIndex_8e157_10 : decode cJ3_checkIndex_8e157 10 = .ok (.iload_n 0, 1) := by decide +kernel
theorem dJ3_checkIndex_8e157_11 : decode cJ3_checkIndex_8e157 11 = .ok (.iload_n 1, 1) := by decide +kernel
theorem dJ3_checkIndex_8e157_12 : decode cJ3_checkIndex_8e157 12 = .ok (.invokestatic 95, 3) := by decide +kernel
theorem dJ3_checkIndex_8e157_15 : decode cJ3_checkIndex_8e157 15 = .ok (.athrow, 1) := by decide +kernel
theorem dJ3_checkIndex_8e157_16 : decode cJ3_checkIndex_8e157 16 = .ok (.iload_n 0, 1) := by decide +kernel
theorem dJ3_checkIndex_8e157_17 : decode cJ3_checkIndex_8e157 17 = .ok (.ireturn, 1) := by decide +kernel
theorem dL_law_0 : decode cL_law 0 = .ok (.new 7, 3) := by decide +kernel
theorem dL_law_3 : decode cL_law 3 = .ok (.dup, 1) := by decide +kernel
theorem dL_law_4 : decode cL_law 4 = .ok (.invokespecial 9, 3) := by decide +kernel
theorem dL_law_7 : decode cL_law 7 = .ok (.astore_n 1, 1) := by decide +kernel
theorem dL_law_8 : decode cL_law 8 = .ok (.new 10, 3) := by decide +kernel
theorem dL_law_11 : decode cL_law 11 = .ok (.dup, 1) := by decide +kernel
theorem dL_law_12 : decode cL_law 12 = .ok (.invokespecial 12, 3) := by decide +kernel
theorem dL_law_15 : decode cL_law 15 = .ok (.astore_n 2, 1) := by decide +kernel
theorem dL_law_16 : decode cL_law 16 = .ok (.iconst 0, 1) := by decide +kernel
theorem dL_law_17 : decode cL_law 17 = .ok (.istore_n 3, 1) := by decide +kernel
theorem dL_law_18 : decode cL_law 18 = .ok (.iload_n 3, 1) := by decide +kernel
theorem dL_law_19 : decode cL_law 19 = .ok (.aload_n 0, 1) := by decide +kernel
theorem dL_law_20 : decode cL_law 20 = .ok (.arraylength, 1) := by decide +kernel
theorem dL_law_21 : decode cL_law 21 = .ok (.bipush 7, 2) := by decide +kernel
theorem dL_law_23 : decode cL_law 23 = .ok (.isub, 1) := by decide +kernel
theorem dL_law_24 : decode cL_law 24 = .ok (.if_icmp .gt 1084, 3) := by decide +kernel
theorem dL_law_27 : decode cL_law 27 = .ok (.aload_n 0, 1) := by decide +kernel
theorem dL_law_28 : decode cL_law 28 = .ok (.iload_n 3, 1) := by decide +kernel
theorem dL_law_29 : decode cL_law 29 = .ok (.iaload, 1) := by decide +kernel
theorem dL_law_30 : decode cL_law 30 = .ok (.bipush 31, 2) := by decide +kernel
theorem dL_law_32 : decode cL_law 32 = .ok (.iand, 1) := by decide +kernel
theorem dL_law_33 : decode cL_law 33 = .ok (.tableswitch 1069 0 25 #[119, 194, 217, 250, 303, 356, 389, 432, 465, 528, 551, 564, 587, 610, 643, 686, 729, 772, 805, 838, 871, 914, 967, 1020, 1033, 1046], 119) := by decide +kernel
theorem dL_law_152 : decode cL_law 152 = .ok (.aload_n 1, 1) := by decide +kernel
theorem dL_law_153 : decode cL_law 153 = .ok (.aload_n 0, 1) := by decide +kernel
theorem dL_law_154 : decode cL_law 154 = .ok (.iload_n 3, 1) := by decide +kernel
theorem dL_law_155 : decode cL_law 155 = .ok (.iconst 1, 1) := by decide +kernel
theorem dL_law_156 : decode cL_law 156 = .ok (.iadd, 1) := by decide +kernel
theorem dL_law_157 : decode cL_law 157 = .ok (.iaload, 1) := by decide +kernel
theorem dL_law_158 : decode cL_law 158 = .ok (.aload_n 0, 1) := by decide +kernel
theorem dL_law_159 : decode cL_law 159 = .ok (.iload_n 3, 1) := by decide +kernel
theorem dL_law_160 : decode cL_law 160 = .ok (.iconst 2, 1) := by decide +kernel
theorem dL_law_161 : decode cL_law 161 = .ok (.iadd, 1) := by decide +kernel
theorem dL_law_162 : decode cL_law 162 = .ok (.iaload, 1) := by decide +kernel
theorem dL_law_163 : decode cL_law 163 = .ok (.aload_n 0, 1) := by decide +kernel
theorem dL_law_164 : decode cL_law 164 = .ok (.iload_n 3, 1) := by decide +kernel
theorem dL_law_165 : decode cL_law 165 = .ok (.iconst 3, 1) := by decide +kernel
theorem dL_law_166 : decode cL_law 166 = .ok (.iadd, 1) := by decide +kernel
theorem dL_law_167 : decode cL_law 167 = .ok (.iaload, 1) := by decide +kernel
theorem dL_law_168 : decode cL_law 168 = .ok (.aload_n 0, 1) := by decide +kernel
theorem dL_law_169 : decode cL_law 169 = .ok (.iload_n 3, 1) := by decide +kernel
theorem dL_law_170 : decode cL_law 170 = .ok (.iconst 4, 1) := by decide +kernel
theorem dL_law_171 : decode cL_law 171 = .ok (.iadd, 1) := by decide +kernel
theorem dL_law_172 : decode cL_law 172 = .ok (.iaload, 1) := by decide +kernel
theorem dL_law_173 : decode cL_law 173 = .ok (.aload_n 0, 1) := by decide +kernel
theorem dL_law_174 : decode cL_law 174 = .ok (.iload_n 3, 1) := by decide +kernel
theorem dL_law_175 : decode cL_law 175 = .ok (.iconst 5, 1) := by decide +kernel
theorem dL_law_176 : decode cL_law 176 = .ok (.iadd, 1) := by decide +kernel
theorem dL_law_177 : decode cL_law 177 = .ok (.iaload, 1) := by decide +kernel
theorem dL_law_178 : decode cL_law 178 = .ok (.aload_n 0, 1) := by decide +kernel
theorem dL_law_179 : decode cL_law 179 = .ok (.iload_n 3, 1) := by decide +kernel
theorem dL_law_180 : decode cL_law 180 = .ok (.bipush 6, 2) := by decide +kernel
theorem dL_law_182 : decode cL_law 182 = .ok (.iadd, 1) := by decide +kernel
theorem dL_law_183 : decode cL_law 183 = .ok (.iaload, 1) := by decide +kernel
theorem dL_law_184 : decode cL_law 184 = .ok (.invokevirtual 13, 3) := by decide +kernel
theorem dL_law_187 : decode cL_law 187 = .ok (.aload_n 2, 1) := by decide +kernel
theorem dL_law_188 : decode cL_law 188 = .ok (.aload_n 0, 1) := by decide +kernel
theorem dL_law_189 : decode cL_law 189 = .ok (.iload_n 3, 1) := by decide +kernel
theorem dL_law_190 : decode cL_law 190 = .ok (.iconst 1, 1) := by decide +kernel
theorem dL_law_191 : decode cL_law 191 = .ok (.iadd, 1) := by decide +kernel
theorem dL_law_192 : decode cL_law 192 = .ok (.iaload, 1) := by decide +kernel
theorem dL_law_193 : decode cL_law 193 = .ok (.aload_n 0, 1) := by decide +kernel
theorem dL_law_194 : decode cL_law 194 = .ok (.iload_n 3, 1) := by decide +kernel
theorem dL_law_195 : decode cL_law 195 = .ok (.iconst 2, 1) := by decide +kernel
theorem dL_law_196 : decode cL_law 196 = .ok (.iadd, 1) := by decide +kernel
theorem dL_law_197 : decode cL_law 197 = .ok (.iaload, 1) := by decide +kernel
theorem dL_law_198 : decode cL_law 198 = .ok (.aload_n 0, 1) := by decide +kernel
theorem dL_law_199 : decode cL_law 199 = .ok (.iload_n 3, 1) := by decide +kernel
theorem dL_law_200 : decode cL_law 200 = .ok (.iconst 3, 1) := by decide +kernel
theorem dL_law_201 : decode cL_law 201 = .ok (.iadd, 1) := by decide +kernel
theorem dL_law_202 : decode cL_law 202 = .ok (.iaload, 1) := by decide +kernel
theorem dL_law_203 : decode cL_law 203 = .ok (.aload_n 0, 1) := by decide +kernel
theorem dL_law_204 : decode cL_law 204 = .ok (.iload_n 3, 1) := by decide +kernel
theorem dL_law_205 : decode cL_law 205 = .ok (.iconst 4, 1) := by decide +kernel
theorem dL_law_206 : decode cL_law 206 = .ok (.iadd, 1) := by decide +kernel
theorem dL_law_207 : decode cL_law 207 = .ok (.iaload, 1) := by decide +kernel
theorem dL_law_208 : decode cL_law 208 = .ok (.aload_n 0, 1) := by decide +kernel
theorem dL_law_209 : decode cL_law 209 = .ok (.iload_n 3, 1) := by decide +kernel
theorem dL_law_210 : decode cL_law 210 = .ok (.iconst 5, 1) := by decide +kernel
theorem dL_law_211 : decode cL_law 211 = .ok (.iadd, 1) := by decide +kernel
theorem dL_law_212 : decode cL_law 212 = .ok (.iaload, 1) := by decide +kernel
theorem dL_law_213 : decode cL_law 213 = .ok (.aload_n 0, 1) := by decide +kernel
theorem dL_law_214 : decode cL_law 214 = .ok (.iload_n 3, 1) := by decide +kernel
theorem dL_law_215 : decode cL_law 215 = .ok (.bipush 6, 2) := by decide +kernel
theorem dL_law_217 : decode cL_law 217 = .ok (.iadd, 1) := by decide +kernel
theorem dL_law_218 : decode cL_law 218 = .ok (.iaload, 1) := by decide +kernel
theorem dL_law_219 : decode cL_law 219 = .ok (.invokevirtual 17, 3) := by decide +kernel
theorem dL_law_222 : decode cL_law 222 = .ok (.if_icmp .eq 880, 3) := by decide +kernel
theorem dL_law_225 : decode cL_law 225 = .ok (.iconst 0, 1) := by decide +kernel
theorem dL_law_226 : decode cL_law 226 = .ok (.ireturn, 1) := by decide +kernel
theorem dL_law_227 : decode cL_law 227 = .ok (.aload_n 1, 1) := by decide +kernel
theorem dL_law_228 : decode cL_law 228 = .ok (.aload_n 0, 1) := by decide +kernel
theorem dL_law_229 : decode cL_law 229 = .ok (.iload_n 3, 1) := by decide +kernel
theorem dL_law_230 : decode cL_law 230 = .ok (.iconst 1, 1) := by decide +kernel
theorem dL_law_231 : decode cL_law 231 = .ok (.iadd, 1) := by decide +kernel
theorem dL_law_232 : decode cL_law 232 = .ok (.iaload, 1) := by decide +kernel
theorem dL_law_233 : decode cL_law 233 = .ok (.invokevirtual 18, 3) := by decide +kernel
theorem dL_law_236 : decode cL_law 236 = .ok (.aload_n 2, 1) := by decide +kernel
theorem dL_law_237 : decode cL_law 237 = .ok (.aload_n 0, 1) := by decide +kernel
theorem dL_law_238 : decode cL_law 238 = .ok (.iload_n 3, 1) := by decide +kernel
theorem dL_law_239 : decode cL_law 239 = .ok (.iconst 1, 1) := by decide +kernel
theorem dL_law_240 : decode cL_law 240 = .ok (.iadd, 1) := by decide +kernel
theorem dL_law_241 : decode cL_law 241 = .ok (.iaload, 1) := by decide +kernel
theorem dL_law_242 : decode cL_law 242 = .ok (.invokevirtual 22, 3) := by decide +kernel
theorem dL_law_245 : decode cL_law 245 = .ok (.if_icmp .eq 857, 3) := by decide +kernel
theorem dL_law_248 : decode cL_law 248 = .ok (.iconst 0, 1) := by decide +kernel
theorem dL_law_249 : decode cL_law 249 = .ok (.ireturn, 1) := by decide +kernel
theorem dL_law_250 : decode cL_law 250 = .ok (.aload_n 1, 1) := by decide +kernel
theorem dL_law_251 : decode cL_law 251 = .ok (.aload_n 0, 1) := by decide +kernel
theorem dL_law_252 : decode cL_law 252 = .ok (.iload_n 3, 1) := by decide +kernel
theorem dL_law_253 : decode cL_law 253 = .ok (.iconst 1, 1) := by decide +kernel
theorem dL_law_254 : decode cL_law 254 = .ok (.iadd, 1) := by decide +kernel
theorem dL_law_255 : decode cL_law 255 = .ok (.iaload, 1) := by decide +kernel
theorem dL_law_256 : decode cL_law 256 = .ok (.aload_n 0, 1) := by decide +kernel
theorem dL_law_257 : decode cL_law 257 = .ok (.iload_n 3, 1) := by decide +kernel
theorem dL_law_258 : decode cL_law 258 = .ok (.iconst 2, 1) := by decide +kernel
theorem dL_law_259 : decode cL_law 259 = .ok (.iadd, 1) := by decide +kernel
theorem dL_law_260 : decode cL_law 260 = .ok (.iaload, 1) := by decide +kernel
theorem dL_law_261 : decode cL_law 261 = .ok (.invokevirtual 23, 3) := by decide +kernel
theorem dL_law_264 : decode cL_law 264 = .ok (.aload_n 2, 1) := by decide +kernel
theorem dL_law_265 : decode cL_law 265 = .ok (.aload_n 0, 1) := by decide +kernel
theorem dL_law_266 : decode cL_law 266 = .ok (.iload_n 3, 1) := by decide +kernel
theorem dL_law_267 : decode cL_law 267 = .ok (.iconst 1, 1) := by decide +kernel
theorem dL_law_268 : decode cL_law 268 = .ok (.iadd, 1) := by decide +kernel
theorem dL_law_269 : decode cL_law 269 = .ok (.iaload, 1) := by decide +kernel
theorem dL_law_270 : decode cL_law 270 = .ok (.aload_n 0, 1) := by decide +kernel
theorem dL_law_271 : decode cL_law 271 = .ok (.iload_n 3, 1) := by decide +kernel
theorem dL_law_272 : decode cL_law 272 = .ok (.iconst 2, 1) := by decide +kernel
theorem dL_law_273 : decode cL_law 273 = .ok (.iadd, 1) := by decide +kernel
theorem dL_law_274 : decode cL_law 274 = .ok (.iaload, 1) := by decide +kernel
theorem dL_law_275 : decode cL_law 275 = .ok (.invokevirtual 27, 3) := by decide +kernel
theorem dL_law_278 : decode cL_law 278 = .ok (.if_icmp .eq 824, 3) := by decide +kernel
theorem dL_law_281 : decode cL_law 281 = .ok (.iconst 0, 1) := by decide +kernel
theorem dL_law_282 : decode cL_law 282 = .ok (.ireturn, 1) := by decide +kernel
theorem dL_law_283 : decode cL_law 283 = .ok (.aload_n 1, 1) := by decide +kernel
theorem dL_law_284 : decode cL_law 284 = .ok (.aload_n 0, 1) := by decide +kernel
theorem dL_law_285 : decode cL_law 285 = .ok (.iload_n 3, 1) := by decide +kernel
theorem dL_law_286 : decode cL_law 286 = .ok (.iconst 1, 1) := by decide +kernel
theorem dL_law_287 : decode cL_law 287 = .ok (.iadd, 1) := by decide +kernel
theorem dL_law_288 : decode cL_law 288 = .ok (.iaload, 1) := by decide +kernel
theorem dL_law_289 : decode cL_law 289 = .ok (.aload_n 0, 1) := by decide +kernel
theorem dL_law_290 : decode cL_law 290 = .ok (.iload_n 3, 1) := by decide +kernel
theorem dL_law_291 : decode cL_law 291 = .ok (.iconst 2, 1) := by decide +kernel
theorem dL_law_292 : decode cL_law 292 = .ok (.iadd, 1) := by decide +kernel
theorem dL_law_293 : decode cL_law 293 = .ok (.iaload, 1) := by decide +kernel
theorem dL_law_294 : decode cL_law 294 = .ok (.aload_n 0, 1) := by decide +kernel
theorem dL_law_295 : decode cL_law 295 = .ok (.iload_n 3, 1) := by decide +kernel
theorem dL_law_296 : decode cL_law 296 = .ok (.iconst 3, 1) := by decide +kernel
theorem dL_law_297 : decode cL_law 297 = .ok (.iadd, 1) := by decide +kernel
theorem dL_law_298 : decode cL_law 298 = .ok (.iaload, 1) := by decide +kernel
theorem dL_law_299 : decode cL_law 299 = .ok (.aload_n 0, 1) := by decide +kernel
theorem dL_law_300 : decode cL_law 300 = .ok (.iload_n 3, 1) := by decide +kernel
theorem dL_law_301 : decode cL_law 301 = .ok (.iconst 4, 1) := by decide +kernel
theorem dL_law_302 : decode cL_law 302 = .ok (.iadd, 1) := by decide +kernel
theorem dL_law_303 : decode cL_law 303 = .ok (.iaload, 1) := by decide +kernel
theorem dL_law_304 : decode cL_law 304 = .ok (.invokevirtual 28, 3) := by decide +kernel
theorem dL_law_307 : decode cL_law 307 = .ok (.aload_n 2, 1) := by decide +kernel
theorem dL_law_308 : decode cL_law 308 = .ok (.aload_n 0, 1) := by decide +kernel
theorem dL_law_309 : decode cL_law 309 = .ok (.iload_n 3, 1) := by decide +kernel
theorem dL_law_310 : decode cL_law 310 = .ok (.iconst 1, 1) := by decide +kernel
theorem dL_law_311 : decode cL_law 311 = .ok (.iadd, 1) := by decide +kernel
theorem dL_law_312 : decode cL_law 312 = .ok (.iaload, 1) := by decide +kernel
theorem dL_law_313 : decode cL_law 313 = .ok (.aload_n 0, 1) := by decide +kernel
theorem dL_law_314 : decode cL_law 314 = .ok (.iload_n 3, 1) := by decide +kernel
theorem dL_law_315 : decode cL_law 315 = .ok (.iconst 2, 1) := by decide +kernel
theorem dL_law_316 : decode cL_law 316 = .ok (.iadd, 1) := by decide +kernel
theorem dL_law_317 : decode cL_law 317 = .ok (.iaload, 1) := by decide +kernel
theorem dL_law_318 : decode cL_law 318 = .ok (.aload_n 0, 1) := by decide +kernel
theorem dL_law_319 : decode cL_law 319 = .ok (.iload_n 3, 1) := by decide +kernel
theorem dL_law_320 : decode cL_law 320 = .ok (.iconst 3, 1) := by decide +kernel
theorem dL_law_321 : decode cL_law 321 = .ok (.iadd, 1) := by decide +kernel
theorem dL_law_322 : decode cL_law 322 = .ok (.iaload, 1) := by decide +kernel
theorem dL_law_323 : decode cL_law 323 = .ok (.aload_n 0, 1) := by decide +kernel
theorem dL_law_324 : decode cL_law 324 = .ok (.iload_n 3, 1) := by decide +kernel
theorem dL_law_325 : decode cL_law 325 = .ok (.iconst 4, 1) := by decide +kernel
theorem dL_law_326 : decode cL_law 326 = .ok (.iadd, 1) := by decide +kernel
theorem dL_law_327 : decode cL_law 327 = .ok (.iaload, 1) := by decide +kernel
theorem dL_law_328 : decode cL_law 328 = .ok (.invokevirtual 32, 3) := by decide +kernel
theorem dL_law_331 : decode cL_law 331 = .ok (.if_icmp .eq 771, 3) := by decide +kernel
theorem dL_law_334 : decode cL_law 334 = .ok (.iconst 0, 1) := by decide +kernel
theorem dL_law_335 : decode cL_law 335 = .ok (.ireturn, 1) := by decide +kernel
theorem dL_law_336 : decode cL_law 336 = .ok (.aload_n 1, 1) := by decide +kernel
theorem dL_law_337 : decode cL_law 337 = .ok (.aload_n 0, 1) := by decide +kernel
theorem dL_law_338 : decode cL_law 338 = .ok (.iload_n 3, 1) := by decide +kernel
theorem dL_law_339 : decode cL_law 339 = .ok (.iconst 1, 1) := by decide +kernel
theorem dL_law_340 : decode cL_law 340 = .ok (.iadd, 1) := by decide +kernel
theorem dL_law_341 : decode cL_law 341 = .ok (.iaload, 1) := by decide +kernel
theorem dL_law_342 : decode cL_law 342 = .ok (.aload_n 0, 1) := by decide +kernel
theorem dL_law_343 : decode cL_law 343 = .ok (.iload_n 3, 1) := by decide +kernel
theorem dL_law_344 : decode cL_law 344 = .ok (.iconst 2, 1) := by decide +kernel
theorem dL_law_345 : decode cL_law 345 = .ok (.iadd, 1) := by decide +kernel
theorem dL_law_346 : decode cL_law 346 = .ok (.iaload, 1) := by decide +kernel
theorem dL_law_347 : decode cL_law 347 = .ok (.aload_n 0, 1) := by decide +kernel
theorem dL_law_348 : decode cL_law 348 = .ok (.iload_n 3, 1) := by decide +kernel
theorem dL_law_349 : decode cL_law 349 = .ok (.iconst 3, 1) := by decide +kernel
theorem dL_law_350 : decode cL_law 350 = .ok (.iadd, 1) := by decide +kernel
theorem dL_law_351 : decode cL_law 351 = .ok (.iaload, 1) := by decide +kernel
theorem dL_law_352 : decode cL_law 352 = .ok (.aload_n 0, 1) := by decide +kernel
theorem dL_law_353 : decode cL_law 353 = .ok (.iload_n 3, 1) := by decide +kernel
theorem dL_law_354 : decode cL_law 354 = .ok (.iconst 4, 1) := by decide +kernel
theorem dL_law_355 : decode cL_law 355 = .ok (.iadd, 1) := by decide +kernel
theorem dL_law_356 : decode cL_law 356 = .ok (.iaload, 1) := by decide +kernel
theorem dL_law_357 : decode cL_law 357 = .ok (.invokevirtual 33, 3) := by decide +kernel
theorem dL_law_360 : decode cL_law 360 = .ok (.aload_n 2, 1) := by decide +kernel
theorem dL_law_361 : decode cL_law 361 = .ok (.aload_n 0, 1) := by decide +kernel
theorem dL_law_362 : decode cL_law 362 = .ok (.iload_n 3, 1) := by decide +kernel
theorem dL_law_363 : decode cL_law 363 = .ok (.iconst 1, 1) := by decide +kernel
theorem dL_law_364 : decode cL_law 364 = .ok (.iadd, 1) := by decide +kernel
theorem dL_law_365 : decode cL_law 365 = .ok (.iaload, 1) := by decide +kernel
theorem dL_law_366 : decode cL_law 366 = .ok (.aload_n 0, 1) := by decide +kernel
theorem dL_law_367 : decode cL_law 367 = .ok (.iload_n 3, 1) := by decide +kernel
theorem dL_law_368 : decode cL_law 368 = .ok (.iconst 2, 1) := by decide +kernel
theorem dL_law_369 : decode cL_law 369 = .ok (.iadd, 1) := by decide +kernel
theorem dL_law_370 : decode cL_law 370 = .ok (.iaload, 1) := by decide +kernel
theorem dL_law_371 : decode cL_law 371 = .ok (.aload_n 0, 1) := by decide +kernel
theorem dL_law_372 : decode cL_law 372 = .ok (.iload_n 3, 1) := by decide +kernel
theorem dL_law_373 : decode cL_law 373 = .ok (.iconst 3, 1) := by decide +kernel
theorem dL_law_374 : decode cL_law 374 = .ok (.iadd, 1) := by decide +kernel
theorem dL_law_375 : decode cL_law 375 = .ok (.iaload, 1) := by decide +kernel
theorem dL_law_376 : decode cL_law 376 = .ok (.aload_n 0, 1) := by decide +kernel
theorem dL_law_377 : decode cL_law 377 = .ok (.iload_n 3, 1) := by decide +kernel
theorem dL_law_378 : decode cL_law 378 = .ok (.iconst 4, 1) := by decide +kernel
theorem dL_law_379 : decode cL_law 379 = .ok (.iadd, 1) := by decide +kernel
theorem dL_law_380 : decode cL_law 380 = .ok (.iaload, 1) := by decide +kernel
theorem dL_law_381 : decode cL_law 381 = .ok (.invokevirtual 36, 3) := by decide +kernel
theorem dL_law_384 : decode cL_law 384 = .ok (.if_icmp .eq 718, 3) := by decide +kernel
theorem dL_law_387 : decode cL_law 387 = .ok (.iconst 0, 1) := by decide +kernel
theorem dL_law_388 : decode cL_law 388 = .ok (.ireturn, 1) := by decide +kernel
theorem dL_law_389 : decode cL_law 389 = .ok (.aload_n 1, 1) := by decide +kernel
theorem dL_law_390 : decode cL_law 390 = .ok (.aload_n 0, 1) := by decide +kernel
theorem dL_law_391 : decode cL_law 391 = .ok (.iload_n 3, 1) := by decide +kernel
theorem dL_law_392 : decode cL_law 392 = .ok (.iconst 1, 1) := by decide +kernel
theorem dL_law_393 : decode cL_law 393 = .ok (.iadd, 1) := by decide +kernel
theorem dL_law_394 : decode cL_law 394 = .ok (.iaload, 1) := by decide +kernel
theorem dL_law_395 : decode cL_law 395 = .ok (.aload_n 0, 1) := by decide +kernel
theorem dL_law_396 : decode cL_law 396 = .ok (.iload_n 3, 1) := by decide +kernel
theorem dL_law_397 : decode cL_law 397 = .ok (.iconst 2, 1) := by decide +kernel
theorem dL_law_398 : decode cL_law 398 = .ok (.iadd, 1) := by decide +kernel
theorem dL_law_399 : decode cL_law 399 = .ok (.iaload, 1) := by decide +kernel
theorem dL_law_400 : decode cL_law 400 = .ok (.invokevirtual 37, 3) := by decide +kernel
theorem dL_law_403 : decode cL_law 403 = .ok (.aload_n 2, 1) := by decide +kernel
theorem dL_law_404 : decode cL_law 404 = .ok (.aload_n 0, 1) := by decide +kernel
theorem dL_law_405 : decode cL_law 405 = .ok (.iload_n 3, 1) := by decide +kernel
theorem dL_law_406 : decode cL_law 406 = .ok (.iconst 1, 1) := by decide +kernel
theorem dL_law_407 : decode cL_law 407 = .ok (.iadd, 1) := by decide +kernel
theorem dL_law_408 : decode cL_law 408 = .ok (.iaload, 1) := by decide +kernel
theorem dL_law_409 : decode cL_law 409 = .ok (.aload_n 0, 1) := by decide +kernel
theorem dL_law_410 : decode cL_law 410 = .ok (.iload_n 3, 1) := by decide +kernel
theorem dL_law_411 : decode cL_law 411 = .ok (.iconst 2, 1) := by decide +kernel
theorem dL_law_412 : decode cL_law 412 = .ok (.iadd, 1) := by decide +kernel
theorem dL_law_413 : decode cL_law 413 = .ok (.iaload, 1) := by decide +kernel
theorem dL_law_414 : decode cL_law 414 = .ok (.invokevirtual 40, 3) := by decide +kernel
theorem dL_law_417 : decode cL_law 417 = .ok (.if_icmp .eq 685, 3) := by decide +kernel
theorem dL_law_420 : decode cL_law 420 = .ok (.iconst 0, 1) := by decide +kernel
theorem dL_law_421 : decode cL_law 421 = .ok (.ireturn, 1) := by decide +kernel
theorem dL_law_422 : decode cL_law 422 = .ok (.aload_n 1, 1) := by decide +kernel
theorem dL_law_423 : decode cL_law 423 = .ok (.aload_n 0, 1) := by decide +kernel
theorem dL_law_424 : decode cL_law 424 = .ok (.iload_n 3, 1) := by decide +kernel
theorem dL_law_425 : decode cL_law 425 = .ok (.iconst 1, 1) := by decide +kernel
theorem dL_law_426 : decode cL_law 426 = .ok (.iadd, 1) := by decide +kernel
theorem dL_law_427 : decode cL_law 427 = .ok (.iaload, 1) := by decide +kernel
theorem dL_law_428 : decode cL_law 428 = .ok (.aload_n 0, 1) := by decide +kernel
theorem dL_law_429 : decode cL_law 429 = .ok (.iload_n 3, 1) := by decide +kernel
theorem dL_law_430 : decode cL_law 430 = .ok (.iconst 2, 1) := by decide +kernel
theorem dL_law_431 : decode cL_law 431 = .ok (.iadd, 1) := by decide +kernel
theorem dL_law_432 : decode cL_law 432 = .ok (.iaload, 1) := by decide +kernel
theorem dL_law_433 : decode cL_law 433 = .ok (.aload_n 0, 1) := by decide +kernel
theorem dL_law_434 : decode cL_law 434 = .ok (.iload_n 3, 1) := by decide +kernel
theorem dL_law_435 : decode cL_law 435 = .ok (.iconst 3, 1) := by decide +kernel
theorem dL_law_436 : decode cL_law 436 = .ok (.iadd, 1) := by decide +kernel
theorem dL_law_437 : decode cL_law 437 = .ok (.iaload, 1) := by decide +kernel
theorem dL_law_438 : decode cL_law 438 = .ok (.invokevirtual 41, 3) := by decide +kernel
theorem dL_law_441 : decode cL_law 441 = .ok (.aload_n 2, 1) := by decide +kernel
theorem dL_law_442 : decode cL_law 442 = .ok (.aload_n 0, 1) := by decide +kernel
theorem dL_law_443 : decode cL_law 443 = .ok (.iload_n 3, 1) := by decide +kernel
theorem dL_law_444 : decode cL_law 444 = .ok (.iconst 1, 1) := by decide +kernel
theorem dL_law_445 : decode cL_law 445 = .ok (.iadd, 1) := by decide +kernel
theorem dL_law_446 : decode cL_law 446 = .ok (.iaload, 1) := by decide +kernel
theorem dL_law_447 : decode cL_law 447 = .ok (.aload_n 0, 1) := by decide +kernel
theorem dL_law_448 : decode cL_law 448 = .ok (.iload_n 3, 1) := by decide +kernel
theorem dL_law_449 : decode cL_law 449 = .ok (.iconst 2, 1) := by decide +kernel
theorem dL_law_450 : decode cL_law 450 = .ok (.iadd, 1) := by decide +kernel
theorem dL_law_451 : decode cL_law 451 = .ok (.iaload, 1) := by decide +kernel
theorem dL_law_452 : decode cL_law 452 = .ok (.aload_n 0, 1) := by decide +kernel
theorem dL_law_453 : decode cL_law 453 = .ok (.iload_n 3, 1) := by decide +kernel
theorem dL_law_454 : decode cL_law 454 = .ok (.iconst 3, 1) := by decide +kernel
theorem dL_law_455 : decode cL_law 455 = .ok (.iadd, 1) := by decide +kernel
theorem dL_law_456 : decode cL_law 456 = .ok (.iaload, 1) := by decide +kernel
theorem dL_law_457 : decode cL_law 457 = .ok (.invokevirtual 45, 3) := by decide +kernel
theorem dL_law_460 : decode cL_law 460 = .ok (.if_icmp .eq 642, 3) := by decide +kernel
theorem dL_law_463 : decode cL_law 463 = .ok (.iconst 0, 1) := by decide +kernel
theorem dL_law_464 : decode cL_law 464 = .ok (.ireturn, 1) := by decide +kernel
theorem dL_law_465 : decode cL_law 465 = .ok (.aload_n 1, 1) := by decide +kernel
theorem dL_law_466 : decode cL_law 466 = .ok (.aload_n 0, 1) := by decide +kernel
theorem dL_law_467 : decode cL_law 467 = .ok (.iload_n 3, 1) := by decide +kernel
theorem dL_law_468 : decode cL_law 468 = .ok (.iconst 1, 1) := by decide +kernel
theorem dL_law_469 : decode cL_law 469 = .ok (.iadd, 1) := by decide +kernel
theorem dL_law_470 : decode cL_law 470 = .ok (.iaload, 1) := by decide +kernel
theorem dL_law_471 : decode cL_law 471 = .ok (.aload_n 0, 1) := by decide +kernel
theorem dL_law_472 : decode cL_law 472 = .ok (.iload_n 3, 1) := by decide +kernel
theorem dL_law_473 : decode cL_law 473 = .ok (.iconst 2, 1) := by decide +kernel
theorem dL_law_474 : decode cL_law 474 = .ok (.iadd, 1) := by decide +kernel
theorem dL_law_475 : decode cL_law 475 = .ok (.iaload, 1) := by decide +kernel
theorem dL_law_476 : decode cL_law 476 = .ok (.invokevirtual 46, 3) := by decide +kernel
theorem dL_law_479 : decode cL_law 479 = .ok (.aload_n 2, 1) := by decide +kernel
theorem dL_law_480 : decode cL_law 480 = .ok (.aload_n 0, 1) := by decide +kernel
theorem dL_law_481 : decode cL_law 481 = .ok (.iload_n 3, 1) := by decide +kernel
theorem dL_law_482 : decode cL_law 482 = .ok (.iconst 1, 1) := by decide +kernel
theorem dL_law_483 : decode cL_law 483 = .ok (.iadd, 1) := by decide +kernel
theorem dL_law_484 : decode cL_law 484 = .ok (.iaload, 1) := by decide +kernel
theorem dL_law_485 : decode cL_law 485 = .ok (.aload_n 0, 1) := by decide +kernel
theorem dL_law_486 : decode cL_law 486 = .ok (.iload_n 3, 1) := by decide +kernel
theorem dL_law_487 : decode cL_law 487 = .ok (.iconst 2, 1) := by decide +kernel
theorem dL_law_488 : decode cL_law 488 = .ok (.iadd, 1) := by decide +kernel
theorem dL_law_489 : decode cL_law 489 = .ok (.iaload, 1) := by decide +kernel
theorem dL_law_490 : decode cL_law 490 = .ok (.invokevirtual 50, 3) := by decide +kernel
theorem dL_law_493 : decode cL_law 493 = .ok (.if_icmp .eq 609, 3) := by decide +kernel
theorem dL_law_496 : decode cL_law 496 = .ok (.iconst 0, 1) := by decide +kernel
theorem dL_law_497 : decode cL_law 497 = .ok (.ireturn, 1) := by decide +kernel
theorem dL_law_498 : decode cL_law 498 = .ok (.aload_n 1, 1) := by decide +kernel
theorem dL_law_499 : decode cL_law 499 = .ok (.aload_n 0, 1) := by decide +kernel
theorem dL_law_500 : decode cL_law 500 = .ok (.iload_n 3, 1) := by decide +kernel
theorem dL_law_501 : decode cL_law 501 = .ok (.iconst 1, 1) := by decide +kernel
theorem dL_law_502 : decode cL_law 502 = .ok (.iadd, 1) := by decide +kernel
theorem dL_law_503 : decode cL_law 503 = .ok (.iaload, 1) := by decide +kernel
theorem dL_law_504 : decode cL_law 504 = .ok (.aload_n 0, 1) := by decide +kernel
theorem dL_law_505 : decode cL_law 505 = .ok (.iload_n 3, 1) := by decide +kernel
theorem dL_law_506 : decode cL_law 506 = .ok (.iconst 2, 1) := by decide +kernel
theorem dL_law_507 : decode cL_law 507 = .ok (.iadd, 1) := by decide +kernel
theorem dL_law_508 : decode cL_law 508 = .ok (.iaload, 1) := by decide +kernel
theorem dL_law_509 : decode cL_law 509 = .ok (.aload_n 0, 1) := by decide +kernel
theorem dL_law_510 : decode cL_law 510 = .ok (.iload_n 3, 1) := by decide +kernel
theorem dL_law_511 : decode cL_law 511 = .ok (.iconst 3, 1) := by decide +kernel
theorem dL_law_512 : decode cL_law 512 = .ok (.iadd, 1) := by decide +kernel
theorem dL_law_513 : decode cL_law 513 = .ok (.iaload, 1) := by decide +kernel
theorem dL_law_514 : decode cL_law 514 = .ok (.aload_n 0, 1) := by decide +kernel
theorem dL_law_515 : decode cL_law 515 = .ok (.iload_n 3, 1) := by decide +kernel
theorem dL_law_516 : decode cL_law 516 = .ok (.iconst 4, 1) := by decide +kernel
theorem dL_law_517 : decode cL_law 517 = .ok (.iadd, 1) := by decide +kernel
theorem dL_law_518 : decode cL_law 518 = .ok (.iaload, 1) := by decide +kernel
theorem dL_law_519 : decode cL_law 519 = .ok (.aload_n 0, 1) := by decide +kernel
theorem dL_law_520 : decode cL_law 520 = .ok (.iload_n 3, 1) := by decide +kernel
theorem dL_law_521 : decode cL_law 521 = .ok (.iconst 5, 1) := by decide +kernel
theorem dL_law_522 : decode cL_law 522 = .ok (.iadd, 1) := by decide +kernel
theorem dL_law_523 : decode cL_law 523 = .ok (.iaload, 1) := by decide +kernel
theorem dL_law_524 : decode cL_law 524 = .ok (.invokevirtual 51, 3) := by decide +kernel
theorem dL_law_527 : decode cL_law 527 = .ok (.aload_n 2, 1) := by decide +kernel
theorem dL_law_528 : decode cL_law 528 = .ok (.aload_n 0, 1) := by decide +kernel
theorem dL_law_529 : decode cL_law 529 = .ok (.iload_n 3, 1) := by decide +kernel
theorem dL_law_530 : decode cL_law 530 = .ok (.iconst 1, 1) := by decide +kernel
theorem dL_law_531 : decode cL_law 531 = .ok (.iadd, 1) := by decide +kernel
theorem dL_law_532 : decode cL_law 532 = .ok (.iaload, 1) := by decide +kernel
theorem dL_law_533 : decode cL_law 533 = .ok (.aload_n 0, 1) := by decide +kernel
theorem dL_law_534 : decode cL_law 534 = .ok (.iload_n 3, 1) := by decide +kernel
theorem dL_law_535 : decode cL_law 535 = .ok (.iconst 2, 1) := by decide +kernel
theorem dL_law_536 : decode cL_law 536 = .ok (.iadd, 1) := by decide +kernel
theorem dL_law_537 : decode cL_law 537 = .ok (.iaload, 1) := by decide +kernel
theorem dL_law_538 : decode cL_law 538 = .ok (.aload_n 0, 1) := by decide +kernel
theorem dL_law_539 : decode cL_law 539 = .ok (.iload_n 3, 1) := by decide +kernel
theorem dL_law_540 : decode cL_law 540 = .ok (.iconst 3, 1) := by decide +kernel
theorem dL_law_541 : decode cL_law 541 = .ok (.iadd, 1) := by decide +kernel
theorem dL_law_542 : decode cL_law 542 = .ok (.iaload, 1) := by decide +kernel
theorem dL_law_543 : decode cL_law 543 = .ok (.aload_n 0, 1) := by decide +kernel
theorem dL_law_544 : decode cL_law 544 = .ok (.iload_n 3, 1) := by decide +kernel
theorem dL_law_545 : decode cL_law 545 = .ok (.iconst 4, 1) := by decide +kernel
theorem dL_law_546 : decode cL_law 546 = .ok (.iadd, 1) := by decide +kernel
theorem dL_law_547 : decode cL_law 547 = .ok (.iaload, 1) := by decide +kernel
theorem dL_law_548 : decode cL_law 548 = .ok (.aload_n 0, 1) := by decide +kernel
theorem dL_law_549 : decode cL_law 549 = .ok (.iload_n 3, 1) := by decide +kernel
theorem dL_law_550 : decode cL_law 550 = .ok (.iconst 5, 1) := by decide +kernel
theorem dL_law_551 : decode cL_law 551 = .ok (.iadd, 1) := by decide +kernel
theorem dL_law_552 : decode cL_law 552 = .ok (.iaload, 1) := by decide +kernel
theorem dL_law_553 : decode cL_law 553 = .ok (.invokevirtual 55, 3) := by decide +kernel
theorem dL_law_556 : decode cL_law 556 = .ok (.if_icmp .eq 546, 3) := by decide +kernel
theorem dL_law_559 : decode cL_law 559 = .ok (.iconst 0, 1) := by decide +kernel
theorem dL_law_560 : decode cL_law 560 = .ok (.ireturn, 1) := by decide +kernel
theorem dL_law_561 : decode cL_law 561 = .ok (.aload_n 1, 1) := by decide +kernel
theorem dL_law_562 : decode cL_law 562 = .ok (.aload_n 0, 1) := by decide +kernel
theorem dL_law_563 : decode cL_law 563 = .ok (.iload_n 3, 1) := by decide +kernel
theorem dL_law_564 : decode cL_law 564 = .ok (.iconst 1, 1) := by decide +kernel
theorem dL_law_565 : decode cL_law 565 = .ok (.iadd, 1) := by decide +kernel
theorem dL_law_566 : decode cL_law 566 = .ok (.iaload, 1) := by decide +kernel
theorem dL_law_567 : decode cL_law 567 = .ok (.invokevirtual 56, 3) := by decide +kernel
theorem dL_law_570 : decode cL_law 570 = .ok (.aload_n 2, 1) := by decide +kernel
theorem dL_law_571 : decode cL_law 571 = .ok (.aload_n 0, 1) := by decide +kernel
theorem dL_law_572 : decode cL_law 572 = .ok (.iload_n 3, 1) := by decide +kernel
theorem dL_law_573 : decode cL_law 573 = .ok (.iconst 1, 1) := by decide +kernel
theorem dL_law_574 : decode cL_law 574 = .ok (.iadd, 1) := by decide +kernel
theorem dL_law_575 : decode cL_law 575 = .ok (.iaload, 1) := by decide +kernel
theorem dL_law_576 : decode cL_law 576 = .ok (.invokevirtual 59, 3) := by decide +kernel
theorem dL_law_579 : decode cL_law 579 = .ok (.if_icmp .eq 523, 3) := by decide +kernel
theorem dL_law_582 : decode cL_law 582 = .ok (.iconst 0, 1) := by decide +kernel
theorem dL_law_583 : decode cL_law 583 = .ok (.ireturn, 1) := by decide +kernel
theorem dL_law_584 : decode cL_law 584 = .ok (.aload_n 1, 1) := by decide +kernel
theorem dL_law_585 : decode cL_law 585 = .ok (.invokevirtual 60, 3) := by decide +kernel
theorem dL_law_588 : decode cL_law 588 = .ok (.aload_n 2, 1) := by decide +kernel
theorem dL_law_589 : decode cL_law 589 = .ok (.invokevirtual 64, 3) := by decide +kernel
theorem dL_law_592 : decode cL_law 592 = .ok (.if_icmp .eq 510, 3) := by decide +kernel
theorem dL_law_595 : decode cL_law 595 = .ok (.iconst 0, 1) := by decide +kernel
theorem dL_law_596 : decode cL_law 596 = .ok (.ireturn, 1) := by decide +kernel
theorem dL_law_597 : decode cL_law 597 = .ok (.aload_n 1, 1) := by decide +kernel
theorem dL_law_598 : decode cL_law 598 = .ok (.aload_n 0, 1) := by decide +kernel
theorem dL_law_599 : decode cL_law 599 = .ok (.iload_n 3, 1) := by decide +kernel
theorem dL_law_600 : decode cL_law 600 = .ok (.iconst 1, 1) := by decide +kernel
theorem dL_law_601 : decode cL_law 601 = .ok (.iadd, 1) := by decide +kernel
theorem dL_law_602 : decode cL_law 602 = .ok (.iaload, 1) := by decide +kernel
theorem dL_law_603 : decode cL_law 603 = .ok (.invokevirtual 65, 3) := by decide +kernel
theorem dL_law_606 : decode cL_law 606 = .ok (.aload_n 2, 1) := by decide +kernel
theorem dL_law_607 : decode cL_law 607 = .ok (.aload_n 0, 1) := by decide +kernel
theorem dL_law_608 : decode cL_law 608 = .ok (.iload_n 3, 1) := by decide +kernel
theorem dL_law_609 : decode cL_law 609 = .ok (.iconst 1, 1) := by decide +kernel
theorem dL_law_610 : decode cL_law 610 = .ok (.iadd, 1) := by decide +kernel
theorem dL_law_611 : decode cL_law 611 = .ok (.iaload, 1) := by decide +kernel
theorem dL_law_612 : decode cL_law 612 = .ok (.invokevirtual 68, 3) := by decide +kernel
theorem dL_law_615 : decode cL_law 615 = .ok (.if_icmp .eq 487, 3) := by decide +kernel
theorem dL_law_618 : decode cL_law 618 = .ok (.iconst 0, 1) := by decide +kernel
theorem dL_law_619 : decode cL_law 619 = .ok (.ireturn, 1) := by decide +kernel
theorem dL_law_620 : decode cL_law 620 = .ok (.aload_n 1, 1) := by decide +kernel
theorem dL_law_621 : decode cL_law 621 = .ok (.aload_n 0, 1) := by decide +kernel
theorem dL_law_622 : decode cL_law 622 = .ok (.iload_n 3, 1) := by decide +kernel
theorem dL_law_623 : decode cL_law 623 = .ok (.iconst 1, 1) := by decide +kernel
theorem dL_law_624 : decode cL_law 624 = .ok (.iadd, 1) := by decide +kernel
theorem dL_law_625 : decode cL_law 625 = .ok (.iaload, 1) := by decide +kernel
theorem dL_law_626 : decode cL_law 626 = .ok (.invokevirtual 69, 3) := by decide +kernel
theorem dL_law_629 : decode cL_law 629 = .ok (.aload_n 2, 1) := by decide +kernel
theorem dL_law_630 : decode cL_law 630 = .ok (.aload_n 0, 1) := by decide +kernel
theorem dL_law_631 : decode cL_law 631 = .ok (.iload_n 3, 1) := by decide +kernel
theorem dL_law_632 : decode cL_law 632 = .ok (.iconst 1, 1) := by decide +kernel
theorem dL_law_633 : decode cL_law 633 = .ok (.iadd, 1) := by decide +kernel
theorem dL_law_634 : decode cL_law 634 = .ok (.iaload, 1) := by decide +kernel
theorem dL_law_635 : decode cL_law 635 = .ok (.invokevirtual 73, 3) := by decide +kernel
theorem dL_law_638 : decode cL_law 638 = .ok (.if_icmp .eq 464, 3) := by decide +kernel
theorem dL_law_641 : decode cL_law 641 = .ok (.iconst 0, 1) := by decide +kernel
theorem dL_law_642 : decode cL_law 642 = .ok (.ireturn, 1) := by decide +kernel
theorem dL_law_643 : decode cL_law 643 = .ok (.aload_n 1, 1) := by decide +kernel
theorem dL_law_644 : decode cL_law 644 = .ok (.aload_n 0, 1) := by decide +kernel
theorem dL_law_645 : decode cL_law 645 = .ok (.iload_n 3, 1) := by decide +kernel
theorem dL_law_646 : decode cL_law 646 = .ok (.iconst 1, 1) := by decide +kernel
theorem dL_law_647 : decode cL_law 647 = .ok (.iadd, 1) := by decide +kernel
theorem dL_law_648 : decode cL_law 648 = .ok (.iaload, 1) := by decide +kernel
theorem dL_law_649 : decode cL_law 649 = .ok (.aload_n 0, 1) := by decide +kernel
theorem dL_law_650 : decode cL_law 650 = .ok (.iload_n 3, 1) := by decide +kernel
theorem dL_law_651 : decode cL_law 651 = .ok (.iconst 2, 1) := by decide +kernel
theorem dL_law_652 : decode cL_law 652 = .ok (.iadd, 1) := by decide +kernel
theorem dL_law_653 : decode cL_law 653 = .ok (.iaload, 1) := by decide +kernel
theorem dL_law_654 : decode cL_law 654 = .ok (.invokevirtual 74, 3) := by decide +kernel
theorem dL_law_657 : decode cL_law 657 = .ok (.aload_n 2, 1) := by decide +kernel
theorem dL_law_658 : decode cL_law 658 = .ok (.aload_n 0, 1) := by decide +kernel
theorem dL_law_659 : decode cL_law 659 = .ok (.iload_n 3, 1) := by decide +kernel
theorem dL_law_660 : decode cL_law 660 = .ok (.iconst 1, 1) := by decide +kernel
theorem dL_law_661 : decode cL_law 661 = .ok (.iadd, 1) := by decide +kernel
theorem dL_law_662 : decode cL_law 662 = .ok (.iaload, 1) := by decide +kernel
theorem dL_law_663 : decode cL_law 663 = .ok (.aload_n 0, 1) := by decide +kernel
theorem dL_law_664 : decode cL_law 664 = .ok (.iload_n 3, 1) := by decide +kernel
theorem dL_law_665 : decode cL_law 665 = .ok (.iconst 2, 1) := by decide +kernel
theorem dL_law_666 : decode cL_law 666 = .ok (.iadd, 1) := by decide +kernel
theorem dL_law_667 : decode cL_law 667 = .ok (.iaload, 1) := by decide +kernel
theorem dL_law_668 : decode cL_law 668 = .ok (.invokevirtual 77, 3) := by decide +kernel
theorem dL_law_671 : decode cL_law 671 = .ok (.if_icmp .eq 431, 3) := by decide +kernel
theorem dL_law_674 : decode cL_law 674 = .ok (.iconst 0, 1) := by decide +kernel
theorem dL_law_675 : decode cL_law 675 = .ok (.ireturn, 1) := by decide +kernel
theorem dL_law_676 : decode cL_law 676 = .ok (.aload_n 1, 1) := by decide +kernel
theorem dL_law_677 : decode cL_law 677 = .ok (.aload_n 0, 1) := by decide +kernel
theorem dL_law_678 : decode cL_law 678 = .ok (.iload_n 3, 1) := by decide +kernel
theorem dL_law_679 : decode cL_law 679 = .ok (.iconst 1, 1) := by decide +kernel
theorem dL_law_680 : decode cL_law 680 = .ok (.iadd, 1) := by decide +kernel
theorem dL_law_681 : decode cL_law 681 = .ok (.iaload, 1) := by decide +kernel
theorem dL_law_682 : decode cL_law 682 = .ok (.aload_n 0, 1) := by decide +kernel
theorem dL_law_683 : decode cL_law 683 = .ok (.iload_n 3, 1) := by decide +kernel
theorem dL_law_684 : decode cL_law 684 = .ok (.iconst 2, 1) := by decide +kernel
theorem dL_law_685 : decode cL_law 685 = .ok (.iadd, 1) := by decide +kernel
theorem dL_law_686 : decode cL_law 686 = .ok (.iaload, 1) := by decide +kernel
theorem dL_law_687 : decode cL_law 687 = .ok (.aload_n 0, 1) := by decide +kernel
theorem dL_law_688 : decode cL_law 688 = .ok (.iload_n 3, 1) := by decide +kernel
theorem dL_law_689 : decode cL_law 689 = .ok (.iconst 3, 1) := by decide +kernel
theorem dL_law_690 : decode cL_law 690 = .ok (.iadd, 1) := by decide +kernel
theorem dL_law_691 : decode cL_law 691 = .ok (.iaload, 1) := by decide +kernel
theorem dL_law_692 : decode cL_law 692 = .ok (.invokevirtual 78, 3) := by decide +kernel
theorem dL_law_695 : decode cL_law 695 = .ok (.aload_n 2, 1) := by decide +kernel
theorem dL_law_696 : decode cL_law 696 = .ok (.aload_n 0, 1) := by decide +kernel
theorem dL_law_697 : decode cL_law 697 = .ok (.iload_n 3, 1) := by decide +kernel
theorem dL_law_698 : decode cL_law 698 = .ok (.iconst 1, 1) := by decide +kernel
theorem dL_law_699 : decode cL_law 699 = .ok (.iadd, 1) := by decide +kernel
theorem dL_law_700 : decode cL_law 700 = .ok (.iaload, 1) := by decide +kernel
theorem dL_law_701 : decode cL_law 701 = .ok (.aload_n 0, 1) := by decide +kernel
theorem dL_law_702 : decode cL_law 702 = .ok (.iload_n 3, 1) := by decide +kernel
theorem dL_law_703 : decode cL_law 703 = .ok (.iconst 2, 1) := by decide +kernel
theorem dL_law_704 : decode cL_law 704 = .ok (.iadd, 1) := by decide +kernel
theorem dL_law_705 : decode cL_law 705 = .ok (.iaload, 1) := by decide +kernel
theorem dL_law_706 : decode cL_law 706 = .ok (.aload_n 0, 1) := by decide +kernel
theorem dL_law_707 : decode cL_law 707 = .ok (.iload_n 3, 1) := by decide +kernel
theorem dL_law_708 : decode cL_law 708 = .ok (.iconst 3, 1) := by decide +kernel
theorem dL_law_709 : decode cL_law 709 = .ok (.iadd, 1) := by decide +kernel
theorem dL_law_710 : decode cL_law 710 = .ok (.iaload, 1) := by decide +kernel
theorem dL_law_711 : decode cL_law 711 = .ok (.invokevirtual 82, 3) := by decide +kernel
theorem dL_law_714 : decode cL_law 714 = .ok (.if_icmp .eq 388, 3) := by decide +kernel
theorem dL_law_717 : decode cL_law 717 = .ok (.iconst 0, 1) := by decide +kernel
theorem dL_law_718 : decode cL_law 718 = .ok (.ireturn, 1) := by decide +kernel
theorem dL_law_719 : decode cL_law 719 = .ok (.aload_n 1, 1) := by decide +kernel
theorem dL_law_720 : decode cL_law 720 = .ok (.aload_n 0, 1) := by decide +kernel
theorem dL_law_721 : decode cL_law 721 = .ok (.iload_n 3, 1) := by decide +kernel
theorem dL_law_722 : decode cL_law 722 = .ok (.iconst 1, 1) := by decide +kernel
theorem dL_law_723 : decode cL_law 723 = .ok (.iadd, 1) := by decide +kernel
theorem dL_law_724 : decode cL_law 724 = .ok (.iaload, 1) := by decide +kernel
theorem dL_law_725 : decode cL_law 725 = .ok (.aload_n 0, 1) := by decide +kernel
theorem dL_law_726 : decode cL_law 726 = .ok (.iload_n 3, 1) := by decide +kernel
theorem dL_law_727 : decode cL_law 727 = .ok (.iconst 2, 1) := by decide +kernel
theorem dL_law_728 : decode cL_law 728 = .ok (.iadd, 1) := by decide +kernel
theorem dL_law_729 : decode cL_law 729 = .ok (.iaload, 1) := by decide +kernel
theorem dL_law_730 : decode cL_law 730 = .ok (.aload_n 0, 1) := by decide +kernel
theorem dL_law_731 : decode cL_law 731 = .ok (.iload_n 3, 1) := by decide +kernel
theorem dL_law_732 : decode cL_law 732 = .ok (.iconst 3, 1) := by decide +kernel
theorem dL_law_733 : decode cL_law 733 = .ok (.iadd, 1) := by decide +kernel
theorem dL_law_734 : decode cL_law 734 = .ok (.iaload, 1) := by decide +kernel
theorem dL_law_735 : decode cL_law 735 = .ok (.invokevirtual 83, 3) := by decide +kernel
theorem dL_law_738 : decode cL_law 738 = .ok (.aload_n 2, 1) := by decide +kernel
theorem dL_law_739 : decode cL_law 739 = .ok (.aload_n 0, 1) := by decide +kernel
theorem dL_law_740 : decode cL_law 740 = .ok (.iload_n 3, 1) := by decide +kernel
theorem dL_law_741 : decode cL_law 741 = .ok (.iconst 1, 1) := by decide +kernel
theorem dL_law_742 : decode cL_law 742 = .ok (.iadd, 1) := by decide +kernel
theorem dL_law_743 : decode cL_law 743 = .ok (.iaload, 1) := by decide +kernel
theorem dL_law_744 : decode cL_law 744 = .ok (.aload_n 0, 1) := by decide +kernel
theorem dL_law_745 : decode cL_law 745 = .ok (.iload_n 3, 1) := by decide +kernel
theorem dL_law_746 : decode cL_law 746 = .ok (.iconst 2, 1) := by decide +kernel
theorem dL_law_747 : decode cL_law 747 = .ok (.iadd, 1) := by decide +kernel
theorem dL_law_748 : decode cL_law 748 = .ok (.iaload, 1) := by decide +kernel
theorem dL_law_749 : decode cL_law 749 = .ok (.aload_n 0, 1) := by decide +kernel
theorem dL_law_750 : decode cL_law 750 = .ok (.iload_n 3, 1) := by decide +kernel
theorem dL_law_751 : decode cL_law 751 = .ok (.iconst 3, 1) := by decide +kernel
theorem dL_law_752 : decode cL_law 752 = .ok (.iadd, 1) := by decide +kernel
theorem dL_law_753 : decode cL_law 753 = .ok (.iaload, 1) := by decide +kernel
theorem dL_law_754 : decode cL_law 754 = .ok (.invokevirtual 86, 3) := by decide +kernel
theorem dL_law_757 : decode cL_law 757 = .ok (.if_icmp .eq 345, 3) := by decide +kernel
theorem dL_law_760 : decode cL_law 760 = .ok (.iconst 0, 1) := by decide +kernel
theorem dL_law_761 : decode cL_law 761 = .ok (.ireturn, 1) := by decide +kernel
theorem dL_law_762 : decode cL_law 762 = .ok (.aload_n 1, 1) := by decide +kernel
theorem dL_law_763 : decode cL_law 763 = .ok (.aload_n 0, 1) := by decide +kernel
theorem dL_law_764 : decode cL_law 764 = .ok (.iload_n 3, 1) := by decide +kernel
theorem dL_law_765 : decode cL_law 765 = .ok (.iconst 1, 1) := by decide +kernel
theorem dL_law_766 : decode cL_law 766 = .ok (.iadd, 1) := by decide +kernel
theorem dL_law_767 : decode cL_law 767 = .ok (.iaload, 1) := by decide +kernel
theorem dL_law_768 : decode cL_law 768 = .ok (.aload_n 0, 1) := by decide +kernel
theorem dL_law_769 : decode cL_law 769 = .ok (.iload_n 3, 1) := by decide +kernel
theorem dL_law_770 : decode cL_law 770 = .ok (.iconst 2, 1) := by decide +kernel
theorem dL_law_771 : decode cL_law 771 = .ok (.iadd, 1) := by decide +kernel
theorem dL_law_772 : decode cL_law 772 = .ok (.iaload, 1) := by decide +kernel
theorem dL_law_773 : decode cL_law 773 = .ok (.aload_n 0, 1) := by decide +kernel
theorem dL_law_774 : decode cL_law 774 = .ok (.iload_n 3, 1) := by decide +kernel
theorem dL_law_775 : decode cL_law 775 = .ok (.iconst 3, 1) := by decide +kernel
theorem dL_law_776 : decode cL_law 776 = .ok (.iadd, 1) := by decide +kernel
theorem dL_law_777 : decode cL_law 777 = .ok (.iaload, 1) := by decide +kernel
theorem dL_law_778 : decode cL_law 778 = .ok (.invokevirtual 87, 3) := by decide +kernel
theorem dL_law_781 : decode cL_law 781 = .ok (.aload_n 2, 1) := by decide +kernel
theorem dL_law_782 : decode cL_law 782 = .ok (.aload_n 0, 1) := by decide +kernel
theorem dL_law_783 : decode cL_law 783 = .ok (.iload_n 3, 1) := by decide +kernel
theorem dL_law_784 : decode cL_law 784 = .ok (.iconst 1, 1) := by decide +kernel
theorem dL_law_785 : decode cL_law 785 = .ok (.iadd, 1) := by decide +kernel
theorem dL_law_786 : decode cL_law 786 = .ok (.iaload, 1) := by decide +kernel
theorem dL_law_787 : decode cL_law 787 = .ok (.aload_n 0, 1) := by decide +kernel
theorem dL_law_788 : decode cL_law 788 = .ok (.iload_n 3, 1) := by decide +kernel
theorem dL_law_789 : decode cL_law 789 = .ok (.iconst 2, 1) := by decide +kernel
theorem dL_law_790 : decode cL_law 790 = .ok (.iadd, 1) := by decide +kernel
theorem dL_law_791 : decode cL_law 791 = .ok (.iaload, 1) := by decide +kernel
theorem dL_law_792 : decode cL_law 792 = .ok (.aload_n 0, 1) := by decide +kernel
theorem dL_law_793 : decode cL_law 793 = .ok (.iload_n 3, 1) := by decide +kernel
theorem dL_law_794 : decode cL_law 794 = .ok (.iconst 3, 1) := by decide +kernel
theorem dL_law_795 : decode cL_law 795 = .ok (.iadd, 1) := by decide +kernel
theorem dL_law_796 : decode cL_law 796 = .ok (.iaload, 1) := by decide +kernel
theorem dL_law_797 : decode cL_law 797 = .ok (.invokevirtual 90, 3) := by decide +kernel
theorem dL_law_800 : decode cL_law 800 = .ok (.if_icmp .eq 302, 3) := by decide +kernel
theorem dL_law_803 : decode cL_law 803 = .ok (.iconst 0, 1) := by decide +kernel
theorem dL_law_804 : decode cL_law 804 = .ok (.ireturn, 1) := by decide +kernel
theorem dL_law_805 : decode cL_law 805 = .ok (.aload_n 1, 1) := by decide +kernel
theorem dL_law_806 : decode cL_law 806 = .ok (.aload_n 0, 1) := by decide +kernel
theorem dL_law_807 : decode cL_law 807 = .ok (.iload_n 3, 1) := by decide +kernel
theorem dL_law_808 : decode cL_law 808 = .ok (.iconst 1, 1) := by decide +kernel
theorem dL_law_809 : decode cL_law 809 = .ok (.iadd, 1) := by decide +kernel
theorem dL_law_810 : decode cL_law 810 = .ok (.iaload, 1) := by decide +kernel
theorem dL_law_811 : decode cL_law 811 = .ok (.aload_n 0, 1) := by decide +kernel
theorem dL_law_812 : decode cL_law 812 = .ok (.iload_n 3, 1) := by decide +kernel
theorem dL_law_813 : decode cL_law 813 = .ok (.iconst 2, 1) := by decide +kernel
theorem dL_law_814 : decode cL_law 814 = .ok (.iadd, 1) := by decide +kernel
theorem dL_law_815 : decode cL_law 815 = .ok (.iaload, 1) := by decide +kernel
theorem dL_law_816 : decode cL_law 816 = .ok (.invokevirtual 91, 3) := by decide +kernel
theorem dL_law_819 : decode cL_law 819 = .ok (.aload_n 2, 1) := by decide +kernel
theorem dL_law_820 : decode cL_law 820 = .ok (.aload_n 0, 1) := by decide +kernel
theorem dL_law_821 : decode cL_law 821 = .ok (.iload_n 3, 1) := by decide +kernel
theorem dL_law_822 : decode cL_law 822 = .ok (.iconst 1, 1) := by decide +kernel
theorem dL_law_823 : decode cL_law 823 = .ok (.iadd, 1) := by decide +kernel
theorem dL_law_824 : decode cL_law 824 = .ok (.iaload, 1) := by decide +kernel
theorem dL_law_825 : decode cL_law 825 = .ok (.aload_n 0, 1) := by decide +kernel
theorem dL_law_826 : decode cL_law 826 = .ok (.iload_n 3, 1) := by decide +kernel
theorem dL_law_827 : decode cL_law 827 = .ok (.iconst 2, 1) := by decide +kernel
theorem dL_law_828 : decode cL_law 828 = .ok (.iadd, 1) := by decide +kernel
theorem dL_law_829 : decode cL_law 829 = .ok (.iaload, 1) := by decide +kernel
theorem dL_law_830 : decode cL_law 830 = .ok (.invokevirtual 94, 3) := by decide +kernel
theorem dL_law_833 : decode cL_law 833 = .ok (.if_icmp .eq 269, 3) := by decide +kernel
theorem dL_law_836 : decode cL_law 836 = .ok (.iconst 0, 1) := by decide +kernel
theorem dL_law_837 : decode cL_law 837 = .ok (.ireturn, 1) := by decide +kernel
theorem dL_law_838 : decode cL_law 838 = .ok (.aload_n 1, 1) := by decide +kernel
theorem dL_law_839 : decode cL_law 839 = .ok (.aload_n 0, 1) := by decide +kernel
theorem dL_law_840 : decode cL_law 840 = .ok (.iload_n 3, 1) := by decide +kernel
theorem dL_law_841 : decode cL_law 841 = .ok (.iconst 1, 1) := by decide +kernel
theorem dL_law_842 : decode cL_law 842 = .ok (.iadd, 1) := by decide +kernel
theorem dL_law_843 : decode cL_law 843 = .ok (.iaload, 1) := by decide +kernel
theorem dL_law_844 : decode cL_law 844 = .ok (.aload_n 0, 1) := by decide +kernel
theorem dL_law_845 : decode cL_law 845 = .ok (.iload_n 3, 1) := by decide +kernel
theorem dL_law_846 : decode cL_law 846 = .ok (.iconst 2, 1) := by decide +kernel
theorem dL_law_847 : decode cL_law 847 = .ok (.iadd, 1) := by decide +kernel
theorem dL_law_848 : decode cL_law 848 = .ok (.iaload, 1) := by decide +kernel
theorem dL_law_849 : decode cL_law 849 = .ok (.invokevirtual 95, 3) := by decide +kernel
theorem dL_law_852 : decode cL_law 852 = .ok (.aload_n 2, 1) := by decide +kernel
theorem dL_law_853 : decode cL_law 853 = .ok (.aload_n 0, 1) := by decide +kernel
theorem dL_law_854 : decode cL_law 854 = .ok (.iload_n 3, 1) := by decide +kernel
theorem dL_law_855 : decode cL_law 855 = .ok (.iconst 1, 1) := by decide +kernel
theorem dL_law_856 : decode cL_law 856 = .ok (.iadd, 1) := by decide +kernel
theorem dL_law_857 : decode cL_law 857 = .ok (.iaload, 1) := by decide +kernel
theorem dL_law_858 : decode cL_law 858 = .ok (.aload_n 0, 1) := by decide +kernel
theorem dL_law_859 : decode cL_law 859 = .ok (.iload_n 3, 1) := by decide +kernel
theorem dL_law_860 : decode cL_law 860 = .ok (.iconst 2, 1) := by decide +kernel
theorem dL_law_861 : decode cL_law 861 = .ok (.iadd, 1) := by decide +kernel
theorem dL_law_862 : decode cL_law 862 = .ok (.iaload, 1) := by decide +kernel
theorem dL_law_863 : decode cL_law 863 = .ok (.invokevirtual 98, 3) := by decide +kernel
theorem dL_law_866 : decode cL_law 866 = .ok (.if_icmp .eq 236, 3) := by decide +kernel
theorem dL_law_869 : decode cL_law 869 = .ok (.iconst 0, 1) := by decide +kernel
theorem dL_law_870 : decode cL_law 870 = .ok (.ireturn, 1) := by decide +kernel
theorem dL_law_871 : decode cL_law 871 = .ok (.aload_n 1, 1) := by decide +kernel
theorem dL_law_872 : decode cL_law 872 = .ok (.aload_n 0, 1) := by decide +kernel
theorem dL_law_873 : decode cL_law 873 = .ok (.iload_n 3, 1) := by decide +kernel
theorem dL_law_874 : decode cL_law 874 = .ok (.iconst 1, 1) := by decide +kernel
theorem dL_law_875 : decode cL_law 875 = .ok (.iadd, 1) := by decide +kernel
theorem dL_law_876 : decode cL_law 876 = .ok (.iaload, 1) := by decide +kernel
theorem dL_law_877 : decode cL_law 877 = .ok (.aload_n 0, 1) := by decide +kernel
theorem dL_law_878 : decode cL_law 878 = .ok (.iload_n 3, 1) := by decide +kernel
theorem dL_law_879 : decode cL_law 879 = .ok (.iconst 2, 1) := by decide +kernel
theorem dL_law_880 : decode cL_law 880 = .ok (.iadd, 1) := by decide +kernel
theorem dL_law_881 : decode cL_law 881 = .ok (.iaload, 1) := by decide +kernel
theorem dL_law_882 : decode cL_law 882 = .ok (.invokevirtual 99, 3) := by decide +kernel
theorem dL_law_885 : decode cL_law 885 = .ok (.aload_n 2, 1) := by decide +kernel
theorem dL_law_886 : decode cL_law 886 = .ok (.aload_n 0, 1) := by decide +kernel
theorem dL_law_887 : decode cL_law 887 = .ok (.iload_n 3, 1) := by decide +kernel
theorem dL_law_888 : decode cL_law 888 = .ok (.iconst 1, 1) := by decide +kernel
theorem dL_law_889 : decode cL_law 889 = .ok (.iadd, 1) := by decide +kernel
theorem dL_law_890 : decode cL_law 890 = .ok (.iaload, 1) := by decide +kernel
theorem dL_law_891 : decode cL_law 891 = .ok (.aload_n 0, 1) := by decide +kernel
theorem dL_law_892 : decode cL_law 892 = .ok (.iload_n 3, 1) := by decide +kernel
theorem dL_law_893 : decode cL_law 893 = .ok (.iconst 2, 1) := by decide +kernel
theorem dL_law_894 : decode cL_law 894 = .ok (.iadd, 1) := by decide +kernel
theorem dL_law_895 : decode cL_law 895 = .ok (.iaload, 1) := by decide +kernel
theorem dL_law_896 : decode cL_law 896 = .ok (.invokevirtual 102, 3) := by decide +kernel
theorem dL_law_899 : decode cL_law 899 = .ok (.if_icmp .eq 203, 3) := by decide +kernel
theorem dL_law_902 : decode cL_law 902 = .ok (.iconst 0, 1) := by decide +kernel
theorem dL_law_903 : decode cL_law 903 = .ok (.ireturn, 1) := by decide +kernel
theorem dL_law_904 : decode cL_law 904 = .ok (.aload_n 1, 1) := by decide +kernel
theorem dL_law_905 : decode cL_law 905 = .ok (.aload_n 0, 1) := by decide +kernel
theorem dL_law_906 : decode cL_law 906 = .ok (.iload_n 3, 1) := by decide +kernel
theorem dL_law_907 : decode cL_law 907 = .ok (.iconst 1, 1) := by decide +kernel
theorem dL_law_908 : decode cL_law 908 = .ok (.iadd, 1) := by decide +kernel
theorem dL_law_909 : decode cL_law 909 = .ok (.iaload, 1) := by decide +kernel
theorem dL_law_910 : decode cL_law 910 = .ok (.aload_n 0, 1) := by decide +kernel
theorem dL_law_911 : decode cL_law 911 = .ok (.iload_n 3, 1) := by decide +kernel
theorem dL_law_912 : decode cL_law 912 = .ok (.iconst 2, 1) := by decide +kernel
theorem dL_law_913 : decode cL_law 913 = .ok (.iadd, 1) := by decide +kernel
theorem dL_law_914 : decode cL_law 914 = .ok (.iaload, 1) := by decide +kernel
theorem dL_law_915 : decode cL_law 915 = .ok (.aload_n 0, 1) := by decide +kernel
theorem dL_law_916 : decode cL_law 916 = .ok (.iload_n 3, 1) := by decide +kernel
theorem dL_law_917 : decode cL_law 917 = .ok (.iconst 3, 1) := by decide +kernel
theorem dL_law_918 : decode cL_law 918 = .ok (.iadd, 1) := by decide +kernel
theorem dL_law_919 : decode cL_law 919 = .ok (.iaload, 1) := by decide +kernel
theorem dL_law_920 : decode cL_law 920 = .ok (.invokevirtual 103, 3) := by decide +kernel
theorem dL_law_923 : decode cL_law 923 = .ok (.aload_n 2, 1) := by decide +kernel
theorem dL_law_924 : decode cL_law 924 = .ok (.aload_n 0, 1) := by decide +kernel
theorem dL_law_925 : decode cL_law 925 = .ok (.iload_n 3, 1) := by decide +kernel
theorem dL_law_926 : decode cL_law 926 = .ok (.iconst 1, 1) := by decide +kernel
theorem dL_law_927 : decode cL_law 927 = .ok (.iadd, 1) := by decide +kernel
theorem dL_law_928 : decode cL_law 928 = .ok (.iaload, 1) := by decide +kernel
theorem dL_law_929 : decode cL_law 929 = .ok (.aload_n 0, 1) := by decide +kernel
theorem dL_law_930 : decode cL_law 930 = .ok (.iload_n 3, 1) := by decide +kernel
theorem dL_law_931 : decode cL_law 931 = .ok (.iconst 2, 1) := by decide +kernel
theorem dL_law_932 : decode cL_law 932 = .ok (.iadd, 1) := by decide +kernel
theorem dL_law_933 : decode cL_law 933 = .ok (.iaload, 1) := by decide +kernel
theorem dL_law_934 : decode cL_law 934 = .ok (.aload_n 0, 1) := by decide +kernel
theorem dL_law_935 : decode cL_law 935 = .ok (.iload_n 3, 1) := by decide +kernel
theorem dL_law_936 : decode cL_law 936 = .ok (.iconst 3, 1) := by decide +kernel
theorem dL_law_937 : decode cL_law 937 = .ok (.iadd, 1) := by decide +kernel
theorem dL_law_938 : decode cL_law 938 = .ok (.iaload, 1) := by decide +kernel
theorem dL_law_939 : decode cL_law 939 = .ok (.invokevirtual 106, 3) := by decide +kernel
theorem dL_law_942 : decode cL_law 942 = .ok (.if_icmp .eq 160, 3) := by decide +kernel
theorem dL_law_945 : decode cL_law 945 = .ok (.iconst 0, 1) := by decide +kernel
theorem dL_law_946 : decode cL_law 946 = .ok (.ireturn, 1) := by decide +kernel
theorem dL_law_947 : decode cL_law 947 = .ok (.aload_n 1, 1) := by decide +kernel
theorem dL_law_948 : decode cL_law 948 = .ok (.aload_n 0, 1) := by decide +kernel
theorem dL_law_949 : decode cL_law 949 = .ok (.iload_n 3, 1) := by decide +kernel
theorem dL_law_950 : decode cL_law 950 = .ok (.iconst 1, 1) := by decide +kernel
theorem dL_law_951 : decode cL_law 951 = .ok (.iadd, 1) := by decide +kernel
theorem dL_law_952 : decode cL_law 952 = .ok (.iaload, 1) := by decide +kernel
theorem dL_law_953 : decode cL_law 953 = .ok (.aload_n 0, 1) := by decide +kernel
theorem dL_law_954 : decode cL_law 954 = .ok (.iload_n 3, 1) := by decide +kernel
theorem dL_law_955 : decode cL_law 955 = .ok (.iconst 2, 1) := by decide +kernel
theorem dL_law_956 : decode cL_law 956 = .ok (.iadd, 1) := by decide +kernel
theorem dL_law_957 : decode cL_law 957 = .ok (.iaload, 1) := by decide +kernel
theorem dL_law_958 : decode cL_law 958 = .ok (.aload_n 0, 1) := by decide +kernel
theorem dL_law_959 : decode cL_law 959 = .ok (.iload_n 3, 1) := by decide +kernel
theorem dL_law_960 : decode cL_law 960 = .ok (.iconst 3, 1) := by decide +kernel
theorem dL_law_961 : decode cL_law 961 = .ok (.iadd, 1) := by decide +kernel
theorem dL_law_962 : decode cL_law 962 = .ok (.iaload, 1) := by decide +kernel
theorem dL_law_963 : decode cL_law 963 = .ok (.aload_n 0, 1) := by decide +kernel
theorem dL_law_964 : decode cL_law 964 = .ok (.iload_n 3, 1) := by decide +kernel
theorem dL_law_965 : decode cL_law 965 = .ok (.iconst 4, 1) := by decide +kernel
theorem dL_law_966 : decode cL_law 966 = .ok (.iadd, 1) := by decide +kernel
theorem dL_law_967 : decode cL_law 967 = .ok (.iaload, 1) := by decide +kernel
theorem dL_law_968 : decode cL_law 968 = .ok (.invokevirtual 107, 3) := by decide +kernel
theorem dL_law_971 : decode cL_law 971 = .ok (.aload_n 2, 1) := by decide +kernel
theorem dL_law_972 : decode cL_law 972 = .ok (.aload_n 0, 1) := by decide +kernel
theorem dL_law_973 : decode cL_law 973 = .ok (.iload_n 3, 1) := by decide +kernel
theorem dL_law_974 : decode cL_law 974 = .ok (.iconst 1, 1) := by decide +kernel
theorem dL_law_975 : decode cL_law 975 = .ok (.iadd, 1) := by decide +kernel
theorem dL_law_976 : decode cL_law 976 = .ok (.iaload, 1) := by decide +kernel
theorem dL_law_977 : decode cL_law 977 = .ok (.aload_n 0, 1) := by decide +kernel
theorem dL_law_978 : decode cL_law 978 = .ok (.iload_n 3, 1) := by decide +kernel
theorem dL_law_979 : decode cL_law 979 = .ok (.iconst 2, 1) := by decide +kernel
theorem dL_law_980 : decode cL_law 980 = .ok (.iadd, 1) := by decide +kernel
theorem dL_law_981 : decode cL_law 981 = .ok (.iaload, 1) := by decide +kernel
theorem dL_law_982 : decode cL_law 982 = .ok (.aload_n 0, 1) := by decide +kernel
theorem dL_law_983 : decode cL_law 983 = .ok (.iload_n 3, 1) := by decide +kernel
theorem dL_law_984 : decode cL_law 984 = .ok (.iconst 3, 1) := by decide +kernel
theorem dL_law_985 : decode cL_law 985 = .ok (.iadd, 1) := by decide +kernel
theorem dL_law_986 : decode cL_law 986 = .ok (.iaload, 1) := by decide +kernel
theorem dL_law_987 : decode cL_law 987 = .ok (.aload_n 0, 1) := by decide +kernel
theorem dL_law_988 : decode cL_law 988 = .ok (.iload_n 3, 1) := by decide +kernel
theorem dL_law_989 : decode cL_law 989 = .ok (.iconst 4, 1) := by decide +kernel
theorem dL_law_990 : decode cL_law 990 = .ok (.iadd, 1) := by decide +kernel
theorem dL_law_991 : decode cL_law 991 = .ok (.iaload, 1) := by decide +kernel
theorem dL_law_992 : decode cL_law 992 = .ok (.invokevirtual 111, 3) := by decide +kernel
theorem dL_law_995 : decode cL_law 995 = .ok (.if_icmp .eq 107, 3) := by decide +kernel
theorem dL_law_998 : decode cL_law 998 = .ok (.iconst 0, 1) := by decide +kernel
theorem dL_law_999 : decode cL_law 999 = .ok (.ireturn, 1) := by decide +kernel
theorem dL_law_1000 : decode cL_law 1000 = .ok (.aload_n 1, 1) := by decide +kernel
theorem dL_law_1001 : decode cL_law 1001 = .ok (.aload_n 0, 1) := by decide +kernel
theorem dL_law_1002 : decode cL_law 1002 = .ok (.iload_n 3, 1) := by decide +kernel
theorem dL_law_1003 : decode cL_law 1003 = .ok (.iconst 1, 1) := by decide +kernel
theorem dL_law_1004 : decode cL_law 1004 = .ok (.iadd, 1) := by decide +kernel
theorem dL_law_1005 : decode cL_law 1005 = .ok (.iaload, 1) := by decide +kernel
theorem dL_law_1006 : decode cL_law 1006 = .ok (.aload_n 0, 1) := by decide +kernel
theorem dL_law_1007 : decode cL_law 1007 = .ok (.iload_n 3, 1) := by decide +kernel
theorem dL_law_1008 : decode cL_law 1008 = .ok (.iconst 2, 1) := by decide +kernel
theorem dL_law_1009 : decode cL_law 1009 = .ok (.iadd, 1) := by decide +kernel
theorem dL_law_1010 : decode cL_law 1010 = .ok (.iaload, 1) := by decide +kernel
theorem dL_law_1011 : decode cL_law 1011 = .ok (.aload_n 0, 1) := by decide +kernel
theorem dL_law_1012 : decode cL_law 1012 = .ok (.iload_n 3, 1) := by decide +kernel
theorem dL_law_1013 : decode cL_law 1013 = .ok (.iconst 3, 1) := by decide +kernel
theorem dL_law_1014 : decode cL_law 1014 = .ok (.iadd, 1) := by decide +kernel
theorem dL_law_1015 : decode cL_law 1015 = .ok (.iaload, 1) := by decide +kernel
theorem dL_law_1016 : decode cL_law 1016 = .ok (.aload_n 0, 1) := by decide +kernel
theorem dL_law_1017 : decode cL_law 1017 = .ok (.iload_n 3, 1) := by decide +kernel
theorem dL_law_1018 : decode cL_law 1018 = .ok (.iconst 4, 1) := by decide +kernel
theorem dL_law_1019 : decode cL_law 1019 = .ok (.iadd, 1) := by decide +kernel
theorem dL_law_1020 : decode cL_law 1020 = .ok (.iaload, 1) := by decide +kernel
theorem dL_law_1021 : decode cL_law 1021 = .ok (.invokevirtual 112, 3) := by decide +kernel
theorem dL_law_1024 : decode cL_law 1024 = .ok (.aload_n 2, 1) := by decide +kernel
theorem dL_law_1025 : decode cL_law 1025 = .ok (.aload_n 0, 1) := by decide +kernel
theorem dL_law_1026 : decode cL_law 1026 = .ok (.iload_n 3, 1) := by decide +kernel
theorem dL_law_1027 : decode cL_law 1027 = .ok (.iconst 1, 1) := by decide +kernel
theorem dL_law_1028 : decode cL_law 1028 = .ok (.iadd, 1) := by decide +kernel
theorem dL_law_1029 : decode cL_law 1029 = .ok (.iaload, 1) := by decide +kernel
theorem dL_law_1030 : decode cL_law 1030 = .ok (.aload_n 0, 1) := by decide +kernel
theorem dL_law_1031 : decode cL_law 1031 = .ok (.iload_n 3, 1) := by decide +kernel
theorem dL_law_1032 : decode cL_law 1032 = .ok (.iconst 2, 1) := by decide +kernel
theorem dL_law_1033 : decode cL_law 1033 = .ok (.iadd, 1) := by decide +kernel
theorem dL_law_1034 : decode cL_law 1034 = .ok (.iaload, 1) := by decide +kernel
theorem dL_law_1035 : decode cL_law 1035 = .ok (.aload_n 0, 1) := by decide +kernel
theorem dL_law_1036 : decode cL_law 1036 = .ok (.iload_n 3, 1) := by decide +kernel
theorem dL_law_1037 : decode cL_law 1037 = .ok (.iconst 3, 1) := by decide +kernel
theorem dL_law_1038 : decode cL_law 1038 = .ok (.iadd, 1) := by decide +kernel
theorem dL_law_1039 : decode cL_law 1039 = .ok (.iaload, 1) := by decide +kernel
theorem dL_law_1040 : decode cL_law 1040 = .ok (.aload_n 0, 1) := by decide +kernel
theorem dL_law_1041 : decode cL_law 1041 = .ok (.iload_n 3, 1) := by decide +kernel
theorem dL_law_1042 : decode cL_law 1042 = .ok (.iconst 4, 1) := by decide +kernel
theorem dL_law_1043 : decode cL_law 1043 = .ok (.iadd, 1) := by decide +kernel
theorem dL_law_1044 : decode cL_law 1044 = .ok (.iaload, 1) := by decide +kernel
theorem dL_law_1045 : decode cL_law 1045 = .ok (.invokevirtual 115, 3) := by decide +kernel
theorem dL_law_1048 : decode cL_law 1048 = .ok (.if_icmp .eq 54, 3) := by decide +kernel
theorem dL_law_1051 : decode cL_law 1051 = .ok (.iconst 0, 1) := by decide +kernel
theorem dL_law_1052 : decode cL_law 1052 = .ok (.ireturn, 1) := by decide +kernel
theorem dL_law_1053 : decode cL_law 1053 = .ok (.aload_n 1, 1) := by decide +kernel
theorem dL_law_1054 : decode cL_law 1054 = .ok (.invokevirtual 116, 3) := by decide +kernel
theorem dL_law_1057 : decode cL_law 1057 = .ok (.aload_n 2, 1) := by decide +kernel
theorem dL_law_1058 : decode cL_law 1058 = .ok (.invokevirtual 119, 3) := by decide +kernel
theorem dL_law_1061 : decode cL_law 1061 = .ok (.if_icmp .eq 41, 3) := by decide +kernel
theorem dL_law_1064 : decode cL_law 1064 = .ok (.iconst 0, 1) := by decide +kernel
theorem dL_law_1065 : decode cL_law 1065 = .ok (.ireturn, 1) := by decide +kernel
theorem dL_law_1066 : decode cL_law 1066 = .ok (.aload_n 1, 1) := by decide +kernel
theorem dL_law_1067 : decode cL_law 1067 = .ok (.invokevirtual 120, 3) := by decide +kernel
theorem dL_law_1070 : decode cL_law 1070 = .ok (.aload_n 2, 1) := by decide +kernel
theorem dL_law_1071 : decode cL_law 1071 = .ok (.invokevirtual 123, 3) := by decide +kernel
theorem dL_law_1074 : decode cL_law 1074 = .ok (.if_icmp .eq 28, 3) := by decide +kernel
theorem dL_law_1077 : decode cL_law 1077 = .ok (.iconst 0, 1) := by decide +kernel
theorem dL_law_1078 : decode cL_law 1078 = .ok (.ireturn, 1) := by decide +kernel
theorem dL_law_1079 : decode cL_law 1079 = .ok (.aload_n 1, 1) := by decide +kernel
theorem dL_law_1080 : decode cL_law 1080 = .ok (.aload_n 0, 1) := by decide +kernel
theorem dL_law_1081 : decode cL_law 1081 = .ok (.iload_n 3, 1) := by decide +kernel
theorem dL_law_1082 : decode cL_law 1082 = .ok (.iconst 1, 1) := by decide +kernel
theorem dL_law_1083 : decode cL_law 1083 = .ok (.iadd, 1) := by decide +kernel
theorem dL_law_1084 : decode cL_law 1084 = .ok (.iaload, 1) := by decide +kernel
theorem dL_law_1085 : decode cL_law 1085 = .ok (.invokevirtual 124, 3) := by decide +kernel
theorem dL_law_1088 : decode cL_law 1088 = .ok (.aload_n 2, 1) := by decide +kernel
theorem dL_law_1089 : decode cL_law 1089 = .ok (.aload_n 0, 1) := by decide +kernel
theorem dL_law_1090 : decode cL_law 1090 = .ok (.iload_n 3, 1) := by decide +kernel
theorem dL_law_1091 : decode cL_law 1091 = .ok (.iconst 1, 1) := by decide +kernel
theorem dL_law_1092 : decode cL_law 1092 = .ok (.iadd, 1) := by decide +kernel
theorem dL_law_1093 : decode cL_law 1093 = .ok (.iaload, 1) := by decide +kernel
theorem dL_law_1094 : decode cL_law 1094 = .ok (.invokevirtual 127, 3) := by decide +kernel
theorem dL_law_1097 : decode cL_law 1097 = .ok (.if_icmp .eq 5, 3) := by decide +kernel
theorem dL_law_1100 : decode cL_law 1100 = .ok (.iconst 0, 1) := by decide +kernel
theorem dL_law_1101 : decode cL_law 1101 = .ok (.ireturn, 1) := by decide +kernel
theorem dL_law_1102 : decode cL_law 1102 = .ok (.iinc 3 7, 3) := by decide +kernel
theorem dL_law_1105 : decode cL_law 1105 = .ok (.goto (-1087), 3) := by decide +kernel
theorem dL_law_1108 : decode cL_law 1108 = .ok (.iconst 1, 1) := by decide +kernel
theorem dL_law_1109 : decode cL_law 1109 = .ok (.ireturn, 1) := by decide +kernel
