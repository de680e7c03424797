theorem dX6_init_0 : decode cX6_init 0 = .ok (.aload_n 0, 1) := by decide +kernel
theorem dX6_init_1 : decode cX6_init 1 = .ok (.invokespecial 1, 3) := by decide +kernel
theorem dX6_init_4 : decode cX6_init 4 = .ok (.aload_n 0, 1) := by decide +kernel
theorem dX6_init_5 : decode cX6_init 5 = .ok (.bipush 20, 2) := by decide +kernel
theorem dX6_init_7 : decode cX6_init 7 = .ok (.newarray .int, 2) := by decide +kernel
theorem dX6_init_9 : decode cX6_init 9 = .ok (.putfield 7, 3) := by decide +kernel
theorem dX6_init_12 : decode cX6_init 12 = .ok (.aload_n 0, 1) := by decide +kernel
theorem dX6_init_13 : decode cX6_init 13 = .ok (.bipush 20, 2) := by decide +kernel
theorem dX6_init_15 : decode cX6_init 15 = .ok (.newarray .int, 2) := by decide +kernel
theorem dX6_init_17 : decode cX6_init 17 = .ok (.putfield 13, 3) := by decide +kernel
theorem dX6_init_20 : decode cX6_init 20 = .ok (.aload_n 0, 1) := by decide +kernel
theorem dX6_init_21 : decode cX6_init 21 = .ok (.bipush 20, 2) := by decide +kernel
theorem dX6_init_23 : decode cX6_init 23 = .ok (.newarray .int, 2) := by decide +kernel
theorem dX6_init_25 : decode cX6_init 25 = .ok (.putfield 16, 3) := by decide +kernel
theorem dX6_init_28 : decode cX6_init 28 = .ok (.aload_n 0, 1) := by decide +kernel
theorem dX6_init_29 : decode cX6_init 29 = .ok (.bipush 6, 2) := by decide +kernel
theorem dX6_init_31 : decode cX6_init 31 = .ok (.newarray .int, 2) := by decide +kernel
theorem dX6_init_33 : decode cX6_init 33 = .ok (.putfield 19, 3) := by decide +kernel
theorem dX6_init_36 : decode cX6_init 36 = .ok (.aload_n 0, 1) := by decide +kernel
theorem dX6_init_37 : decode cX6_init 37 = .ok (.bipush 6, 2) := by decide +kernel
theorem dX6_init_39 : decode cX6_init 39 = .ok (.newarray .int, 2) := by decide +kernel
theorem dX6_init_41 : decode cX6_init 41 = .ok (.putfield 22, 3) := by decide +kernel
theorem dX6_init_44 : decode cX6_init 44 = .ok (.aload_n 0, 1) := by decide +kernel
theorem dX6_init_45 : decode cX6_init 45 = .ok (.bipush 24, 2) := by decide +kernel
theorem dX6_init_47 : decode cX6_init 47 = .ok (.newarray .int, 2) := by decide +kernel
theorem dX6_init_49 : decode cX6_init 49 = .ok (.putfield 25, 3) := by decide +kernel
theorem dX6_init_52 : decode cX6_init 52 = .ok (.aload_n 0, 1) := by decide +kernel
theorem dX6_init_53 : decode cX6_init 53 = .ok (.bipush 24, 2) := by decide +kernel
theorem dX6_init_55 : decode cX6_init 55 = .ok (.newarray .int, 2) := by decide +kernel
theorem dX6_init_57 : decode cX6_init 57 = .ok (.putfield 28, 3) := by decide +kernel
theorem dX6_init_60 : decode cX6_init 60 = .ok (.aload_n 0, 1) := by decide +kernel
theorem dX6_init_61 : decode cX6_init 61 = .ok (.bipush 24, 2) := by decide +kernel
theorem dX6_init_63 : decode cX6_init 63 = .ok (.newarray .int, 2) := by decide +kernel
theorem dX6_init_65 : decode cX6_init 65 = .ok (.putfield 31, 3) := by decide +kernel
theorem dX6_init_68 : decode cX6_init 68 = .ok (.aload_n 0, 1) := by decide +kernel
theorem dX6_init_69 : decode cX6_init 69 = .ok (.bipush 24, 2) := by decide +kernel
theorem dX6_init_71 : decode cX6_init 71 = .ok (.newarray .int, 2) := by decide +kernel
theorem dX6_init_73 : decode cX6_init 73 = .ok (.putfield 34, 3) := by decide +kernel
theorem dX6_init_76 : decode cX6_init 76 = .ok (.aload_n 0, 1) := by decide +kernel
theorem dX6_init_77 : decode cX6_init 77 = .ok (.bipush 36, 2) := by decide +kernel
theorem dX6_init_79 : decode cX6_init 79 = .ok (.newarray .int, 2) := by decide +kernel
theorem dX6_init_81 : decode cX6_init 81 = .ok (.putfield 37, 3) := by decide +kernel
theorem dX6_init_84 : decode cX6_init 84 = .ok (.aload_n 0, 1) := by decide +kernel
theorem dX6_init_85 : decode cX6_init 85 = .ok (.bipush 36, 2) := by decide +kernel
theorem dX6_init_87 : decode cX6_init 87 = .ok (.newarray .int, 2) := by decide +kernel
theorem dX6_init_89 : decode cX6_init 89 = .ok (.putfield 40, 3) := by decide +kernel
theorem dX6_init_92 : decode cX6_init 92 = .ok (.aload_n 0, 1) := by decide +kernel
theorem dX6_init_93 : decode cX6_init 93 = .ok (.sipush 16384, 3) := by decide +kernel
theorem dX6_init_96 : decode cX6_init 96 = .ok (.newarray .int, 2) := by decide +kernel
theorem dX6_init_98 : decode cX6_init 98 = .ok (.putfield 43, 3) := by decide +kernel
theorem dX6_init_101 : decode cX6_init 101 = .ok (.aload_n 0, 1) := by decide +kernel
theorem dX6_init_102 : decode cX6_init 102 = .ok (.sipush 16384, 3) := by decide +kernel
theorem dX6_init_105 : decode cX6_init 105 = .ok (.newarray .int, 2) := by decide +kernel
theorem dX6_init_107 : decode cX6_init 107 = .ok (.putfield 46, 3) := by decide +kernel
theorem dX6_init_110 : decode cX6_init 110 = .ok (.aload_n 0, 1) := by decide +kernel
theorem dX6_init_111 : decode cX6_init 111 = .ok (.sipush 16384, 3) := by decide +kernel
theorem dX6_init_114 : decode cX6_init 114 = .ok (.newarray .int, 2) := by decide +kernel
theorem dX6_init_116 : decode cX6_init 116 = .ok (.putfield 49, 3) := by decide +kernel
theorem dX6_init_119 : decode cX6_init 119 = .ok (.aload_n 0, 1) := by decide +kernel
theorem dX6_init_120 : decode cX6_init 120 = .ok (.sipush 16384, 3) := by decide +kernel
theorem dX6_init_123 : decode cX6_init 123 = .ok (.newarray .int, 2) := by decide +kernel
theorem dX6_init_125 : decode cX6_init 125 = .ok (.putfield 52, 3) := by decide +kernel
theorem dX6_init_128 : decode cX6_init 128 = .ok (.aload_n 0, 1) := by decide +kernel
theorem dX6_init_129 : decode cX6_init 129 = .ok (.sipush 16384, 3) := by decide +kernel
theorem dX6_init_132 : decode cX6_init 132 = .ok (.newarray .int, 2) := by decide +kernel
theorem dX6_init_134 : decode cX6_init 134 = .ok (.putfield 55, 3) := by decide +kernel
theorem dX6_init_137 : decode cX6_init 137 = .ok (.aload_n 0, 1) := by decide +kernel
theorem dX6_init_138 : decode cX6_init 138 = .ok (.sipush 16384, 3) := by decide +kernel
theorem dX6_init_141 : decode cX6_init 141 = .ok (.newarray .int, 2) := by decide +kernel
theorem dX6_init_143 : decode cX6_init 143 = .ok (.putfield 58, 3) := by decide +kernel
theorem dX6_init_146 : decode cX6_init 146 = .ok (.aload_n 0, 1) := by decide +kernel
theorem dX6_init_147 : decode cX6_init 147 = .ok (.sipush 16384, 3) := by decide +kernel
theorem dX6_init_150 : decode cX6_init 150 = .ok (.newarray .int, 2) := by decide +kernel
theorem dX6_init_152 : decode cX6_init 152 = .ok (.putfield 61, 3) := by decide +kernel
theorem dX6_init_155 : decode cX6_init 155 = .ok (.iconst 0, 1) := by decide +kernel
theorem dX6_init_156 : decode cX6_init 156 = .ok (.istore_n 1, 1) := by decide +kernel
theorem dX6_init_157 : decode cX6_init 157 = .ok (.iload_n 1, 1) := by decide +kernel
theorem dX6_init_158 : decode cX6_init 158 = .ok (.bipush 24, 2) := by decide +kernel
theorem dX6_init_160 : decode cX6_init 160 = .ok (.if_icmp .ge 16, 3) := by decide +kernel
theorem dX6_init_163 : decode cX6_init 163 = .ok (.aload_n 0, 1) := by decide +kernel
theorem dX6_init_164 : decode cX6_init 164 = .ok (.getfield 25, 3) := by decide +kernel
theorem dX6_init_167 : decode cX6_init 167 = .ok (.iload_n 1, 1) := by decide +kernel
theorem dX6_init_168 : decode cX6_init 168 = .ok (.iconst (-1), 1) := by decide +kernel
theorem dX6_init_169 : decode cX6_init 169 = .ok (.iastore, 1) := by decide +kernel
theorem dX6_init_170 : decode cX6_init 170 = .ok (.iinc 1 1, 3) := by decide +kernel
theorem dX6_init_173 : decode cX6_init 173 = .ok (.goto (-16), 3) := by decide +kernel
theorem dX6_init_176 : decode cX6_init 176 = .ok (.iconst 0, 1) := by decide +kernel
theorem dX6_init_177 : decode cX6_init 177 = .ok (.istore_n 1, 1) := by decide +kernel
theorem dX6_init_178 : decode cX6_init 178 = .ok (.iload_n 1, 1) := by decide +kernel
theorem dX6_init_179 : decode cX6_init 179 = .ok (.bipush 36, 2) := by decide +kernel
theorem dX6_init_181 : decode cX6_init 181 = .ok (.if_icmp .ge 16, 3) := by decide +kernel
theorem dX6_init_184 : decode cX6_init 184 = .ok (.aload_n 0, 1) := by decide +kernel
theorem dX6_init_185 : decode cX6_init 185 = .ok (.getfield 37, 3) := by decide +kernel
theorem dX6_init_188 : decode cX6_init 188 = .ok (.iload_n 1, 1) := by decide +kernel
theorem dX6_init_189 : decode cX6_init 189 = .ok (.iconst (-1), 1) := by decide +kernel
theorem dX6_init_190 : decode cX6_init 190 = .ok (.iastore, 1) := by decide +kernel
theorem dX6_init_191 : decode cX6_init 191 = .ok (.iinc 1 1, 3) := by decide +kernel
theorem dX6_init_194 : decode cX6_init 194 = .ok (.goto (-16), 3) := by decide +kernel
theorem dX6_init_197 : decode cX6_init 197 = .ok (.iconst 0, 1) := by decide +kernel
theorem dX6_init_198 : decode cX6_init 198 = .ok (.istore_n 1, 1) := by decide +kernel
theorem dX6_init_199 : decode cX6_init 199 = .ok (.iload_n 1, 1) := by decide +kernel
theorem dX6_init_200 : decode cX6_init 200 = .ok (.sipush 16384, 3) := by decide +kernel
theorem dX6_init_203 : decode cX6_init 203 = .ok (.if_icmp .ge 18, 3) := by decide +kernel
theorem dX6_init_206 : decode cX6_init 206 = .ok (.aload_n 0, 1) := by decide +kernel
theorem dX6_init_207 : decode cX6_init 207 = .ok (.getfield 43, 3) := by decide +kernel
theorem dX6_init_210 : decode cX6_init 210 = .ok (.iload_n 1, 1) := by decide +kernel
theorem dX6_init_211 : decode cX6_init 211 = .ok (.iload_n 1, 1) := by decide +kernel
theorem dX6_init_212 : decode cX6_init 212 = .ok (.iconst 1, 1) := by decide +kernel
theorem dX6_init_213 : decode cX6_init 213 = .ok (.iadd, 1) := by decide +kernel
theorem dX6_init_214 : decode cX6_init 214 = .ok (.iastore, 1) := by decide +kernel
theorem dX6_init_215 : decode cX6_init 215 = .ok (.iinc 1 1, 3) := by decide +kernel
theorem dX6_init_218 : decode cX6_init 218 = .ok (.goto (-19), 3) := by decide +kernel
theorem dX6_init_221 : decode cX6_init 221 = .ok (.return_, 1) := by decide +kernel
theorem dX6_thrown_0 : decode cX6_thrown 0 = .ok (.aload_n 0, 1) := by decide +kernel
theorem dX6_thrown_1 : decode cX6_thrown 1 = .ok (.getfield 64, 3) := by decide +kernel
theorem dX6_thrown_4 : decode cX6_thrown 4 = .ok (.ireturn, 1) := by decide +kernel
theorem dX6_holds_0 : decode cX6_holds 0 = .ok (.aload_n 0, 1) := by decide +kernel
theorem dX6_holds_1 : decode cX6_holds 1 = .ok (.iload_n 1, 1) := by decide +kernel
theorem dX6_holds_2 : decode cX6_holds 2 = .ok (.putfield 64, 3) := by decide +kernel
theorem dX6_holds_5 : decode cX6_holds 5 = .ok (.iload_n 1, 1) := by decide +kernel
theorem dX6_holds_6 : decode cX6_holds 6 = .ok (.ifCond .ne 7, 3) := by decide +kernel
theorem dX6_holds_9 : decode cX6_holds 9 = .ok (.iconst 1, 1) := by decide +kernel
theorem dX6_holds_10 : decode cX6_holds 10 = .ok (.goto 4, 3) := by decide +kernel
theorem dX6_holds_13 : decode cX6_holds 13 = .ok (.iconst 0, 1) := by decide +kernel
theorem dX6_holds_14 : decode cX6_holds 14 = .ok (.ireturn, 1) := by decide +kernel
theorem dX6_isServer_0 : decode cX6_isServer 0 = .ok (.iload_n 0, 1) := by decide +kernel
theorem dX6_isServer_1 : decode cX6_isServer 1 = .ok (.ifCond .lt 13, 3) := by decide +kernel
theorem dX6_isServer_4 : decode cX6_isServer 4 = .ok (.iload_n 0, 1) := by decide +kernel
theorem dX6_isServer_5 : decode cX6_isServer 5 = .ok (.bipush 6, 2) := by decide +kernel
theorem dX6_isServer_7 : decode cX6_isServer 7 = .ok (.if_icmp .ge 7, 3) := by decide +kernel
theorem dX6_isServer_10 : decode cX6_isServer 10 = .ok (.iconst 1, 1) := by decide +kernel
theorem dX6_isServer_11 : decode cX6_isServer 11 = .ok (.goto 4, 3) := by decide +kernel
theorem dX6_isServer_14 : decode cX6_isServer 14 = .ok (.iconst 0, 1) := by decide +kernel
theorem dX6_isServer_15 : decode cX6_isServer 15 = .ok (.ireturn, 1) := by decide +kernel
theorem dX6_isChannel_0 : decode cX6_isChannel 0 = .ok (.iload_n 0, 1) := by decide +kernel
theorem dX6_isChannel_1 : decode cX6_isChannel 1 = .ok (.ifCond .lt 12, 3) := by decide +kernel
theorem dX6_isChannel_4 : decode cX6_isChannel 4 = .ok (.iload_n 0, 1) := by decide +kernel
theorem dX6_isChannel_5 : decode cX6_isChannel 5 = .ok (.iconst 4, 1) := by decide +kernel
theorem dX6_isChannel_6 : decode cX6_isChannel 6 = .ok (.if_icmp .ge 7, 3) := by decide +kernel
theorem dX6_isChannel_9 : decode cX6_isChannel 9 = .ok (.iconst 1, 1) := by decide +kernel
theorem dX6_isChannel_10 : decode cX6_isChannel 10 = .ok (.goto 4, 3) := by decide +kernel
theorem dX6_isChannel_13 : decode cX6_isChannel 13 = .ok (.iconst 0, 1) := by decide +kernel
theorem dX6_isChannel_14 : decode cX6_isChannel 14 = .ok (.ireturn, 1) := by decide +kernel
theorem dX6_has_0 : decode cX6_has 0 = .ok (.iload_n 0, 1) := by decide +kernel
theorem dX6_has_1 : decode cX6_has 1 = .ok (.iload_n 1, 1) := by decide +kernel
theorem dX6_has_2 : decode cX6_has 2 = .ok (.ishr, 1) := by decide +kernel
theorem dX6_has_3 : decode cX6_has 3 = .ok (.iconst 1, 1) := by decide +kernel
theorem dX6_has_4 : decode cX6_has 4 = .ok (.iand, 1) := by decide +kernel
theorem dX6_has_5 : decode cX6_has 5 = .ok (.iconst 1, 1) := by decide +kernel
theorem dX6_has_6 : decode cX6_has 6 = .ok (.if_icmp .ne 7, 3) := by decide +kernel
theorem dX6_has_9 : decode cX6_has 9 = .ok (.iconst 1, 1) := by decide +kernel
theorem dX6_has_10 : decode cX6_has 10 = .ok (.goto 4, 3) := by decide +kernel
theorem dX6_has_13 : decode cX6_has 13 = .ok (.iconst 0, 1) := by decide +kernel
theorem dX6_has_14 : decode cX6_has 14 = .ok (.ireturn, 1) := by decide +kernel
theorem dX6_at_0 : decode cX6_at 0 = .ok (.iconst 4, 1) := by decide +kernel
theorem dX6_at_1 : decode cX6_at 1 = .ok (.iload_n 0, 1) := by decide +kernel
theorem dX6_at_2 : decode cX6_at 2 = .ok (.imul, 1) := by decide +kernel
theorem dX6_at_3 : decode cX6_at 3 = .ok (.iload_n 1, 1) := by decide +kernel
theorem dX6_at_4 : decode cX6_at 4 = .ok (.iadd, 1) := by decide +kernel
theorem dX6_at_5 : decode cX6_at 5 = .ok (.ireturn, 1) := by decide +kernel
theorem dX6_makes_0 : decode cX6_makes 0 = .ok (.aload_n 0, 1) := by decide +kernel
theorem dX6_makes_1 : decode cX6_makes 1 = .ok (.iload_n 1, 1) := by decide +kernel
theorem dX6_makes_2 : decode cX6_makes 2 = .ok (.putfield 68, 3) := by decide +kernel
theorem dX6_makes_5 : decode cX6_makes 5 = .ok (.aload_n 0, 1) := by decide +kernel
theorem dX6_makes_6 : decode cX6_makes 6 = .ok (.iload_n 2, 1) := by decide +kernel
theorem dX6_makes_7 : decode cX6_makes 7 = .ok (.putfield 71, 3) := by decide +kernel
theorem dX6_makes_10 : decode cX6_makes 10 = .ok (.aload_n 0, 1) := by decide +kernel
theorem dX6_makes_11 : decode cX6_makes 11 = .ok (.iload_n 3, 1) := by decide +kernel
theorem dX6_makes_12 : decode cX6_makes 12 = .ok (.putfield 74, 3) := by decide +kernel
theorem dX6_makes_15 : decode cX6_makes 15 = .ok (.return_, 1) := by decide +kernel
theorem dX6_tells_0 : decode cX6_tells 0 = .ok (.aload_n 0, 1) := by decide +kernel
theorem dX6_tells_1 : decode cX6_tells 1 = .ok (.iload_n 1, 1) := by decide +kernel
theorem dX6_tells_2 : decode cX6_tells 2 = .ok (.iload_n 3, 1) := by decide +kernel
theorem dX6_tells_3 : decode cX6_tells 3 = .ok (.iload 4, 2) := by decide +kernel
theorem dX6_tells_5 : decode cX6_tells 5 = .ok (.invokevirtual 77, 3) := by decide +kernel
theorem dX6_tells_8 : decode cX6_tells 8 = .ok (.aload_n 0, 1) := by decide +kernel
theorem dX6_tells_9 : decode cX6_tells 9 = .ok (.aload_n 0, 1) := by decide +kernel
theorem dX6_tells_10 : decode cX6_tells 10 = .ok (.getfield 25, 3) := by decide +kernel
theorem dX6_tells_13 : decode cX6_tells 13 = .ok (.iload_n 2, 1) := by decide +kernel
theorem dX6_tells_14 : decode cX6_tells 14 = .ok (.iload_n 3, 1) := by decide +kernel
theorem dX6_tells_15 : decode cX6_tells 15 = .ok (.invokestatic 81, 3) := by decide +kernel
theorem dX6_tells_18 : decode cX6_tells 18 = .ok (.iaload, 1) := by decide +kernel
theorem dX6_tells_19 : decode cX6_tells 19 = .ok (.putfield 85, 3) := by decide +kernel
theorem dX6_tells_22 : decode cX6_tells 22 = .ok (.aload_n 0, 1) := by decide +kernel
theorem dX6_tells_23 : decode cX6_tells 23 = .ok (.aload_n 0, 1) := by decide +kernel
theorem dX6_tells_24 : decode cX6_tells 24 = .ok (.getfield 28, 3) := by decide +kernel
theorem dX6_tells_27 : decode cX6_tells 27 = .ok (.iload_n 2, 1) := by decide +kernel
theorem dX6_tells_28 : decode cX6_tells 28 = .ok (.iload_n 3, 1) := by decide +kernel
theorem dX6_tells_29 : decode cX6_tells 29 = .ok (.invokestatic 81, 3) := by decide +kernel
theorem dX6_tells_32 : decode cX6_tells 32 = .ok (.iaload, 1) := by decide +kernel
theorem dX6_tells_33 : decode cX6_tells 33 = .ok (.putfield 88, 3) := by decide +kernel
theorem dX6_tells_36 : decode cX6_tells 36 = .ok (.aload_n 0, 1) := by decide +kernel
theorem dX6_tells_37 : decode cX6_tells 37 = .ok (.aload_n 0, 1) := by decide +kernel
theorem dX6_tells_38 : decode cX6_tells 38 = .ok (.getfield 31, 3) := by decide +kernel
theorem dX6_tells_41 : decode cX6_tells 41 = .ok (.iload_n 2, 1) := by decide +kernel
theorem dX6_tells_42 : decode cX6_tells 42 = .ok (.iload_n 3, 1) := by decide +kernel
theorem dX6_tells_43 : decode cX6_tells 43 = .ok (.invokestatic 81, 3) := by decide +kernel
theorem dX6_tells_46 : decode cX6_tells 46 = .ok (.iaload, 1) := by decide +kernel
theorem dX6_tells_47 : decode cX6_tells 47 = .ok (.putfield 91, 3) := by decide +kernel
theorem dX6_tells_50 : decode cX6_tells 50 = .ok (.return_, 1) := by decide +kernel
theorem dX6_puts_0 : decode cX6_puts 0 = .ok (.aload_n 0, 1) := by decide +kernel
theorem dX6_puts_1 : decode cX6_puts 1 = .ok (.getfield 94, 3) := by decide +kernel
theorem dX6_puts_4 : decode cX6_puts 4 = .ok (.istore_n 3, 1) := by decide +kernel
theorem dX6_puts_5 : decode cX6_puts 5 = .ok (.bipush 6, 2) := by decide +kernel
theorem dX6_puts_7 : decode cX6_puts 7 = .ok (.iload_n 1, 1) := by decide +kernel
theorem dX6_puts_8 : decode cX6_puts 8 = .ok (.imul, 1) := by decide +kernel
theorem dX6_puts_9 : decode cX6_puts 9 = .ok (.iload_n 2, 1) := by decide +kernel
theorem dX6_puts_10 : decode cX6_puts 10 = .ok (.iadd, 1) := by decide +kernel
theorem dX6_puts_11 : decode cX6_puts 11 = .ok (.istore 4, 2) := by decide +kernel
theorem dX6_puts_13 : decode cX6_puts 13 = .ok (.aload_n 0, 1) := by decide +kernel
theorem dX6_puts_14 : decode cX6_puts 14 = .ok (.aload_n 0, 1) := by decide +kernel
theorem dX6_puts_15 : decode cX6_puts 15 = .ok (.getfield 43, 3) := by decide +kernel
theorem dX6_puts_18 : decode cX6_puts 18 = .ok (.iload_n 3, 1) := by decide +kernel
theorem dX6_puts_19 : decode cX6_puts 19 = .ok (.iaload, 1) := by decide +kernel
theorem dX6_puts_20 : decode cX6_puts 20 = .ok (.putfield 94, 3) := by decide +kernel
theorem dX6_puts_23 : decode cX6_puts 23 = .ok (.aload_n 0, 1) := by decide +kernel
theorem dX6_puts_24 : decode cX6_puts 24 = .ok (.getfield 43, 3) := by decide +kernel
theorem dX6_puts_27 : decode cX6_puts 27 = .ok (.iload_n 3, 1) := by decide +kernel
theorem dX6_puts_28 : decode cX6_puts 28 = .ok (.iconst (-1), 1) := by decide +kernel
theorem dX6_puts_29 : decode cX6_puts 29 = .ok (.iastore, 1) := by decide +kernel
theorem dX6_puts_30 : decode cX6_puts 30 = .ok (.aload_n 0, 1) := by decide +kernel
theorem dX6_puts_31 : decode cX6_puts 31 = .ok (.getfield 46, 3) := by decide +kernel
theorem dX6_puts_34 : decode cX6_puts 34 = .ok (.iload_n 3, 1) := by decide +kernel
theorem dX6_puts_35 : decode cX6_puts 35 = .ok (.aload_n 0, 1) := by decide +kernel
theorem dX6_puts_36 : decode cX6_puts 36 = .ok (.getfield 68, 3) := by decide +kernel
theorem dX6_puts_39 : decode cX6_puts 39 = .ok (.iastore, 1) := by decide +kernel
theorem dX6_puts_40 : decode cX6_puts 40 = .ok (.aload_n 0, 1) := by decide +kernel
theorem dX6_puts_41 : decode cX6_puts 41 = .ok (.getfield 49, 3) := by decide +kernel
theorem dX6_puts_44 : decode cX6_puts 44 = .ok (.iload_n 3, 1) := by decide +kernel
theorem dX6_puts_45 : decode cX6_puts 45 = .ok (.aload_n 0, 1) := by decide +kernel
theorem dX6_puts_46 : decode cX6_puts 46 = .ok (.getfield 71, 3) := by decide +kernel
theorem dX6_puts_49 : decode cX6_puts 49 = .ok (.iastore, 1) := by decide +kernel
theorem dX6_puts_50 : decode cX6_puts 50 = .ok (.aload_n 0, 1) := by decide +kernel
theorem dX6_puts_51 : decode cX6_puts 51 = .ok (.getfield 52, 3) := by decide +kernel
theorem dX6_puts_54 : decode cX6_puts 54 = .ok (.iload_n 3, 1) := by decide +kernel
theorem dX6_puts_55 : decode cX6_puts 55 = .ok (.aload_n 0, 1) := by decide +kernel
theorem dX6_puts_56 : decode cX6_puts 56 = .ok (.getfield 74, 3) := by decide +kernel
theorem dX6_puts_59 : decode cX6_puts 59 = .ok (.iastore, 1) := by decide +kernel
theorem dX6_puts_60 : decode cX6_puts 60 = .ok (.aload_n 0, 1) := by decide +kernel
theorem dX6_puts_61 : decode cX6_puts 61 = .ok (.getfield 55, 3) := by decide +kernel
theorem dX6_puts_64 : decode cX6_puts 64 = .ok (.iload_n 3, 1) := by decide +kernel
theorem dX6_puts_65 : decode cX6_puts 65 = .ok (.aload_n 0, 1) := by decide +kernel
theorem dX6_puts_66 : decode cX6_puts 66 = .ok (.getfield 85, 3) := by decide +kernel
theorem dX6_puts_69 : decode cX6_puts 69 = .ok (.iastore, 1) := by decide +kernel
theorem dX6_puts_70 : decode cX6_puts 70 = .ok (.aload_n 0, 1) := by decide +kernel
theorem dX6_puts_71 : decode cX6_puts 71 = .ok (.getfield 58, 3) := by decide +kernel
theorem dX6_puts_74 : decode cX6_puts 74 = .ok (.iload_n 3, 1) := by decide +kernel
theorem dX6_puts_75 : decode cX6_puts 75 = .ok (.aload_n 0, 1) := by decide +kernel
theorem dX6_puts_76 : decode cX6_puts 76 = .ok (.getfield 88, 3) := by decide +kernel
theorem dX6_puts_79 : decode cX6_puts 79 = .ok (.iastore, 1) := by decide +kernel
theorem dX6_puts_80 : decode cX6_puts 80 = .ok (.aload_n 0, 1) := by decide +kernel
theorem dX6_puts_81 : decode cX6_puts 81 = .ok (.getfield 61, 3) := by decide +kernel
theorem dX6_puts_84 : decode cX6_puts 84 = .ok (.iload_n 3, 1) := by decide +kernel
theorem dX6_puts_85 : decode cX6_puts 85 = .ok (.aload_n 0, 1) := by decide +kernel
theorem dX6_puts_86 : decode cX6_puts 86 = .ok (.getfield 91, 3) := by decide +kernel
theorem dX6_puts_89 : decode cX6_puts 89 = .ok (.iastore, 1) := by decide +kernel
theorem dX6_puts_90 : decode cX6_puts 90 = .ok (.aload_n 0, 1) := by decide +kernel
theorem dX6_puts_91 : decode cX6_puts 91 = .ok (.getfield 37, 3) := by decide +kernel
theorem dX6_puts_94 : decode cX6_puts 94 = .ok (.iload 4, 2) := by decide +kernel
theorem dX6_puts_96 : decode cX6_puts 96 = .ok (.iaload, 1) := by decide +kernel
theorem dX6_puts_97 : decode cX6_puts 97 = .ok (.iconst (-1), 1) := by decide +kernel
theorem dX6_puts_98 : decode cX6_puts 98 = .ok (.if_icmp .ne 14, 3) := by decide +kernel
theorem dX6_puts_101 : decode cX6_puts 101 = .ok (.aload_n 0, 1) := by decide +kernel
theorem dX6_puts_102 : decode cX6_puts 102 = .ok (.getfield 37, 3) := by decide +kernel
theorem dX6_puts_105 : decode cX6_puts 105 = .ok (.iload 4, 2) := by decide +kernel
theorem dX6_puts_107 : decode cX6_puts 107 = .ok (.iload_n 3, 1) := by decide +kernel
theorem dX6_puts_108 : decode cX6_puts 108 = .ok (.iastore, 1) := by decide +kernel
theorem dX6_puts_109 : decode cX6_puts 109 = .ok (.goto 16, 3) := by decide +kernel
theorem dX6_puts_112 : decode cX6_puts 112 = .ok (.aload_n 0, 1) := by decide +kernel
theorem dX6_puts_113 : decode cX6_puts 113 = .ok (.getfield 43, 3) := by decide +kernel
theorem dX6_puts_116 : decode cX6_puts 116 = .ok (.aload_n 0, 1) := by decide +kernel
theorem dX6_puts_117 : decode cX6_puts 117 = .ok (.getfield 40, 3) := by decide +kernel
theorem dX6_puts_120 : decode cX6_puts 120 = .ok (.iload 4, 2) := by decide +kernel
theorem dX6_puts_122 : decode cX6_puts 122 = .ok (.iaload, 1) := by decide +kernel
theorem dX6_puts_123 : decode cX6_puts 123 = .ok (.iload_n 3, 1) := by decide +kernel
theorem dX6_puts_124 : decode cX6_puts 124 = .ok (.iastore, 1) := by decide +kernel
theorem dX6_puts_125 : decode cX6_puts 125 = .ok (.aload_n 0, 1) := by decide +kernel
theorem dX6_puts_126 : decode cX6_puts 126 = .ok (.getfield 40, 3) := by decide +kernel
theorem dX6_puts_129 : decode cX6_puts 129 = .ok (.iload 4, 2) := by decide +kernel
theorem dX6_puts_131 : decode cX6_puts 131 = .ok (.iload_n 3, 1) := by decide +kernel
theorem dX6_puts_132 : decode cX6_puts 132 = .ok (.iastore, 1) := by decide +kernel
theorem dX6_puts_133 : decode cX6_puts 133 = .ok (.aload_n 0, 1) := by decide +kernel
theorem dX6_puts_134 : decode cX6_puts 134 = .ok (.dup, 1) := by decide +kernel
theorem dX6_puts_135 : decode cX6_puts 135 = .ok (.getfield 97, 3) := by decide +kernel
theorem dX6_puts_138 : decode cX6_puts 138 = .ok (.iconst 1, 1) := by decide +kernel
theorem dX6_puts_139 : decode cX6_puts 139 = .ok (.iadd, 1) := by decide +kernel
theorem dX6_puts_140 : decode cX6_puts 140 = .ok (.putfield 97, 3) := by decide +kernel
theorem dX6_puts_143 : decode cX6_puts 143 = .ok (.return_, 1) := by decide +kernel
theorem dX6_sends_0 : decode cX6_sends 0 = .ok (.iconst 0, 1) := by decide +kernel
theorem dX6_sends_1 : decode cX6_sends 1 = .ok (.istore_n 3, 1) := by decide +kernel
theorem dX6_sends_2 : decode cX6_sends 2 = .ok (.iload_n 3, 1) := by decide +kernel
theorem dX6_sends_3 : decode cX6_sends 3 = .ok (.bipush 6, 2) := by decide +kernel
theorem dX6_sends_5 : decode cX6_sends 5 = .ok (.if_icmp .ge 33, 3) := by decide +kernel
theorem dX6_sends_8 : decode cX6_sends 8 = .ok (.aload_n 0, 1) := by decide +kernel
theorem dX6_sends_9 : decode cX6_sends 9 = .ok (.getfield 19, 3) := by decide +kernel
theorem dX6_sends_12 : decode cX6_sends 12 = .ok (.iload_n 1, 1) := by decide +kernel
theorem dX6_sends_13 : decode cX6_sends 13 = .ok (.iaload, 1) := by decide +kernel
theorem dX6_sends_14 : decode cX6_sends 14 = .ok (.iload_n 3, 1) := by decide +kernel
theorem dX6_sends_15 : decode cX6_sends 15 = .ok (.invokestatic 100, 3) := by decide +kernel
theorem dX6_sends_18 : decode cX6_sends 18 = .ok (.ifCond .eq 14, 3) := by decide +kernel
theorem dX6_sends_21 : decode cX6_sends 21 = .ok (.iload_n 3, 1) := by decide +kernel
theorem dX6_sends_22 : decode cX6_sends 22 = .ok (.iload_n 2, 1) := by decide +kernel
theorem dX6_sends_23 : decode cX6_sends 23 = .ok (.if_icmp .eq 9, 3) := by decide +kernel
theorem dX6_sends_26 : decode cX6_sends 26 = .ok (.aload_n 0, 1) := by decide +kernel
theorem dX6_sends_27 : decode cX6_sends 27 = .ok (.iload_n 1, 1) := by decide +kernel
theorem dX6_sends_28 : decode cX6_sends 28 = .ok (.iload_n 3, 1) := by decide +kernel
theorem dX6_sends_29 : decode cX6_sends 29 = .ok (.invokevirtual 104, 3) := by decide +kernel
theorem dX6_sends_32 : decode cX6_sends 32 = .ok (.iinc 3 1, 3) := by decide +kernel
theorem dX6_sends_35 : decode cX6_sends 35 = .ok (.goto (-33), 3) := by decide +kernel
theorem dX6_sends_38 : decode cX6_sends 38 = .ok (.return_, 1) := by decide +kernel
theorem dX6_takes_0 : decode cX6_takes 0 = .ok (.aload_n 0, 1) := by decide +kernel
theorem dX6_takes_1 : decode cX6_takes 1 = .ok (.getfield 37, 3) := by decide +kernel
theorem dX6_takes_4 : decode cX6_takes 4 = .ok (.iload_n 1, 1) := by decide +kernel
theorem dX6_takes_5 : decode cX6_takes 5 = .ok (.iaload, 1) := by decide +kernel
theorem dX6_takes_6 : decode cX6_takes 6 = .ok (.istore_n 2, 1) := by decide +kernel
theorem dX6_takes_7 : decode cX6_takes 7 = .ok (.aload_n 0, 1) := by decide +kernel
theorem dX6_takes_8 : decode cX6_takes 8 = .ok (.getfield 37, 3) := by decide +kernel
theorem dX6_takes_11 : decode cX6_takes 11 = .ok (.iload_n 1, 1) := by decide +kernel
theorem dX6_takes_12 : decode cX6_takes 12 = .ok (.aload_n 0, 1) := by decide +kernel
theorem dX6_takes_13 : decode cX6_takes 13 = .ok (.getfield 43, 3) := by decide +kernel
theorem dX6_takes_16 : decode cX6_takes 16 = .ok (.iload_n 2, 1) := by decide +kernel
theorem dX6_takes_17 : decode cX6_takes 17 = .ok (.iaload, 1) := by decide +kernel
theorem dX6_takes_18 : decode cX6_takes 18 = .ok (.iastore, 1) := by decide +kernel
theorem dX6_takes_19 : decode cX6_takes 19 = .ok (.aload_n 0, 1) := by decide +kernel
theorem dX6_takes_20 : decode cX6_takes 20 = .ok (.aload_n 0, 1) := by decide +kernel
theorem dX6_takes_21 : decode cX6_takes 21 = .ok (.getfield 46, 3) := by decide +kernel
theorem dX6_takes_24 : decode cX6_takes 24 = .ok (.iload_n 2, 1) := by decide +kernel
theorem dX6_takes_25 : decode cX6_takes 25 = .ok (.iaload, 1) := by decide +kernel
theorem dX6_takes_26 : decode cX6_takes 26 = .ok (.putfield 68, 3) := by decide +kernel
theorem dX6_takes_29 : decode cX6_takes 29 = .ok (.aload_n 0, 1) := by decide +kernel
theorem dX6_takes_30 : decode cX6_takes 30 = .ok (.aload_n 0, 1) := by decide +kernel
theorem dX6_takes_31 : decode cX6_takes 31 = .ok (.getfield 49, 3) := by decide +kernel
theorem dX6_takes_34 : decode cX6_takes 34 = .ok (.iload_n 2, 1) := by decide +kernel
theorem dX6_takes_35 : decode cX6_takes 35 = .ok (.iaload, 1) := by decide +kernel
theorem dX6_takes_36 : decode cX6_takes 36 = .ok (.putfield 71, 3) := by decide +kernel
theorem dX6_takes_39 : decode cX6_takes 39 = .ok (.aload_n 0, 1) := by decide +kernel
theorem dX6_takes_40 : decode cX6_takes 40 = .ok (.aload_n 0, 1) := by decide +kernel
theorem dX6_takes_41 : decode cX6_takes 41 = .ok (.getfield 52, 3) := by decide +kernel
theorem dX6_takes_44 : decode cX6_takes 44 = .ok (.iload_n 2, 1) := by decide +kernel
theorem dX6_takes_45 : decode cX6_takes 45 = .ok (.iaload, 1) := by decide +kernel
theorem dX6_takes_46 : decode cX6_takes 46 = .ok (.putfield 74, 3) := by decide +kernel
theorem dX6_takes_49 : decode cX6_takes 49 = .ok (.aload_n 0, 1) := by decide +kernel
theorem dX6_takes_50 : decode cX6_takes 50 = .ok (.aload_n 0, 1) := by decide +kernel
theorem dX6_takes_51 : decode cX6_takes 51 = .ok (.getfield 55, 3) := by decide +kernel
theorem dX6_takes_54 : decode cX6_takes 54 = .ok (.iload_n 2, 1) := by decide +kernel
theorem dX6_takes_55 : decode cX6_takes 55 = .ok (.iaload, 1) := by decide +kernel
theorem dX6_takes_56 : decode cX6_takes 56 = .ok (.putfield 85, 3) := by decide +kernel
theorem dX6_takes_59 : decode cX6_takes 59 = .ok (.aload_n 0, 1) := by decide +kernel
theorem dX6_takes_60 : decode cX6_takes 60 = .ok (.aload_n 0, 1) := by decide +kernel
theorem dX6_takes_61 : decode cX6_takes 61 = .ok (.getfield 58, 3) := by decide +kernel
theorem dX6_takes_64 : decode cX6_takes 64 = .ok (.iload_n 2, 1) := by decide +kernel
theorem dX6_takes_65 : decode cX6_takes 65 = .ok (.iaload, 1) := by decide +kernel
theorem dX6_takes_66 : decode cX6_takes 66 = .ok (.putfield 88, 3) := by decide +kernel
theorem dX6_takes_69 : decode cX6_takes 69 = .ok (.aload_n 0, 1) := by decide +kernel
theorem dX6_takes_70 : decode cX6_takes 70 = .ok (.aload_n 0, 1) := by decide +kernel
theorem dX6_takes_71 : decode cX6_takes 71 = .ok (.getfield 61, 3) := by decide +kernel
theorem dX6_takes_74 : decode cX6_takes 74 = .ok (.iload_n 2, 1) := by decide +kernel
theorem dX6_takes_75 : decode cX6_takes 75 = .ok (.iaload, 1) := by decide +kernel
theorem dX6_takes_76 : decode cX6_takes 76 = .ok (.putfield 91, 3) := by decide +kernel
theorem dX6_takes_79 : decode cX6_takes 79 = .ok (.aload_n 0, 1) := by decide +kernel
theorem dX6_takes_80 : decode cX6_takes 80 = .ok (.getfield 43, 3) := by decide +kernel
theorem dX6_takes_83 : decode cX6_takes 83 = .ok (.iload_n 2, 1) := by decide +kernel
theorem dX6_takes_84 : decode cX6_takes 84 = .ok (.aload_n 0, 1) := by decide +kernel
theorem dX6_takes_85 : decode cX6_takes 85 = .ok (.getfield 94, 3) := by decide +kernel
theorem dX6_takes_88 : decode cX6_takes 88 = .ok (.iastore, 1) := by decide +kernel
theorem dX6_takes_89 : decode cX6_takes 89 = .ok (.aload_n 0, 1) := by decide +kernel
theorem dX6_takes_90 : decode cX6_takes 90 = .ok (.iload_n 2, 1) := by decide +kernel
theorem dX6_takes_91 : decode cX6_takes 91 = .ok (.putfield 94, 3) := by decide +kernel
theorem dX6_takes_94 : decode cX6_takes 94 = .ok (.aload_n 0, 1) := by decide +kernel
theorem dX6_takes_95 : decode cX6_takes 95 = .ok (.dup, 1) := by decide +kernel
theorem dX6_takes_96 : decode cX6_takes 96 = .ok (.getfield 97, 3) := by decide +kernel
theorem dX6_takes_99 : decode cX6_takes 99 = .ok (.iconst 1, 1) := by decide +kernel
theorem dX6_takes_100 : decode cX6_takes 100 = .ok (.isub, 1) := by decide +kernel
theorem dX6_takes_101 : decode cX6_takes 101 = .ok (.putfield 97, 3) := by decide +kernel
theorem dX6_takes_104 : decode cX6_takes 104 = .ok (.return_, 1) := by decide +kernel
theorem dX6_treeOf_0 : decode cX6_treeOf 0 = .ok (.iconst 1, 1) := by decide +kernel
theorem dX6_treeOf_1 : decode cX6_treeOf 1 = .ok (.iload_n 1, 1) := by decide +kernel
theorem dX6_treeOf_2 : decode cX6_treeOf 2 = .ok (.ishl, 1) := by decide +kernel
theorem dX6_treeOf_3 : decode cX6_treeOf 3 = .ok (.istore_n 2, 1) := by decide +kernel
theorem dX6_treeOf_4 : decode cX6_treeOf 4 = .ok (.iconst 0, 1) := by decide +kernel
theorem dX6_treeOf_5 : decode cX6_treeOf 5 = .ok (.istore_n 3, 1) := by decide +kernel
theorem dX6_treeOf_6 : decode cX6_treeOf 6 = .ok (.iload_n 2, 1) := by decide +kernel
theorem dX6_treeOf_7 : decode cX6_treeOf 7 = .ok (.iload_n 3, 1) := by decide +kernel
theorem dX6_treeOf_8 : decode cX6_treeOf 8 = .ok (.if_icmp .eq 47, 3) := by decide +kernel
theorem dX6_treeOf_11 : decode cX6_treeOf 11 = .ok (.iload_n 2, 1) := by decide +kernel
theorem dX6_treeOf_12 : decode cX6_treeOf 12 = .ok (.istore_n 3, 1) := by decide +kernel
theorem dX6_treeOf_13 : decode cX6_treeOf 13 = .ok (.iconst 0, 1) := by decide +kernel
theorem dX6_treeOf_14 : decode cX6_treeOf 14 = .ok (.istore 4, 2) := by decide +kernel
theorem dX6_treeOf_16 : decode cX6_treeOf 16 = .ok (.iload 4, 2) := by decide +kernel
theorem dX6_treeOf_18 : decode cX6_treeOf 18 = .ok (.bipush 6, 2) := by decide +kernel
theorem dX6_treeOf_20 : decode cX6_treeOf 20 = .ok (.if_icmp .ge 32, 3) := by decide +kernel
theorem dX6_treeOf_23 : decode cX6_treeOf 23 = .ok (.iload_n 2, 1) := by decide +kernel
theorem dX6_treeOf_24 : decode cX6_treeOf 24 = .ok (.iload_n 2, 1) := by decide +kernel
theorem dX6_treeOf_25 : decode cX6_treeOf 25 = .ok (.iload 4, 2) := by decide +kernel
theorem dX6_treeOf_27 : decode cX6_treeOf 27 = .ok (.invokestatic 100, 3) := by decide +kernel
theorem dX6_treeOf_30 : decode cX6_treeOf 30 = .ok (.ifCond .eq 13, 3) := by decide +kernel
theorem dX6_treeOf_33 : decode cX6_treeOf 33 = .ok (.aload_n 0, 1) := by decide +kernel
theorem dX6_treeOf_34 : decode cX6_treeOf 34 = .ok (.getfield 19, 3) := by decide +kernel
theorem dX6_treeOf_37 : decode cX6_treeOf 37 = .ok (.iload 4, 2) := by decide +kernel
theorem dX6_treeOf_39 : decode cX6_treeOf 39 = .ok (.iaload, 1) := by decide +kernel
theorem dX6_treeOf_40 : decode cX6_treeOf 40 = .ok (.goto 4, 3) := by decide +kernel
theorem dX6_treeOf_43 : decode cX6_treeOf 43 = .ok (.iconst 0, 1) := by decide +kernel
theorem dX6_treeOf_44 : decode cX6_treeOf 44 = .ok (.ior, 1) := by decide +kernel
theorem dX6_treeOf_45 : decode cX6_treeOf 45 = .ok (.istore_n 2, 1) := by decide +kernel
theorem dX6_treeOf_46 : decode cX6_treeOf 46 = .ok (.iinc 4 1, 3) := by decide +kernel
theorem dX6_treeOf_49 : decode cX6_treeOf 49 = .ok (.goto (-33), 3) := by decide +kernel
theorem dX6_treeOf_52 : decode cX6_treeOf 52 = .ok (.goto (-46), 3) := by decide +kernel
theorem dX6_treeOf_55 : decode cX6_treeOf 55 = .ok (.iload_n 2, 1) := by decide +kernel
theorem dX6_treeOf_56 : decode cX6_treeOf 56 = .ok (.ireturn, 1) := by decide +kernel
theorem dX6_leaves_0 : decode cX6_leaves 0 = .ok (.iload_n 1, 1) := by decide +kernel
theorem dX6_leaves_1 : decode cX6_leaves 1 = .ok (.iload_n 2, 1) := by decide +kernel
theorem dX6_leaves_2 : decode cX6_leaves 2 = .ok (.invokestatic 81, 3) := by decide +kernel
theorem dX6_leaves_5 : decode cX6_leaves 5 = .ok (.istore 4, 2) := by decide +kernel
theorem dX6_leaves_7 : decode cX6_leaves 7 = .ok (.aload_n 0, 1) := by decide +kernel
theorem dX6_leaves_8 : decode cX6_leaves 8 = .ok (.getfield 34, 3) := by decide +kernel
theorem dX6_leaves_11 : decode cX6_leaves 11 = .ok (.iload 4, 2) := by decide +kernel
theorem dX6_leaves_13 : decode cX6_leaves 13 = .ok (.dup2, 1) := by decide +kernel
theorem dX6_leaves_14 : decode cX6_leaves 14 = .ok (.iaload, 1) := by decide +kernel
theorem dX6_leaves_15 : decode cX6_leaves 15 = .ok (.iconst 1, 1) := by decide +kernel
theorem dX6_leaves_16 : decode cX6_leaves 16 = .ok (.iload_n 3, 1) := by decide +kernel
theorem dX6_leaves_17 : decode cX6_leaves 17 = .ok (.ishl, 1) := by decide +kernel
theorem dX6_leaves_18 : decode cX6_leaves 18 = .ok (.iconst (-1), 1) := by decide +kernel
theorem dX6_leaves_19 : decode cX6_leaves 19 = .ok (.ixor, 1) := by decide +kernel
theorem dX6_leaves_20 : decode cX6_leaves 20 = .ok (.iand, 1) := by decide +kernel
theorem dX6_leaves_21 : decode cX6_leaves 21 = .ok (.iastore, 1) := by decide +kernel
theorem dX6_leaves_22 : decode cX6_leaves 22 = .ok (.aload_n 0, 1) := by decide +kernel
theorem dX6_leaves_23 : decode cX6_leaves 23 = .ok (.getfield 25, 3) := by decide +kernel
theorem dX6_leaves_26 : decode cX6_leaves 26 = .ok (.iload 4, 2) := by decide +kernel
theorem dX6_leaves_28 : decode cX6_leaves 28 = .ok (.aload_n 0, 1) := by decide +kernel
theorem dX6_leaves_29 : decode cX6_leaves 29 = .ok (.getfield 34, 3) := by decide +kernel
theorem dX6_leaves_32 : decode cX6_leaves 32 = .ok (.iload 4, 2) := by decide +kernel
theorem dX6_leaves_34 : decode cX6_leaves 34 = .ok (.iaload, 1) := by decide +kernel
theorem dX6_leaves_35 : decode cX6_leaves 35 = .ok (.ifCond .ne 7, 3) := by decide +kernel
theorem dX6_leaves_38 : decode cX6_leaves 38 = .ok (.iconst (-1), 1) := by decide +kernel
theorem dX6_leaves_39 : decode cX6_leaves 39 = .ok (.goto 10, 3) := by decide +kernel
theorem dX6_leaves_42 : decode cX6_leaves 42 = .ok (.aload_n 0, 1) := by decide +kernel
theorem dX6_leaves_43 : decode cX6_leaves 43 = .ok (.getfield 25, 3) := by decide +kernel
theorem dX6_leaves_46 : decode cX6_leaves 46 = .ok (.iload 4, 2) := by decide +kernel
theorem dX6_leaves_48 : decode cX6_leaves 48 = .ok (.iaload, 1) := by decide +kernel
theorem dX6_leaves_49 : decode cX6_leaves 49 = .ok (.iastore, 1) := by decide +kernel
theorem dX6_leaves_50 : decode cX6_leaves 50 = .ok (.return_, 1) := by decide +kernel
theorem dX6_quits_0 : decode cX6_quits 0 = .ok (.aload_n 0, 1) := by decide +kernel
theorem dX6_quits_1 : decode cX6_quits 1 = .ok (.getfield 22, 3) := by decide +kernel
theorem dX6_quits_4 : decode cX6_quits 4 = .ok (.iload_n 1, 1) := by decide +kernel
theorem dX6_quits_5 : decode cX6_quits 5 = .ok (.dup2, 1) := by decide +kernel
theorem dX6_quits_6 : decode cX6_quits 6 = .ok (.iaload, 1) := by decide +kernel
theorem dX6_quits_7 : decode cX6_quits 7 = .ok (.iconst 1, 1) := by decide +kernel
theorem dX6_quits_8 : decode cX6_quits 8 = .ok (.iload_n 2, 1) := by decide +kernel
theorem dX6_quits_9 : decode cX6_quits 9 = .ok (.ishl, 1) := by decide +kernel
theorem dX6_quits_10 : decode cX6_quits 10 = .ok (.iconst (-1), 1) := by decide +kernel
theorem dX6_quits_11 : decode cX6_quits 11 = .ok (.ixor, 1) := by decide +kernel
theorem dX6_quits_12 : decode cX6_quits 12 = .ok (.iand, 1) := by decide +kernel
theorem dX6_quits_13 : decode cX6_quits 13 = .ok (.iastore, 1) := by decide +kernel
theorem dX6_quits_14 : decode cX6_quits 14 = .ok (.iconst 0, 1) := by decide +kernel
theorem dX6_quits_15 : decode cX6_quits 15 = .ok (.istore_n 3, 1) := by decide +kernel
theorem dX6_quits_16 : decode cX6_quits 16 = .ok (.iload_n 3, 1) := by decide +kernel
theorem dX6_quits_17 : decode cX6_quits 17 = .ok (.iconst 4, 1) := by decide +kernel
theorem dX6_quits_18 : decode cX6_quits 18 = .ok (.if_icmp .ge 16, 3) := by decide +kernel
theorem dX6_quits_21 : decode cX6_quits 21 = .ok (.aload_n 0, 1) := by decide +kernel
theorem dX6_quits_22 : decode cX6_quits 22 = .ok (.iload_n 1, 1) := by decide +kernel
theorem dX6_quits_23 : decode cX6_quits 23 = .ok (.iload_n 3, 1) := by decide +kernel
theorem dX6_quits_24 : decode cX6_quits 24 = .ok (.iload_n 2, 1) := by decide +kernel
theorem dX6_quits_25 : decode cX6_quits 25 = .ok (.invokevirtual 108, 3) := by decide +kernel
theorem dX6_quits_28 : decode cX6_quits 28 = .ok (.iinc 3 1, 3) := by decide +kernel
theorem dX6_quits_31 : decode cX6_quits 31 = .ok (.goto (-15), 3) := by decide +kernel
theorem dX6_quits_34 : decode cX6_quits 34 = .ok (.return_, 1) := by decide +kernel
theorem dX6_namesake_0 : decode cX6_namesake 0 = .ok (.iconst (-1), 1) := by decide +kernel
theorem dX6_namesake_1 : decode cX6_namesake 1 = .ok (.istore 4, 2) := by decide +kernel
theorem dX6_namesake_3 : decode cX6_namesake 3 = .ok (.iconst 0, 1) := by decide +kernel
theorem dX6_namesake_4 : decode cX6_namesake 4 = .ok (.istore 5, 2) := by decide +kernel
theorem dX6_namesake_6 : decode cX6_namesake 6 = .ok (.iload 5, 2) := by decide +kernel
theorem dX6_namesake_8 : decode cX6_namesake 8 = .ok (.aload_n 0, 1) := by decide +kernel
theorem dX6_namesake_9 : decode cX6_namesake 9 = .ok (.getfield 111, 3) := by decide +kernel
theorem dX6_namesake_12 : decode cX6_namesake 12 = .ok (.if_icmp .ge 49, 3) := by decide +kernel
theorem dX6_namesake_15 : decode cX6_namesake 15 = .ok (.aload_n 0, 1) := by decide +kernel
theorem dX6_namesake_16 : decode cX6_namesake 16 = .ok (.getfield 22, 3) := by decide +kernel
theorem dX6_namesake_19 : decode cX6_namesake 19 = .ok (.iload_n 1, 1) := by decide +kernel
theorem dX6_namesake_20 : decode cX6_namesake 20 = .ok (.iaload, 1) := by decide +kernel
theorem dX6_namesake_21 : decode cX6_namesake 21 = .ok (.iload 5, 2) := by decide +kernel
theorem dX6_namesake_23 : decode cX6_namesake 23 = .ok (.invokestatic 100, 3) := by decide +kernel
theorem dX6_namesake_26 : decode cX6_namesake 26 = .ok (.ifCond .eq 25, 3) := by decide +kernel
theorem dX6_namesake_29 : decode cX6_namesake 29 = .ok (.aload_n 0, 1) := by decide +kernel
theorem dX6_namesake_30 : decode cX6_namesake 30 = .ok (.getfield 7, 3) := by decide +kernel
theorem dX6_namesake_33 : decode cX6_namesake 33 = .ok (.iload 5, 2) := by decide +kernel
theorem dX6_namesake_35 : decode cX6_namesake 35 = .ok (.iaload, 1) := by decide +kernel
theorem dX6_namesake_36 : decode cX6_namesake 36 = .ok (.iload_n 2, 1) := by decide +kernel
theorem dX6_namesake_37 : decode cX6_namesake 37 = .ok (.if_icmp .ne 14, 3) := by decide +kernel
theorem dX6_namesake_40 : decode cX6_namesake 40 = .ok (.iload 5, 2) := by decide +kernel
theorem dX6_namesake_42 : decode cX6_namesake 42 = .ok (.iload_n 3, 1) := by decide +kernel
theorem dX6_namesake_43 : decode cX6_namesake 43 = .ok (.if_icmp .eq 8, 3) := by decide +kernel
theorem dX6_namesake_46 : decode cX6_namesake 46 = .ok (.iload 5, 2) := by decide +kernel
theorem dX6_namesake_48 : decode cX6_namesake 48 = .ok (.goto 5, 3) := by decide +kernel
theorem dX6_namesake_51 : decode cX6_namesake 51 = .ok (.iload 4, 2) := by decide +kernel
theorem dX6_namesake_53 : decode cX6_namesake 53 = .ok (.istore 4, 2) := by decide +kernel
theorem dX6_namesake_55 : decode cX6_namesake 55 = .ok (.iinc 5 1, 3) := by decide +kernel
theorem dX6_namesake_58 : decode cX6_namesake 58 = .ok (.goto (-52), 3) := by decide +kernel
theorem dX6_namesake_61 : decode cX6_namesake 61 = .ok (.iload 4, 2) := by decide +kernel
theorem dX6_namesake_63 : decode cX6_namesake 63 = .ok (.ireturn, 1) := by decide +kernel
theorem dX6_getsUser_0 : decode cX6_getsUser 0 = .ok (.aload_n 0, 1) := by decide +kernel
theorem dX6_getsUser_1 : decode cX6_getsUser 1 = .ok (.getfield 71, 3) := by decide +kernel
theorem dX6_getsUser_4 : decode cX6_getsUser 4 = .ok (.istore_n 3, 1) := by decide +kernel
theorem dX6_getsUser_5 : decode cX6_getsUser 5 = .ok (.aload_n 0, 1) := by decide +kernel
theorem dX6_getsUser_6 : decode cX6_getsUser 6 = .ok (.iload_n 1, 1) := by decide +kernel
theorem dX6_getsUser_7 : decode cX6_getsUser 7 = .ok (.invokevirtual 114, 3) := by decide +kernel
theorem dX6_getsUser_10 : decode cX6_getsUser 10 = .ok (.aload_n 0, 1) := by decide +kernel
theorem dX6_getsUser_11 : decode cX6_getsUser 11 = .ok (.getfield 13, 3) := by decide +kernel
theorem dX6_getsUser_14 : decode cX6_getsUser 14 = .ok (.iload_n 3, 1) := by decide +kernel
theorem dX6_getsUser_15 : decode cX6_getsUser 15 = .ok (.iaload, 1) := by decide +kernel
theorem dX6_getsUser_16 : decode cX6_getsUser 16 = .ok (.invokestatic 100, 3) := by decide +kernel
theorem dX6_getsUser_19 : decode cX6_getsUser 19 = .ok (.ifCond .ne 4, 3) := by decide +kernel
theorem dX6_getsUser_22 : decode cX6_getsUser 22 = .ok (.return_, 1) := by decide +kernel
theorem dX6_getsUser_23 : decode cX6_getsUser 23 = .ok (.aload_n 0, 1) := by decide +kernel
theorem dX6_getsUser_24 : decode cX6_getsUser 24 = .ok (.iload_n 1, 1) := by decide +kernel
theorem dX6_getsUser_25 : decode cX6_getsUser 25 = .ok (.aload_n 0, 1) := by decide +kernel
theorem dX6_getsUser_26 : decode cX6_getsUser 26 = .ok (.getfield 7, 3) := by decide +kernel
theorem dX6_getsUser_29 : decode cX6_getsUser 29 = .ok (.iload_n 3, 1) := by decide +kernel
theorem dX6_getsUser_30 : decode cX6_getsUser 30 = .ok (.iaload, 1) := by decide +kernel
theorem dX6_getsUser_31 : decode cX6_getsUser 31 = .ok (.iload_n 3, 1) := by decide +kernel
theorem dX6_getsUser_32 : decode cX6_getsUser 32 = .ok (.invokevirtual 118, 3) := by decide +kernel
theorem dX6_getsUser_35 : decode cX6_getsUser 35 = .ok (.istore 4, 2) := by decide +kernel
theorem dX6_getsUser_37 : decode cX6_getsUser 37 = .ok (.iload 4, 2) := by decide +kernel
theorem dX6_getsUser_39 : decode cX6_getsUser 39 = .ok (.iconst (-1), 1) := by decide +kernel
theorem dX6_getsUser_40 : decode cX6_getsUser 40 = .ok (.if_icmp .eq 33, 3) := by decide +kernel
theorem dX6_getsUser_43 : decode cX6_getsUser 43 = .ok (.aload_n 0, 1) := by decide +kernel
theorem dX6_getsUser_44 : decode cX6_getsUser 44 = .ok (.getfield 16, 3) := by decide +kernel
theorem dX6_getsUser_47 : decode cX6_getsUser 47 = .ok (.iload 4, 2) := by decide +kernel
theorem dX6_getsUser_49 : decode cX6_getsUser 49 = .ok (.iaload, 1) := by decide +kernel
theorem dX6_getsUser_50 : decode cX6_getsUser 50 = .ok (.aload_n 0, 1) := by decide +kernel
theorem dX6_getsUser_51 : decode cX6_getsUser 51 = .ok (.getfield 16, 3) := by decide +kernel
theorem dX6_getsUser_54 : decode cX6_getsUser 54 = .ok (.iload_n 3, 1) := by decide +kernel
theorem dX6_getsUser_55 : decode cX6_getsUser 55 = .ok (.iaload, 1) := by decide +kernel
theorem dX6_getsUser_56 : decode cX6_getsUser 56 = .ok (.if_icmp .ge 17, 3) := by decide +kernel
theorem dX6_getsUser_59 : decode cX6_getsUser 59 = .ok (.aload_n 0, 1) := by decide +kernel
theorem dX6_getsUser_60 : decode cX6_getsUser 60 = .ok (.iconst 1, 1) := by decide +kernel
theorem dX6_getsUser_61 : decode cX6_getsUser 61 = .ok (.iload_n 3, 1) := by decide +kernel
theorem dX6_getsUser_62 : decode cX6_getsUser 62 = .ok (.iconst 0, 1) := by decide +kernel
theorem dX6_getsUser_63 : decode cX6_getsUser 63 = .ok (.invokevirtual 77, 3) := by decide +kernel
theorem dX6_getsUser_66 : decode cX6_getsUser 66 = .ok (.aload_n 0, 1) := by decide +kernel
theorem dX6_getsUser_67 : decode cX6_getsUser 67 = .ok (.iload_n 1, 1) := by decide +kernel
theorem dX6_getsUser_68 : decode cX6_getsUser 68 = .ok (.iload_n 2, 1) := by decide +kernel
theorem dX6_getsUser_69 : decode cX6_getsUser 69 = .ok (.invokevirtual 104, 3) := by decide +kernel
theorem dX6_getsUser_72 : decode cX6_getsUser 72 = .ok (.return_, 1) := by decide +kernel
theorem dX6_getsUser_73 : decode cX6_getsUser 73 = .ok (.iload 4, 2) := by decide +kernel
theorem dX6_getsUser_75 : decode cX6_getsUser 75 = .ok (.iconst (-1), 1) := by decide +kernel
theorem dX6_getsUser_76 : decode cX6_getsUser 76 = .ok (.if_icmp .eq 24, 3) := by decide +kernel
theorem dX6_getsUser_79 : decode cX6_getsUser 79 = .ok (.aload_n 0, 1) := by decide +kernel
theorem dX6_getsUser_80 : decode cX6_getsUser 80 = .ok (.iload_n 1, 1) := by decide +kernel
theorem dX6_getsUser_81 : decode cX6_getsUser 81 = .ok (.iload 4, 2) := by decide +kernel
theorem dX6_getsUser_83 : decode cX6_getsUser 83 = .ok (.invokevirtual 122, 3) := by decide +kernel
theorem dX6_getsUser_86 : decode cX6_getsUser 86 = .ok (.aload_n 0, 1) := by decide +kernel
theorem dX6_getsUser_87 : decode cX6_getsUser 87 = .ok (.iconst 1, 1) := by decide +kernel
theorem dX6_getsUser_88 : decode cX6_getsUser 88 = .ok (.iload 4, 2) := by decide +kernel
theorem dX6_getsUser_90 : decode cX6_getsUser 90 = .ok (.iconst 0, 1) := by decide +kernel
theorem dX6_getsUser_91 : decode cX6_getsUser 91 = .ok (.invokevirtual 77, 3) := by decide +kernel
theorem dX6_getsUser_94 : decode cX6_getsUser 94 = .ok (.aload_n 0, 1) := by decide +kernel
theorem dX6_getsUser_95 : decode cX6_getsUser 95 = .ok (.iload_n 1, 1) := by decide +kernel
theorem dX6_getsUser_96 : decode cX6_getsUser 96 = .ok (.iconst (-1), 1) := by decide +kernel
theorem dX6_getsUser_97 : decode cX6_getsUser 97 = .ok (.invokevirtual 125, 3) := by decide +kernel
theorem dX6_getsUser_100 : decode cX6_getsUser 100 = .ok (.aload_n 0, 1) := by decide +kernel
theorem dX6_getsUser_101 : decode cX6_getsUser 101 = .ok (.getfield 22, 3) := by decide +kernel
theorem dX6_getsUser_104 : decode cX6_getsUser 104 = .ok (.iload_n 1, 1) := by decide +kernel
theorem dX6_getsUser_105 : decode cX6_getsUser 105 = .ok (.dup2, 1) := by decide +kernel
theorem dX6_getsUser_106 : decode cX6_getsUser 106 = .ok (.iaload, 1) := by decide +kernel
theorem dX6_getsUser_107 : decode cX6_getsUser 107 = .ok (.iconst 1, 1) := by decide +kernel
theorem dX6_getsUser_108 : decode cX6_getsUser 108 = .ok (.iload_n 3, 1) := by decide +kernel
theorem dX6_getsUser_109 : decode cX6_getsUser 109 = .ok (.ishl, 1) := by decide +kernel
theorem dX6_getsUser_110 : decode cX6_getsUser 110 = .ok (.ior, 1) := by decide +kernel
theorem dX6_getsUser_111 : decode cX6_getsUser 111 = .ok (.iastore, 1) := by decide +kernel
theorem dX6_getsUser_112 : decode cX6_getsUser 112 = .ok (.aload_n 0, 1) := by decide +kernel
theorem dX6_getsUser_113 : decode cX6_getsUser 113 = .ok (.iconst 0, 1) := by decide +kernel
theorem dX6_getsUser_114 : decode cX6_getsUser 114 = .ok (.iload_n 3, 1) := by decide +kernel
theorem dX6_getsUser_115 : decode cX6_getsUser 115 = .ok (.iconst 0, 1) := by decide +kernel
theorem dX6_getsUser_116 : decode cX6_getsUser 116 = .ok (.invokevirtual 77, 3) := by decide +kernel
theorem dX6_getsUser_119 : decode cX6_getsUser 119 = .ok (.aload_n 0, 1) := by decide +kernel
theorem dX6_getsUser_120 : decode cX6_getsUser 120 = .ok (.iload_n 1, 1) := by decide +kernel
theorem dX6_getsUser_121 : decode cX6_getsUser 121 = .ok (.iload_n 2, 1) := by decide +kernel
theorem dX6_getsUser_122 : decode cX6_getsUser 122 = .ok (.invokevirtual 125, 3) := by decide +kernel
theorem dX6_getsUser_125 : decode cX6_getsUser 125 = .ok (.return_, 1) := by decide +kernel
theorem dX6_getsChannel_0 : decode cX6_getsChannel 0 = .ok (.iload_n 1, 1) := by decide +kernel
theorem dX6_getsChannel_1 : decode cX6_getsChannel 1 = .ok (.aload_n 0, 1) := by decide +kernel
theorem dX6_getsChannel_2 : decode cX6_getsChannel 2 = .ok (.getfield 71, 3) := by decide +kernel
theorem dX6_getsChannel_5 : decode cX6_getsChannel 5 = .ok (.invokestatic 81, 3) := by decide +kernel
theorem dX6_getsChannel_8 : decode cX6_getsChannel 8 = .ok (.istore_n 2, 1) := by decide +kernel
theorem dX6_getsChannel_9 : decode cX6_getsChannel 9 = .ok (.aload_n 0, 1) := by decide +kernel
theorem dX6_getsChannel_10 : decode cX6_getsChannel 10 = .ok (.getfield 74, 3) := by decide +kernel
theorem dX6_getsChannel_13 : decode cX6_getsChannel 13 = .ok (.aload_n 0, 1) := by decide +kernel
theorem dX6_getsChannel_14 : decode cX6_getsChannel 14 = .ok (.getfield 22, 3) := by decide +kernel
theorem dX6_getsChannel_17 : decode cX6_getsChannel 17 = .ok (.iload_n 1, 1) := by decide +kernel
theorem dX6_getsChannel_18 : decode cX6_getsChannel 18 = .ok (.iaload, 1) := by decide +kernel
theorem dX6_getsChannel_19 : decode cX6_getsChannel 19 = .ok (.iand, 1) := by decide +kernel
theorem dX6_getsChannel_20 : decode cX6_getsChannel 20 = .ok (.istore_n 3, 1) := by decide +kernel
theorem dX6_getsChannel_21 : decode cX6_getsChannel 21 = .ok (.iload_n 3, 1) := by decide +kernel
theorem dX6_getsChannel_22 : decode cX6_getsChannel 22 = .ok (.ifCond .ne 4, 3) := by decide +kernel
theorem dX6_getsChannel_25 : decode cX6_getsChannel 25 = .ok (.return_, 1) := by decide +kernel
theorem dX6_getsChannel_26 : decode cX6_getsChannel 26 = .ok (.aload_n 0, 1) := by decide +kernel
theorem dX6_getsChannel_27 : decode cX6_getsChannel 27 = .ok (.getfield 25, 3) := by decide +kernel
theorem dX6_getsChannel_30 : decode cX6_getsChannel 30 = .ok (.iload_n 2, 1) := by decide +kernel
theorem dX6_getsChannel_31 : decode cX6_getsChannel 31 = .ok (.iaload, 1) := by decide +kernel
theorem dX6_getsChannel_32 : decode cX6_getsChannel 32 = .ok (.iconst (-1), 1) := by decide +kernel
theorem dX6_getsChannel_33 : decode cX6_getsChannel 33 = .ok (.if_icmp .ne 7, 3) := by decide +kernel
theorem dX6_getsChannel_36 : decode cX6_getsChannel 36 = .ok (.iconst 1, 1) := by decide +kernel
theorem dX6_getsChannel_37 : decode cX6_getsChannel 37 = .ok (.goto 4, 3) := by decide +kernel
theorem dX6_getsChannel_40 : decode cX6_getsChannel 40 = .ok (.iconst 0, 1) := by decide +kernel
theorem dX6_getsChannel_41 : decode cX6_getsChannel 41 = .ok (.istore 4, 2) := by decide +kernel
theorem dX6_getsChannel_43 : decode cX6_getsChannel 43 = .ok (.iload 4, 2) := by decide +kernel
theorem dX6_getsChannel_45 : decode cX6_getsChannel 45 = .ok (.ifCond .ne 16, 3) := by decide +kernel
theorem dX6_getsChannel_48 : decode cX6_getsChannel 48 = .ok (.aload_n 0, 1) := by decide +kernel
theorem dX6_getsChannel_49 : decode cX6_getsChannel 49 = .ok (.getfield 85, 3) := by decide +kernel
theorem dX6_getsChannel_52 : decode cX6_getsChannel 52 = .ok (.aload_n 0, 1) := by decide +kernel
theorem dX6_getsChannel_53 : decode cX6_getsChannel 53 = .ok (.getfield 25, 3) := by decide +kernel
theorem dX6_getsChannel_56 : decode cX6_getsChannel 56 = .ok (.iload_n 2, 1) := by decide +kernel
theorem dX6_getsChannel_57 : decode cX6_getsChannel 57 = .ok (.iaload, 1) := by decide +kernel
theorem dX6_getsChannel_58 : decode cX6_getsChannel 58 = .ok (.if_icmp .ge 7, 3) := by decide +kernel
theorem dX6_getsChannel_61 : decode cX6_getsChannel 61 = .ok (.iconst 1, 1) := by decide +kernel
theorem dX6_getsChannel_62 : decode cX6_getsChannel 62 = .ok (.goto 4, 3) := by decide +kernel
theorem dX6_getsChannel_65 : decode cX6_getsChannel 65 = .ok (.iconst 0, 1) := by decide +kernel
theorem dX6_getsChannel_66 : decode cX6_getsChannel 66 = .ok (.istore 5, 2) := by decide +kernel
theorem dX6_getsChannel_68 : decode cX6_getsChannel 68 = .ok (.iload 4, 2) := by decide +kernel
theorem dX6_getsChannel_70 : decode cX6_getsChannel 70 = .ok (.ifCond .ne 20, 3) := by decide +kernel
theorem dX6_getsChannel_73 : decode cX6_getsChannel 73 = .ok (.aload_n 0, 1) := by decide +kernel
theorem dX6_getsChannel_74 : decode cX6_getsChannel 74 = .ok (.getfield 85, 3) := by decide +kernel
theorem dX6_getsChannel_77 : decode cX6_getsChannel 77 = .ok (.aload_n 0, 1) := by decide +kernel
theorem dX6_getsChannel_78 : decode cX6_getsChannel 78 = .ok (.getfield 25, 3) := by decide +kernel
theorem dX6_getsChannel_81 : decode cX6_getsChannel 81 = .ok (.iload_n 2, 1) := by decide +kernel
theorem dX6_getsChannel_82 : decode cX6_getsChannel 82 = .ok (.iaload, 1) := by decide +kernel
theorem dX6_getsChannel_83 : decode cX6_getsChannel 83 = .ok (.if_icmp .ne 7, 3) := by decide +kernel
theorem dX6_getsChannel_86 : decode cX6_getsChannel 86 = .ok (.iconst 1, 1) := by decide +kernel
theorem dX6_getsChannel_87 : decode cX6_getsChannel 87 = .ok (.goto 4, 3) := by decide +kernel
theorem dX6_getsChannel_90 : decode cX6_getsChannel 90 = .ok (.iconst 0, 1) := by decide +kernel
theorem dX6_getsChannel_91 : decode cX6_getsChannel 91 = .ok (.istore 6, 2) := by decide +kernel
theorem dX6_getsChannel_93 : decode cX6_getsChannel 93 = .ok (.aload_n 0, 1) := by decide +kernel
theorem dX6_getsChannel_94 : decode cX6_getsChannel 94 = .ok (.getfield 28, 3) := by decide +kernel
theorem dX6_getsChannel_97 : decode cX6_getsChannel 97 = .ok (.iload_n 2, 1) := by decide +kernel
theorem dX6_getsChannel_98 : decode cX6_getsChannel 98 = .ok (.iload 5, 2) := by decide +kernel
theorem dX6_getsChannel_100 : decode cX6_getsChannel 100 = .ok (.ifCond .eq 10, 3) := by decide +kernel
theorem dX6_getsChannel_103 : decode cX6_getsChannel 103 = .ok (.aload_n 0, 1) := by decide +kernel
theorem dX6_getsChannel_104 : decode cX6_getsChannel 104 = .ok (.getfield 88, 3) := by decide +kernel
theorem dX6_getsChannel_107 : decode cX6_getsChannel 107 = .ok (.goto 28, 3) := by decide +kernel
theorem dX6_getsChannel_110 : decode cX6_getsChannel 110 = .ok (.iload 6, 2) := by decide +kernel
theorem dX6_getsChannel_112 : decode cX6_getsChannel 112 = .ok (.ifCond .eq 17, 3) := by decide +kernel
theorem dX6_getsChannel_115 : decode cX6_getsChannel 115 = .ok (.aload_n 0, 1) := by decide +kernel
theorem dX6_getsChannel_116 : decode cX6_getsChannel 116 = .ok (.getfield 28, 3) := by decide +kernel
theorem dX6_getsChannel_119 : decode cX6_getsChannel 119 = .ok (.iload_n 2, 1) := by decide +kernel
theorem dX6_getsChannel_120 : decode cX6_getsChannel 120 = .ok (.iaload, 1) := by decide +kernel
theorem dX6_getsChannel_121 : decode cX6_getsChannel 121 = .ok (.aload_n 0, 1) := by decide +kernel
theorem dX6_getsChannel_122 : decode cX6_getsChannel 122 = .ok (.getfield 88, 3) := by decide +kernel
theorem dX6_getsChannel_125 : decode cX6_getsChannel 125 = .ok (.ior, 1) := by decide +kernel
theorem dX6_getsChannel_126 : decode cX6_getsChannel 126 = .ok (.goto 9, 3) := by decide +kernel
theorem dX6_getsChannel_129 : decode cX6_getsChannel 129 = .ok (.aload_n 0, 1) := by decide +kernel
theorem dX6_getsChannel_130 : decode cX6_getsChannel 130 = .ok (.getfield 28, 3) := by decide +kernel
theorem dX6_getsChannel_133 : decode cX6_getsChannel 133 = .ok (.iload_n 2, 1) := by decide +kernel
theorem dX6_getsChannel_134 : decode cX6_getsChannel 134 = .ok (.iaload, 1) := by decide +kernel
theorem dX6_getsChannel_135 : decode cX6_getsChannel 135 = .ok (.iastore, 1) := by decide +kernel
theorem dX6_getsChannel_136 : decode cX6_getsChannel 136 = .ok (.aload_n 0, 1) := by decide +kernel
theorem dX6_getsChannel_137 : decode cX6_getsChannel 137 = .ok (.getfield 31, 3) := by decide +kernel
theorem dX6_getsChannel_140 : decode cX6_getsChannel 140 = .ok (.iload_n 2, 1) := by decide +kernel
theorem dX6_getsChannel_141 : decode cX6_getsChannel 141 = .ok (.iload 5, 2) := by decide +kernel
theorem dX6_getsChannel_143 : decode cX6_getsChannel 143 = .ok (.ifCond .eq 10, 3) := by decide +kernel
theorem dX6_getsChannel_146 : decode cX6_getsChannel 146 = .ok (.aload_n 0, 1) := by decide +kernel
theorem dX6_getsChannel_147 : decode cX6_getsChannel 147 = .ok (.getfield 91, 3) := by decide +kernel
theorem dX6_getsChannel_150 : decode cX6_getsChannel 150 = .ok (.goto 28, 3) := by decide +kernel
theorem dX6_getsChannel_153 : decode cX6_getsChannel 153 = .ok (.iload 6, 2) := by decide +kernel
theorem dX6_getsChannel_155 : decode cX6_getsChannel 155 = .ok (.ifCond .eq 17, 3) := by decide +kernel
theorem dX6_getsChannel_158 : decode cX6_getsChannel 158 = .ok (.aload_n 0, 1) := by decide +kernel
theorem dX6_getsChannel_159 : decode cX6_getsChannel 159 = .ok (.getfield 31, 3) := by decide +kernel
theorem dX6_getsChannel_162 : decode cX6_getsChannel 162 = .ok (.iload_n 2, 1) := by decide +kernel
theorem dX6_getsChannel_163 : decode cX6_getsChannel 163 = .ok (.iaload, 1) := by decide +kernel
theorem dX6_getsChannel_164 : decode cX6_getsChannel 164 = .ok (.aload_n 0, 1) := by decide +kernel
theorem dX6_getsChannel_165 : decode cX6_getsChannel 165 = .ok (.getfield 91, 3) := by decide +kernel
theorem dX6_getsChannel_168 : decode cX6_getsChannel 168 = .ok (.ior, 1) := by decide +kernel
theorem dX6_getsChannel_169 : decode cX6_getsChannel 169 = .ok (.goto 9, 3) := by decide +kernel
theorem dX6_getsChannel_172 : decode cX6_getsChannel 172 = .ok (.aload_n 0, 1) := by decide +kernel
theorem dX6_getsChannel_173 : decode cX6_getsChannel 173 = .ok (.getfield 31, 3) := by decide +kernel
theorem dX6_getsChannel_176 : decode cX6_getsChannel 176 = .ok (.iload_n 2, 1) := by decide +kernel
theorem dX6_getsChannel_177 : decode cX6_getsChannel 177 = .ok (.iaload, 1) := by decide +kernel
theorem dX6_getsChannel_178 : decode cX6_getsChannel 178 = .ok (.iastore, 1) := by decide +kernel
theorem dX6_getsChannel_179 : decode cX6_getsChannel 179 = .ok (.aload_n 0, 1) := by decide +kernel
theorem dX6_getsChannel_180 : decode cX6_getsChannel 180 = .ok (.getfield 25, 3) := by decide +kernel
theorem dX6_getsChannel_183 : decode cX6_getsChannel 183 = .ok (.iload_n 2, 1) := by decide +kernel
theorem dX6_getsChannel_184 : decode cX6_getsChannel 184 = .ok (.iload 5, 2) := by decide +kernel
theorem dX6_getsChannel_186 : decode cX6_getsChannel 186 = .ok (.ifCond .eq 10, 3) := by decide +kernel
theorem dX6_getsChannel_189 : decode cX6_getsChannel 189 = .ok (.aload_n 0, 1) := by decide +kernel
theorem dX6_getsChannel_190 : decode cX6_getsChannel 190 = .ok (.getfield 85, 3) := by decide +kernel
theorem dX6_getsChannel_193 : decode cX6_getsChannel 193 = .ok (.goto 9, 3) := by decide +kernel
theorem dX6_getsChannel_196 : decode cX6_getsChannel 196 = .ok (.aload_n 0, 1) := by decide +kernel
theorem dX6_getsChannel_197 : decode cX6_getsChannel 197 = .ok (.getfield 25, 3) := by decide +kernel
theorem dX6_getsChannel_200 : decode cX6_getsChannel 200 = .ok (.iload_n 2, 1) := by decide +kernel
theorem dX6_getsChannel_201 : decode cX6_getsChannel 201 = .ok (.iaload, 1) := by decide +kernel
theorem dX6_getsChannel_202 : decode cX6_getsChannel 202 = .ok (.iastore, 1) := by decide +kernel
theorem dX6_getsChannel_203 : decode cX6_getsChannel 203 = .ok (.aload_n 0, 1) := by decide +kernel
theorem dX6_getsChannel_204 : decode cX6_getsChannel 204 = .ok (.getfield 34, 3) := by decide +kernel
theorem dX6_getsChannel_207 : decode cX6_getsChannel 207 = .ok (.iload_n 2, 1) := by decide +kernel
theorem dX6_getsChannel_208 : decode cX6_getsChannel 208 = .ok (.iload 4, 2) := by decide +kernel
theorem dX6_getsChannel_210 : decode cX6_getsChannel 210 = .ok (.ifCond .eq 7, 3) := by decide +kernel
theorem dX6_getsChannel_213 : decode cX6_getsChannel 213 = .ok (.iload_n 3, 1) := by decide +kernel
theorem dX6_getsChannel_214 : decode cX6_getsChannel 214 = .ok (.goto 11, 3) := by decide +kernel
theorem dX6_getsChannel_217 : decode cX6_getsChannel 217 = .ok (.aload_n 0, 1) := by decide +kernel
theorem dX6_getsChannel_218 : decode cX6_getsChannel 218 = .ok (.getfield 34, 3) := by decide +kernel
theorem dX6_getsChannel_221 : decode cX6_getsChannel 221 = .ok (.iload_n 2, 1) := by decide +kernel
theorem dX6_getsChannel_222 : decode cX6_getsChannel 222 = .ok (.iaload, 1) := by decide +kernel
theorem dX6_getsChannel_223 : decode cX6_getsChannel 223 = .ok (.iload_n 3, 1) := by decide +kernel
theorem dX6_getsChannel_224 : decode cX6_getsChannel 224 = .ok (.ior, 1) := by decide +kernel
theorem dX6_getsChannel_225 : decode cX6_getsChannel 225 = .ok (.iastore, 1) := by decide +kernel
theorem dX6_getsChannel_226 : decode cX6_getsChannel 226 = .ok (.return_, 1) := by decide +kernel
theorem dX6_gets_0 : decode cX6_gets 0 = .ok (.aload_n 0, 1) := by decide +kernel
theorem dX6_gets_1 : decode cX6_gets 1 = .ok (.getfield 68, 3) := by decide +kernel
theorem dX6_gets_4 : decode cX6_gets 4 = .ok (.ifCond .ne 12, 3) := by decide +kernel
theorem dX6_gets_7 : decode cX6_gets 7 = .ok (.aload_n 0, 1) := by decide +kernel
theorem dX6_gets_8 : decode cX6_gets 8 = .ok (.iload_n 1, 1) := by decide +kernel
theorem dX6_gets_9 : decode cX6_gets 9 = .ok (.iload_n 2, 1) := by decide +kernel
theorem dX6_gets_10 : decode cX6_gets 10 = .ok (.invokevirtual 128, 3) := by decide +kernel
theorem dX6_gets_13 : decode cX6_gets 13 = .ok (.goto 193, 3) := by decide +kernel
theorem dX6_gets_16 : decode cX6_gets 16 = .ok (.aload_n 0, 1) := by decide +kernel
theorem dX6_gets_17 : decode cX6_gets 17 = .ok (.getfield 68, 3) := by decide +kernel
theorem dX6_gets_20 : decode cX6_gets 20 = .ok (.iconst 1, 1) := by decide +kernel
theorem dX6_gets_21 : decode cX6_gets 21 = .ok (.if_icmp .ne 37, 3) := by decide +kernel
theorem dX6_gets_24 : decode cX6_gets 24 = .ok (.aload_n 0, 1) := by decide +kernel
theorem dX6_gets_25 : decode cX6_gets 25 = .ok (.getfield 22, 3) := by decide +kernel
theorem dX6_gets_28 : decode cX6_gets 28 = .ok (.iload_n 1, 1) := by decide +kernel
theorem dX6_gets_29 : decode cX6_gets 29 = .ok (.iaload, 1) := by decide +kernel
theorem dX6_gets_30 : decode cX6_gets 30 = .ok (.aload_n 0, 1) := by decide +kernel
theorem dX6_gets_31 : decode cX6_gets 31 = .ok (.getfield 71, 3) := by decide +kernel
theorem dX6_gets_34 : decode cX6_gets 34 = .ok (.invokestatic 100, 3) := by decide +kernel
theorem dX6_gets_37 : decode cX6_gets 37 = .ok (.ifCond .eq 169, 3) := by decide +kernel
theorem dX6_gets_40 : decode cX6_gets 40 = .ok (.aload_n 0, 1) := by decide +kernel
theorem dX6_gets_41 : decode cX6_gets 41 = .ok (.iload_n 1, 1) := by decide +kernel
theorem dX6_gets_42 : decode cX6_gets 42 = .ok (.aload_n 0, 1) := by decide +kernel
theorem dX6_gets_43 : decode cX6_gets 43 = .ok (.getfield 71, 3) := by decide +kernel
theorem dX6_gets_46 : decode cX6_gets 46 = .ok (.invokevirtual 122, 3) := by decide +kernel
theorem dX6_gets_49 : decode cX6_gets 49 = .ok (.aload_n 0, 1) := by decide +kernel
theorem dX6_gets_50 : decode cX6_gets 50 = .ok (.iload_n 1, 1) := by decide +kernel
theorem dX6_gets_51 : decode cX6_gets 51 = .ok (.iload_n 2, 1) := by decide +kernel
theorem dX6_gets_52 : decode cX6_gets 52 = .ok (.invokevirtual 125, 3) := by decide +kernel
theorem dX6_gets_55 : decode cX6_gets 55 = .ok (.goto 151, 3) := by decide +kernel
theorem dX6_gets_58 : decode cX6_gets 58 = .ok (.aload_n 0, 1) := by decide +kernel
theorem dX6_gets_59 : decode cX6_gets 59 = .ok (.getfield 68, 3) := by decide +kernel
theorem dX6_gets_62 : decode cX6_gets 62 = .ok (.iconst 2, 1) := by decide +kernel
theorem dX6_gets_63 : decode cX6_gets 63 = .ok (.if_icmp .ne 11, 3) := by decide +kernel
theorem dX6_gets_66 : decode cX6_gets 66 = .ok (.aload_n 0, 1) := by decide +kernel
theorem dX6_gets_67 : decode cX6_gets 67 = .ok (.iload_n 1, 1) := by decide +kernel
theorem dX6_gets_68 : decode cX6_gets 68 = .ok (.invokevirtual 131, 3) := by decide +kernel
theorem dX6_gets_71 : decode cX6_gets 71 = .ok (.goto 129, 3) := by decide +kernel
theorem dX6_gets_74 : decode cX6_gets 74 = .ok (.aload_n 0, 1) := by decide +kernel
theorem dX6_gets_75 : decode cX6_gets 75 = .ok (.getfield 68, 3) := by decide +kernel
theorem dX6_gets_78 : decode cX6_gets 78 = .ok (.iconst 3, 1) := by decide +kernel
theorem dX6_gets_79 : decode cX6_gets 79 = .ok (.if_icmp .ne 59, 3) := by decide +kernel
theorem dX6_gets_82 : decode cX6_gets 82 = .ok (.aload_n 0, 1) := by decide +kernel
theorem dX6_gets_83 : decode cX6_gets 83 = .ok (.getfield 34, 3) := by decide +kernel
theorem dX6_gets_86 : decode cX6_gets 86 = .ok (.iload_n 1, 1) := by decide +kernel
theorem dX6_gets_87 : decode cX6_gets 87 = .ok (.aload_n 0, 1) := by decide +kernel
theorem dX6_gets_88 : decode cX6_gets 88 = .ok (.getfield 71, 3) := by decide +kernel
theorem dX6_gets_91 : decode cX6_gets 91 = .ok (.invokestatic 81, 3) := by decide +kernel
theorem dX6_gets_94 : decode cX6_gets 94 = .ok (.iaload, 1) := by decide +kernel
theorem dX6_gets_95 : decode cX6_gets 95 = .ok (.aload_n 0, 1) := by decide +kernel
theorem dX6_gets_96 : decode cX6_gets 96 = .ok (.getfield 74, 3) := by decide +kernel
theorem dX6_gets_99 : decode cX6_gets 99 = .ok (.invokestatic 100, 3) := by decide +kernel
theorem dX6_gets_102 : decode cX6_gets 102 = .ok (.ifCond .eq 36, 3) := by decide +kernel
theorem dX6_gets_105 : decode cX6_gets 105 = .ok (.aload_n 0, 1) := by decide +kernel
theorem dX6_gets_106 : decode cX6_gets 106 = .ok (.getfield 25, 3) := by decide +kernel
theorem dX6_gets_109 : decode cX6_gets 109 = .ok (.iload_n 1, 1) := by decide +kernel
theorem dX6_gets_110 : decode cX6_gets 110 = .ok (.aload_n 0, 1) := by decide +kernel
theorem dX6_gets_111 : decode cX6_gets 111 = .ok (.getfield 71, 3) := by decide +kernel
theorem dX6_gets_114 : decode cX6_gets 114 = .ok (.invokestatic 81, 3) := by decide +kernel
theorem dX6_gets_117 : decode cX6_gets 117 = .ok (.iaload, 1) := by decide +kernel
theorem dX6_gets_118 : decode cX6_gets 118 = .ok (.iconst (-1), 1) := by decide +kernel
theorem dX6_gets_119 : decode cX6_gets 119 = .ok (.if_icmp .eq 19, 3) := by decide +kernel
theorem dX6_gets_122 : decode cX6_gets 122 = .ok (.aload_n 0, 1) := by decide +kernel
theorem dX6_gets_123 : decode cX6_gets 123 = .ok (.iload_n 1, 1) := by decide +kernel
theorem dX6_gets_124 : decode cX6_gets 124 = .ok (.aload_n 0, 1) := by decide +kernel
theorem dX6_gets_125 : decode cX6_gets 125 = .ok (.getfield 71, 3) := by decide +kernel
theorem dX6_gets_128 : decode cX6_gets 128 = .ok (.aload_n 0, 1) := by decide +kernel
theorem dX6_gets_129 : decode cX6_gets 129 = .ok (.getfield 74, 3) := by decide +kernel
theorem dX6_gets_132 : decode cX6_gets 132 = .ok (.invokevirtual 108, 3) := by decide +kernel
theorem dX6_gets_135 : decode cX6_gets 135 = .ok (.goto 65, 3) := by decide +kernel
theorem dX6_gets_138 : decode cX6_gets 138 = .ok (.aload_n 0, 1) := by decide +kernel
theorem dX6_gets_139 : decode cX6_gets 139 = .ok (.getfield 68, 3) := by decide +kernel
theorem dX6_gets_142 : decode cX6_gets 142 = .ok (.iconst 4, 1) := by decide +kernel
theorem dX6_gets_143 : decode cX6_gets 143 = .ok (.if_icmp .ne 57, 3) := by decide +kernel
theorem dX6_gets_146 : decode cX6_gets 146 = .ok (.aload_n 0, 1) := by decide +kernel
theorem dX6_gets_147 : decode cX6_gets 147 = .ok (.getfield 25, 3) := by decide +kernel
theorem dX6_gets_150 : decode cX6_gets 150 = .ok (.iload_n 1, 1) := by decide +kernel
theorem dX6_gets_151 : decode cX6_gets 151 = .ok (.aload_n 0, 1) := by decide +kernel
theorem dX6_gets_152 : decode cX6_gets 152 = .ok (.getfield 71, 3) := by decide +kernel
theorem dX6_gets_155 : decode cX6_gets 155 = .ok (.invokestatic 81, 3) := by decide +kernel
theorem dX6_gets_158 : decode cX6_gets 158 = .ok (.iaload, 1) := by decide +kernel
theorem dX6_gets_159 : decode cX6_gets 159 = .ok (.aload_n 0, 1) := by decide +kernel
theorem dX6_gets_160 : decode cX6_gets 160 = .ok (.getfield 85, 3) := by decide +kernel
theorem dX6_gets_163 : decode cX6_gets 163 = .ok (.if_icmp .ne 37, 3) := by decide +kernel
theorem dX6_gets_166 : decode cX6_gets 166 = .ok (.aload_n 0, 1) := by decide +kernel
theorem dX6_gets_167 : decode cX6_gets 167 = .ok (.getfield 28, 3) := by decide +kernel
theorem dX6_gets_170 : decode cX6_gets 170 = .ok (.iload_n 1, 1) := by decide +kernel
theorem dX6_gets_171 : decode cX6_gets 171 = .ok (.aload_n 0, 1) := by decide +kernel
theorem dX6_gets_172 : decode cX6_gets 172 = .ok (.getfield 71, 3) := by decide +kernel
theorem dX6_gets_175 : decode cX6_gets 175 = .ok (.invokestatic 81, 3) := by decide +kernel
theorem dX6_gets_178 : decode cX6_gets 178 = .ok (.aload_n 0, 1) := by decide +kernel
theorem dX6_gets_179 : decode cX6_gets 179 = .ok (.getfield 88, 3) := by decide +kernel
theorem dX6_gets_182 : decode cX6_gets 182 = .ok (.iastore, 1) := by decide +kernel
theorem dX6_gets_183 : decode cX6_gets 183 = .ok (.aload_n 0, 1) := by decide +kernel
theorem dX6_gets_184 : decode cX6_gets 184 = .ok (.getfield 31, 3) := by decide +kernel
theorem dX6_gets_187 : decode cX6_gets 187 = .ok (.iload_n 1, 1) := by decide +kernel
theorem dX6_gets_188 : decode cX6_gets 188 = .ok (.aload_n 0, 1) := by decide +kernel
theorem dX6_gets_189 : decode cX6_gets 189 = .ok (.getfield 71, 3) := by decide +kernel
theorem dX6_gets_192 : decode cX6_gets 192 = .ok (.invokestatic 81, 3) := by decide +kernel
theorem dX6_gets_195 : decode cX6_gets 195 = .ok (.aload_n 0, 1) := by decide +kernel
theorem dX6_gets_196 : decode cX6_gets 196 = .ok (.getfield 91, 3) := by decide +kernel
theorem dX6_gets_199 : decode cX6_gets 199 = .ok (.iastore, 1) := by decide +kernel
theorem dX6_gets_200 : decode cX6_gets 200 = .ok (.aload_n 0, 1) := by decide +kernel
theorem dX6_gets_201 : decode cX6_gets 201 = .ok (.iload_n 1, 1) := by decide +kernel
theorem dX6_gets_202 : decode cX6_gets 202 = .ok (.iload_n 2, 1) := by decide +kernel
theorem dX6_gets_203 : decode cX6_gets 203 = .ok (.invokevirtual 125, 3) := by decide +kernel
theorem dX6_gets_206 : decode cX6_gets 206 = .ok (.return_, 1) := by decide +kernel
theorem dX6_bursts_0 : decode cX6_bursts 0 = .ok (.iconst 0, 1) := by decide +kernel
theorem dX6_bursts_1 : decode cX6_bursts 1 = .ok (.istore_n 3, 1) := by decide +kernel
theorem dX6_bursts_2 : decode cX6_bursts 2 = .ok (.iload_n 3, 1) := by decide +kernel
theorem dX6_bursts_3 : decode cX6_bursts 3 = .ok (.aload_n 0, 1) := by decide +kernel
theorem dX6_bursts_4 : decode cX6_bursts 4 = .ok (.getfield 111, 3) := by decide +kernel
theorem dX6_bursts_7 : decode cX6_bursts 7 = .ok (.if_icmp .ge 35, 3) := by decide +kernel
theorem dX6_bursts_10 : decode cX6_bursts 10 = .ok (.aload_n 0, 1) := by decide +kernel
theorem dX6_bursts_11 : decode cX6_bursts 11 = .ok (.getfield 22, 3) := by decide +kernel
theorem dX6_bursts_14 : decode cX6_bursts 14 = .ok (.iload_n 1, 1) := by decide +kernel
theorem dX6_bursts_15 : decode cX6_bursts 15 = .ok (.iaload, 1) := by decide +kernel
theorem dX6_bursts_16 : decode cX6_bursts 16 = .ok (.iload_n 3, 1) := by decide +kernel
theorem dX6_bursts_17 : decode cX6_bursts 17 = .ok (.invokestatic 100, 3) := by decide +kernel
theorem dX6_bursts_20 : decode cX6_bursts 20 = .ok (.ifCond .eq 16, 3) := by decide +kernel
theorem dX6_bursts_23 : decode cX6_bursts 23 = .ok (.aload_n 0, 1) := by decide +kernel
theorem dX6_bursts_24 : decode cX6_bursts 24 = .ok (.iconst 0, 1) := by decide +kernel
theorem dX6_bursts_25 : decode cX6_bursts 25 = .ok (.iload_n 3, 1) := by decide +kernel
theorem dX6_bursts_26 : decode cX6_bursts 26 = .ok (.iconst 0, 1) := by decide +kernel
theorem dX6_bursts_27 : decode cX6_bursts 27 = .ok (.invokevirtual 77, 3) := by decide +kernel
theorem dX6_bursts_30 : decode cX6_bursts 30 = .ok (.aload_n 0, 1) := by decide +kernel
theorem dX6_bursts_31 : decode cX6_bursts 31 = .ok (.iload_n 1, 1) := by decide +kernel
theorem dX6_bursts_32 : decode cX6_bursts 32 = .ok (.iload_n 2, 1) := by decide +kernel
theorem dX6_bursts_33 : decode cX6_bursts 33 = .ok (.invokevirtual 104, 3) := by decide +kernel
theorem dX6_bursts_36 : decode cX6_bursts 36 = .ok (.iinc 3 1, 3) := by decide +kernel
theorem dX6_bursts_39 : decode cX6_bursts 39 = .ok (.goto (-37), 3) := by decide +kernel
theorem dX6_bursts_42 : decode cX6_bursts 42 = .ok (.iconst 0, 1) := by decide +kernel
theorem dX6_bursts_43 : decode cX6_bursts 43 = .ok (.istore_n 3, 1) := by decide +kernel
theorem dX6_bursts_44 : decode cX6_bursts 44 = .ok (.iload_n 3, 1) := by decide +kernel
theorem dX6_bursts_45 : decode cX6_bursts 45 = .ok (.iconst 4, 1) := by decide +kernel
theorem dX6_bursts_46 : decode cX6_bursts 46 = .ok (.if_icmp .ge 46, 3) := by decide +kernel
theorem dX6_bursts_49 : decode cX6_bursts 49 = .ok (.aload_n 0, 1) := by decide +kernel
theorem dX6_bursts_50 : decode cX6_bursts 50 = .ok (.getfield 25, 3) := by decide +kernel
theorem dX6_bursts_53 : decode cX6_bursts 53 = .ok (.iload_n 1, 1) := by decide +kernel
theorem dX6_bursts_54 : decode cX6_bursts 54 = .ok (.iload_n 3, 1) := by decide +kernel
theorem dX6_bursts_55 : decode cX6_bursts 55 = .ok (.invokestatic 81, 3) := by decide +kernel
theorem dX6_bursts_58 : decode cX6_bursts 58 = .ok (.iaload, 1) := by decide +kernel
theorem dX6_bursts_59 : decode cX6_bursts 59 = .ok (.iconst (-1), 1) := by decide +kernel
theorem dX6_bursts_60 : decode cX6_bursts 60 = .ok (.if_icmp .eq 26, 3) := by decide +kernel
theorem dX6_bursts_63 : decode cX6_bursts 63 = .ok (.aload_n 0, 1) := by decide +kernel
theorem dX6_bursts_64 : decode cX6_bursts 64 = .ok (.iconst 2, 1) := by decide +kernel
theorem dX6_bursts_65 : decode cX6_bursts 65 = .ok (.iload_n 1, 1) := by decide +kernel
theorem dX6_bursts_66 : decode cX6_bursts 66 = .ok (.iload_n 3, 1) := by decide +kernel
theorem dX6_bursts_67 : decode cX6_bursts 67 = .ok (.aload_n 0, 1) := by decide +kernel
theorem dX6_bursts_68 : decode cX6_bursts 68 = .ok (.getfield 34, 3) := by decide +kernel
theorem dX6_bursts_71 : decode cX6_bursts 71 = .ok (.iload_n 1, 1) := by decide +kernel
theorem dX6_bursts_72 : decode cX6_bursts 72 = .ok (.iload_n 3, 1) := by decide +kernel
theorem dX6_bursts_73 : decode cX6_bursts 73 = .ok (.invokestatic 81, 3) := by decide +kernel
theorem dX6_bursts_76 : decode cX6_bursts 76 = .ok (.iaload, 1) := by decide +kernel
theorem dX6_bursts_77 : decode cX6_bursts 77 = .ok (.invokevirtual 135, 3) := by decide +kernel
theorem dX6_bursts_80 : decode cX6_bursts 80 = .ok (.aload_n 0, 1) := by decide +kernel
theorem dX6_bursts_81 : decode cX6_bursts 81 = .ok (.iload_n 1, 1) := by decide +kernel
theorem dX6_bursts_82 : decode cX6_bursts 82 = .ok (.iload_n 2, 1) := by decide +kernel
theorem dX6_bursts_83 : decode cX6_bursts 83 = .ok (.invokevirtual 104, 3) := by decide +kernel
theorem dX6_bursts_86 : decode cX6_bursts 86 = .ok (.iinc 3 1, 3) := by decide +kernel
theorem dX6_bursts_89 : decode cX6_bursts 89 = .ok (.goto (-45), 3) := by decide +kernel
theorem dX6_bursts_92 : decode cX6_bursts 92 = .ok (.return_, 1) := by decide +kernel
theorem dX6_link_0 : decode cX6_link 0 = .ok (.iload_n 1, 1) := by decide +kernel
theorem dX6_link_1 : decode cX6_link 1 = .ok (.invokestatic 139, 3) := by decide +kernel
theorem dX6_link_4 : decode cX6_link 4 = .ok (.ifCond .eq 14, 3) := by decide +kernel
theorem dX6_link_7 : decode cX6_link 7 = .ok (.iload_n 2, 1) := by decide +kernel
theorem dX6_link_8 : decode cX6_link 8 = .ok (.invokestatic 139, 3) := by decide +kernel
theorem dX6_link_11 : decode cX6_link 11 = .ok (.ifCond .eq 7, 3) := by decide +kernel
theorem dX6_link_14 : decode cX6_link 14 = .ok (.iconst 1, 1) := by decide +kernel
theorem dX6_link_15 : decode cX6_link 15 = .ok (.goto 4, 3) := by decide +kernel
theorem dX6_link_18 : decode cX6_link 18 = .ok (.iconst 0, 1) := by decide +kernel
theorem dX6_link_19 : decode cX6_link 19 = .ok (.istore_n 3, 1) := by decide +kernel
theorem dX6_link_20 : decode cX6_link 20 = .ok (.aload_n 0, 1) := by decide +kernel
theorem dX6_link_21 : decode cX6_link 21 = .ok (.iload_n 3, 1) := by decide +kernel
theorem dX6_link_22 : decode cX6_link 22 = .ok (.ifCond .ne 7, 3) := by decide +kernel
theorem dX6_link_25 : decode cX6_link 25 = .ok (.iconst 1, 1) := by decide +kernel
theorem dX6_link_26 : decode cX6_link 26 = .ok (.goto 20, 3) := by decide +kernel
theorem dX6_link_29 : decode cX6_link 29 = .ok (.aload_n 0, 1) := by decide +kernel
theorem dX6_link_30 : decode cX6_link 30 = .ok (.iload_n 1, 1) := by decide +kernel
theorem dX6_link_31 : decode cX6_link 31 = .ok (.invokevirtual 114, 3) := by decide +kernel
theorem dX6_link_34 : decode cX6_link 34 = .ok (.iload_n 2, 1) := by decide +kernel
theorem dX6_link_35 : decode cX6_link 35 = .ok (.invokestatic 100, 3) := by decide +kernel
theorem dX6_link_38 : decode cX6_link 38 = .ok (.ifCond .eq 7, 3) := by decide +kernel
theorem dX6_link_41 : decode cX6_link 41 = .ok (.iconst 2, 1) := by decide +kernel
theorem dX6_link_42 : decode cX6_link 42 = .ok (.goto 4, 3) := by decide +kernel
theorem dX6_link_45 : decode cX6_link 45 = .ok (.iconst 0, 1) := by decide +kernel
theorem dX6_link_46 : decode cX6_link 46 = .ok (.invokevirtual 143, 3) := by decide +kernel
theorem dX6_link_49 : decode cX6_link 49 = .ok (.ifCond .ne 5, 3) := by decide +kernel
theorem dX6_link_52 : decode cX6_link 52 = .ok (.iconst 0, 1) := by decide +kernel
theorem dX6_link_53 : decode cX6_link 53 = .ok (.ireturn, 1) := by decide +kernel
theorem dX6_link_54 : decode cX6_link 54 = .ok (.aload_n 0, 1) := by decide +kernel
theorem dX6_link_55 : decode cX6_link 55 = .ok (.getfield 97, 3) := by decide +kernel
theorem dX6_link_58 : decode cX6_link 58 = .ok (.istore 4, 2) := by decide +kernel
theorem dX6_link_60 : decode cX6_link 60 = .ok (.aload_n 0, 1) := by decide +kernel
theorem dX6_link_61 : decode cX6_link 61 = .ok (.getfield 19, 3) := by decide +kernel
theorem dX6_link_64 : decode cX6_link 64 = .ok (.iload_n 1, 1) := by decide +kernel
theorem dX6_link_65 : decode cX6_link 65 = .ok (.dup2, 1) := by decide +kernel
theorem dX6_link_66 : decode cX6_link 66 = .ok (.iaload, 1) := by decide +kernel
theorem dX6_link_67 : decode cX6_link 67 = .ok (.iconst 1, 1) := by decide +kernel
theorem dX6_link_68 : decode cX6_link 68 = .ok (.iload_n 2, 1) := by decide +kernel
theorem dX6_link_69 : decode cX6_link 69 = .ok (.ishl, 1) := by decide +kernel
theorem dX6_link_70 : decode cX6_link 70 = .ok (.ior, 1) := by decide +kernel
theorem dX6_link_71 : decode cX6_link 71 = .ok (.iastore, 1) := by decide +kernel
theorem dX6_link_72 : decode cX6_link 72 = .ok (.aload_n 0, 1) := by decide +kernel
theorem dX6_link_73 : decode cX6_link 73 = .ok (.getfield 19, 3) := by decide +kernel
theorem dX6_link_76 : decode cX6_link 76 = .ok (.iload_n 2, 1) := by decide +kernel
theorem dX6_link_77 : decode cX6_link 77 = .ok (.dup2, 1) := by decide +kernel
theorem dX6_link_78 : decode cX6_link 78 = .ok (.iaload, 1) := by decide +kernel
theorem dX6_link_79 : decode cX6_link 79 = .ok (.iconst 1, 1) := by decide +kernel
theorem dX6_link_80 : decode cX6_link 80 = .ok (.iload_n 1, 1) := by decide +kernel
theorem dX6_link_81 : decode cX6_link 81 = .ok (.ishl, 1) := by decide +kernel
theorem dX6_link_82 : decode cX6_link 82 = .ok (.ior, 1) := by decide +kernel
theorem dX6_link_83 : decode cX6_link 83 = .ok (.iastore, 1) := by decide +kernel
theorem dX6_link_84 : decode cX6_link 84 = .ok (.aload_n 0, 1) := by decide +kernel
theorem dX6_link_85 : decode cX6_link 85 = .ok (.iload_n 1, 1) := by decide +kernel
theorem dX6_link_86 : decode cX6_link 86 = .ok (.iload_n 2, 1) := by decide +kernel
theorem dX6_link_87 : decode cX6_link 87 = .ok (.invokevirtual 146, 3) := by decide +kernel
theorem dX6_link_90 : decode cX6_link 90 = .ok (.aload_n 0, 1) := by decide +kernel
theorem dX6_link_91 : decode cX6_link 91 = .ok (.iload_n 2, 1) := by decide +kernel
theorem dX6_link_92 : decode cX6_link 92 = .ok (.iload_n 1, 1) := by decide +kernel
theorem dX6_link_93 : decode cX6_link 93 = .ok (.invokevirtual 146, 3) := by decide +kernel
theorem dX6_link_96 : decode cX6_link 96 = .ok (.aload_n 0, 1) := by decide +kernel
theorem dX6_link_97 : decode cX6_link 97 = .ok (.dup, 1) := by decide +kernel
theorem dX6_link_98 : decode cX6_link 98 = .ok (.getfield 149, 3) := by decide +kernel
theorem dX6_link_101 : decode cX6_link 101 = .ok (.iconst 1, 1) := by decide +kernel
theorem dX6_link_102 : decode cX6_link 102 = .ok (.iadd, 1) := by decide +kernel
theorem dX6_link_103 : decode cX6_link 103 = .ok (.putfield 149, 3) := by decide +kernel
theorem dX6_link_106 : decode cX6_link 106 = .ok (.aload_n 0, 1) := by decide +kernel
theorem dX6_link_107 : decode cX6_link 107 = .ok (.getfield 97, 3) := by decide +kernel
theorem dX6_link_110 : decode cX6_link 110 = .ok (.iload 4, 2) := by decide +kernel
theorem dX6_link_112 : decode cX6_link 112 = .ok (.isub, 1) := by decide +kernel
theorem dX6_link_113 : decode cX6_link 113 = .ok (.ireturn, 1) := by decide +kernel
theorem dX6_forgets_0 : decode cX6_forgets 0 = .ok (.iconst 0, 1) := by decide +kernel
theorem dX6_forgets_1 : decode cX6_forgets 1 = .ok (.istore_n 1, 1) := by decide +kernel
theorem dX6_forgets_2 : decode cX6_forgets 2 = .ok (.iload_n 1, 1) := by decide +kernel
theorem dX6_forgets_3 : decode cX6_forgets 3 = .ok (.bipush 6, 2) := by decide +kernel
theorem dX6_forgets_5 : decode cX6_forgets 5 = .ok (.if_icmp .ge 63, 3) := by decide +kernel
theorem dX6_forgets_8 : decode cX6_forgets 8 = .ok (.aload_n 0, 1) := by decide +kernel
theorem dX6_forgets_9 : decode cX6_forgets 9 = .ok (.iload_n 1, 1) := by decide +kernel
theorem dX6_forgets_10 : decode cX6_forgets 10 = .ok (.invokevirtual 114, 3) := by decide +kernel
theorem dX6_forgets_13 : decode cX6_forgets 13 = .ok (.istore_n 2, 1) := by decide +kernel
theorem dX6_forgets_14 : decode cX6_forgets 14 = .ok (.iconst 0, 1) := by decide +kernel
theorem dX6_forgets_15 : decode cX6_forgets 15 = .ok (.istore_n 3, 1) := by decide +kernel
theorem dX6_forgets_16 : decode cX6_forgets 16 = .ok (.iload_n 3, 1) := by decide +kernel
theorem dX6_forgets_17 : decode cX6_forgets 17 = .ok (.aload_n 0, 1) := by decide +kernel
theorem dX6_forgets_18 : decode cX6_forgets 18 = .ok (.getfield 111, 3) := by decide +kernel
theorem dX6_forgets_21 : decode cX6_forgets 21 = .ok (.if_icmp .ge 41, 3) := by decide +kernel
theorem dX6_forgets_24 : decode cX6_forgets 24 = .ok (.aload_n 0, 1) := by decide +kernel
theorem dX6_forgets_25 : decode cX6_forgets 25 = .ok (.getfield 22, 3) := by decide +kernel
theorem dX6_forgets_28 : decode cX6_forgets 28 = .ok (.iload_n 1, 1) := by decide +kernel
theorem dX6_forgets_29 : decode cX6_forgets 29 = .ok (.iaload, 1) := by decide +kernel
theorem dX6_forgets_30 : decode cX6_forgets 30 = .ok (.iload_n 3, 1) := by decide +kernel
theorem dX6_forgets_31 : decode cX6_forgets 31 = .ok (.invokestatic 100, 3) := by decide +kernel
theorem dX6_forgets_34 : decode cX6_forgets 34 = .ok (.ifCond .eq 22, 3) := by decide +kernel
theorem dX6_forgets_37 : decode cX6_forgets 37 = .ok (.iload_n 2, 1) := by decide +kernel
theorem dX6_forgets_38 : decode cX6_forgets 38 = .ok (.aload_n 0, 1) := by decide +kernel
theorem dX6_forgets_39 : decode cX6_forgets 39 = .ok (.getfield 13, 3) := by decide +kernel
theorem dX6_forgets_42 : decode cX6_forgets 42 = .ok (.iload_n 3, 1) := by decide +kernel
theorem dX6_forgets_43 : decode cX6_forgets 43 = .ok (.iaload, 1) := by decide +kernel
theorem dX6_forgets_44 : decode cX6_forgets 44 = .ok (.invokestatic 100, 3) := by decide +kernel
theorem dX6_forgets_47 : decode cX6_forgets 47 = .ok (.ifCond .ne 9, 3) := by decide +kernel
theorem dX6_forgets_50 : decode cX6_forgets 50 = .ok (.aload_n 0, 1) := by decide +kernel
theorem dX6_forgets_51 : decode cX6_forgets 51 = .ok (.iload_n 1, 1) := by decide +kernel
theorem dX6_forgets_52 : decode cX6_forgets 52 = .ok (.iload_n 3, 1) := by decide +kernel
theorem dX6_forgets_53 : decode cX6_forgets 53 = .ok (.invokevirtual 122, 3) := by decide +kernel
theorem dX6_forgets_56 : decode cX6_forgets 56 = .ok (.iinc 3 1, 3) := by decide +kernel
theorem dX6_forgets_59 : decode cX6_forgets 59 = .ok (.goto (-43), 3) := by decide +kernel
theorem dX6_forgets_62 : decode cX6_forgets 62 = .ok (.iinc 1 1, 3) := by decide +kernel
theorem dX6_forgets_65 : decode cX6_forgets 65 = .ok (.goto (-63), 3) := by decide +kernel
theorem dX6_forgets_68 : decode cX6_forgets 68 = .ok (.return_, 1) := by decide +kernel
theorem dX6_split_0 : decode cX6_split 0 = .ok (.iload_n 1, 1) := by decide +kernel
theorem dX6_split_1 : decode cX6_split 1 = .ok (.invokestatic 139, 3) := by decide +kernel
theorem dX6_split_4 : decode cX6_split 4 = .ok (.ifCond .eq 14, 3) := by decide +kernel
theorem dX6_split_7 : decode cX6_split 7 = .ok (.iload_n 2, 1) := by decide +kernel
theorem dX6_split_8 : decode cX6_split 8 = .ok (.invokestatic 139, 3) := by decide +kernel
theorem dX6_split_11 : decode cX6_split 11 = .ok (.ifCond .eq 7, 3) := by decide +kernel
theorem dX6_split_14 : decode cX6_split 14 = .ok (.iconst 1, 1) := by decide +kernel
theorem dX6_split_15 : decode cX6_split 15 = .ok (.goto 4, 3) := by decide +kernel
theorem dX6_split_18 : decode cX6_split 18 = .ok (.iconst 0, 1) := by decide +kernel
theorem dX6_split_19 : decode cX6_split 19 = .ok (.istore_n 3, 1) := by decide +kernel
theorem dX6_split_20 : decode cX6_split 20 = .ok (.aload_n 0, 1) := by decide +kernel
theorem dX6_split_21 : decode cX6_split 21 = .ok (.iload_n 3, 1) := by decide +kernel
theorem dX6_split_22 : decode cX6_split 22 = .ok (.ifCond .ne 7, 3) := by decide +kernel
theorem dX6_split_25 : decode cX6_split 25 = .ok (.iconst 1, 1) := by decide +kernel
theorem dX6_split_26 : decode cX6_split 26 = .ok (.goto 21, 3) := by decide +kernel
theorem dX6_split_29 : decode cX6_split 29 = .ok (.aload_n 0, 1) := by decide +kernel
theorem dX6_split_30 : decode cX6_split 30 = .ok (.getfield 19, 3) := by decide +kernel
theorem dX6_split_33 : decode cX6_split 33 = .ok (.iload_n 1, 1) := by decide +kernel
theorem dX6_split_34 : decode cX6_split 34 = .ok (.iaload, 1) := by decide +kernel
theorem dX6_split_35 : decode cX6_split 35 = .ok (.iload_n 2, 1) := by decide +kernel
theorem dX6_split_36 : decode cX6_split 36 = .ok (.invokestatic 100, 3) := by decide +kernel
theorem dX6_split_39 : decode cX6_split 39 = .ok (.ifCond .eq 7, 3) := by decide +kernel
theorem dX6_split_42 : decode cX6_split 42 = .ok (.iconst 0, 1) := by decide +kernel
theorem dX6_split_43 : decode cX6_split 43 = .ok (.goto 4, 3) := by decide +kernel
theorem dX6_split_46 : decode cX6_split 46 = .ok (.iconst 2, 1) := by decide +kernel
theorem dX6_split_47 : decode cX6_split 47 = .ok (.invokevirtual 143, 3) := by decide +kernel
theorem dX6_split_50 : decode cX6_split 50 = .ok (.ifCond .ne 5, 3) := by decide +kernel
theorem dX6_split_53 : decode cX6_split 53 = .ok (.iconst 0, 1) := by decide +kernel
theorem dX6_split_54 : decode cX6_split 54 = .ok (.ireturn, 1) := by decide +kernel
theorem dX6_split_55 : decode cX6_split 55 = .ok (.aload_n 0, 1) := by decide +kernel
theorem dX6_split_56 : decode cX6_split 56 = .ok (.getfield 97, 3) := by decide +kernel
theorem dX6_split_59 : decode cX6_split 59 = .ok (.istore 4, 2) := by decide +kernel
theorem dX6_split_61 : decode cX6_split 61 = .ok (.aload_n 0, 1) := by decide +kernel
theorem dX6_split_62 : decode cX6_split 62 = .ok (.getfield 37, 3) := by decide +kernel
theorem dX6_split_65 : decode cX6_split 65 = .ok (.bipush 6, 2) := by decide +kernel
theorem dX6_split_67 : decode cX6_split 67 = .ok (.iload_n 1, 1) := by decide +kernel
theorem dX6_split_68 : decode cX6_split 68 = .ok (.imul, 1) := by decide +kernel
theorem dX6_split_69 : decode cX6_split 69 = .ok (.iload_n 2, 1) := by decide +kernel
theorem dX6_split_70 : decode cX6_split 70 = .ok (.iadd, 1) := by decide +kernel
theorem dX6_split_71 : decode cX6_split 71 = .ok (.iaload, 1) := by decide +kernel
theorem dX6_split_72 : decode cX6_split 72 = .ok (.iconst (-1), 1) := by decide +kernel
theorem dX6_split_73 : decode cX6_split 73 = .ok (.if_icmp .eq 16, 3) := by decide +kernel
theorem dX6_split_76 : decode cX6_split 76 = .ok (.aload_n 0, 1) := by decide +kernel
theorem dX6_split_77 : decode cX6_split 77 = .ok (.bipush 6, 2) := by decide +kernel
theorem dX6_split_79 : decode cX6_split 79 = .ok (.iload_n 1, 1) := by decide +kernel
theorem dX6_split_80 : decode cX6_split 80 = .ok (.imul, 1) := by decide +kernel
theorem dX6_split_81 : decode cX6_split 81 = .ok (.iload_n 2, 1) := by decide +kernel
theorem dX6_split_82 : decode cX6_split 82 = .ok (.iadd, 1) := by decide +kernel
theorem dX6_split_83 : decode cX6_split 83 = .ok (.invokevirtual 152, 3) := by decide +kernel
theorem dX6_split_86 : decode cX6_split 86 = .ok (.goto (-25), 3) := by decide +kernel
theorem dX6_split_89 : decode cX6_split 89 = .ok (.aload_n 0, 1) := by decide +kernel
theorem dX6_split_90 : decode cX6_split 90 = .ok (.getfield 37, 3) := by decide +kernel
theorem dX6_split_93 : decode cX6_split 93 = .ok (.bipush 6, 2) := by decide +kernel
theorem dX6_split_95 : decode cX6_split 95 = .ok (.iload_n 2, 1) := by decide +kernel
theorem dX6_split_96 : decode cX6_split 96 = .ok (.imul, 1) := by decide +kernel
theorem dX6_split_97 : decode cX6_split 97 = .ok (.iload_n 1, 1) := by decide +kernel
theorem dX6_split_98 : decode cX6_split 98 = .ok (.iadd, 1) := by decide +kernel
theorem dX6_split_99 : decode cX6_split 99 = .ok (.iaload, 1) := by decide +kernel
theorem dX6_split_100 : decode cX6_split 100 = .ok (.iconst (-1), 1) := by decide +kernel
theorem dX6_split_101 : decode cX6_split 101 = .ok (.if_icmp .eq 16, 3) := by decide +kernel
theorem dX6_split_104 : decode cX6_split 104 = .ok (.aload_n 0, 1) := by decide +kernel
theorem dX6_split_105 : decode cX6_split 105 = .ok (.bipush 6, 2) := by decide +kernel
theorem dX6_split_107 : decode cX6_split 107 = .ok (.iload_n 2, 1) := by decide +kernel
theorem dX6_split_108 : decode cX6_split 108 = .ok (.imul, 1) := by decide +kernel
theorem dX6_split_109 : decode cX6_split 109 = .ok (.iload_n 1, 1) := by decide +kernel
theorem dX6_split_110 : decode cX6_split 110 = .ok (.iadd, 1) := by decide +kernel
theorem dX6_split_111 : decode cX6_split 111 = .ok (.invokevirtual 152, 3) := by decide +kernel
theorem dX6_split_114 : decode cX6_split 114 = .ok (.goto (-25), 3) := by decide +kernel
theorem dX6_split_117 : decode cX6_split 117 = .ok (.aload_n 0, 1) := by decide +kernel
theorem dX6_split_118 : decode cX6_split 118 = .ok (.getfield 19, 3) := by decide +kernel
theorem dX6_split_121 : decode cX6_split 121 = .ok (.iload_n 1, 1) := by decide +kernel
theorem dX6_split_122 : decode cX6_split 122 = .ok (.dup2, 1) := by decide +kernel
theorem dX6_split_123 : decode cX6_split 123 = .ok (.iaload, 1) := by decide +kernel
theorem dX6_split_124 : decode cX6_split 124 = .ok (.iconst 1, 1) := by decide +kernel
theorem dX6_split_125 : decode cX6_split 125 = .ok (.iload_n 2, 1) := by decide +kernel
theorem dX6_split_126 : decode cX6_split 126 = .ok (.ishl, 1) := by decide +kernel
theorem dX6_split_127 : decode cX6_split 127 = .ok (.iconst (-1), 1) := by decide +kernel
theorem dX6_split_128 : decode cX6_split 128 = .ok (.ixor, 1) := by decide +kernel
theorem dX6_split_129 : decode cX6_split 129 = .ok (.iand, 1) := by decide +kernel
theorem dX6_split_130 : decode cX6_split 130 = .ok (.iastore, 1) := by decide +kernel
theorem dX6_split_131 : decode cX6_split 131 = .ok (.aload_n 0, 1) := by decide +kernel
theorem dX6_split_132 : decode cX6_split 132 = .ok (.getfield 19, 3) := by decide +kernel
theorem dX6_split_135 : decode cX6_split 135 = .ok (.iload_n 2, 1) := by decide +kernel
theorem dX6_split_136 : decode cX6_split 136 = .ok (.dup2, 1) := by decide +kernel
theorem dX6_split_137 : decode cX6_split 137 = .ok (.iaload, 1) := by decide +kernel
theorem dX6_split_138 : decode cX6_split 138 = .ok (.iconst 1, 1) := by decide +kernel
theorem dX6_split_139 : decode cX6_split 139 = .ok (.iload_n 1, 1) := by decide +kernel
theorem dX6_split_140 : decode cX6_split 140 = .ok (.ishl, 1) := by decide +kernel
theorem dX6_split_141 : decode cX6_split 141 = .ok (.iconst (-1), 1) := by decide +kernel
theorem dX6_split_142 : decode cX6_split 142 = .ok (.ixor, 1) := by decide +kernel
theorem dX6_split_143 : decode cX6_split 143 = .ok (.iand, 1) := by decide +kernel
theorem dX6_split_144 : decode cX6_split 144 = .ok (.iastore, 1) := by decide +kernel
theorem dX6_split_145 : decode cX6_split 145 = .ok (.aload_n 0, 1) := by decide +kernel
theorem dX6_split_146 : decode cX6_split 146 = .ok (.invokevirtual 155, 3) := by decide +kernel
theorem dX6_split_149 : decode cX6_split 149 = .ok (.aload_n 0, 1) := by decide +kernel
theorem dX6_split_150 : decode cX6_split 150 = .ok (.dup, 1) := by decide +kernel
theorem dX6_split_151 : decode cX6_split 151 = .ok (.getfield 149, 3) := by decide +kernel
theorem dX6_split_154 : decode cX6_split 154 = .ok (.iconst 1, 1) := by decide +kernel
theorem dX6_split_155 : decode cX6_split 155 = .ok (.iadd, 1) := by decide +kernel
theorem dX6_split_156 : decode cX6_split 156 = .ok (.putfield 149, 3) := by decide +kernel
theorem dX6_split_159 : decode cX6_split 159 = .ok (.iload 4, 2) := by decide +kernel
theorem dX6_split_161 : decode cX6_split 161 = .ok (.aload_n 0, 1) := by decide +kernel
theorem dX6_split_162 : decode cX6_split 162 = .ok (.getfield 97, 3) := by decide +kernel
theorem dX6_split_165 : decode cX6_split 165 = .ok (.isub, 1) := by decide +kernel
theorem dX6_split_166 : decode cX6_split 166 = .ok (.ireturn, 1) := by decide +kernel
theorem dX6_isLine_0 : decode cX6_isLine 0 = .ok (.aload_n 0, 1) := by decide +kernel
theorem dX6_isLine_1 : decode cX6_isLine 1 = .ok (.getfield 19, 3) := by decide +kernel
theorem dX6_isLine_4 : decode cX6_isLine 4 = .ok (.iload_n 1, 1) := by decide +kernel
theorem dX6_isLine_5 : decode cX6_isLine 5 = .ok (.iaload, 1) := by decide +kernel
theorem dX6_isLine_6 : decode cX6_isLine 6 = .ok (.iload_n 2, 1) := by decide +kernel
theorem dX6_isLine_7 : decode cX6_isLine 7 = .ok (.invokestatic 100, 3) := by decide +kernel
theorem dX6_isLine_10 : decode cX6_isLine 10 = .ok (.ifCond .eq 22, 3) := by decide +kernel
theorem dX6_isLine_13 : decode cX6_isLine 13 = .ok (.aload_n 0, 1) := by decide +kernel
theorem dX6_isLine_14 : decode cX6_isLine 14 = .ok (.getfield 37, 3) := by decide +kernel
theorem dX6_isLine_17 : decode cX6_isLine 17 = .ok (.bipush 6, 2) := by decide +kernel
theorem dX6_isLine_19 : decode cX6_isLine 19 = .ok (.iload_n 1, 1) := by decide +kernel
theorem dX6_isLine_20 : decode cX6_isLine 20 = .ok (.imul, 1) := by decide +kernel
theorem dX6_isLine_21 : decode cX6_isLine 21 = .ok (.iload_n 2, 1) := by decide +kernel
theorem dX6_isLine_22 : decode cX6_isLine 22 = .ok (.iadd, 1) := by decide +kernel
theorem dX6_isLine_23 : decode cX6_isLine 23 = .ok (.iaload, 1) := by decide +kernel
theorem dX6_isLine_24 : decode cX6_isLine 24 = .ok (.iconst (-1), 1) := by decide +kernel
theorem dX6_isLine_25 : decode cX6_isLine 25 = .ok (.if_icmp .eq 7, 3) := by decide +kernel
theorem dX6_isLine_28 : decode cX6_isLine 28 = .ok (.iconst 1, 1) := by decide +kernel
theorem dX6_isLine_29 : decode cX6_isLine 29 = .ok (.goto 4, 3) := by decide +kernel
theorem dX6_isLine_32 : decode cX6_isLine 32 = .ok (.iconst 0, 1) := by decide +kernel
theorem dX6_isLine_33 : decode cX6_isLine 33 = .ok (.ireturn, 1) := by decide +kernel
theorem dX6_delivers_0 : decode cX6_delivers 0 = .ok (.aload_n 0, 1) := by decide +kernel
theorem dX6_delivers_1 : decode cX6_delivers 1 = .ok (.bipush 6, 2) := by decide +kernel
theorem dX6_delivers_3 : decode cX6_delivers 3 = .ok (.iload_n 1, 1) := by decide +kernel
theorem dX6_delivers_4 : decode cX6_delivers 4 = .ok (.imul, 1) := by decide +kernel
theorem dX6_delivers_5 : decode cX6_delivers 5 = .ok (.iload_n 2, 1) := by decide +kernel
theorem dX6_delivers_6 : decode cX6_delivers 6 = .ok (.iadd, 1) := by decide +kernel
theorem dX6_delivers_7 : decode cX6_delivers 7 = .ok (.invokevirtual 152, 3) := by decide +kernel
theorem dX6_delivers_10 : decode cX6_delivers 10 = .ok (.aload_n 0, 1) := by decide +kernel
theorem dX6_delivers_11 : decode cX6_delivers 11 = .ok (.iload_n 2, 1) := by decide +kernel
theorem dX6_delivers_12 : decode cX6_delivers 12 = .ok (.iload_n 1, 1) := by decide +kernel
theorem dX6_delivers_13 : decode cX6_delivers 13 = .ok (.invokevirtual 158, 3) := by decide +kernel
theorem dX6_delivers_16 : decode cX6_delivers 16 = .ok (.return_, 1) := by decide +kernel
theorem dX6_deliver_0 : decode cX6_deliver 0 = .ok (.iload_n 1, 1) := by decide +kernel
theorem dX6_deliver_1 : decode cX6_deliver 1 = .ok (.invokestatic 139, 3) := by decide +kernel
theorem dX6_deliver_4 : decode cX6_deliver 4 = .ok (.ifCond .eq 14, 3) := by decide +kernel
theorem dX6_deliver_7 : decode cX6_deliver 7 = .ok (.iload_n 2, 1) := by decide +kernel
theorem dX6_deliver_8 : decode cX6_deliver 8 = .ok (.invokestatic 139, 3) := by decide +kernel
theorem dX6_deliver_11 : decode cX6_deliver 11 = .ok (.ifCond .eq 7, 3) := by decide +kernel
theorem dX6_deliver_14 : decode cX6_deliver 14 = .ok (.iconst 1, 1) := by decide +kernel
theorem dX6_deliver_15 : decode cX6_deliver 15 = .ok (.goto 4, 3) := by decide +kernel
theorem dX6_deliver_18 : decode cX6_deliver 18 = .ok (.iconst 0, 1) := by decide +kernel
theorem dX6_deliver_19 : decode cX6_deliver 19 = .ok (.istore_n 3, 1) := by decide +kernel
theorem dX6_deliver_20 : decode cX6_deliver 20 = .ok (.aload_n 0, 1) := by decide +kernel
theorem dX6_deliver_21 : decode cX6_deliver 21 = .ok (.iload_n 3, 1) := by decide +kernel
theorem dX6_deliver_22 : decode cX6_deliver 22 = .ok (.ifCond .ne 7, 3) := by decide +kernel
theorem dX6_deliver_25 : decode cX6_deliver 25 = .ok (.iconst 1, 1) := by decide +kernel
theorem dX6_deliver_26 : decode cX6_deliver 26 = .ok (.goto 17, 3) := by decide +kernel
theorem dX6_deliver_29 : decode cX6_deliver 29 = .ok (.aload_n 0, 1) := by decide +kernel
theorem dX6_deliver_30 : decode cX6_deliver 30 = .ok (.iload_n 1, 1) := by decide +kernel
theorem dX6_deliver_31 : decode cX6_deliver 31 = .ok (.iload_n 2, 1) := by decide +kernel
theorem dX6_deliver_32 : decode cX6_deliver 32 = .ok (.invokevirtual 161, 3) := by decide +kernel
theorem dX6_deliver_35 : decode cX6_deliver 35 = .ok (.ifCond .eq 7, 3) := by decide +kernel
theorem dX6_deliver_38 : decode cX6_deliver 38 = .ok (.iconst 0, 1) := by decide +kernel
theorem dX6_deliver_39 : decode cX6_deliver 39 = .ok (.goto 4, 3) := by decide +kernel
theorem dX6_deliver_42 : decode cX6_deliver 42 = .ok (.iconst 2, 1) := by decide +kernel
theorem dX6_deliver_43 : decode cX6_deliver 43 = .ok (.invokevirtual 143, 3) := by decide +kernel
theorem dX6_deliver_46 : decode cX6_deliver 46 = .ok (.ifCond .ne 5, 3) := by decide +kernel
theorem dX6_deliver_49 : decode cX6_deliver 49 = .ok (.iconst 0, 1) := by decide +kernel
theorem dX6_deliver_50 : decode cX6_deliver 50 = .ok (.ireturn, 1) := by decide +kernel
theorem dX6_deliver_51 : decode cX6_deliver 51 = .ok (.aload_n 0, 1) := by decide +kernel
theorem dX6_deliver_52 : decode cX6_deliver 52 = .ok (.iload_n 1, 1) := by decide +kernel
theorem dX6_deliver_53 : decode cX6_deliver 53 = .ok (.iload_n 2, 1) := by decide +kernel
theorem dX6_deliver_54 : decode cX6_deliver 54 = .ok (.invokevirtual 164, 3) := by decide +kernel
theorem dX6_deliver_57 : decode cX6_deliver 57 = .ok (.aload_n 0, 1) := by decide +kernel
theorem dX6_deliver_58 : decode cX6_deliver 58 = .ok (.dup, 1) := by decide +kernel
theorem dX6_deliver_59 : decode cX6_deliver 59 = .ok (.getfield 149, 3) := by decide +kernel
theorem dX6_deliver_62 : decode cX6_deliver 62 = .ok (.iconst 1, 1) := by decide +kernel
theorem dX6_deliver_63 : decode cX6_deliver 63 = .ok (.iadd, 1) := by decide +kernel
theorem dX6_deliver_64 : decode cX6_deliver 64 = .ok (.putfield 149, 3) := by decide +kernel
theorem dX6_deliver_67 : decode cX6_deliver 67 = .ok (.aload_n 0, 1) := by decide +kernel
theorem dX6_deliver_68 : decode cX6_deliver 68 = .ok (.getfield 97, 3) := by decide +kernel
theorem dX6_deliver_71 : decode cX6_deliver 71 = .ok (.ireturn, 1) := by decide +kernel
theorem dX6_deliverAll_0 : decode cX6_deliverAll 0 = .ok (.aload_n 0, 1) := by decide +kernel
theorem dX6_deliverAll_1 : decode cX6_deliverAll 1 = .ok (.iconst 0, 1) := by decide +kernel
theorem dX6_deliverAll_2 : decode cX6_deliverAll 2 = .ok (.putfield 64, 3) := by decide +kernel
theorem dX6_deliverAll_5 : decode cX6_deliverAll 5 = .ok (.iconst 0, 1) := by decide +kernel
theorem dX6_deliverAll_6 : decode cX6_deliverAll 6 = .ok (.istore_n 1, 1) := by decide +kernel
theorem dX6_deliverAll_7 : decode cX6_deliverAll 7 = .ok (.aload_n 0, 1) := by decide +kernel
theorem dX6_deliverAll_8 : decode cX6_deliverAll 8 = .ok (.getfield 97, 3) := by decide +kernel
theorem dX6_deliverAll_11 : decode cX6_deliverAll 11 = .ok (.ifCond .le 50, 3) := by decide +kernel
theorem dX6_deliverAll_14 : decode cX6_deliverAll 14 = .ok (.iconst 0, 1) := by decide +kernel
theorem dX6_deliverAll_15 : decode cX6_deliverAll 15 = .ok (.istore_n 2, 1) := by decide +kernel
theorem dX6_deliverAll_16 : decode cX6_deliverAll 16 = .ok (.iload_n 2, 1) := by decide +kernel
theorem dX6_deliverAll_17 : decode cX6_deliverAll 17 = .ok (.bipush 36, 2) := by decide +kernel
theorem dX6_deliverAll_19 : decode cX6_deliverAll 19 = .ok (.if_icmp .ge 39, 3) := by decide +kernel
theorem dX6_deliverAll_22 : decode cX6_deliverAll 22 = .ok (.aload_n 0, 1) := by decide +kernel
theorem dX6_deliverAll_23 : decode cX6_deliverAll 23 = .ok (.iload_n 2, 1) := by decide +kernel
theorem dX6_deliverAll_24 : decode cX6_deliverAll 24 = .ok (.bipush 6, 2) := by decide +kernel
theorem dX6_deliverAll_26 : decode cX6_deliverAll 26 = .ok (.idiv, 1) := by decide +kernel
theorem dX6_deliverAll_27 : decode cX6_deliverAll 27 = .ok (.iload_n 2, 1) := by decide +kernel
theorem dX6_deliverAll_28 : decode cX6_deliverAll 28 = .ok (.bipush 6, 2) := by decide +kernel
theorem dX6_deliverAll_30 : decode cX6_deliverAll 30 = .ok (.irem, 1) := by decide +kernel
theorem dX6_deliverAll_31 : decode cX6_deliverAll 31 = .ok (.invokevirtual 161, 3) := by decide +kernel
theorem dX6_deliverAll_34 : decode cX6_deliverAll 34 = .ok (.ifCond .eq 18, 3) := by decide +kernel
theorem dX6_deliverAll_37 : decode cX6_deliverAll 37 = .ok (.aload_n 0, 1) := by decide +kernel
theorem dX6_deliverAll_38 : decode cX6_deliverAll 38 = .ok (.iload_n 2, 1) := by decide +kernel
theorem dX6_deliverAll_39 : decode cX6_deliverAll 39 = .ok (.bipush 6, 2) := by decide +kernel
theorem dX6_deliverAll_41 : decode cX6_deliverAll 41 = .ok (.idiv, 1) := by decide +kernel
theorem dX6_deliverAll_42 : decode cX6_deliverAll 42 = .ok (.iload_n 2, 1) := by decide +kernel
theorem dX6_deliverAll_43 : decode cX6_deliverAll 43 = .ok (.bipush 6, 2) := by decide +kernel
theorem dX6_deliverAll_45 : decode cX6_deliverAll 45 = .ok (.irem, 1) := by decide +kernel
theorem dX6_deliverAll_46 : decode cX6_deliverAll 46 = .ok (.invokevirtual 164, 3) := by decide +kernel
theorem dX6_deliverAll_49 : decode cX6_deliverAll 49 = .ok (.iinc 1 1, 3) := by decide +kernel
theorem dX6_deliverAll_52 : decode cX6_deliverAll 52 = .ok (.iinc 2 1, 3) := by decide +kernel
theorem dX6_deliverAll_55 : decode cX6_deliverAll 55 = .ok (.goto (-39), 3) := by decide +kernel
theorem dX6_deliverAll_58 : decode cX6_deliverAll 58 = .ok (.goto (-51), 3) := by decide +kernel
theorem dX6_deliverAll_61 : decode cX6_deliverAll 61 = .ok (.aload_n 0, 1) := by decide +kernel
theorem dX6_deliverAll_62 : decode cX6_deliverAll 62 = .ok (.dup, 1) := by decide +kernel
theorem dX6_deliverAll_63 : decode cX6_deliverAll 63 = .ok (.getfield 149, 3) := by decide +kernel
theorem dX6_deliverAll_66 : decode cX6_deliverAll 66 = .ok (.iconst 1, 1) := by decide +kernel
theorem dX6_deliverAll_67 : decode cX6_deliverAll 67 = .ok (.iadd, 1) := by decide +kernel
theorem dX6_deliverAll_68 : decode cX6_deliverAll 68 = .ok (.putfield 149, 3) := by decide +kernel
theorem dX6_deliverAll_71 : decode cX6_deliverAll 71 = .ok (.iload_n 1, 1) := by decide +kernel
theorem dX6_deliverAll_72 : decode cX6_deliverAll 72 = .ok (.ireturn, 1) := by decide +kernel
theorem dX6_lines_0 : decode cX6_lines 0 = .ok (.aload_n 0, 1) := by decide +kernel
theorem dX6_lines_1 : decode cX6_lines 1 = .ok (.iconst 0, 1) := by decide +kernel
theorem dX6_lines_2 : decode cX6_lines 2 = .ok (.putfield 64, 3) := by decide +kernel
theorem dX6_lines_5 : decode cX6_lines 5 = .ok (.aload_n 0, 1) := by decide +kernel
theorem dX6_lines_6 : decode cX6_lines 6 = .ok (.getfield 97, 3) := by decide +kernel
theorem dX6_lines_9 : decode cX6_lines 9 = .ok (.ireturn, 1) := by decide +kernel
theorem dX6_tree_0 : decode cX6_tree 0 = .ok (.aload_n 0, 1) := by decide +kernel
theorem dX6_tree_1 : decode cX6_tree 1 = .ok (.iload_n 1, 1) := by decide +kernel
theorem dX6_tree_2 : decode cX6_tree 2 = .ok (.invokestatic 139, 3) := by decide +kernel
theorem dX6_tree_5 : decode cX6_tree 5 = .ok (.ifCond .eq 7, 3) := by decide +kernel
theorem dX6_tree_8 : decode cX6_tree 8 = .ok (.iconst 0, 1) := by decide +kernel
theorem dX6_tree_9 : decode cX6_tree 9 = .ok (.goto 4, 3) := by decide +kernel
theorem dX6_tree_12 : decode cX6_tree 12 = .ok (.iconst 1, 1) := by decide +kernel
theorem dX6_tree_13 : decode cX6_tree 13 = .ok (.invokevirtual 143, 3) := by decide +kernel
theorem dX6_tree_16 : decode cX6_tree 16 = .ok (.ifCond .eq 11, 3) := by decide +kernel
theorem dX6_tree_19 : decode cX6_tree 19 = .ok (.aload_n 0, 1) := by decide +kernel
theorem dX6_tree_20 : decode cX6_tree 20 = .ok (.iload_n 1, 1) := by decide +kernel
theorem dX6_tree_21 : decode cX6_tree 21 = .ok (.invokevirtual 114, 3) := by decide +kernel
theorem dX6_tree_24 : decode cX6_tree 24 = .ok (.goto 4, 3) := by decide +kernel
theorem dX6_tree_27 : decode cX6_tree 27 = .ok (.iconst 0, 1) := by decide +kernel
theorem dX6_tree_28 : decode cX6_tree 28 = .ok (.ireturn, 1) := by decide +kernel
theorem dX6_letter_0 : decode cX6_letter 0 = .ok (.iload_n 0, 1) := by decide +kernel
theorem dX6_letter_1 : decode cX6_letter 1 = .ok (.bipush 97, 2) := by decide +kernel
theorem dX6_letter_3 : decode cX6_letter 3 = .ok (.if_icmp .lt 16, 3) := by decide +kernel
theorem dX6_letter_6 : decode cX6_letter 6 = .ok (.iload_n 0, 1) := by decide +kernel
theorem dX6_letter_7 : decode cX6_letter 7 = .ok (.bipush 122, 2) := by decide +kernel
theorem dX6_letter_9 : decode cX6_letter 9 = .ok (.if_icmp .gt 10, 3) := by decide +kernel
theorem dX6_letter_12 : decode cX6_letter 12 = .ok (.iload_n 0, 1) := by decide +kernel
theorem dX6_letter_13 : decode cX6_letter 13 = .ok (.bipush 97, 2) := by decide +kernel
theorem dX6_letter_15 : decode cX6_letter 15 = .ok (.isub, 1) := by decide +kernel
theorem dX6_letter_16 : decode cX6_letter 16 = .ok (.goto 23, 3) := by decide +kernel
theorem dX6_letter_19 : decode cX6_letter 19 = .ok (.iload_n 0, 1) := by decide +kernel
theorem dX6_letter_20 : decode cX6_letter 20 = .ok (.bipush 65, 2) := by decide +kernel
theorem dX6_letter_22 : decode cX6_letter 22 = .ok (.if_icmp .lt 16, 3) := by decide +kernel
theorem dX6_letter_25 : decode cX6_letter 25 = .ok (.iload_n 0, 1) := by decide +kernel
theorem dX6_letter_26 : decode cX6_letter 26 = .ok (.bipush 90, 2) := by decide +kernel
theorem dX6_letter_28 : decode cX6_letter 28 = .ok (.if_icmp .gt 10, 3) := by decide +kernel
theorem dX6_letter_31 : decode cX6_letter 31 = .ok (.iload_n 0, 1) := by decide +kernel
theorem dX6_letter_32 : decode cX6_letter 32 = .ok (.bipush 65, 2) := by decide +kernel
theorem dX6_letter_34 : decode cX6_letter 34 = .ok (.isub, 1) := by decide +kernel
theorem dX6_letter_35 : decode cX6_letter 35 = .ok (.goto 4, 3) := by decide +kernel
theorem dX6_letter_38 : decode cX6_letter 38 = .ok (.iconst (-1), 1) := by decide +kernel
theorem dX6_letter_39 : decode cX6_letter 39 = .ok (.ireturn, 1) := by decide +kernel
theorem dX6_signOn_0 : decode cX6_signOn 0 = .ok (.iload_n 1, 1) := by decide +kernel
theorem dX6_signOn_1 : decode cX6_signOn 1 = .ok (.invokestatic 139, 3) := by decide +kernel
theorem dX6_signOn_4 : decode cX6_signOn 4 = .ok (.istore_n 3, 1) := by decide +kernel
theorem dX6_signOn_5 : decode cX6_signOn 5 = .ok (.iload_n 2, 1) := by decide +kernel
theorem dX6_signOn_6 : decode cX6_signOn 6 = .ok (.invokestatic 167, 3) := by decide +kernel
theorem dX6_signOn_9 : decode cX6_signOn 9 = .ok (.istore 4, 2) := by decide +kernel
theorem dX6_signOn_11 : decode cX6_signOn 11 = .ok (.aload_n 0, 1) := by decide +kernel
theorem dX6_signOn_12 : decode cX6_signOn 12 = .ok (.iload_n 3, 1) := by decide +kernel
theorem dX6_signOn_13 : decode cX6_signOn 13 = .ok (.ifCond .ne 7, 3) := by decide +kernel
theorem dX6_signOn_16 : decode cX6_signOn 16 = .ok (.iconst 1, 1) := by decide +kernel
theorem dX6_signOn_17 : decode cX6_signOn 17 = .ok (.goto 39, 3) := by decide +kernel
theorem dX6_signOn_20 : decode cX6_signOn 20 = .ok (.iload 4, 2) := by decide +kernel
theorem dX6_signOn_22 : decode cX6_signOn 22 = .ok (.iconst (-1), 1) := by decide +kernel
theorem dX6_signOn_23 : decode cX6_signOn 23 = .ok (.if_icmp .ne 7, 3) := by decide +kernel
theorem dX6_signOn_26 : decode cX6_signOn 26 = .ok (.iconst 2, 1) := by decide +kernel
theorem dX6_signOn_27 : decode cX6_signOn 27 = .ok (.goto 29, 3) := by decide +kernel
theorem dX6_signOn_30 : decode cX6_signOn 30 = .ok (.aload_n 0, 1) := by decide +kernel
theorem dX6_signOn_31 : decode cX6_signOn 31 = .ok (.getfield 111, 3) := by decide +kernel
theorem dX6_signOn_34 : decode cX6_signOn 34 = .ok (.bipush 20, 2) := by decide +kernel
theorem dX6_signOn_36 : decode cX6_signOn 36 = .ok (.if_icmp .eq 15, 3) := by decide +kernel
theorem dX6_signOn_39 : decode cX6_signOn 39 = .ok (.aload_n 0, 1) := by decide +kernel
theorem dX6_signOn_40 : decode cX6_signOn 40 = .ok (.iload_n 1, 1) := by decide +kernel
theorem dX6_signOn_41 : decode cX6_signOn 41 = .ok (.iload 4, 2) := by decide +kernel
theorem dX6_signOn_43 : decode cX6_signOn 43 = .ok (.iconst (-1), 1) := by decide +kernel
theorem dX6_signOn_44 : decode cX6_signOn 44 = .ok (.invokevirtual 118, 3) := by decide +kernel
theorem dX6_signOn_47 : decode cX6_signOn 47 = .ok (.iconst (-1), 1) := by decide +kernel
theorem dX6_signOn_48 : decode cX6_signOn 48 = .ok (.if_icmp .eq 7, 3) := by decide +kernel
theorem dX6_signOn_51 : decode cX6_signOn 51 = .ok (.iconst 3, 1) := by decide +kernel
theorem dX6_signOn_52 : decode cX6_signOn 52 = .ok (.goto 4, 3) := by decide +kernel
theorem dX6_signOn_55 : decode cX6_signOn 55 = .ok (.iconst 0, 1) := by decide +kernel
theorem dX6_signOn_56 : decode cX6_signOn 56 = .ok (.invokevirtual 143, 3) := by decide +kernel
theorem dX6_signOn_59 : decode cX6_signOn 59 = .ok (.ifCond .ne 5, 3) := by decide +kernel
theorem dX6_signOn_62 : decode cX6_signOn 62 = .ok (.iconst 0, 1) := by decide +kernel
theorem dX6_signOn_63 : decode cX6_signOn 63 = .ok (.ireturn, 1) := by decide +kernel
theorem dX6_signOn_64 : decode cX6_signOn 64 = .ok (.aload_n 0, 1) := by decide +kernel
theorem dX6_signOn_65 : decode cX6_signOn 65 = .ok (.getfield 111, 3) := by decide +kernel
theorem dX6_signOn_68 : decode cX6_signOn 68 = .ok (.istore 5, 2) := by decide +kernel
theorem dX6_signOn_70 : decode cX6_signOn 70 = .ok (.aload_n 0, 1) := by decide +kernel
theorem dX6_signOn_71 : decode cX6_signOn 71 = .ok (.dup, 1) := by decide +kernel
theorem dX6_signOn_72 : decode cX6_signOn 72 = .ok (.getfield 111, 3) := by decide +kernel
theorem dX6_signOn_75 : decode cX6_signOn 75 = .ok (.iconst 1, 1) := by decide +kernel
theorem dX6_signOn_76 : decode cX6_signOn 76 = .ok (.iadd, 1) := by decide +kernel
theorem dX6_signOn_77 : decode cX6_signOn 77 = .ok (.putfield 111, 3) := by decide +kernel
theorem dX6_signOn_80 : decode cX6_signOn 80 = .ok (.aload_n 0, 1) := by decide +kernel
theorem dX6_signOn_81 : decode cX6_signOn 81 = .ok (.getfield 7, 3) := by decide +kernel
theorem dX6_signOn_84 : decode cX6_signOn 84 = .ok (.iload 5, 2) := by decide +kernel
theorem dX6_signOn_86 : decode cX6_signOn 86 = .ok (.iload 4, 2) := by decide +kernel
theorem dX6_signOn_88 : decode cX6_signOn 88 = .ok (.iastore, 1) := by decide +kernel
theorem dX6_signOn_89 : decode cX6_signOn 89 = .ok (.aload_n 0, 1) := by decide +kernel
theorem dX6_signOn_90 : decode cX6_signOn 90 = .ok (.getfield 13, 3) := by decide +kernel
theorem dX6_signOn_93 : decode cX6_signOn 93 = .ok (.iload 5, 2) := by decide +kernel
theorem dX6_signOn_95 : decode cX6_signOn 95 = .ok (.iload_n 1, 1) := by decide +kernel
theorem dX6_signOn_96 : decode cX6_signOn 96 = .ok (.iastore, 1) := by decide +kernel
theorem dX6_signOn_97 : decode cX6_signOn 97 = .ok (.aload_n 0, 1) := by decide +kernel
theorem dX6_signOn_98 : decode cX6_signOn 98 = .ok (.getfield 16, 3) := by decide +kernel
theorem dX6_signOn_101 : decode cX6_signOn 101 = .ok (.iload 5, 2) := by decide +kernel
theorem dX6_signOn_103 : decode cX6_signOn 103 = .ok (.aload_n 0, 1) := by decide +kernel
theorem dX6_signOn_104 : decode cX6_signOn 104 = .ok (.getfield 149, 3) := by decide +kernel
theorem dX6_signOn_107 : decode cX6_signOn 107 = .ok (.iastore, 1) := by decide +kernel
theorem dX6_signOn_108 : decode cX6_signOn 108 = .ok (.aload_n 0, 1) := by decide +kernel
theorem dX6_signOn_109 : decode cX6_signOn 109 = .ok (.getfield 22, 3) := by decide +kernel
theorem dX6_signOn_112 : decode cX6_signOn 112 = .ok (.iload_n 1, 1) := by decide +kernel
theorem dX6_signOn_113 : decode cX6_signOn 113 = .ok (.dup2, 1) := by decide +kernel
theorem dX6_signOn_114 : decode cX6_signOn 114 = .ok (.iaload, 1) := by decide +kernel
theorem dX6_signOn_115 : decode cX6_signOn 115 = .ok (.iconst 1, 1) := by decide +kernel
theorem dX6_signOn_116 : decode cX6_signOn 116 = .ok (.iload 5, 2) := by decide +kernel
theorem dX6_signOn_118 : decode cX6_signOn 118 = .ok (.ishl, 1) := by decide +kernel
theorem dX6_signOn_119 : decode cX6_signOn 119 = .ok (.ior, 1) := by decide +kernel
theorem dX6_signOn_120 : decode cX6_signOn 120 = .ok (.iastore, 1) := by decide +kernel
theorem dX6_signOn_121 : decode cX6_signOn 121 = .ok (.aload_n 0, 1) := by decide +kernel
theorem dX6_signOn_122 : decode cX6_signOn 122 = .ok (.iconst 0, 1) := by decide +kernel
theorem dX6_signOn_123 : decode cX6_signOn 123 = .ok (.iload 5, 2) := by decide +kernel
theorem dX6_signOn_125 : decode cX6_signOn 125 = .ok (.iconst 0, 1) := by decide +kernel
theorem dX6_signOn_126 : decode cX6_signOn 126 = .ok (.invokevirtual 77, 3) := by decide +kernel
theorem dX6_signOn_129 : decode cX6_signOn 129 = .ok (.aload_n 0, 1) := by decide +kernel
theorem dX6_signOn_130 : decode cX6_signOn 130 = .ok (.iload_n 1, 1) := by decide +kernel
theorem dX6_signOn_131 : decode cX6_signOn 131 = .ok (.iconst (-1), 1) := by decide +kernel
theorem dX6_signOn_132 : decode cX6_signOn 132 = .ok (.invokevirtual 125, 3) := by decide +kernel
theorem dX6_signOn_135 : decode cX6_signOn 135 = .ok (.aload_n 0, 1) := by decide +kernel
theorem dX6_signOn_136 : decode cX6_signOn 136 = .ok (.dup, 1) := by decide +kernel
theorem dX6_signOn_137 : decode cX6_signOn 137 = .ok (.getfield 149, 3) := by decide +kernel
theorem dX6_signOn_140 : decode cX6_signOn 140 = .ok (.iconst 1, 1) := by decide +kernel
theorem dX6_signOn_141 : decode cX6_signOn 141 = .ok (.iadd, 1) := by decide +kernel
theorem dX6_signOn_142 : decode cX6_signOn 142 = .ok (.putfield 149, 3) := by decide +kernel
theorem dX6_signOn_145 : decode cX6_signOn 145 = .ok (.iload 5, 2) := by decide +kernel
theorem dX6_signOn_147 : decode cX6_signOn 147 = .ok (.ireturn, 1) := by decide +kernel
theorem dX6_isUser_0 : decode cX6_isUser 0 = .ok (.iload_n 1, 1) := by decide +kernel
theorem dX6_isUser_1 : decode cX6_isUser 1 = .ok (.ifCond .lt 15, 3) := by decide +kernel
theorem dX6_isUser_4 : decode cX6_isUser 4 = .ok (.iload_n 1, 1) := by decide +kernel
theorem dX6_isUser_5 : decode cX6_isUser 5 = .ok (.aload_n 0, 1) := by decide +kernel
theorem dX6_isUser_6 : decode cX6_isUser 6 = .ok (.getfield 111, 3) := by decide +kernel
theorem dX6_isUser_9 : decode cX6_isUser 9 = .ok (.if_icmp .ge 7, 3) := by decide +kernel
theorem dX6_isUser_12 : decode cX6_isUser 12 = .ok (.iconst 1, 1) := by decide +kernel
theorem dX6_isUser_13 : decode cX6_isUser 13 = .ok (.goto 4, 3) := by decide +kernel
theorem dX6_isUser_16 : decode cX6_isUser 16 = .ok (.iconst 0, 1) := by decide +kernel
theorem dX6_isUser_17 : decode cX6_isUser 17 = .ok (.ireturn, 1) := by decide +kernel
theorem dX6_isGone_0 : decode cX6_isGone 0 = .ok (.aload_n 0, 1) := by decide +kernel
theorem dX6_isGone_1 : decode cX6_isGone 1 = .ok (.getfield 22, 3) := by decide +kernel
theorem dX6_isGone_4 : decode cX6_isGone 4 = .ok (.aload_n 0, 1) := by decide +kernel
theorem dX6_isGone_5 : decode cX6_isGone 5 = .ok (.getfield 13, 3) := by decide +kernel
theorem dX6_isGone_8 : decode cX6_isGone 8 = .ok (.iload_n 1, 1) := by decide +kernel
theorem dX6_isGone_9 : decode cX6_isGone 9 = .ok (.iaload, 1) := by decide +kernel
theorem dX6_isGone_10 : decode cX6_isGone 10 = .ok (.iaload, 1) := by decide +kernel
theorem dX6_isGone_11 : decode cX6_isGone 11 = .ok (.iload_n 1, 1) := by decide +kernel
theorem dX6_isGone_12 : decode cX6_isGone 12 = .ok (.invokestatic 100, 3) := by decide +kernel
theorem dX6_isGone_15 : decode cX6_isGone 15 = .ok (.ifCond .ne 7, 3) := by decide +kernel
theorem dX6_isGone_18 : decode cX6_isGone 18 = .ok (.iconst 1, 1) := by decide +kernel
theorem dX6_isGone_19 : decode cX6_isGone 19 = .ok (.goto 4, 3) := by decide +kernel
theorem dX6_isGone_22 : decode cX6_isGone 22 = .ok (.iconst 0, 1) := by decide +kernel
theorem dX6_isGone_23 : decode cX6_isGone 23 = .ok (.ireturn, 1) := by decide +kernel
theorem dX6_isMember_0 : decode cX6_isMember 0 = .ok (.aload_n 0, 1) := by decide +kernel
theorem dX6_isMember_1 : decode cX6_isMember 1 = .ok (.getfield 13, 3) := by decide +kernel
theorem dX6_isMember_4 : decode cX6_isMember 4 = .ok (.iload_n 1, 1) := by decide +kernel
theorem dX6_isMember_5 : decode cX6_isMember 5 = .ok (.iaload, 1) := by decide +kernel
theorem dX6_isMember_6 : decode cX6_isMember 6 = .ok (.iload_n 2, 1) := by decide +kernel
theorem dX6_isMember_7 : decode cX6_isMember 7 = .ok (.invokestatic 81, 3) := by decide +kernel
theorem dX6_isMember_10 : decode cX6_isMember 10 = .ok (.istore_n 3, 1) := by decide +kernel
theorem dX6_isMember_11 : decode cX6_isMember 11 = .ok (.aload_n 0, 1) := by decide +kernel
theorem dX6_isMember_12 : decode cX6_isMember 12 = .ok (.getfield 25, 3) := by decide +kernel
theorem dX6_isMember_15 : decode cX6_isMember 15 = .ok (.iload_n 3, 1) := by decide +kernel
theorem dX6_isMember_16 : decode cX6_isMember 16 = .ok (.iaload, 1) := by decide +kernel
theorem dX6_isMember_17 : decode cX6_isMember 17 = .ok (.iconst (-1), 1) := by decide +kernel
theorem dX6_isMember_18 : decode cX6_isMember 18 = .ok (.if_icmp .eq 20, 3) := by decide +kernel
theorem dX6_isMember_21 : decode cX6_isMember 21 = .ok (.aload_n 0, 1) := by decide +kernel
theorem dX6_isMember_22 : decode cX6_isMember 22 = .ok (.getfield 34, 3) := by decide +kernel
theorem dX6_isMember_25 : decode cX6_isMember 25 = .ok (.iload_n 3, 1) := by decide +kernel
theorem dX6_isMember_26 : decode cX6_isMember 26 = .ok (.iaload, 1) := by decide +kernel
theorem dX6_isMember_27 : decode cX6_isMember 27 = .ok (.iload_n 1, 1) := by decide +kernel
theorem dX6_isMember_28 : decode cX6_isMember 28 = .ok (.invokestatic 100, 3) := by decide +kernel
theorem dX6_isMember_31 : decode cX6_isMember 31 = .ok (.ifCond .eq 7, 3) := by decide +kernel
theorem dX6_isMember_34 : decode cX6_isMember 34 = .ok (.iconst 1, 1) := by decide +kernel
theorem dX6_isMember_35 : decode cX6_isMember 35 = .ok (.goto 4, 3) := by decide +kernel
theorem dX6_isMember_38 : decode cX6_isMember 38 = .ok (.iconst 0, 1) := by decide +kernel
theorem dX6_isMember_39 : decode cX6_isMember 39 = .ok (.ireturn, 1) := by decide +kernel
theorem dX6_quit_0 : decode cX6_quit 0 = .ok (.aload_n 0, 1) := by decide +kernel
theorem dX6_quit_1 : decode cX6_quit 1 = .ok (.iload_n 1, 1) := by decide +kernel
theorem dX6_quit_2 : decode cX6_quit 2 = .ok (.invokevirtual 171, 3) := by decide +kernel
theorem dX6_quit_5 : decode cX6_quit 5 = .ok (.istore_n 2, 1) := by decide +kernel
theorem dX6_quit_6 : decode cX6_quit 6 = .ok (.aload_n 0, 1) := by decide +kernel
theorem dX6_quit_7 : decode cX6_quit 7 = .ok (.iload_n 2, 1) := by decide +kernel
theorem dX6_quit_8 : decode cX6_quit 8 = .ok (.ifCond .ne 7, 3) := by decide +kernel
theorem dX6_quit_11 : decode cX6_quit 11 = .ok (.iconst 1, 1) := by decide +kernel
theorem dX6_quit_12 : decode cX6_quit 12 = .ok (.goto 16, 3) := by decide +kernel
theorem dX6_quit_15 : decode cX6_quit 15 = .ok (.aload_n 0, 1) := by decide +kernel
theorem dX6_quit_16 : decode cX6_quit 16 = .ok (.iload_n 1, 1) := by decide +kernel
theorem dX6_quit_17 : decode cX6_quit 17 = .ok (.invokevirtual 174, 3) := by decide +kernel
theorem dX6_quit_20 : decode cX6_quit 20 = .ok (.ifCond .eq 7, 3) := by decide +kernel
theorem dX6_quit_23 : decode cX6_quit 23 = .ok (.iconst 2, 1) := by decide +kernel
theorem dX6_quit_24 : decode cX6_quit 24 = .ok (.goto 4, 3) := by decide +kernel
theorem dX6_quit_27 : decode cX6_quit 27 = .ok (.iconst 0, 1) := by decide +kernel
theorem dX6_quit_28 : decode cX6_quit 28 = .ok (.invokevirtual 143, 3) := by decide +kernel
theorem dX6_quit_31 : decode cX6_quit 31 = .ok (.ifCond .eq 42, 3) := by decide +kernel
theorem dX6_quit_34 : decode cX6_quit 34 = .ok (.aload_n 0, 1) := by decide +kernel
theorem dX6_quit_35 : decode cX6_quit 35 = .ok (.aload_n 0, 1) := by decide +kernel
theorem dX6_quit_36 : decode cX6_quit 36 = .ok (.getfield 13, 3) := by decide +kernel
theorem dX6_quit_39 : decode cX6_quit 39 = .ok (.iload_n 1, 1) := by decide +kernel
theorem dX6_quit_40 : decode cX6_quit 40 = .ok (.iaload, 1) := by decide +kernel
theorem dX6_quit_41 : decode cX6_quit 41 = .ok (.iload_n 1, 1) := by decide +kernel
theorem dX6_quit_42 : decode cX6_quit 42 = .ok (.invokevirtual 122, 3) := by decide +kernel
theorem dX6_quit_45 : decode cX6_quit 45 = .ok (.aload_n 0, 1) := by decide +kernel
theorem dX6_quit_46 : decode cX6_quit 46 = .ok (.iconst 1, 1) := by decide +kernel
theorem dX6_quit_47 : decode cX6_quit 47 = .ok (.iload_n 1, 1) := by decide +kernel
theorem dX6_quit_48 : decode cX6_quit 48 = .ok (.iconst 0, 1) := by decide +kernel
theorem dX6_quit_49 : decode cX6_quit 49 = .ok (.invokevirtual 77, 3) := by decide +kernel
theorem dX6_quit_52 : decode cX6_quit 52 = .ok (.aload_n 0, 1) := by decide +kernel
theorem dX6_quit_53 : decode cX6_quit 53 = .ok (.aload_n 0, 1) := by decide +kernel
theorem dX6_quit_54 : decode cX6_quit 54 = .ok (.getfield 13, 3) := by decide +kernel
theorem dX6_quit_57 : decode cX6_quit 57 = .ok (.iload_n 1, 1) := by decide +kernel
theorem dX6_quit_58 : decode cX6_quit 58 = .ok (.iaload, 1) := by decide +kernel
theorem dX6_quit_59 : decode cX6_quit 59 = .ok (.iconst (-1), 1) := by decide +kernel
theorem dX6_quit_60 : decode cX6_quit 60 = .ok (.invokevirtual 125, 3) := by decide +kernel
theorem dX6_quit_63 : decode cX6_quit 63 = .ok (.aload_n 0, 1) := by decide +kernel
theorem dX6_quit_64 : decode cX6_quit 64 = .ok (.dup, 1) := by decide +kernel
theorem dX6_quit_65 : decode cX6_quit 65 = .ok (.getfield 149, 3) := by decide +kernel
theorem dX6_quit_68 : decode cX6_quit 68 = .ok (.iconst 1, 1) := by decide +kernel
theorem dX6_quit_69 : decode cX6_quit 69 = .ok (.iadd, 1) := by decide +kernel
theorem dX6_quit_70 : decode cX6_quit 70 = .ok (.putfield 149, 3) := by decide +kernel
theorem dX6_quit_73 : decode cX6_quit 73 = .ok (.return_, 1) := by decide +kernel
theorem dX6_isBanned_0 : decode cX6_isBanned 0 = .ok (.aload_n 0, 1) := by decide +kernel
theorem dX6_isBanned_1 : decode cX6_isBanned 1 = .ok (.getfield 13, 3) := by decide +kernel
theorem dX6_isBanned_4 : decode cX6_isBanned 4 = .ok (.iload_n 1, 1) := by decide +kernel
theorem dX6_isBanned_5 : decode cX6_isBanned 5 = .ok (.iaload, 1) := by decide +kernel
theorem dX6_isBanned_6 : decode cX6_isBanned 6 = .ok (.iload_n 2, 1) := by decide +kernel
theorem dX6_isBanned_7 : decode cX6_isBanned 7 = .ok (.invokestatic 81, 3) := by decide +kernel
theorem dX6_isBanned_10 : decode cX6_isBanned 10 = .ok (.istore_n 3, 1) := by decide +kernel
theorem dX6_isBanned_11 : decode cX6_isBanned 11 = .ok (.aload_n 0, 1) := by decide +kernel
theorem dX6_isBanned_12 : decode cX6_isBanned 12 = .ok (.getfield 25, 3) := by decide +kernel
theorem dX6_isBanned_15 : decode cX6_isBanned 15 = .ok (.iload_n 3, 1) := by decide +kernel
theorem dX6_isBanned_16 : decode cX6_isBanned 16 = .ok (.iaload, 1) := by decide +kernel
theorem dX6_isBanned_17 : decode cX6_isBanned 17 = .ok (.iconst (-1), 1) := by decide +kernel
theorem dX6_isBanned_18 : decode cX6_isBanned 18 = .ok (.if_icmp .eq 25, 3) := by decide +kernel
theorem dX6_isBanned_21 : decode cX6_isBanned 21 = .ok (.aload_n 0, 1) := by decide +kernel
theorem dX6_isBanned_22 : decode cX6_isBanned 22 = .ok (.getfield 31, 3) := by decide +kernel
theorem dX6_isBanned_25 : decode cX6_isBanned 25 = .ok (.iload_n 3, 1) := by decide +kernel
theorem dX6_isBanned_26 : decode cX6_isBanned 26 = .ok (.iaload, 1) := by decide +kernel
theorem dX6_isBanned_27 : decode cX6_isBanned 27 = .ok (.aload_n 0, 1) := by decide +kernel
theorem dX6_isBanned_28 : decode cX6_isBanned 28 = .ok (.getfield 7, 3) := by decide +kernel
theorem dX6_isBanned_31 : decode cX6_isBanned 31 = .ok (.iload_n 1, 1) := by decide +kernel
theorem dX6_isBanned_32 : decode cX6_isBanned 32 = .ok (.iaload, 1) := by decide +kernel
theorem dX6_isBanned_33 : decode cX6_isBanned 33 = .ok (.invokestatic 100, 3) := by decide +kernel
theorem dX6_isBanned_36 : decode cX6_isBanned 36 = .ok (.ifCond .eq 7, 3) := by decide +kernel
theorem dX6_isBanned_39 : decode cX6_isBanned 39 = .ok (.iconst 1, 1) := by decide +kernel
theorem dX6_isBanned_40 : decode cX6_isBanned 40 = .ok (.goto 4, 3) := by decide +kernel
theorem dX6_isBanned_43 : decode cX6_isBanned 43 = .ok (.iconst 0, 1) := by decide +kernel
theorem dX6_isBanned_44 : decode cX6_isBanned 44 = .ok (.ireturn, 1) := by decide +kernel
theorem dX6_count_0 : decode cX6_count 0 = .ok (.iconst 0, 1) := by decide +kernel
theorem dX6_count_1 : decode cX6_count 1 = .ok (.istore_n 1, 1) := by decide +kernel
theorem dX6_count_2 : decode cX6_count 2 = .ok (.iconst 0, 1) := by decide +kernel
theorem dX6_count_3 : decode cX6_count 3 = .ok (.istore_n 2, 1) := by decide +kernel
theorem dX6_count_4 : decode cX6_count 4 = .ok (.iload_n 2, 1) := by decide +kernel
theorem dX6_count_5 : decode cX6_count 5 = .ok (.bipush 20, 2) := by decide +kernel
theorem dX6_count_7 : decode cX6_count 7 = .ok (.if_icmp .ge 17, 3) := by decide +kernel
theorem dX6_count_10 : decode cX6_count 10 = .ok (.iload_n 1, 1) := by decide +kernel
theorem dX6_count_11 : decode cX6_count 11 = .ok (.iload_n 0, 1) := by decide +kernel
theorem dX6_count_12 : decode cX6_count 12 = .ok (.iload_n 2, 1) := by decide +kernel
theorem dX6_count_13 : decode cX6_count 13 = .ok (.ishr, 1) := by decide +kernel
theorem dX6_count_14 : decode cX6_count 14 = .ok (.iconst 1, 1) := by decide +kernel
theorem dX6_count_15 : decode cX6_count 15 = .ok (.iand, 1) := by decide +kernel
theorem dX6_count_16 : decode cX6_count 16 = .ok (.iadd, 1) := by decide +kernel
theorem dX6_count_17 : decode cX6_count 17 = .ok (.istore_n 1, 1) := by decide +kernel
theorem dX6_count_18 : decode cX6_count 18 = .ok (.iinc 2 1, 3) := by decide +kernel
theorem dX6_count_21 : decode cX6_count 21 = .ok (.goto (-17), 3) := by decide +kernel
theorem dX6_count_24 : decode cX6_count 24 = .ok (.iload_n 1, 1) := by decide +kernel
theorem dX6_count_25 : decode cX6_count 25 = .ok (.ireturn, 1) := by decide +kernel
theorem dX6_join_0 : decode cX6_join 0 = .ok (.aload_n 0, 1) := by decide +kernel
theorem dX6_join_1 : decode cX6_join 1 = .ok (.iload_n 1, 1) := by decide +kernel
theorem dX6_join_2 : decode cX6_join 2 = .ok (.invokevirtual 171, 3) := by decide +kernel
theorem dX6_join_5 : decode cX6_join 5 = .ok (.ifCond .eq 14, 3) := by decide +kernel
theorem dX6_join_8 : decode cX6_join 8 = .ok (.iload_n 2, 1) := by decide +kernel
theorem dX6_join_9 : decode cX6_join 9 = .ok (.invokestatic 177, 3) := by decide +kernel
theorem dX6_join_12 : decode cX6_join 12 = .ok (.ifCond .eq 7, 3) := by decide +kernel
theorem dX6_join_15 : decode cX6_join 15 = .ok (.iconst 1, 1) := by decide +kernel
theorem dX6_join_16 : decode cX6_join 16 = .ok (.goto 4, 3) := by decide +kernel
theorem dX6_join_19 : decode cX6_join 19 = .ok (.iconst 0, 1) := by decide +kernel
theorem dX6_join_20 : decode cX6_join 20 = .ok (.istore_n 3, 1) := by decide +kernel
theorem dX6_join_21 : decode cX6_join 21 = .ok (.aload_n 0, 1) := by decide +kernel
theorem dX6_join_22 : decode cX6_join 22 = .ok (.iload_n 3, 1) := by decide +kernel
theorem dX6_join_23 : decode cX6_join 23 = .ok (.ifCond .ne 7, 3) := by decide +kernel
theorem dX6_join_26 : decode cX6_join 26 = .ok (.iconst 1, 1) := by decide +kernel
theorem dX6_join_27 : decode cX6_join 27 = .ok (.goto 34, 3) := by decide +kernel
theorem dX6_join_30 : decode cX6_join 30 = .ok (.aload_n 0, 1) := by decide +kernel
theorem dX6_join_31 : decode cX6_join 31 = .ok (.iload_n 1, 1) := by decide +kernel
theorem dX6_join_32 : decode cX6_join 32 = .ok (.invokevirtual 174, 3) := by decide +kernel
theorem dX6_join_35 : decode cX6_join 35 = .ok (.ifCond .ne 21, 3) := by decide +kernel
theorem dX6_join_38 : decode cX6_join 38 = .ok (.aload_n 0, 1) := by decide +kernel
theorem dX6_join_39 : decode cX6_join 39 = .ok (.iload_n 1, 1) := by decide +kernel
theorem dX6_join_40 : decode cX6_join 40 = .ok (.iload_n 2, 1) := by decide +kernel
theorem dX6_join_41 : decode cX6_join 41 = .ok (.invokevirtual 180, 3) := by decide +kernel
theorem dX6_join_44 : decode cX6_join 44 = .ok (.ifCond .ne 12, 3) := by decide +kernel
theorem dX6_join_47 : decode cX6_join 47 = .ok (.aload_n 0, 1) := by decide +kernel
theorem dX6_join_48 : decode cX6_join 48 = .ok (.iload_n 1, 1) := by decide +kernel
theorem dX6_join_49 : decode cX6_join 49 = .ok (.iload_n 2, 1) := by decide +kernel
theorem dX6_join_50 : decode cX6_join 50 = .ok (.invokevirtual 183, 3) := by decide +kernel
theorem dX6_join_53 : decode cX6_join 53 = .ok (.ifCond .eq 7, 3) := by decide +kernel
theorem dX6_join_56 : decode cX6_join 56 = .ok (.iconst 2, 1) := by decide +kernel
theorem dX6_join_57 : decode cX6_join 57 = .ok (.goto 4, 3) := by decide +kernel
theorem dX6_join_60 : decode cX6_join 60 = .ok (.iconst 0, 1) := by decide +kernel
theorem dX6_join_61 : decode cX6_join 61 = .ok (.invokevirtual 143, 3) := by decide +kernel
theorem dX6_join_64 : decode cX6_join 64 = .ok (.ifCond .ne 5, 3) := by decide +kernel
theorem dX6_join_67 : decode cX6_join 67 = .ok (.iconst 0, 1) := by decide +kernel
theorem dX6_join_68 : decode cX6_join 68 = .ok (.ireturn, 1) := by decide +kernel
theorem dX6_join_69 : decode cX6_join 69 = .ok (.aload_n 0, 1) := by decide +kernel
theorem dX6_join_70 : decode cX6_join 70 = .ok (.getfield 13, 3) := by decide +kernel
theorem dX6_join_73 : decode cX6_join 73 = .ok (.iload_n 1, 1) := by decide +kernel
theorem dX6_join_74 : decode cX6_join 74 = .ok (.iaload, 1) := by decide +kernel
theorem dX6_join_75 : decode cX6_join 75 = .ok (.iload_n 2, 1) := by decide +kernel
theorem dX6_join_76 : decode cX6_join 76 = .ok (.invokestatic 81, 3) := by decide +kernel
theorem dX6_join_79 : decode cX6_join 79 = .ok (.istore 4, 2) := by decide +kernel
theorem dX6_join_81 : decode cX6_join 81 = .ok (.aload_n 0, 1) := by decide +kernel
theorem dX6_join_82 : decode cX6_join 82 = .ok (.getfield 25, 3) := by decide +kernel
theorem dX6_join_85 : decode cX6_join 85 = .ok (.iload 4, 2) := by decide +kernel
theorem dX6_join_87 : decode cX6_join 87 = .ok (.iaload, 1) := by decide +kernel
theorem dX6_join_88 : decode cX6_join 88 = .ok (.iconst (-1), 1) := by decide +kernel
theorem dX6_join_89 : decode cX6_join 89 = .ok (.if_icmp .ne 38, 3) := by decide +kernel
theorem dX6_join_92 : decode cX6_join 92 = .ok (.aload_n 0, 1) := by decide +kernel
theorem dX6_join_93 : decode cX6_join 93 = .ok (.getfield 25, 3) := by decide +kernel
theorem dX6_join_96 : decode cX6_join 96 = .ok (.iload 4, 2) := by decide +kernel
theorem dX6_join_98 : decode cX6_join 98 = .ok (.aload_n 0, 1) := by decide +kernel
theorem dX6_join_99 : decode cX6_join 99 = .ok (.getfield 149, 3) := by decide +kernel
theorem dX6_join_102 : decode cX6_join 102 = .ok (.iastore, 1) := by decide +kernel
theorem dX6_join_103 : decode cX6_join 103 = .ok (.aload_n 0, 1) := by decide +kernel
theorem dX6_join_104 : decode cX6_join 104 = .ok (.getfield 28, 3) := by decide +kernel
theorem dX6_join_107 : decode cX6_join 107 = .ok (.iload 4, 2) := by decide +kernel
theorem dX6_join_109 : decode cX6_join 109 = .ok (.iconst 0, 1) := by decide +kernel
theorem dX6_join_110 : decode cX6_join 110 = .ok (.iastore, 1) := by decide +kernel
theorem dX6_join_111 : decode cX6_join 111 = .ok (.aload_n 0, 1) := by decide +kernel
theorem dX6_join_112 : decode cX6_join 112 = .ok (.getfield 31, 3) := by decide +kernel
theorem dX6_join_115 : decode cX6_join 115 = .ok (.iload 4, 2) := by decide +kernel
theorem dX6_join_117 : decode cX6_join 117 = .ok (.iconst 0, 1) := by decide +kernel
theorem dX6_join_118 : decode cX6_join 118 = .ok (.iastore, 1) := by decide +kernel
theorem dX6_join_119 : decode cX6_join 119 = .ok (.aload_n 0, 1) := by decide +kernel
theorem dX6_join_120 : decode cX6_join 120 = .ok (.getfield 34, 3) := by decide +kernel
theorem dX6_join_123 : decode cX6_join 123 = .ok (.iload 4, 2) := by decide +kernel
theorem dX6_join_125 : decode cX6_join 125 = .ok (.iconst 0, 1) := by decide +kernel
theorem dX6_join_126 : decode cX6_join 126 = .ok (.iastore, 1) := by decide +kernel
theorem dX6_join_127 : decode cX6_join 127 = .ok (.aload_n 0, 1) := by decide +kernel
theorem dX6_join_128 : decode cX6_join 128 = .ok (.getfield 34, 3) := by decide +kernel
theorem dX6_join_131 : decode cX6_join 131 = .ok (.iload 4, 2) := by decide +kernel
theorem dX6_join_133 : decode cX6_join 133 = .ok (.dup2, 1) := by decide +kernel
theorem dX6_join_134 : decode cX6_join 134 = .ok (.iaload, 1) := by decide +kernel
theorem dX6_join_135 : decode cX6_join 135 = .ok (.iconst 1, 1) := by decide +kernel
theorem dX6_join_136 : decode cX6_join 136 = .ok (.iload_n 1, 1) := by decide +kernel
theorem dX6_join_137 : decode cX6_join 137 = .ok (.ishl, 1) := by decide +kernel
theorem dX6_join_138 : decode cX6_join 138 = .ok (.ior, 1) := by decide +kernel
theorem dX6_join_139 : decode cX6_join 139 = .ok (.iastore, 1) := by decide +kernel
theorem dX6_join_140 : decode cX6_join 140 = .ok (.aload_n 0, 1) := by decide +kernel
theorem dX6_join_141 : decode cX6_join 141 = .ok (.iconst 2, 1) := by decide +kernel
theorem dX6_join_142 : decode cX6_join 142 = .ok (.aload_n 0, 1) := by decide +kernel
theorem dX6_join_143 : decode cX6_join 143 = .ok (.getfield 13, 3) := by decide +kernel
theorem dX6_join_146 : decode cX6_join 146 = .ok (.iload_n 1, 1) := by decide +kernel
theorem dX6_join_147 : decode cX6_join 147 = .ok (.iaload, 1) := by decide +kernel
theorem dX6_join_148 : decode cX6_join 148 = .ok (.iload_n 2, 1) := by decide +kernel
theorem dX6_join_149 : decode cX6_join 149 = .ok (.iconst 1, 1) := by decide +kernel
theorem dX6_join_150 : decode cX6_join 150 = .ok (.iload_n 1, 1) := by decide +kernel
theorem dX6_join_151 : decode cX6_join 151 = .ok (.ishl, 1) := by decide +kernel
theorem dX6_join_152 : decode cX6_join 152 = .ok (.invokevirtual 135, 3) := by decide +kernel
theorem dX6_join_155 : decode cX6_join 155 = .ok (.aload_n 0, 1) := by decide +kernel
theorem dX6_join_156 : decode cX6_join 156 = .ok (.aload_n 0, 1) := by decide +kernel
theorem dX6_join_157 : decode cX6_join 157 = .ok (.getfield 13, 3) := by decide +kernel
theorem dX6_join_160 : decode cX6_join 160 = .ok (.iload_n 1, 1) := by decide +kernel
theorem dX6_join_161 : decode cX6_join 161 = .ok (.iaload, 1) := by decide +kernel
theorem dX6_join_162 : decode cX6_join 162 = .ok (.iconst (-1), 1) := by decide +kernel
theorem dX6_join_163 : decode cX6_join 163 = .ok (.invokevirtual 125, 3) := by decide +kernel
theorem dX6_join_166 : decode cX6_join 166 = .ok (.aload_n 0, 1) := by decide +kernel
theorem dX6_join_167 : decode cX6_join 167 = .ok (.dup, 1) := by decide +kernel
theorem dX6_join_168 : decode cX6_join 168 = .ok (.getfield 149, 3) := by decide +kernel
theorem dX6_join_171 : decode cX6_join 171 = .ok (.iconst 1, 1) := by decide +kernel
theorem dX6_join_172 : decode cX6_join 172 = .ok (.iadd, 1) := by decide +kernel
theorem dX6_join_173 : decode cX6_join 173 = .ok (.putfield 149, 3) := by decide +kernel
theorem dX6_join_176 : decode cX6_join 176 = .ok (.aload_n 0, 1) := by decide +kernel
theorem dX6_join_177 : decode cX6_join 177 = .ok (.getfield 34, 3) := by decide +kernel
theorem dX6_join_180 : decode cX6_join 180 = .ok (.iload 4, 2) := by decide +kernel
theorem dX6_join_182 : decode cX6_join 182 = .ok (.iaload, 1) := by decide +kernel
theorem dX6_join_183 : decode cX6_join 183 = .ok (.invokestatic 186, 3) := by decide +kernel
theorem dX6_join_186 : decode cX6_join 186 = .ok (.ireturn, 1) := by decide +kernel
theorem dX6_leave_0 : decode cX6_leave 0 = .ok (.aload_n 0, 1) := by decide +kernel
theorem dX6_leave_1 : decode cX6_leave 1 = .ok (.iload_n 1, 1) := by decide +kernel
theorem dX6_leave_2 : decode cX6_leave 2 = .ok (.invokevirtual 171, 3) := by decide +kernel
theorem dX6_leave_5 : decode cX6_leave 5 = .ok (.ifCond .eq 14, 3) := by decide +kernel
theorem dX6_leave_8 : decode cX6_leave 8 = .ok (.iload_n 2, 1) := by decide +kernel
theorem dX6_leave_9 : decode cX6_leave 9 = .ok (.invokestatic 177, 3) := by decide +kernel
theorem dX6_leave_12 : decode cX6_leave 12 = .ok (.ifCond .eq 7, 3) := by decide +kernel
theorem dX6_leave_15 : decode cX6_leave 15 = .ok (.iconst 1, 1) := by decide +kernel
theorem dX6_leave_16 : decode cX6_leave 16 = .ok (.goto 4, 3) := by decide +kernel
theorem dX6_leave_19 : decode cX6_leave 19 = .ok (.iconst 0, 1) := by decide +kernel
theorem dX6_leave_20 : decode cX6_leave 20 = .ok (.istore_n 3, 1) := by decide +kernel
theorem dX6_leave_21 : decode cX6_leave 21 = .ok (.aload_n 0, 1) := by decide +kernel
theorem dX6_leave_22 : decode cX6_leave 22 = .ok (.iload_n 3, 1) := by decide +kernel
theorem dX6_leave_23 : decode cX6_leave 23 = .ok (.ifCond .ne 7, 3) := by decide +kernel
theorem dX6_leave_26 : decode cX6_leave 26 = .ok (.iconst 1, 1) := by decide +kernel
theorem dX6_leave_27 : decode cX6_leave 27 = .ok (.goto 25, 3) := by decide +kernel
theorem dX6_leave_30 : decode cX6_leave 30 = .ok (.aload_n 0, 1) := by decide +kernel
theorem dX6_leave_31 : decode cX6_leave 31 = .ok (.iload_n 1, 1) := by decide +kernel
theorem dX6_leave_32 : decode cX6_leave 32 = .ok (.invokevirtual 174, 3) := by decide +kernel
theorem dX6_leave_35 : decode cX6_leave 35 = .ok (.ifCond .ne 12, 3) := by decide +kernel
theorem dX6_leave_38 : decode cX6_leave 38 = .ok (.aload_n 0, 1) := by decide +kernel
theorem dX6_leave_39 : decode cX6_leave 39 = .ok (.iload_n 1, 1) := by decide +kernel
theorem dX6_leave_40 : decode cX6_leave 40 = .ok (.iload_n 2, 1) := by decide +kernel
theorem dX6_leave_41 : decode cX6_leave 41 = .ok (.invokevirtual 180, 3) := by decide +kernel
theorem dX6_leave_44 : decode cX6_leave 44 = .ok (.ifCond .ne 7, 3) := by decide +kernel
theorem dX6_leave_47 : decode cX6_leave 47 = .ok (.iconst 2, 1) := by decide +kernel
theorem dX6_leave_48 : decode cX6_leave 48 = .ok (.goto 4, 3) := by decide +kernel
theorem dX6_leave_51 : decode cX6_leave 51 = .ok (.iconst 0, 1) := by decide +kernel
theorem dX6_leave_52 : decode cX6_leave 52 = .ok (.invokevirtual 143, 3) := by decide +kernel
theorem dX6_leave_55 : decode cX6_leave 55 = .ok (.ifCond .eq 43, 3) := by decide +kernel
theorem dX6_leave_58 : decode cX6_leave 58 = .ok (.aload_n 0, 1) := by decide +kernel
theorem dX6_leave_59 : decode cX6_leave 59 = .ok (.aload_n 0, 1) := by decide +kernel
theorem dX6_leave_60 : decode cX6_leave 60 = .ok (.getfield 13, 3) := by decide +kernel
theorem dX6_leave_63 : decode cX6_leave 63 = .ok (.iload_n 1, 1) := by decide +kernel
theorem dX6_leave_64 : decode cX6_leave 64 = .ok (.iaload, 1) := by decide +kernel
theorem dX6_leave_65 : decode cX6_leave 65 = .ok (.iload_n 2, 1) := by decide +kernel
theorem dX6_leave_66 : decode cX6_leave 66 = .ok (.iload_n 1, 1) := by decide +kernel
theorem dX6_leave_67 : decode cX6_leave 67 = .ok (.invokevirtual 108, 3) := by decide +kernel
theorem dX6_leave_70 : decode cX6_leave 70 = .ok (.aload_n 0, 1) := by decide +kernel
theorem dX6_leave_71 : decode cX6_leave 71 = .ok (.iconst 3, 1) := by decide +kernel
theorem dX6_leave_72 : decode cX6_leave 72 = .ok (.iload_n 2, 1) := by decide +kernel
theorem dX6_leave_73 : decode cX6_leave 73 = .ok (.iload_n 1, 1) := by decide +kernel
theorem dX6_leave_74 : decode cX6_leave 74 = .ok (.invokevirtual 77, 3) := by decide +kernel
theorem dX6_leave_77 : decode cX6_leave 77 = .ok (.aload_n 0, 1) := by decide +kernel
theorem dX6_leave_78 : decode cX6_leave 78 = .ok (.aload_n 0, 1) := by decide +kernel
theorem dX6_leave_79 : decode cX6_leave 79 = .ok (.getfield 13, 3) := by decide +kernel
theorem dX6_leave_82 : decode cX6_leave 82 = .ok (.iload_n 1, 1) := by decide +kernel
theorem dX6_leave_83 : decode cX6_leave 83 = .ok (.iaload, 1) := by decide +kernel
theorem dX6_leave_84 : decode cX6_leave 84 = .ok (.iconst (-1), 1) := by decide +kernel
theorem dX6_leave_85 : decode cX6_leave 85 = .ok (.invokevirtual 125, 3) := by decide +kernel
theorem dX6_leave_88 : decode cX6_leave 88 = .ok (.aload_n 0, 1) := by decide +kernel
theorem dX6_leave_89 : decode cX6_leave 89 = .ok (.dup, 1) := by decide +kernel
theorem dX6_leave_90 : decode cX6_leave 90 = .ok (.getfield 149, 3) := by decide +kernel
theorem dX6_leave_93 : decode cX6_leave 93 = .ok (.iconst 1, 1) := by decide +kernel
theorem dX6_leave_94 : decode cX6_leave 94 = .ok (.iadd, 1) := by decide +kernel
theorem dX6_leave_95 : decode cX6_leave 95 = .ok (.putfield 149, 3) := by decide +kernel
theorem dX6_leave_98 : decode cX6_leave 98 = .ok (.return_, 1) := by decide +kernel
theorem dX6_setModes_0 : decode cX6_setModes 0 = .ok (.aload_n 0, 1) := by decide +kernel
theorem dX6_setModes_1 : decode cX6_setModes 1 = .ok (.iload_n 1, 1) := by decide +kernel
theorem dX6_setModes_2 : decode cX6_setModes 2 = .ok (.invokevirtual 171, 3) := by decide +kernel
theorem dX6_setModes_5 : decode cX6_setModes 5 = .ok (.ifCond .eq 14, 3) := by decide +kernel
theorem dX6_setModes_8 : decode cX6_setModes 8 = .ok (.iload_n 2, 1) := by decide +kernel
theorem dX6_setModes_9 : decode cX6_setModes 9 = .ok (.invokestatic 177, 3) := by decide +kernel
theorem dX6_setModes_12 : decode cX6_setModes 12 = .ok (.ifCond .eq 7, 3) := by decide +kernel
theorem dX6_setModes_15 : decode cX6_setModes 15 = .ok (.iconst 1, 1) := by decide +kernel
theorem dX6_setModes_16 : decode cX6_setModes 16 = .ok (.goto 4, 3) := by decide +kernel
theorem dX6_setModes_19 : decode cX6_setModes 19 = .ok (.iconst 0, 1) := by decide +kernel
theorem dX6_setModes_20 : decode cX6_setModes 20 = .ok (.istore 5, 2) := by decide +kernel
theorem dX6_setModes_22 : decode cX6_setModes 22 = .ok (.iload_n 3, 1) := by decide +kernel
theorem dX6_setModes_23 : decode cX6_setModes 23 = .ok (.ifCond .lt 25, 3) := by decide +kernel
theorem dX6_setModes_26 : decode cX6_setModes 26 = .ok (.iload_n 3, 1) := by decide +kernel
theorem dX6_setModes_27 : decode cX6_setModes 27 = .ok (.bipush 15, 2) := by decide +kernel
theorem dX6_setModes_29 : decode cX6_setModes 29 = .ok (.if_icmp .gt 19, 3) := by decide +kernel
theorem dX6_setModes_32 : decode cX6_setModes 32 = .ok (.iload 4, 2) := by decide +kernel
theorem dX6_setModes_34 : decode cX6_setModes 34 = .ok (.ifCond .lt 14, 3) := by decide +kernel
theorem dX6_setModes_37 : decode cX6_setModes 37 = .ok (.iload 4, 2) := by decide +kernel
theorem dX6_setModes_39 : decode cX6_setModes 39 = .ok (.ldc 189, 2) := by decide +kernel
theorem dX6_setModes_41 : decode cX6_setModes 41 = .ok (.if_icmp .gt 7, 3) := by decide +kernel
theorem dX6_setModes_44 : decode cX6_setModes 44 = .ok (.iconst 1, 1) := by decide +kernel
theorem dX6_setModes_45 : decode cX6_setModes 45 = .ok (.goto 4, 3) := by decide +kernel
theorem dX6_setModes_48 : decode cX6_setModes 48 = .ok (.iconst 0, 1) := by decide +kernel
theorem dX6_setModes_49 : decode cX6_setModes 49 = .ok (.istore 6, 2) := by decide +kernel
theorem dX6_setModes_51 : decode cX6_setModes 51 = .ok (.aload_n 0, 1) := by decide +kernel
theorem dX6_setModes_52 : decode cX6_setModes 52 = .ok (.iload 5, 2) := by decide +kernel
theorem dX6_setModes_54 : decode cX6_setModes 54 = .ok (.ifCond .ne 7, 3) := by decide +kernel
theorem dX6_setModes_57 : decode cX6_setModes 57 = .ok (.iconst 1, 1) := by decide +kernel
theorem dX6_setModes_58 : decode cX6_setModes 58 = .ok (.goto 34, 3) := by decide +kernel
theorem dX6_setModes_61 : decode cX6_setModes 61 = .ok (.iload 6, 2) := by decide +kernel
theorem dX6_setModes_63 : decode cX6_setModes 63 = .ok (.ifCond .ne 7, 3) := by decide +kernel
theorem dX6_setModes_66 : decode cX6_setModes 66 = .ok (.iconst 2, 1) := by decide +kernel
theorem dX6_setModes_67 : decode cX6_setModes 67 = .ok (.goto 25, 3) := by decide +kernel
theorem dX6_setModes_70 : decode cX6_setModes 70 = .ok (.aload_n 0, 1) := by decide +kernel
theorem dX6_setModes_71 : decode cX6_setModes 71 = .ok (.iload_n 1, 1) := by decide +kernel
theorem dX6_setModes_72 : decode cX6_setModes 72 = .ok (.invokevirtual 174, 3) := by decide +kernel
theorem dX6_setModes_75 : decode cX6_setModes 75 = .ok (.ifCond .ne 12, 3) := by decide +kernel
theorem dX6_setModes_78 : decode cX6_setModes 78 = .ok (.aload_n 0, 1) := by decide +kernel
theorem dX6_setModes_79 : decode cX6_setModes 79 = .ok (.iload_n 1, 1) := by decide +kernel
theorem dX6_setModes_80 : decode cX6_setModes 80 = .ok (.iload_n 2, 1) := by decide +kernel
theorem dX6_setModes_81 : decode cX6_setModes 81 = .ok (.invokevirtual 180, 3) := by decide +kernel
theorem dX6_setModes_84 : decode cX6_setModes 84 = .ok (.ifCond .ne 7, 3) := by decide +kernel
theorem dX6_setModes_87 : decode cX6_setModes 87 = .ok (.iconst 3, 1) := by decide +kernel
theorem dX6_setModes_88 : decode cX6_setModes 88 = .ok (.goto 4, 3) := by decide +kernel
theorem dX6_setModes_91 : decode cX6_setModes 91 = .ok (.iconst 0, 1) := by decide +kernel
theorem dX6_setModes_92 : decode cX6_setModes 92 = .ok (.invokevirtual 143, 3) := by decide +kernel
theorem dX6_setModes_95 : decode cX6_setModes 95 = .ok (.ifCond .ne 5, 3) := by decide +kernel
theorem dX6_setModes_98 : decode cX6_setModes 98 = .ok (.iconst 0, 1) := by decide +kernel
theorem dX6_setModes_99 : decode cX6_setModes 99 = .ok (.ireturn, 1) := by decide +kernel
theorem dX6_setModes_100 : decode cX6_setModes 100 = .ok (.aload_n 0, 1) := by decide +kernel
theorem dX6_setModes_101 : decode cX6_setModes 101 = .ok (.getfield 13, 3) := by decide +kernel
theorem dX6_setModes_104 : decode cX6_setModes 104 = .ok (.iload_n 1, 1) := by decide +kernel
theorem dX6_setModes_105 : decode cX6_setModes 105 = .ok (.iaload, 1) := by decide +kernel
theorem dX6_setModes_106 : decode cX6_setModes 106 = .ok (.iload_n 2, 1) := by decide +kernel
theorem dX6_setModes_107 : decode cX6_setModes 107 = .ok (.invokestatic 81, 3) := by decide +kernel
theorem dX6_setModes_110 : decode cX6_setModes 110 = .ok (.istore 7, 2) := by decide +kernel
theorem dX6_setModes_112 : decode cX6_setModes 112 = .ok (.aload_n 0, 1) := by decide +kernel
theorem dX6_setModes_113 : decode cX6_setModes 113 = .ok (.getfield 28, 3) := by decide +kernel
theorem dX6_setModes_116 : decode cX6_setModes 116 = .ok (.iload 7, 2) := by decide +kernel
theorem dX6_setModes_118 : decode cX6_setModes 118 = .ok (.iaload, 1) := by decide +kernel
theorem dX6_setModes_119 : decode cX6_setModes 119 = .ok (.istore 8, 2) := by decide +kernel
theorem dX6_setModes_121 : decode cX6_setModes 121 = .ok (.aload_n 0, 1) := by decide +kernel
theorem dX6_setModes_122 : decode cX6_setModes 122 = .ok (.getfield 28, 3) := by decide +kernel
theorem dX6_setModes_125 : decode cX6_setModes 125 = .ok (.iload 7, 2) := by decide +kernel
theorem dX6_setModes_127 : decode cX6_setModes 127 = .ok (.iload_n 3, 1) := by decide +kernel
theorem dX6_setModes_128 : decode cX6_setModes 128 = .ok (.iastore, 1) := by decide +kernel
theorem dX6_setModes_129 : decode cX6_setModes 129 = .ok (.aload_n 0, 1) := by decide +kernel
theorem dX6_setModes_130 : decode cX6_setModes 130 = .ok (.getfield 31, 3) := by decide +kernel
theorem dX6_setModes_133 : decode cX6_setModes 133 = .ok (.iload 7, 2) := by decide +kernel
theorem dX6_setModes_135 : decode cX6_setModes 135 = .ok (.iload 4, 2) := by decide +kernel
theorem dX6_setModes_137 : decode cX6_setModes 137 = .ok (.iastore, 1) := by decide +kernel
theorem dX6_setModes_138 : decode cX6_setModes 138 = .ok (.aload_n 0, 1) := by decide +kernel
theorem dX6_setModes_139 : decode cX6_setModes 139 = .ok (.iconst 4, 1) := by decide +kernel
theorem dX6_setModes_140 : decode cX6_setModes 140 = .ok (.aload_n 0, 1) := by decide +kernel
theorem dX6_setModes_141 : decode cX6_setModes 141 = .ok (.getfield 13, 3) := by decide +kernel
theorem dX6_setModes_144 : decode cX6_setModes 144 = .ok (.iload_n 1, 1) := by decide +kernel
theorem dX6_setModes_145 : decode cX6_setModes 145 = .ok (.iaload, 1) := by decide +kernel
theorem dX6_setModes_146 : decode cX6_setModes 146 = .ok (.iload_n 2, 1) := by decide +kernel
theorem dX6_setModes_147 : decode cX6_setModes 147 = .ok (.iconst 0, 1) := by decide +kernel
theorem dX6_setModes_148 : decode cX6_setModes 148 = .ok (.invokevirtual 135, 3) := by decide +kernel
theorem dX6_setModes_151 : decode cX6_setModes 151 = .ok (.aload_n 0, 1) := by decide +kernel
theorem dX6_setModes_152 : decode cX6_setModes 152 = .ok (.aload_n 0, 1) := by decide +kernel
theorem dX6_setModes_153 : decode cX6_setModes 153 = .ok (.getfield 13, 3) := by decide +kernel
theorem dX6_setModes_156 : decode cX6_setModes 156 = .ok (.iload_n 1, 1) := by decide +kernel
theorem dX6_setModes_157 : decode cX6_setModes 157 = .ok (.iaload, 1) := by decide +kernel
theorem dX6_setModes_158 : decode cX6_setModes 158 = .ok (.iconst (-1), 1) := by decide +kernel
theorem dX6_setModes_159 : decode cX6_setModes 159 = .ok (.invokevirtual 125, 3) := by decide +kernel
theorem dX6_setModes_162 : decode cX6_setModes 162 = .ok (.aload_n 0, 1) := by decide +kernel
theorem dX6_setModes_163 : decode cX6_setModes 163 = .ok (.dup, 1) := by decide +kernel
theorem dX6_setModes_164 : decode cX6_setModes 164 = .ok (.getfield 149, 3) := by decide +kernel
theorem dX6_setModes_167 : decode cX6_setModes 167 = .ok (.iconst 1, 1) := by decide +kernel
theorem dX6_setModes_168 : decode cX6_setModes 168 = .ok (.iadd, 1) := by decide +kernel
theorem dX6_setModes_169 : decode cX6_setModes 169 = .ok (.putfield 149, 3) := by decide +kernel
theorem dX6_setModes_172 : decode cX6_setModes 172 = .ok (.iload 8, 2) := by decide +kernel
theorem dX6_setModes_174 : decode cX6_setModes 174 = .ok (.ireturn, 1) := by decide +kernel
theorem dX6_isEldest_0 : decode cX6_isEldest 0 = .ok (.iconst 1, 1) := by decide +kernel
theorem dX6_isEldest_1 : decode cX6_isEldest 1 = .ok (.istore_n 3, 1) := by decide +kernel
theorem dX6_isEldest_2 : decode cX6_isEldest 2 = .ok (.iconst 0, 1) := by decide +kernel
theorem dX6_isEldest_3 : decode cX6_isEldest 3 = .ok (.istore 4, 2) := by decide +kernel
theorem dX6_isEldest_5 : decode cX6_isEldest 5 = .ok (.iload 4, 2) := by decide +kernel
theorem dX6_isEldest_7 : decode cX6_isEldest 7 = .ok (.aload_n 0, 1) := by decide +kernel
theorem dX6_isEldest_8 : decode cX6_isEldest 8 = .ok (.getfield 111, 3) := by decide +kernel
theorem dX6_isEldest_11 : decode cX6_isEldest 11 = .ok (.if_icmp .ge 66, 3) := by decide +kernel
theorem dX6_isEldest_14 : decode cX6_isEldest 14 = .ok (.iload_n 3, 1) := by decide +kernel
theorem dX6_isEldest_15 : decode cX6_isEldest 15 = .ok (.ifCond .eq 54, 3) := by decide +kernel
theorem dX6_isEldest_18 : decode cX6_isEldest 18 = .ok (.iload_n 2, 1) := by decide +kernel
theorem dX6_isEldest_19 : decode cX6_isEldest 19 = .ok (.iload 4, 2) := by decide +kernel
theorem dX6_isEldest_21 : decode cX6_isEldest 21 = .ok (.invokestatic 100, 3) := by decide +kernel
theorem dX6_isEldest_24 : decode cX6_isEldest 24 = .ok (.ifCond .eq 41, 3) := by decide +kernel
theorem dX6_isEldest_27 : decode cX6_isEldest 27 = .ok (.aload_n 0, 1) := by decide +kernel
theorem dX6_isEldest_28 : decode cX6_isEldest 28 = .ok (.getfield 16, 3) := by decide +kernel
theorem dX6_isEldest_31 : decode cX6_isEldest 31 = .ok (.iload 4, 2) := by decide +kernel
theorem dX6_isEldest_33 : decode cX6_isEldest 33 = .ok (.iaload, 1) := by decide +kernel
theorem dX6_isEldest_34 : decode cX6_isEldest 34 = .ok (.aload_n 0, 1) := by decide +kernel
theorem dX6_isEldest_35 : decode cX6_isEldest 35 = .ok (.getfield 16, 3) := by decide +kernel
theorem dX6_isEldest_38 : decode cX6_isEldest 38 = .ok (.iload_n 1, 1) := by decide +kernel
theorem dX6_isEldest_39 : decode cX6_isEldest 39 = .ok (.iaload, 1) := by decide +kernel
theorem dX6_isEldest_40 : decode cX6_isEldest 40 = .ok (.if_icmp .lt 29, 3) := by decide +kernel
theorem dX6_isEldest_43 : decode cX6_isEldest 43 = .ok (.aload_n 0, 1) := by decide +kernel
theorem dX6_isEldest_44 : decode cX6_isEldest 44 = .ok (.getfield 16, 3) := by decide +kernel
theorem dX6_isEldest_47 : decode cX6_isEldest 47 = .ok (.iload 4, 2) := by decide +kernel
theorem dX6_isEldest_49 : decode cX6_isEldest 49 = .ok (.iaload, 1) := by decide +kernel
theorem dX6_isEldest_50 : decode cX6_isEldest 50 = .ok (.aload_n 0, 1) := by decide +kernel
theorem dX6_isEldest_51 : decode cX6_isEldest 51 = .ok (.getfield 16, 3) := by decide +kernel
theorem dX6_isEldest_54 : decode cX6_isEldest 54 = .ok (.iload_n 1, 1) := by decide +kernel
theorem dX6_isEldest_55 : decode cX6_isEldest 55 = .ok (.iaload, 1) := by decide +kernel
theorem dX6_isEldest_56 : decode cX6_isEldest 56 = .ok (.if_icmp .ne 9, 3) := by decide +kernel
theorem dX6_isEldest_59 : decode cX6_isEldest 59 = .ok (.iload 4, 2) := by decide +kernel
theorem dX6_isEldest_61 : decode cX6_isEldest 61 = .ok (.iload_n 1, 1) := by decide +kernel
theorem dX6_isEldest_62 : decode cX6_isEldest 62 = .ok (.if_icmp .lt 7, 3) := by decide +kernel
theorem dX6_isEldest_65 : decode cX6_isEldest 65 = .ok (.iconst 1, 1) := by decide +kernel
theorem dX6_isEldest_66 : decode cX6_isEldest 66 = .ok (.goto 4, 3) := by decide +kernel
theorem dX6_isEldest_69 : decode cX6_isEldest 69 = .ok (.iconst 0, 1) := by decide +kernel
theorem dX6_isEldest_70 : decode cX6_isEldest 70 = .ok (.istore_n 3, 1) := by decide +kernel
theorem dX6_isEldest_71 : decode cX6_isEldest 71 = .ok (.iinc 4 1, 3) := by decide +kernel
theorem dX6_isEldest_74 : decode cX6_isEldest 74 = .ok (.goto (-69), 3) := by decide +kernel
theorem dX6_isEldest_77 : decode cX6_isEldest 77 = .ok (.iload_n 3, 1) := by decide +kernel
theorem dX6_isEldest_78 : decode cX6_isEldest 78 = .ok (.ireturn, 1) := by decide +kernel
theorem dX6_behind_0 : decode cX6_behind 0 = .ok (.iconst 1, 1) := by decide +kernel
theorem dX6_behind_1 : decode cX6_behind 1 = .ok (.iload_n 1, 1) := by decide +kernel
theorem dX6_behind_2 : decode cX6_behind 2 = .ok (.ishl, 1) := by decide +kernel
theorem dX6_behind_3 : decode cX6_behind 3 = .ok (.istore_n 3, 1) := by decide +kernel
theorem dX6_behind_4 : decode cX6_behind 4 = .ok (.iconst 0, 1) := by decide +kernel
theorem dX6_behind_5 : decode cX6_behind 5 = .ok (.istore 4, 2) := by decide +kernel
theorem dX6_behind_7 : decode cX6_behind 7 = .ok (.iload_n 3, 1) := by decide +kernel
theorem dX6_behind_8 : decode cX6_behind 8 = .ok (.iload 4, 2) := by decide +kernel
theorem dX6_behind_10 : decode cX6_behind 10 = .ok (.if_icmp .eq 54, 3) := by decide +kernel
theorem dX6_behind_13 : decode cX6_behind 13 = .ok (.iload_n 3, 1) := by decide +kernel
theorem dX6_behind_14 : decode cX6_behind 14 = .ok (.istore 4, 2) := by decide +kernel
theorem dX6_behind_16 : decode cX6_behind 16 = .ok (.iconst 0, 1) := by decide +kernel
theorem dX6_behind_17 : decode cX6_behind 17 = .ok (.istore 5, 2) := by decide +kernel
theorem dX6_behind_19 : decode cX6_behind 19 = .ok (.iload 5, 2) := by decide +kernel
theorem dX6_behind_21 : decode cX6_behind 21 = .ok (.bipush 6, 2) := by decide +kernel
theorem dX6_behind_23 : decode cX6_behind 23 = .ok (.if_icmp .ge 38, 3) := by decide +kernel
theorem dX6_behind_26 : decode cX6_behind 26 = .ok (.iload_n 3, 1) := by decide +kernel
theorem dX6_behind_27 : decode cX6_behind 27 = .ok (.iload_n 3, 1) := by decide +kernel
theorem dX6_behind_28 : decode cX6_behind 28 = .ok (.iload 5, 2) := by decide +kernel
theorem dX6_behind_30 : decode cX6_behind 30 = .ok (.invokestatic 100, 3) := by decide +kernel
theorem dX6_behind_33 : decode cX6_behind 33 = .ok (.ifCond .eq 19, 3) := by decide +kernel
theorem dX6_behind_36 : decode cX6_behind 36 = .ok (.aload_n 0, 1) := by decide +kernel
theorem dX6_behind_37 : decode cX6_behind 37 = .ok (.getfield 19, 3) := by decide +kernel
theorem dX6_behind_40 : decode cX6_behind 40 = .ok (.iload 5, 2) := by decide +kernel
theorem dX6_behind_42 : decode cX6_behind 42 = .ok (.iaload, 1) := by decide +kernel
theorem dX6_behind_43 : decode cX6_behind 43 = .ok (.iconst 1, 1) := by decide +kernel
theorem dX6_behind_44 : decode cX6_behind 44 = .ok (.iload_n 2, 1) := by decide +kernel
theorem dX6_behind_45 : decode cX6_behind 45 = .ok (.ishl, 1) := by decide +kernel
theorem dX6_behind_46 : decode cX6_behind 46 = .ok (.iconst (-1), 1) := by decide +kernel
theorem dX6_behind_47 : decode cX6_behind 47 = .ok (.ixor, 1) := by decide +kernel
theorem dX6_behind_48 : decode cX6_behind 48 = .ok (.iand, 1) := by decide +kernel
theorem dX6_behind_49 : decode cX6_behind 49 = .ok (.goto 4, 3) := by decide +kernel
theorem dX6_behind_52 : decode cX6_behind 52 = .ok (.iconst 0, 1) := by decide +kernel
theorem dX6_behind_53 : decode cX6_behind 53 = .ok (.ior, 1) := by decide +kernel
theorem dX6_behind_54 : decode cX6_behind 54 = .ok (.istore_n 3, 1) := by decide +kernel
theorem dX6_behind_55 : decode cX6_behind 55 = .ok (.iinc 5 1, 3) := by decide +kernel
theorem dX6_behind_58 : decode cX6_behind 58 = .ok (.goto (-39), 3) := by decide +kernel
theorem dX6_behind_61 : decode cX6_behind 61 = .ok (.goto (-54), 3) := by decide +kernel
theorem dX6_behind_64 : decode cX6_behind 64 = .ok (.iload_n 3, 1) := by decide +kernel
theorem dX6_behind_65 : decode cX6_behind 65 = .ok (.ireturn, 1) := by decide +kernel
theorem dX6_homesOf_0 : decode cX6_homesOf 0 = .ok (.iconst 0, 1) := by decide +kernel
theorem dX6_homesOf_1 : decode cX6_homesOf 1 = .ok (.istore_n 2, 1) := by decide +kernel
theorem dX6_homesOf_2 : decode cX6_homesOf 2 = .ok (.iconst 0, 1) := by decide +kernel
theorem dX6_homesOf_3 : decode cX6_homesOf 3 = .ok (.istore_n 3, 1) := by decide +kernel
theorem dX6_homesOf_4 : decode cX6_homesOf 4 = .ok (.iload_n 3, 1) := by decide +kernel
theorem dX6_homesOf_5 : decode cX6_homesOf 5 = .ok (.aload_n 0, 1) := by decide +kernel
theorem dX6_homesOf_6 : decode cX6_homesOf 6 = .ok (.getfield 111, 3) := by decide +kernel
theorem dX6_homesOf_9 : decode cX6_homesOf 9 = .ok (.if_icmp .ge 32, 3) := by decide +kernel
theorem dX6_homesOf_12 : decode cX6_homesOf 12 = .ok (.iload_n 2, 1) := by decide +kernel
theorem dX6_homesOf_13 : decode cX6_homesOf 13 = .ok (.iload_n 1, 1) := by decide +kernel
theorem dX6_homesOf_14 : decode cX6_homesOf 14 = .ok (.iload_n 3, 1) := by decide +kernel
theorem dX6_homesOf_15 : decode cX6_homesOf 15 = .ok (.invokestatic 100, 3) := by decide +kernel
theorem dX6_homesOf_18 : decode cX6_homesOf 18 = .ok (.ifCond .eq 14, 3) := by decide +kernel
theorem dX6_homesOf_21 : decode cX6_homesOf 21 = .ok (.iconst 1, 1) := by decide +kernel
theorem dX6_homesOf_22 : decode cX6_homesOf 22 = .ok (.aload_n 0, 1) := by decide +kernel
theorem dX6_homesOf_23 : decode cX6_homesOf 23 = .ok (.getfield 13, 3) := by decide +kernel
theorem dX6_homesOf_26 : decode cX6_homesOf 26 = .ok (.iload_n 3, 1) := by decide +kernel
theorem dX6_homesOf_27 : decode cX6_homesOf 27 = .ok (.iaload, 1) := by decide +kernel
theorem dX6_homesOf_28 : decode cX6_homesOf 28 = .ok (.ishl, 1) := by decide +kernel
theorem dX6_homesOf_29 : decode cX6_homesOf 29 = .ok (.goto 4, 3) := by decide +kernel
theorem dX6_homesOf_32 : decode cX6_homesOf 32 = .ok (.iconst 0, 1) := by decide +kernel
theorem dX6_homesOf_33 : decode cX6_homesOf 33 = .ok (.ior, 1) := by decide +kernel
theorem dX6_homesOf_34 : decode cX6_homesOf 34 = .ok (.istore_n 2, 1) := by decide +kernel
theorem dX6_homesOf_35 : decode cX6_homesOf 35 = .ok (.iinc 3 1, 3) := by decide +kernel
theorem dX6_homesOf_38 : decode cX6_homesOf 38 = .ok (.goto (-34), 3) := by decide +kernel
theorem dX6_homesOf_41 : decode cX6_homesOf 41 = .ok (.iload_n 2, 1) := by decide +kernel
theorem dX6_homesOf_42 : decode cX6_homesOf 42 = .ok (.ireturn, 1) := by decide +kernel
theorem dX6_say_0 : decode cX6_say 0 = .ok (.aload_n 0, 1) := by decide +kernel
theorem dX6_say_1 : decode cX6_say 1 = .ok (.aload_n 0, 1) := by decide +kernel
theorem dX6_say_2 : decode cX6_say 2 = .ok (.iload_n 1, 1) := by decide +kernel
theorem dX6_say_3 : decode cX6_say 3 = .ok (.invokevirtual 171, 3) := by decide +kernel
theorem dX6_say_6 : decode cX6_say 6 = .ok (.ifCond .eq 14, 3) := by decide +kernel
theorem dX6_say_9 : decode cX6_say 9 = .ok (.iload_n 2, 1) := by decide +kernel
theorem dX6_say_10 : decode cX6_say 10 = .ok (.invokestatic 177, 3) := by decide +kernel
theorem dX6_say_13 : decode cX6_say 13 = .ok (.ifCond .eq 7, 3) := by decide +kernel
theorem dX6_say_16 : decode cX6_say 16 = .ok (.iconst 0, 1) := by decide +kernel
theorem dX6_say_17 : decode cX6_say 17 = .ok (.goto 4, 3) := by decide +kernel
theorem dX6_say_20 : decode cX6_say 20 = .ok (.iconst 1, 1) := by decide +kernel
theorem dX6_say_21 : decode cX6_say 21 = .ok (.invokevirtual 143, 3) := by decide +kernel
theorem dX6_say_24 : decode cX6_say 24 = .ok (.ifCond .ne 5, 3) := by decide +kernel
theorem dX6_say_27 : decode cX6_say 27 = .ok (.iconst 0, 1) := by decide +kernel
theorem dX6_say_28 : decode cX6_say 28 = .ok (.ireturn, 1) := by decide +kernel
theorem dX6_say_29 : decode cX6_say 29 = .ok (.aload_n 0, 1) := by decide +kernel
theorem dX6_say_30 : decode cX6_say 30 = .ok (.iload_n 1, 1) := by decide +kernel
theorem dX6_say_31 : decode cX6_say 31 = .ok (.invokevirtual 174, 3) := by decide +kernel
theorem dX6_say_34 : decode cX6_say 34 = .ok (.ifCond .eq 6, 3) := by decide +kernel
theorem dX6_say_37 : decode cX6_say 37 = .ok (.bipush (-2), 2) := by decide +kernel
theorem dX6_say_39 : decode cX6_say 39 = .ok (.ireturn, 1) := by decide +kernel
theorem dX6_say_40 : decode cX6_say 40 = .ok (.aload_n 0, 1) := by decide +kernel
theorem dX6_say_41 : decode cX6_say 41 = .ok (.iload_n 1, 1) := by decide +kernel
theorem dX6_say_42 : decode cX6_say 42 = .ok (.iload_n 2, 1) := by decide +kernel
theorem dX6_say_43 : decode cX6_say 43 = .ok (.invokevirtual 180, 3) := by decide +kernel
theorem dX6_say_46 : decode cX6_say 46 = .ok (.ifCond .ne 6, 3) := by decide +kernel
theorem dX6_say_49 : decode cX6_say 49 = .ok (.bipush (-3), 2) := by decide +kernel
theorem dX6_say_51 : decode cX6_say 51 = .ok (.ireturn, 1) := by decide +kernel
theorem dX6_say_52 : decode cX6_say 52 = .ok (.aload_n 0, 1) := by decide +kernel
theorem dX6_say_53 : decode cX6_say 53 = .ok (.getfield 13, 3) := by decide +kernel
theorem dX6_say_56 : decode cX6_say 56 = .ok (.iload_n 1, 1) := by decide +kernel
theorem dX6_say_57 : decode cX6_say 57 = .ok (.iaload, 1) := by decide +kernel
theorem dX6_say_58 : decode cX6_say 58 = .ok (.istore_n 3, 1) := by decide +kernel
theorem dX6_say_59 : decode cX6_say 59 = .ok (.iload_n 3, 1) := by decide +kernel
theorem dX6_say_60 : decode cX6_say 60 = .ok (.iload_n 2, 1) := by decide +kernel
theorem dX6_say_61 : decode cX6_say 61 = .ok (.invokestatic 81, 3) := by decide +kernel
theorem dX6_say_64 : decode cX6_say 64 = .ok (.istore 4, 2) := by decide +kernel
theorem dX6_say_66 : decode cX6_say 66 = .ok (.aload_n 0, 1) := by decide +kernel
theorem dX6_say_67 : decode cX6_say 67 = .ok (.getfield 31, 3) := by decide +kernel
theorem dX6_say_70 : decode cX6_say 70 = .ok (.iload 4, 2) := by decide +kernel
theorem dX6_say_72 : decode cX6_say 72 = .ok (.iaload, 1) := by decide +kernel
theorem dX6_say_73 : decode cX6_say 73 = .ok (.aload_n 0, 1) := by decide +kernel
theorem dX6_say_74 : decode cX6_say 74 = .ok (.getfield 7, 3) := by decide +kernel
theorem dX6_say_77 : decode cX6_say 77 = .ok (.iload_n 1, 1) := by decide +kernel
theorem dX6_say_78 : decode cX6_say 78 = .ok (.iaload, 1) := by decide +kernel
theorem dX6_say_79 : decode cX6_say 79 = .ok (.invokestatic 100, 3) := by decide +kernel
theorem dX6_say_82 : decode cX6_say 82 = .ok (.ifCond .eq 6, 3) := by decide +kernel
theorem dX6_say_85 : decode cX6_say 85 = .ok (.bipush (-4), 2) := by decide +kernel
theorem dX6_say_87 : decode cX6_say 87 = .ok (.ireturn, 1) := by decide +kernel
theorem dX6_say_88 : decode cX6_say 88 = .ok (.aload_n 0, 1) := by decide +kernel
theorem dX6_say_89 : decode cX6_say 89 = .ok (.getfield 28, 3) := by decide +kernel
theorem dX6_say_92 : decode cX6_say 92 = .ok (.iload 4, 2) := by decide +kernel
theorem dX6_say_94 : decode cX6_say 94 = .ok (.iaload, 1) := by decide +kernel
theorem dX6_say_95 : decode cX6_say 95 = .ok (.iconst 0, 1) := by decide +kernel
theorem dX6_say_96 : decode cX6_say 96 = .ok (.invokestatic 100, 3) := by decide +kernel
theorem dX6_say_99 : decode cX6_say 99 = .ok (.ifCond .eq 21, 3) := by decide +kernel
theorem dX6_say_102 : decode cX6_say 102 = .ok (.aload_n 0, 1) := by decide +kernel
theorem dX6_say_103 : decode cX6_say 103 = .ok (.iload_n 1, 1) := by decide +kernel
theorem dX6_say_104 : decode cX6_say 104 = .ok (.aload_n 0, 1) := by decide +kernel
theorem dX6_say_105 : decode cX6_say 105 = .ok (.getfield 34, 3) := by decide +kernel
theorem dX6_say_108 : decode cX6_say 108 = .ok (.iload 4, 2) := by decide +kernel
theorem dX6_say_110 : decode cX6_say 110 = .ok (.iaload, 1) := by decide +kernel
theorem dX6_say_111 : decode cX6_say 111 = .ok (.invokevirtual 190, 3) := by decide +kernel
theorem dX6_say_114 : decode cX6_say 114 = .ok (.ifCond .ne 6, 3) := by decide +kernel
theorem dX6_say_117 : decode cX6_say 117 = .ok (.bipush (-5), 2) := by decide +kernel
theorem dX6_say_119 : decode cX6_say 119 = .ok (.ireturn, 1) := by decide +kernel
theorem dX6_say_120 : decode cX6_say 120 = .ok (.aload_n 0, 1) := by decide +kernel
theorem dX6_say_121 : decode cX6_say 121 = .ok (.aload_n 0, 1) := by decide +kernel
theorem dX6_say_122 : decode cX6_say 122 = .ok (.getfield 34, 3) := by decide +kernel
theorem dX6_say_125 : decode cX6_say 125 = .ok (.iload 4, 2) := by decide +kernel
theorem dX6_say_127 : decode cX6_say 127 = .ok (.iaload, 1) := by decide +kernel
theorem dX6_say_128 : decode cX6_say 128 = .ok (.iconst 1, 1) := by decide +kernel
theorem dX6_say_129 : decode cX6_say 129 = .ok (.iload_n 1, 1) := by decide +kernel
theorem dX6_say_130 : decode cX6_say 130 = .ok (.ishl, 1) := by decide +kernel
theorem dX6_say_131 : decode cX6_say 131 = .ok (.iconst (-1), 1) := by decide +kernel
theorem dX6_say_132 : decode cX6_say 132 = .ok (.ixor, 1) := by decide +kernel
theorem dX6_say_133 : decode cX6_say 133 = .ok (.iand, 1) := by decide +kernel
theorem dX6_say_134 : decode cX6_say 134 = .ok (.invokevirtual 193, 3) := by decide +kernel
theorem dX6_say_137 : decode cX6_say 137 = .ok (.aload_n 0, 1) := by decide +kernel
theorem dX6_say_138 : decode cX6_say 138 = .ok (.iload_n 3, 1) := by decide +kernel
theorem dX6_say_139 : decode cX6_say 139 = .ok (.invokevirtual 114, 3) := by decide +kernel
theorem dX6_say_142 : decode cX6_say 142 = .ok (.iand, 1) := by decide +kernel
theorem dX6_say_143 : decode cX6_say 143 = .ok (.istore 5, 2) := by decide +kernel
theorem dX6_say_145 : decode cX6_say 145 = .ok (.iconst 0, 1) := by decide +kernel
theorem dX6_say_146 : decode cX6_say 146 = .ok (.istore 6, 2) := by decide +kernel
theorem dX6_say_148 : decode cX6_say 148 = .ok (.iconst 0, 1) := by decide +kernel
theorem dX6_say_149 : decode cX6_say 149 = .ok (.istore 7, 2) := by decide +kernel
theorem dX6_say_151 : decode cX6_say 151 = .ok (.iload 7, 2) := by decide +kernel
theorem dX6_say_153 : decode cX6_say 153 = .ok (.bipush 6, 2) := by decide +kernel
theorem dX6_say_155 : decode cX6_say 155 = .ok (.if_icmp .ge 104, 3) := by decide +kernel
theorem dX6_say_158 : decode cX6_say 158 = .ok (.iconst 0, 1) := by decide +kernel
theorem dX6_say_159 : decode cX6_say 159 = .ok (.istore 8, 2) := by decide +kernel
theorem dX6_say_161 : decode cX6_say 161 = .ok (.iload 8, 2) := by decide +kernel
theorem dX6_say_163 : decode cX6_say 163 = .ok (.bipush 6, 2) := by decide +kernel
theorem dX6_say_165 : decode cX6_say 165 = .ok (.if_icmp .ge 88, 3) := by decide +kernel
theorem dX6_say_168 : decode cX6_say 168 = .ok (.aload_n 0, 1) := by decide +kernel
theorem dX6_say_169 : decode cX6_say 169 = .ok (.getfield 19, 3) := by decide +kernel
theorem dX6_say_172 : decode cX6_say 172 = .ok (.iload 7, 2) := by decide +kernel
theorem dX6_say_174 : decode cX6_say 174 = .ok (.iaload, 1) := by decide +kernel
theorem dX6_say_175 : decode cX6_say 175 = .ok (.iload 8, 2) := by decide +kernel
theorem dX6_say_177 : decode cX6_say 177 = .ok (.invokestatic 100, 3) := by decide +kernel
theorem dX6_say_180 : decode cX6_say 180 = .ok (.ifCond .eq 35, 3) := by decide +kernel
theorem dX6_say_183 : decode cX6_say 183 = .ok (.aload_n 0, 1) := by decide +kernel
theorem dX6_say_184 : decode cX6_say 184 = .ok (.iload 8, 2) := by decide +kernel
theorem dX6_say_186 : decode cX6_say 186 = .ok (.iload 7, 2) := by decide +kernel
theorem dX6_say_188 : decode cX6_say 188 = .ok (.invokevirtual 196, 3) := by decide +kernel
theorem dX6_say_191 : decode cX6_say 191 = .ok (.iload_n 3, 1) := by decide +kernel
theorem dX6_say_192 : decode cX6_say 192 = .ok (.invokestatic 100, 3) := by decide +kernel
theorem dX6_say_195 : decode cX6_say 195 = .ok (.ifCond .ne 20, 3) := by decide +kernel
theorem dX6_say_198 : decode cX6_say 198 = .ok (.aload_n 0, 1) := by decide +kernel
theorem dX6_say_199 : decode cX6_say 199 = .ok (.iload_n 3, 1) := by decide +kernel
theorem dX6_say_200 : decode cX6_say 200 = .ok (.invokevirtual 114, 3) := by decide +kernel
theorem dX6_say_203 : decode cX6_say 203 = .ok (.iload 7, 2) := by decide +kernel
theorem dX6_say_205 : decode cX6_say 205 = .ok (.invokestatic 100, 3) := by decide +kernel
theorem dX6_say_208 : decode cX6_say 208 = .ok (.ifCond .eq 7, 3) := by decide +kernel
theorem dX6_say_211 : decode cX6_say 211 = .ok (.iconst 1, 1) := by decide +kernel
theorem dX6_say_212 : decode cX6_say 212 = .ok (.goto 4, 3) := by decide +kernel
theorem dX6_say_215 : decode cX6_say 215 = .ok (.iconst 0, 1) := by decide +kernel
theorem dX6_say_216 : decode cX6_say 216 = .ok (.istore 9, 2) := by decide +kernel
theorem dX6_say_218 : decode cX6_say 218 = .ok (.iload 6, 2) := by decide +kernel
theorem dX6_say_220 : decode cX6_say 220 = .ok (.iload 9, 2) := by decide +kernel
theorem dX6_say_222 : decode cX6_say 222 = .ok (.ifCond .eq 21, 3) := by decide +kernel
theorem dX6_say_225 : decode cX6_say 225 = .ok (.aload_n 0, 1) := by decide +kernel
theorem dX6_say_226 : decode cX6_say 226 = .ok (.iload 8, 2) := by decide +kernel
theorem dX6_say_228 : decode cX6_say 228 = .ok (.iload 7, 2) := by decide +kernel
theorem dX6_say_230 : decode cX6_say 230 = .ok (.invokevirtual 196, 3) := by decide +kernel
theorem dX6_say_233 : decode cX6_say 233 = .ok (.iload 5, 2) := by decide +kernel
theorem dX6_say_235 : decode cX6_say 235 = .ok (.iand, 1) := by decide +kernel
theorem dX6_say_236 : decode cX6_say 236 = .ok (.ifCond .eq 7, 3) := by decide +kernel
theorem dX6_say_239 : decode cX6_say 239 = .ok (.iconst 1, 1) := by decide +kernel
theorem dX6_say_240 : decode cX6_say 240 = .ok (.goto 4, 3) := by decide +kernel
theorem dX6_say_243 : decode cX6_say 243 = .ok (.iconst 0, 1) := by decide +kernel
theorem dX6_say_244 : decode cX6_say 244 = .ok (.iadd, 1) := by decide +kernel
theorem dX6_say_245 : decode cX6_say 245 = .ok (.istore 6, 2) := by decide +kernel
theorem dX6_say_247 : decode cX6_say 247 = .ok (.iinc 8 1, 3) := by decide +kernel
theorem dX6_say_250 : decode cX6_say 250 = .ok (.goto (-89), 3) := by decide +kernel
theorem dX6_say_253 : decode cX6_say 253 = .ok (.iinc 7 1, 3) := by decide +kernel
theorem dX6_say_256 : decode cX6_say 256 = .ok (.goto (-105), 3) := by decide +kernel
theorem dX6_say_259 : decode cX6_say 259 = .ok (.iload 6, 2) := by decide +kernel
theorem dX6_say_261 : decode cX6_say 261 = .ok (.ireturn, 1) := by decide +kernel
theorem dX6_users_0 : decode cX6_users 0 = .ok (.aload_n 0, 1) := by decide +kernel
theorem dX6_users_1 : decode cX6_users 1 = .ok (.iconst 0, 1) := by decide +kernel
theorem dX6_users_2 : decode cX6_users 2 = .ok (.putfield 64, 3) := by decide +kernel
theorem dX6_users_5 : decode cX6_users 5 = .ok (.aload_n 0, 1) := by decide +kernel
theorem dX6_users_6 : decode cX6_users 6 = .ok (.getfield 111, 3) := by decide +kernel
theorem dX6_users_9 : decode cX6_users 9 = .ok (.ireturn, 1) := by decide +kernel
theorem dX6_clock_0 : decode cX6_clock 0 = .ok (.aload_n 0, 1) := by decide +kernel
theorem dX6_clock_1 : decode cX6_clock 1 = .ok (.iconst 0, 1) := by decide +kernel
theorem dX6_clock_2 : decode cX6_clock 2 = .ok (.putfield 64, 3) := by decide +kernel
theorem dX6_clock_5 : decode cX6_clock 5 = .ok (.aload_n 0, 1) := by decide +kernel
theorem dX6_clock_6 : decode cX6_clock 6 = .ok (.getfield 149, 3) := by decide +kernel
theorem dX6_clock_9 : decode cX6_clock 9 = .ok (.ireturn, 1) := by decide +kernel
theorem dX6_known_0 : decode cX6_known 0 = .ok (.aload_n 0, 1) := by decide +kernel
theorem dX6_known_1 : decode cX6_known 1 = .ok (.iload_n 1, 1) := by decide +kernel
theorem dX6_known_2 : decode cX6_known 2 = .ok (.invokestatic 139, 3) := by decide +kernel
theorem dX6_known_5 : decode cX6_known 5 = .ok (.ifCond .eq 7, 3) := by decide +kernel
theorem dX6_known_8 : decode cX6_known 8 = .ok (.iconst 0, 1) := by decide +kernel
theorem dX6_known_9 : decode cX6_known 9 = .ok (.goto 4, 3) := by decide +kernel
theorem dX6_known_12 : decode cX6_known 12 = .ok (.iconst 1, 1) := by decide +kernel
theorem dX6_known_13 : decode cX6_known 13 = .ok (.invokevirtual 143, 3) := by decide +kernel
theorem dX6_known_16 : decode cX6_known 16 = .ok (.ifCond .eq 12, 3) := by decide +kernel
theorem dX6_known_19 : decode cX6_known 19 = .ok (.aload_n 0, 1) := by decide +kernel
theorem dX6_known_20 : decode cX6_known 20 = .ok (.getfield 22, 3) := by decide +kernel
theorem dX6_known_23 : decode cX6_known 23 = .ok (.iload_n 1, 1) := by decide +kernel
theorem dX6_known_24 : decode cX6_known 24 = .ok (.iaload, 1) := by decide +kernel
theorem dX6_known_25 : decode cX6_known 25 = .ok (.goto 4, 3) := by decide +kernel
theorem dX6_known_28 : decode cX6_known 28 = .ok (.iconst 0, 1) := by decide +kernel
theorem dX6_known_29 : decode cX6_known 29 = .ok (.ireturn, 1) := by decide +kernel
theorem dX6_isView_0 : decode cX6_isView 0 = .ok (.aload_n 0, 1) := by decide +kernel
theorem dX6_isView_1 : decode cX6_isView 1 = .ok (.iload_n 1, 1) := by decide +kernel
theorem dX6_isView_2 : decode cX6_isView 2 = .ok (.invokestatic 139, 3) := by decide +kernel
theorem dX6_isView_5 : decode cX6_isView 5 = .ok (.ifCond .eq 14, 3) := by decide +kernel
theorem dX6_isView_8 : decode cX6_isView 8 = .ok (.iload_n 2, 1) := by decide +kernel
theorem dX6_isView_9 : decode cX6_isView 9 = .ok (.invokestatic 177, 3) := by decide +kernel
theorem dX6_isView_12 : decode cX6_isView 12 = .ok (.ifCond .eq 7, 3) := by decide +kernel
theorem dX6_isView_15 : decode cX6_isView 15 = .ok (.iconst 0, 1) := by decide +kernel
theorem dX6_isView_16 : decode cX6_isView 16 = .ok (.goto 4, 3) := by decide +kernel
theorem dX6_isView_19 : decode cX6_isView 19 = .ok (.iconst 1, 1) := by decide +kernel
theorem dX6_isView_20 : decode cX6_isView 20 = .ok (.invokevirtual 143, 3) := by decide +kernel
theorem dX6_isView_23 : decode cX6_isView 23 = .ok (.ireturn, 1) := by decide +kernel
theorem dX6_members_0 : decode cX6_members 0 = .ok (.aload_n 0, 1) := by decide +kernel
theorem dX6_members_1 : decode cX6_members 1 = .ok (.iload_n 1, 1) := by decide +kernel
theorem dX6_members_2 : decode cX6_members 2 = .ok (.iload_n 2, 1) := by decide +kernel
theorem dX6_members_3 : decode cX6_members 3 = .ok (.invokevirtual 199, 3) := by decide +kernel
theorem dX6_members_6 : decode cX6_members 6 = .ok (.ifCond .eq 30, 3) := by decide +kernel
theorem dX6_members_9 : decode cX6_members 9 = .ok (.aload_n 0, 1) := by decide +kernel
theorem dX6_members_10 : decode cX6_members 10 = .ok (.getfield 25, 3) := by decide +kernel
theorem dX6_members_13 : decode cX6_members 13 = .ok (.iload_n 1, 1) := by decide +kernel
theorem dX6_members_14 : decode cX6_members 14 = .ok (.iload_n 2, 1) := by decide +kernel
theorem dX6_members_15 : decode cX6_members 15 = .ok (.invokestatic 81, 3) := by decide +kernel
theorem dX6_members_18 : decode cX6_members 18 = .ok (.iaload, 1) := by decide +kernel
theorem dX6_members_19 : decode cX6_members 19 = .ok (.iconst (-1), 1) := by decide +kernel
theorem dX6_members_20 : decode cX6_members 20 = .ok (.if_icmp .eq 16, 3) := by decide +kernel
theorem dX6_members_23 : decode cX6_members 23 = .ok (.aload_n 0, 1) := by decide +kernel
theorem dX6_members_24 : decode cX6_members 24 = .ok (.getfield 34, 3) := by decide +kernel
theorem dX6_members_27 : decode cX6_members 27 = .ok (.iload_n 1, 1) := by decide +kernel
theorem dX6_members_28 : decode cX6_members 28 = .ok (.iload_n 2, 1) := by decide +kernel
theorem dX6_members_29 : decode cX6_members 29 = .ok (.invokestatic 81, 3) := by decide +kernel
theorem dX6_members_32 : decode cX6_members 32 = .ok (.iaload, 1) := by decide +kernel
theorem dX6_members_33 : decode cX6_members 33 = .ok (.goto 4, 3) := by decide +kernel
theorem dX6_members_36 : decode cX6_members 36 = .ok (.iconst 0, 1) := by decide +kernel
theorem dX6_members_37 : decode cX6_members 37 = .ok (.ireturn, 1) := by decide +kernel
theorem dX6_age_0 : decode cX6_age 0 = .ok (.aload_n 0, 1) := by decide +kernel
theorem dX6_age_1 : decode cX6_age 1 = .ok (.iload_n 1, 1) := by decide +kernel
theorem dX6_age_2 : decode cX6_age 2 = .ok (.iload_n 2, 1) := by decide +kernel
theorem dX6_age_3 : decode cX6_age 3 = .ok (.invokevirtual 199, 3) := by decide +kernel
theorem dX6_age_6 : decode cX6_age 6 = .ok (.ifCond .eq 16, 3) := by decide +kernel
theorem dX6_age_9 : decode cX6_age 9 = .ok (.aload_n 0, 1) := by decide +kernel
theorem dX6_age_10 : decode cX6_age 10 = .ok (.getfield 25, 3) := by decide +kernel
theorem dX6_age_13 : decode cX6_age 13 = .ok (.iload_n 1, 1) := by decide +kernel
theorem dX6_age_14 : decode cX6_age 14 = .ok (.iload_n 2, 1) := by decide +kernel
theorem dX6_age_15 : decode cX6_age 15 = .ok (.invokestatic 81, 3) := by decide +kernel
theorem dX6_age_18 : decode cX6_age 18 = .ok (.iaload, 1) := by decide +kernel
theorem dX6_age_19 : decode cX6_age 19 = .ok (.goto 4, 3) := by decide +kernel
theorem dX6_age_22 : decode cX6_age 22 = .ok (.iconst 0, 1) := by decide +kernel
theorem dX6_age_23 : decode cX6_age 23 = .ok (.ireturn, 1) := by decide +kernel
theorem dX6_modes_0 : decode cX6_modes 0 = .ok (.aload_n 0, 1) := by decide +kernel
theorem dX6_modes_1 : decode cX6_modes 1 = .ok (.iload_n 1, 1) := by decide +kernel
theorem dX6_modes_2 : decode cX6_modes 2 = .ok (.iload_n 2, 1) := by decide +kernel
theorem dX6_modes_3 : decode cX6_modes 3 = .ok (.invokevirtual 199, 3) := by decide +kernel
theorem dX6_modes_6 : decode cX6_modes 6 = .ok (.ifCond .ne 5, 3) := by decide +kernel
theorem dX6_modes_9 : decode cX6_modes 9 = .ok (.iconst 0, 1) := by decide +kernel
theorem dX6_modes_10 : decode cX6_modes 10 = .ok (.ireturn, 1) := by decide +kernel
theorem dX6_modes_11 : decode cX6_modes 11 = .ok (.aload_n 0, 1) := by decide +kernel
theorem dX6_modes_12 : decode cX6_modes 12 = .ok (.getfield 25, 3) := by decide +kernel
theorem dX6_modes_15 : decode cX6_modes 15 = .ok (.iload_n 1, 1) := by decide +kernel
theorem dX6_modes_16 : decode cX6_modes 16 = .ok (.iload_n 2, 1) := by decide +kernel
theorem dX6_modes_17 : decode cX6_modes 17 = .ok (.invokestatic 81, 3) := by decide +kernel
theorem dX6_modes_20 : decode cX6_modes 20 = .ok (.iaload, 1) := by decide +kernel
theorem dX6_modes_21 : decode cX6_modes 21 = .ok (.iconst (-1), 1) := by decide +kernel
theorem dX6_modes_22 : decode cX6_modes 22 = .ok (.if_icmp .ne 7, 3) := by decide +kernel
theorem dX6_modes_25 : decode cX6_modes 25 = .ok (.iconst (-1), 1) := by decide +kernel
theorem dX6_modes_26 : decode cX6_modes 26 = .ok (.goto 13, 3) := by decide +kernel
theorem dX6_modes_29 : decode cX6_modes 29 = .ok (.aload_n 0, 1) := by decide +kernel
theorem dX6_modes_30 : decode cX6_modes 30 = .ok (.getfield 28, 3) := by decide +kernel
theorem dX6_modes_33 : decode cX6_modes 33 = .ok (.iload_n 1, 1) := by decide +kernel
theorem dX6_modes_34 : decode cX6_modes 34 = .ok (.iload_n 2, 1) := by decide +kernel
theorem dX6_modes_35 : decode cX6_modes 35 = .ok (.invokestatic 81, 3) := by decide +kernel
theorem dX6_modes_38 : decode cX6_modes 38 = .ok (.iaload, 1) := by decide +kernel
theorem dX6_modes_39 : decode cX6_modes 39 = .ok (.ireturn, 1) := by decide +kernel
theorem dX6_bans_0 : decode cX6_bans 0 = .ok (.aload_n 0, 1) := by decide +kernel
theorem dX6_bans_1 : decode cX6_bans 1 = .ok (.iload_n 1, 1) := by decide +kernel
theorem dX6_bans_2 : decode cX6_bans 2 = .ok (.iload_n 2, 1) := by decide +kernel
theorem dX6_bans_3 : decode cX6_bans 3 = .ok (.invokevirtual 199, 3) := by decide +kernel
theorem dX6_bans_6 : decode cX6_bans 6 = .ok (.ifCond .ne 5, 3) := by decide +kernel
theorem dX6_bans_9 : decode cX6_bans 9 = .ok (.iconst 0, 1) := by decide +kernel
theorem dX6_bans_10 : decode cX6_bans 10 = .ok (.ireturn, 1) := by decide +kernel
theorem dX6_bans_11 : decode cX6_bans 11 = .ok (.aload_n 0, 1) := by decide +kernel
theorem dX6_bans_12 : decode cX6_bans 12 = .ok (.getfield 25, 3) := by decide +kernel
theorem dX6_bans_15 : decode cX6_bans 15 = .ok (.iload_n 1, 1) := by decide +kernel
theorem dX6_bans_16 : decode cX6_bans 16 = .ok (.iload_n 2, 1) := by decide +kernel
theorem dX6_bans_17 : decode cX6_bans 17 = .ok (.invokestatic 81, 3) := by decide +kernel
theorem dX6_bans_20 : decode cX6_bans 20 = .ok (.iaload, 1) := by decide +kernel
theorem dX6_bans_21 : decode cX6_bans 21 = .ok (.iconst (-1), 1) := by decide +kernel
theorem dX6_bans_22 : decode cX6_bans 22 = .ok (.if_icmp .ne 7, 3) := by decide +kernel
theorem dX6_bans_25 : decode cX6_bans 25 = .ok (.iconst (-1), 1) := by decide +kernel
theorem dX6_bans_26 : decode cX6_bans 26 = .ok (.goto 13, 3) := by decide +kernel
theorem dX6_bans_29 : decode cX6_bans 29 = .ok (.aload_n 0, 1) := by decide +kernel
theorem dX6_bans_30 : decode cX6_bans 30 = .ok (.getfield 31, 3) := by decide +kernel
theorem dX6_bans_33 : decode cX6_bans 33 = .ok (.iload_n 1, 1) := by decide +kernel
theorem dX6_bans_34 : decode cX6_bans 34 = .ok (.iload_n 2, 1) := by decide +kernel
theorem dX6_bans_35 : decode cX6_bans 35 = .ok (.invokestatic 81, 3) := by decide +kernel
theorem dX6_bans_38 : decode cX6_bans 38 = .ok (.iaload, 1) := by decide +kernel
theorem dX6_bans_39 : decode cX6_bans 39 = .ok (.ireturn, 1) := by decide +kernel
theorem dX6_areSame_0 : decode cX6_areSame 0 = .ok (.aload_n 0, 1) := by decide +kernel
theorem dX6_areSame_1 : decode cX6_areSame 1 = .ok (.iload_n 1, 1) := by decide +kernel
theorem dX6_areSame_2 : decode cX6_areSame 2 = .ok (.invokestatic 139, 3) := by decide +kernel
theorem dX6_areSame_5 : decode cX6_areSame 5 = .ok (.ifCond .eq 14, 3) := by decide +kernel
theorem dX6_areSame_8 : decode cX6_areSame 8 = .ok (.iload_n 2, 1) := by decide +kernel
theorem dX6_areSame_9 : decode cX6_areSame 9 = .ok (.invokestatic 139, 3) := by decide +kernel
theorem dX6_areSame_12 : decode cX6_areSame 12 = .ok (.ifCond .eq 7, 3) := by decide +kernel
theorem dX6_areSame_15 : decode cX6_areSame 15 = .ok (.iconst 0, 1) := by decide +kernel
theorem dX6_areSame_16 : decode cX6_areSame 16 = .ok (.goto 4, 3) := by decide +kernel
theorem dX6_areSame_19 : decode cX6_areSame 19 = .ok (.iconst 1, 1) := by decide +kernel
theorem dX6_areSame_20 : decode cX6_areSame 20 = .ok (.invokevirtual 143, 3) := by decide +kernel
theorem dX6_areSame_23 : decode cX6_areSame 23 = .ok (.ifCond .ne 5, 3) := by decide +kernel
theorem dX6_areSame_26 : decode cX6_areSame 26 = .ok (.iconst 0, 1) := by decide +kernel
theorem dX6_areSame_27 : decode cX6_areSame 27 = .ok (.ireturn, 1) := by decide +kernel
theorem dX6_areSame_28 : decode cX6_areSame 28 = .ok (.aload_n 0, 1) := by decide +kernel
theorem dX6_areSame_29 : decode cX6_areSame 29 = .ok (.getfield 22, 3) := by decide +kernel
theorem dX6_areSame_32 : decode cX6_areSame 32 = .ok (.iload_n 1, 1) := by decide +kernel
theorem dX6_areSame_33 : decode cX6_areSame 33 = .ok (.iaload, 1) := by decide +kernel
theorem dX6_areSame_34 : decode cX6_areSame 34 = .ok (.aload_n 0, 1) := by decide +kernel
theorem dX6_areSame_35 : decode cX6_areSame 35 = .ok (.getfield 22, 3) := by decide +kernel
theorem dX6_areSame_38 : decode cX6_areSame 38 = .ok (.iload_n 2, 1) := by decide +kernel
theorem dX6_areSame_39 : decode cX6_areSame 39 = .ok (.iaload, 1) := by decide +kernel
theorem dX6_areSame_40 : decode cX6_areSame 40 = .ok (.if_icmp .ne 7, 3) := by decide +kernel
theorem dX6_areSame_43 : decode cX6_areSame 43 = .ok (.iconst 1, 1) := by decide +kernel
theorem dX6_areSame_44 : decode cX6_areSame 44 = .ok (.goto 4, 3) := by decide +kernel
theorem dX6_areSame_47 : decode cX6_areSame 47 = .ok (.iconst 0, 1) := by decide +kernel
theorem dX6_areSame_48 : decode cX6_areSame 48 = .ok (.istore_n 3, 1) := by decide +kernel
theorem dX6_areSame_49 : decode cX6_areSame 49 = .ok (.iconst 0, 1) := by decide +kernel
theorem dX6_areSame_50 : decode cX6_areSame 50 = .ok (.istore 4, 2) := by decide +kernel
theorem dX6_areSame_52 : decode cX6_areSame 52 = .ok (.iload 4, 2) := by decide +kernel
theorem dX6_areSame_54 : decode cX6_areSame 54 = .ok (.iconst 4, 1) := by decide +kernel
theorem dX6_areSame_55 : decode cX6_areSame 55 = .ok (.if_icmp .ge 126, 3) := by decide +kernel
theorem dX6_areSame_58 : decode cX6_areSame 58 = .ok (.iload_n 1, 1) := by decide +kernel
theorem dX6_areSame_59 : decode cX6_areSame 59 = .ok (.iload 4, 2) := by decide +kernel
theorem dX6_areSame_61 : decode cX6_areSame 61 = .ok (.invokestatic 81, 3) := by decide +kernel
theorem dX6_areSame_64 : decode cX6_areSame 64 = .ok (.istore 5, 2) := by decide +kernel
theorem dX6_areSame_66 : decode cX6_areSame 66 = .ok (.iload_n 2, 1) := by decide +kernel
theorem dX6_areSame_67 : decode cX6_areSame 67 = .ok (.iload 4, 2) := by decide +kernel
theorem dX6_areSame_69 : decode cX6_areSame 69 = .ok (.invokestatic 81, 3) := by decide +kernel
theorem dX6_areSame_72 : decode cX6_areSame 72 = .ok (.istore 6, 2) := by decide +kernel
theorem dX6_areSame_74 : decode cX6_areSame 74 = .ok (.aload_n 0, 1) := by decide +kernel
theorem dX6_areSame_75 : decode cX6_areSame 75 = .ok (.getfield 28, 3) := by decide +kernel
theorem dX6_areSame_78 : decode cX6_areSame 78 = .ok (.iload 5, 2) := by decide +kernel
theorem dX6_areSame_80 : decode cX6_areSame 80 = .ok (.iaload, 1) := by decide +kernel
theorem dX6_areSame_81 : decode cX6_areSame 81 = .ok (.aload_n 0, 1) := by decide +kernel
theorem dX6_areSame_82 : decode cX6_areSame 82 = .ok (.getfield 28, 3) := by decide +kernel
theorem dX6_areSame_85 : decode cX6_areSame 85 = .ok (.iload 6, 2) := by decide +kernel
theorem dX6_areSame_87 : decode cX6_areSame 87 = .ok (.iaload, 1) := by decide +kernel
theorem dX6_areSame_88 : decode cX6_areSame 88 = .ok (.if_icmp .ne 41, 3) := by decide +kernel
theorem dX6_areSame_91 : decode cX6_areSame 91 = .ok (.aload_n 0, 1) := by decide +kernel
theorem dX6_areSame_92 : decode cX6_areSame 92 = .ok (.getfield 31, 3) := by decide +kernel
theorem dX6_areSame_95 : decode cX6_areSame 95 = .ok (.iload 5, 2) := by decide +kernel
theorem dX6_areSame_97 : decode cX6_areSame 97 = .ok (.iaload, 1) := by decide +kernel
theorem dX6_areSame_98 : decode cX6_areSame 98 = .ok (.aload_n 0, 1) := by decide +kernel
theorem dX6_areSame_99 : decode cX6_areSame 99 = .ok (.getfield 31, 3) := by decide +kernel
theorem dX6_areSame_102 : decode cX6_areSame 102 = .ok (.iload 6, 2) := by decide +kernel
theorem dX6_areSame_104 : decode cX6_areSame 104 = .ok (.iaload, 1) := by decide +kernel
theorem dX6_areSame_105 : decode cX6_areSame 105 = .ok (.if_icmp .ne 24, 3) := by decide +kernel
theorem dX6_areSame_108 : decode cX6_areSame 108 = .ok (.aload_n 0, 1) := by decide +kernel
theorem dX6_areSame_109 : decode cX6_areSame 109 = .ok (.getfield 34, 3) := by decide +kernel
theorem dX6_areSame_112 : decode cX6_areSame 112 = .ok (.iload 5, 2) := by decide +kernel
theorem dX6_areSame_114 : decode cX6_areSame 114 = .ok (.iaload, 1) := by decide +kernel
theorem dX6_areSame_115 : decode cX6_areSame 115 = .ok (.aload_n 0, 1) := by decide +kernel
theorem dX6_areSame_116 : decode cX6_areSame 116 = .ok (.getfield 34, 3) := by decide +kernel
theorem dX6_areSame_119 : decode cX6_areSame 119 = .ok (.iload 6, 2) := by decide +kernel
theorem dX6_areSame_121 : decode cX6_areSame 121 = .ok (.iaload, 1) := by decide +kernel
theorem dX6_areSame_122 : decode cX6_areSame 122 = .ok (.if_icmp .ne 7, 3) := by decide +kernel
theorem dX6_areSame_125 : decode cX6_areSame 125 = .ok (.iconst 1, 1) := by decide +kernel
theorem dX6_areSame_126 : decode cX6_areSame 126 = .ok (.goto 4, 3) := by decide +kernel
theorem dX6_areSame_129 : decode cX6_areSame 129 = .ok (.iconst 0, 1) := by decide +kernel
theorem dX6_areSame_130 : decode cX6_areSame 130 = .ok (.istore 7, 2) := by decide +kernel
theorem dX6_areSame_132 : decode cX6_areSame 132 = .ok (.iload_n 3, 1) := by decide +kernel
theorem dX6_areSame_133 : decode cX6_areSame 133 = .ok (.ifCond .eq 40, 3) := by decide +kernel
theorem dX6_areSame_136 : decode cX6_areSame 136 = .ok (.aload_n 0, 1) := by decide +kernel
theorem dX6_areSame_137 : decode cX6_areSame 137 = .ok (.getfield 25, 3) := by decide +kernel
theorem dX6_areSame_140 : decode cX6_areSame 140 = .ok (.iload 5, 2) := by decide +kernel
theorem dX6_areSame_142 : decode cX6_areSame 142 = .ok (.iaload, 1) := by decide +kernel
theorem dX6_areSame_143 : decode cX6_areSame 143 = .ok (.aload_n 0, 1) := by decide +kernel
theorem dX6_areSame_144 : decode cX6_areSame 144 = .ok (.getfield 25, 3) := by decide +kernel
theorem dX6_areSame_147 : decode cX6_areSame 147 = .ok (.iload 6, 2) := by decide +kernel
theorem dX6_areSame_149 : decode cX6_areSame 149 = .ok (.iaload, 1) := by decide +kernel
theorem dX6_areSame_150 : decode cX6_areSame 150 = .ok (.if_icmp .ne 23, 3) := by decide +kernel
theorem dX6_areSame_153 : decode cX6_areSame 153 = .ok (.aload_n 0, 1) := by decide +kernel
theorem dX6_areSame_154 : decode cX6_areSame 154 = .ok (.getfield 25, 3) := by decide +kernel
theorem dX6_areSame_157 : decode cX6_areSame 157 = .ok (.iload 5, 2) := by decide +kernel
theorem dX6_areSame_159 : decode cX6_areSame 159 = .ok (.iaload, 1) := by decide +kernel
theorem dX6_areSame_160 : decode cX6_areSame 160 = .ok (.iconst (-1), 1) := by decide +kernel
theorem dX6_areSame_161 : decode cX6_areSame 161 = .ok (.if_icmp .eq 8, 3) := by decide +kernel
theorem dX6_areSame_164 : decode cX6_areSame 164 = .ok (.iload 7, 2) := by decide +kernel
theorem dX6_areSame_166 : decode cX6_areSame 166 = .ok (.ifCond .eq 7, 3) := by decide +kernel
theorem dX6_areSame_169 : decode cX6_areSame 169 = .ok (.iconst 1, 1) := by decide +kernel
theorem dX6_areSame_170 : decode cX6_areSame 170 = .ok (.goto 4, 3) := by decide +kernel
theorem dX6_areSame_173 : decode cX6_areSame 173 = .ok (.iconst 0, 1) := by decide +kernel
theorem dX6_areSame_174 : decode cX6_areSame 174 = .ok (.istore_n 3, 1) := by decide +kernel
theorem dX6_areSame_175 : decode cX6_areSame 175 = .ok (.iinc 4 1, 3) := by decide +kernel
theorem dX6_areSame_178 : decode cX6_areSame 178 = .ok (.goto (-126), 3) := by decide +kernel
theorem dX6_areSame_181 : decode cX6_areSame 181 = .ok (.iload_n 3, 1) := by decide +kernel
theorem dX6_areSame_182 : decode cX6_areSame 182 = .ok (.ireturn, 1) := by decide +kernel
theorem dX6_joinedModes_0 : decode cX6_joinedModes 0 = .ok (.aload_n 0, 1) := by decide +kernel
theorem dX6_joinedModes_1 : decode cX6_joinedModes 1 = .ok (.iload_n 1, 1) := by decide +kernel
theorem dX6_joinedModes_2 : decode cX6_joinedModes 2 = .ok (.invokestatic 139, 3) := by decide +kernel
theorem dX6_joinedModes_5 : decode cX6_joinedModes 5 = .ok (.ifCond .eq 21, 3) := by decide +kernel
theorem dX6_joinedModes_8 : decode cX6_joinedModes 8 = .ok (.iload_n 2, 1) := by decide +kernel
theorem dX6_joinedModes_9 : decode cX6_joinedModes 9 = .ok (.invokestatic 139, 3) := by decide +kernel
theorem dX6_joinedModes_12 : decode cX6_joinedModes 12 = .ok (.ifCond .eq 14, 3) := by decide +kernel
theorem dX6_joinedModes_15 : decode cX6_joinedModes 15 = .ok (.iload_n 3, 1) := by decide +kernel
theorem dX6_joinedModes_16 : decode cX6_joinedModes 16 = .ok (.invokestatic 177, 3) := by decide +kernel
theorem dX6_joinedModes_19 : decode cX6_joinedModes 19 = .ok (.ifCond .eq 7, 3) := by decide +kernel
theorem dX6_joinedModes_22 : decode cX6_joinedModes 22 = .ok (.iconst 0, 1) := by decide +kernel
theorem dX6_joinedModes_23 : decode cX6_joinedModes 23 = .ok (.goto 4, 3) := by decide +kernel
theorem dX6_joinedModes_26 : decode cX6_joinedModes 26 = .ok (.iconst 1, 1) := by decide +kernel
theorem dX6_joinedModes_27 : decode cX6_joinedModes 27 = .ok (.invokevirtual 143, 3) := by decide +kernel
theorem dX6_joinedModes_30 : decode cX6_joinedModes 30 = .ok (.ifCond .ne 5, 3) := by decide +kernel
theorem dX6_joinedModes_33 : decode cX6_joinedModes 33 = .ok (.iconst 0, 1) := by decide +kernel
theorem dX6_joinedModes_34 : decode cX6_joinedModes 34 = .ok (.ireturn, 1) := by decide +kernel
theorem dX6_joinedModes_35 : decode cX6_joinedModes 35 = .ok (.iload_n 1, 1) := by decide +kernel
theorem dX6_joinedModes_36 : decode cX6_joinedModes 36 = .ok (.iload_n 3, 1) := by decide +kernel
theorem dX6_joinedModes_37 : decode cX6_joinedModes 37 = .ok (.invokestatic 81, 3) := by decide +kernel
theorem dX6_joinedModes_40 : decode cX6_joinedModes 40 = .ok (.istore 4, 2) := by decide +kernel
theorem dX6_joinedModes_42 : decode cX6_joinedModes 42 = .ok (.iload_n 2, 1) := by decide +kernel
theorem dX6_joinedModes_43 : decode cX6_joinedModes 43 = .ok (.iload_n 3, 1) := by decide +kernel
theorem dX6_joinedModes_44 : decode cX6_joinedModes 44 = .ok (.invokestatic 81, 3) := by decide +kernel
theorem dX6_joinedModes_47 : decode cX6_joinedModes 47 = .ok (.istore 5, 2) := by decide +kernel
theorem dX6_joinedModes_49 : decode cX6_joinedModes 49 = .ok (.aload_n 0, 1) := by decide +kernel
theorem dX6_joinedModes_50 : decode cX6_joinedModes 50 = .ok (.getfield 25, 3) := by decide +kernel
theorem dX6_joinedModes_53 : decode cX6_joinedModes 53 = .ok (.iload 4, 2) := by decide +kernel
theorem dX6_joinedModes_55 : decode cX6_joinedModes 55 = .ok (.iaload, 1) := by decide +kernel
theorem dX6_joinedModes_56 : decode cX6_joinedModes 56 = .ok (.iconst (-1), 1) := by decide +kernel
theorem dX6_joinedModes_57 : decode cX6_joinedModes 57 = .ok (.if_icmp .eq 14, 3) := by decide +kernel
theorem dX6_joinedModes_60 : decode cX6_joinedModes 60 = .ok (.aload_n 0, 1) := by decide +kernel
theorem dX6_joinedModes_61 : decode cX6_joinedModes 61 = .ok (.getfield 25, 3) := by decide +kernel
theorem dX6_joinedModes_64 : decode cX6_joinedModes 64 = .ok (.iload 5, 2) := by decide +kernel
theorem dX6_joinedModes_66 : decode cX6_joinedModes 66 = .ok (.iaload, 1) := by decide +kernel
theorem dX6_joinedModes_67 : decode cX6_joinedModes 67 = .ok (.iconst (-1), 1) := by decide +kernel
theorem dX6_joinedModes_68 : decode cX6_joinedModes 68 = .ok (.if_icmp .ne 47, 3) := by decide +kernel
theorem dX6_joinedModes_71 : decode cX6_joinedModes 71 = .ok (.aload_n 0, 1) := by decide +kernel
theorem dX6_joinedModes_72 : decode cX6_joinedModes 72 = .ok (.getfield 25, 3) := by decide +kernel
theorem dX6_joinedModes_75 : decode cX6_joinedModes 75 = .ok (.iload 4, 2) := by decide +kernel
theorem dX6_joinedModes_77 : decode cX6_joinedModes 77 = .ok (.iaload, 1) := by decide +kernel
theorem dX6_joinedModes_78 : decode cX6_joinedModes 78 = .ok (.iconst (-1), 1) := by decide +kernel
theorem dX6_joinedModes_79 : decode cX6_joinedModes 79 = .ok (.if_icmp .eq 13, 3) := by decide +kernel
theorem dX6_joinedModes_82 : decode cX6_joinedModes 82 = .ok (.aload_n 0, 1) := by decide +kernel
theorem dX6_joinedModes_83 : decode cX6_joinedModes 83 = .ok (.getfield 28, 3) := by decide +kernel
theorem dX6_joinedModes_86 : decode cX6_joinedModes 86 = .ok (.iload 4, 2) := by decide +kernel
theorem dX6_joinedModes_88 : decode cX6_joinedModes 88 = .ok (.iaload, 1) := by decide +kernel
theorem dX6_joinedModes_89 : decode cX6_joinedModes 89 = .ok (.goto 25, 3) := by decide +kernel
theorem dX6_joinedModes_92 : decode cX6_joinedModes 92 = .ok (.aload_n 0, 1) := by decide +kernel
theorem dX6_joinedModes_93 : decode cX6_joinedModes 93 = .ok (.getfield 25, 3) := by decide +kernel
theorem dX6_joinedModes_96 : decode cX6_joinedModes 96 = .ok (.iload 5, 2) := by decide +kernel
theorem dX6_joinedModes_98 : decode cX6_joinedModes 98 = .ok (.iaload, 1) := by decide +kernel
theorem dX6_joinedModes_99 : decode cX6_joinedModes 99 = .ok (.iconst (-1), 1) := by decide +kernel
theorem dX6_joinedModes_100 : decode cX6_joinedModes 100 = .ok (.if_icmp .eq 13, 3) := by decide +kernel
theorem dX6_joinedModes_103 : decode cX6_joinedModes 103 = .ok (.aload_n 0, 1) := by decide +kernel
theorem dX6_joinedModes_104 : decode cX6_joinedModes 104 = .ok (.getfield 28, 3) := by decide +kernel
theorem dX6_joinedModes_107 : decode cX6_joinedModes 107 = .ok (.iload 5, 2) := by decide +kernel
theorem dX6_joinedModes_109 : decode cX6_joinedModes 109 = .ok (.iaload, 1) := by decide +kernel
theorem dX6_joinedModes_110 : decode cX6_joinedModes 110 = .ok (.goto 4, 3) := by decide +kernel
theorem dX6_joinedModes_113 : decode cX6_joinedModes 113 = .ok (.iconst (-1), 1) := by decide +kernel
theorem dX6_joinedModes_114 : decode cX6_joinedModes 114 = .ok (.ireturn, 1) := by decide +kernel
theorem dX6_joinedModes_115 : decode cX6_joinedModes 115 = .ok (.aload_n 0, 1) := by decide +kernel
theorem dX6_joinedModes_116 : decode cX6_joinedModes 116 = .ok (.getfield 25, 3) := by decide +kernel
theorem dX6_joinedModes_119 : decode cX6_joinedModes 119 = .ok (.iload 4, 2) := by decide +kernel
theorem dX6_joinedModes_121 : decode cX6_joinedModes 121 = .ok (.iaload, 1) := by decide +kernel
theorem dX6_joinedModes_122 : decode cX6_joinedModes 122 = .ok (.aload_n 0, 1) := by decide +kernel
theorem dX6_joinedModes_123 : decode cX6_joinedModes 123 = .ok (.getfield 25, 3) := by decide +kernel
theorem dX6_joinedModes_126 : decode cX6_joinedModes 126 = .ok (.iload 5, 2) := by decide +kernel
theorem dX6_joinedModes_128 : decode cX6_joinedModes 128 = .ok (.iaload, 1) := by decide +kernel
theorem dX6_joinedModes_129 : decode cX6_joinedModes 129 = .ok (.if_icmp .ge 13, 3) := by decide +kernel
theorem dX6_joinedModes_132 : decode cX6_joinedModes 132 = .ok (.aload_n 0, 1) := by decide +kernel
theorem dX6_joinedModes_133 : decode cX6_joinedModes 133 = .ok (.getfield 28, 3) := by decide +kernel
theorem dX6_joinedModes_136 : decode cX6_joinedModes 136 = .ok (.iload 4, 2) := by decide +kernel
theorem dX6_joinedModes_138 : decode cX6_joinedModes 138 = .ok (.iaload, 1) := by decide +kernel
theorem dX6_joinedModes_139 : decode cX6_joinedModes 139 = .ok (.goto 45, 3) := by decide +kernel
theorem dX6_joinedModes_142 : decode cX6_joinedModes 142 = .ok (.aload_n 0, 1) := by decide +kernel
theorem dX6_joinedModes_143 : decode cX6_joinedModes 143 = .ok (.getfield 25, 3) := by decide +kernel
theorem dX6_joinedModes_146 : decode cX6_joinedModes 146 = .ok (.iload 5, 2) := by decide +kernel
theorem dX6_joinedModes_148 : decode cX6_joinedModes 148 = .ok (.iaload, 1) := by decide +kernel
theorem dX6_joinedModes_149 : decode cX6_joinedModes 149 = .ok (.aload_n 0, 1) := by decide +kernel
theorem dX6_joinedModes_150 : decode cX6_joinedModes 150 = .ok (.getfield 25, 3) := by decide +kernel
theorem dX6_joinedModes_153 : decode cX6_joinedModes 153 = .ok (.iload 4, 2) := by decide +kernel
theorem dX6_joinedModes_155 : decode cX6_joinedModes 155 = .ok (.iaload, 1) := by decide +kernel
theorem dX6_joinedModes_156 : decode cX6_joinedModes 156 = .ok (.if_icmp .ge 13, 3) := by decide +kernel
theorem dX6_joinedModes_159 : decode cX6_joinedModes 159 = .ok (.aload_n 0, 1) := by decide +kernel
theorem dX6_joinedModes_160 : decode cX6_joinedModes 160 = .ok (.getfield 28, 3) := by decide +kernel
theorem dX6_joinedModes_163 : decode cX6_joinedModes 163 = .ok (.iload 5, 2) := by decide +kernel
theorem dX6_joinedModes_165 : decode cX6_joinedModes 165 = .ok (.iaload, 1) := by decide +kernel
theorem dX6_joinedModes_166 : decode cX6_joinedModes 166 = .ok (.goto 18, 3) := by decide +kernel
theorem dX6_joinedModes_169 : decode cX6_joinedModes 169 = .ok (.aload_n 0, 1) := by decide +kernel
theorem dX6_joinedModes_170 : decode cX6_joinedModes 170 = .ok (.getfield 28, 3) := by decide +kernel
theorem dX6_joinedModes_173 : decode cX6_joinedModes 173 = .ok (.iload 4, 2) := by decide +kernel
theorem dX6_joinedModes_175 : decode cX6_joinedModes 175 = .ok (.iaload, 1) := by decide +kernel
theorem dX6_joinedModes_176 : decode cX6_joinedModes 176 = .ok (.aload_n 0, 1) := by decide +kernel
theorem dX6_joinedModes_177 : decode cX6_joinedModes 177 = .ok (.getfield 28, 3) := by decide +kernel
theorem dX6_joinedModes_180 : decode cX6_joinedModes 180 = .ok (.iload 5, 2) := by decide +kernel
theorem dX6_joinedModes_182 : decode cX6_joinedModes 182 = .ok (.iaload, 1) := by decide +kernel
theorem dX6_joinedModes_183 : decode cX6_joinedModes 183 = .ok (.ior, 1) := by decide +kernel
theorem dX6_joinedModes_184 : decode cX6_joinedModes 184 = .ok (.ireturn, 1) := by decide +kernel
