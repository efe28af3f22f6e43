theorem dX8_init_0 : decode cX8_init 0 = .ok (.aload_n 0, 1) := by decide +kernel
theorem dX8_init_1 : decode cX8_init 1 = .ok (.invokespecial 1, 3) := by decide +kernel
theorem dX8_init_4 : decode cX8_init 4 = .ok (.aload_n 0, 1) := by decide +kernel
theorem dX8_init_5 : decode cX8_init 5 = .ok (.bipush 60, 2) := by decide +kernel
theorem dX8_init_7 : decode cX8_init 7 = .ok (.newarray .char, 2) := by decide +kernel
theorem dX8_init_9 : decode cX8_init 9 = .ok (.putfield 7, 3) := by decide +kernel
theorem dX8_init_12 : decode cX8_init 12 = .ok (.aload_n 0, 1) := by decide +kernel
theorem dX8_init_13 : decode cX8_init 13 = .ok (.iconst (-1), 1) := by decide +kernel
theorem dX8_init_14 : decode cX8_init 14 = .ok (.putfield 13, 3) := by decide +kernel
theorem dX8_init_17 : decode cX8_init 17 = .ok (.aload_n 0, 1) := by decide +kernel
theorem dX8_init_18 : decode cX8_init 18 = .ok (.iconst 1, 1) := by decide +kernel
theorem dX8_init_19 : decode cX8_init 19 = .ok (.putfield 17, 3) := by decide +kernel
theorem dX8_init_22 : decode cX8_init 22 = .ok (.aload_n 0, 1) := by decide +kernel
theorem dX8_init_23 : decode cX8_init 23 = .ok (.bipush 17, 2) := by decide +kernel
theorem dX8_init_25 : decode cX8_init 25 = .ok (.newarray .int, 2) := by decide +kernel
theorem dX8_init_27 : decode cX8_init 27 = .ok (.putfield 20, 3) := by decide +kernel
theorem dX8_init_30 : decode cX8_init 30 = .ok (.aload_n 0, 1) := by decide +kernel
theorem dX8_init_31 : decode cX8_init 31 = .ok (.bipush 17, 2) := by decide +kernel
theorem dX8_init_33 : decode cX8_init 33 = .ok (.newarray .int, 2) := by decide +kernel
theorem dX8_init_35 : decode cX8_init 35 = .ok (.putfield 24, 3) := by decide +kernel
theorem dX8_init_38 : decode cX8_init 38 = .ok (.aload_n 0, 1) := by decide +kernel
theorem dX8_init_39 : decode cX8_init 39 = .ok (.bipush 17, 2) := by decide +kernel
theorem dX8_init_41 : decode cX8_init 41 = .ok (.newarray .boolean, 2) := by decide +kernel
theorem dX8_init_43 : decode cX8_init 43 = .ok (.putfield 27, 3) := by decide +kernel
theorem dX8_init_46 : decode cX8_init 46 = .ok (.aload_n 0, 1) := by decide +kernel
theorem dX8_init_47 : decode cX8_init 47 = .ok (.bipush 17, 2) := by decide +kernel
theorem dX8_init_49 : decode cX8_init 49 = .ok (.newarray .int, 2) := by decide +kernel
theorem dX8_init_51 : decode cX8_init 51 = .ok (.putfield 31, 3) := by decide +kernel
theorem dX8_init_54 : decode cX8_init 54 = .ok (.aload_n 0, 1) := by decide +kernel
theorem dX8_init_55 : decode cX8_init 55 = .ok (.bipush 17, 2) := by decide +kernel
theorem dX8_init_57 : decode cX8_init 57 = .ok (.newarray .int, 2) := by decide +kernel
theorem dX8_init_59 : decode cX8_init 59 = .ok (.putfield 34, 3) := by decide +kernel
theorem dX8_init_62 : decode cX8_init 62 = .ok (.aload_n 0, 1) := by decide +kernel
theorem dX8_init_63 : decode cX8_init 63 = .ok (.sipush 544, 3) := by decide +kernel
theorem dX8_init_66 : decode cX8_init 66 = .ok (.newarray .int, 2) := by decide +kernel
theorem dX8_init_68 : decode cX8_init 68 = .ok (.putfield 37, 3) := by decide +kernel
theorem dX8_init_71 : decode cX8_init 71 = .ok (.aload_n 0, 1) := by decide +kernel
theorem dX8_init_72 : decode cX8_init 72 = .ok (.sipush 544, 3) := by decide +kernel
theorem dX8_init_75 : decode cX8_init 75 = .ok (.newarray .int, 2) := by decide +kernel
theorem dX8_init_77 : decode cX8_init 77 = .ok (.putfield 40, 3) := by decide +kernel
theorem dX8_init_80 : decode cX8_init 80 = .ok (.aload_n 0, 1) := by decide +kernel
theorem dX8_init_81 : decode cX8_init 81 = .ok (.sipush 544, 3) := by decide +kernel
theorem dX8_init_84 : decode cX8_init 84 = .ok (.newarray .int, 2) := by decide +kernel
theorem dX8_init_86 : decode cX8_init 86 = .ok (.putfield 43, 3) := by decide +kernel
theorem dX8_init_89 : decode cX8_init 89 = .ok (.aload_n 0, 1) := by decide +kernel
theorem dX8_init_90 : decode cX8_init 90 = .ok (.sipush 544, 3) := by decide +kernel
theorem dX8_init_93 : decode cX8_init 93 = .ok (.newarray .int, 2) := by decide +kernel
theorem dX8_init_95 : decode cX8_init 95 = .ok (.putfield 46, 3) := by decide +kernel
theorem dX8_init_98 : decode cX8_init 98 = .ok (.aload_n 0, 1) := by decide +kernel
theorem dX8_init_99 : decode cX8_init 99 = .ok (.sipush 544, 3) := by decide +kernel
theorem dX8_init_102 : decode cX8_init 102 = .ok (.newarray .long, 2) := by decide +kernel
theorem dX8_init_104 : decode cX8_init 104 = .ok (.putfield 49, 3) := by decide +kernel
theorem dX8_init_107 : decode cX8_init 107 = .ok (.aload_n 0, 1) := by decide +kernel
theorem dX8_init_108 : decode cX8_init 108 = .ok (.bipush 7, 2) := by decide +kernel
theorem dX8_init_110 : decode cX8_init 110 = .ok (.newarray .int, 2) := by decide +kernel
theorem dX8_init_112 : decode cX8_init 112 = .ok (.putfield 53, 3) := by decide +kernel
theorem dX8_init_115 : decode cX8_init 115 = .ok (.aload_n 0, 1) := by decide +kernel
theorem dX8_init_116 : decode cX8_init 116 = .ok (.bipush 7, 2) := by decide +kernel
theorem dX8_init_118 : decode cX8_init 118 = .ok (.newarray .int, 2) := by decide +kernel
theorem dX8_init_120 : decode cX8_init 120 = .ok (.putfield 56, 3) := by decide +kernel
theorem dX8_init_123 : decode cX8_init 123 = .ok (.aload_n 0, 1) := by decide +kernel
theorem dX8_init_124 : decode cX8_init 124 = .ok (.bipush 7, 2) := by decide +kernel
theorem dX8_init_126 : decode cX8_init 126 = .ok (.newarray .int, 2) := by decide +kernel
theorem dX8_init_128 : decode cX8_init 128 = .ok (.putfield 59, 3) := by decide +kernel
theorem dX8_init_131 : decode cX8_init 131 = .ok (.aload_n 0, 1) := by decide +kernel
theorem dX8_init_132 : decode cX8_init 132 = .ok (.bipush 7, 2) := by decide +kernel
theorem dX8_init_134 : decode cX8_init 134 = .ok (.newarray .int, 2) := by decide +kernel
theorem dX8_init_136 : decode cX8_init 136 = .ok (.putfield 62, 3) := by decide +kernel
theorem dX8_init_139 : decode cX8_init 139 = .ok (.aload_n 0, 1) := by decide +kernel
theorem dX8_init_140 : decode cX8_init 140 = .ok (.bipush 64, 2) := by decide +kernel
theorem dX8_init_142 : decode cX8_init 142 = .ok (.newarray .long, 2) := by decide +kernel
theorem dX8_init_144 : decode cX8_init 144 = .ok (.putfield 65, 3) := by decide +kernel
theorem dX8_init_147 : decode cX8_init 147 = .ok (.aload_n 0, 1) := by decide +kernel
theorem dX8_init_148 : decode cX8_init 148 = .ok (.bipush 64, 2) := by decide +kernel
theorem dX8_init_150 : decode cX8_init 150 = .ok (.newarray .int, 2) := by decide +kernel
theorem dX8_init_152 : decode cX8_init 152 = .ok (.putfield 68, 3) := by decide +kernel
theorem dX8_init_155 : decode cX8_init 155 = .ok (.aload_n 0, 1) := by decide +kernel
theorem dX8_init_156 : decode cX8_init 156 = .ok (.bipush 64, 2) := by decide +kernel
theorem dX8_init_158 : decode cX8_init 158 = .ok (.newarray .long, 2) := by decide +kernel
theorem dX8_init_160 : decode cX8_init 160 = .ok (.putfield 71, 3) := by decide +kernel
theorem dX8_init_163 : decode cX8_init 163 = .ok (.aload_n 0, 1) := by decide +kernel
theorem dX8_init_164 : decode cX8_init 164 = .ok (.bipush 64, 2) := by decide +kernel
theorem dX8_init_166 : decode cX8_init 166 = .ok (.newarray .long, 2) := by decide +kernel
theorem dX8_init_168 : decode cX8_init 168 = .ok (.putfield 74, 3) := by decide +kernel
theorem dX8_init_171 : decode cX8_init 171 = .ok (.aload_n 0, 1) := by decide +kernel
theorem dX8_init_172 : decode cX8_init 172 = .ok (.bipush 64, 2) := by decide +kernel
theorem dX8_init_174 : decode cX8_init 174 = .ok (.newarray .boolean, 2) := by decide +kernel
theorem dX8_init_176 : decode cX8_init 176 = .ok (.putfield 77, 3) := by decide +kernel
theorem dX8_init_179 : decode cX8_init 179 = .ok (.aload_n 0, 1) := by decide +kernel
theorem dX8_init_180 : decode cX8_init 180 = .ok (.bipush 32, 2) := by decide +kernel
theorem dX8_init_182 : decode cX8_init 182 = .ok (.newarray .long, 2) := by decide +kernel
theorem dX8_init_184 : decode cX8_init 184 = .ok (.putfield 80, 3) := by decide +kernel
theorem dX8_init_187 : decode cX8_init 187 = .ok (.aload_n 0, 1) := by decide +kernel
theorem dX8_init_188 : decode cX8_init 188 = .ok (.bipush 32, 2) := by decide +kernel
theorem dX8_init_190 : decode cX8_init 190 = .ok (.newarray .int, 2) := by decide +kernel
theorem dX8_init_192 : decode cX8_init 192 = .ok (.putfield 83, 3) := by decide +kernel
theorem dX8_init_195 : decode cX8_init 195 = .ok (.aload_n 0, 1) := by decide +kernel
theorem dX8_init_196 : decode cX8_init 196 = .ok (.bipush 64, 2) := by decide +kernel
theorem dX8_init_198 : decode cX8_init 198 = .ok (.newarray .int, 2) := by decide +kernel
theorem dX8_init_200 : decode cX8_init 200 = .ok (.putfield 86, 3) := by decide +kernel
theorem dX8_init_203 : decode cX8_init 203 = .ok (.aload_n 0, 1) := by decide +kernel
theorem dX8_init_204 : decode cX8_init 204 = .ok (.bipush 68, 2) := by decide +kernel
theorem dX8_init_206 : decode cX8_init 206 = .ok (.newarray .int, 2) := by decide +kernel
theorem dX8_init_208 : decode cX8_init 208 = .ok (.putfield 89, 3) := by decide +kernel
theorem dX8_init_211 : decode cX8_init 211 = .ok (.aload_n 0, 1) := by decide +kernel
theorem dX8_init_212 : decode cX8_init 212 = .ok (.sipush 2560, 3) := by decide +kernel
theorem dX8_init_215 : decode cX8_init 215 = .ok (.newarray .int, 2) := by decide +kernel
theorem dX8_init_217 : decode cX8_init 217 = .ok (.putfield 92, 3) := by decide +kernel
theorem dX8_init_220 : decode cX8_init 220 = .ok (.aload_n 0, 1) := by decide +kernel
theorem dX8_init_221 : decode cX8_init 221 = .ok (.iload_n 1, 1) := by decide +kernel
theorem dX8_init_222 : decode cX8_init 222 = .ok (.iconst 4, 1) := by decide +kernel
theorem dX8_init_223 : decode cX8_init 223 = .ok (.if_icmp .ge 7, 3) := by decide +kernel
theorem dX8_init_226 : decode cX8_init 226 = .ok (.iconst 4, 1) := by decide +kernel
theorem dX8_init_227 : decode cX8_init 227 = .ok (.goto 15, 3) := by decide +kernel
theorem dX8_init_230 : decode cX8_init 230 = .ok (.iload_n 1, 1) := by decide +kernel
theorem dX8_init_231 : decode cX8_init 231 = .ok (.bipush 20, 2) := by decide +kernel
theorem dX8_init_233 : decode cX8_init 233 = .ok (.if_icmp .le 8, 3) := by decide +kernel
theorem dX8_init_236 : decode cX8_init 236 = .ok (.bipush 20, 2) := by decide +kernel
theorem dX8_init_238 : decode cX8_init 238 = .ok (.goto 4, 3) := by decide +kernel
theorem dX8_init_241 : decode cX8_init 241 = .ok (.iload_n 1, 1) := by decide +kernel
theorem dX8_init_242 : decode cX8_init 242 = .ok (.putfield 95, 3) := by decide +kernel
theorem dX8_init_245 : decode cX8_init 245 = .ok (.return_, 1) := by decide +kernel
theorem dX8_thrown_0 : decode cX8_thrown 0 = .ok (.aload_n 0, 1) := by decide +kernel
theorem dX8_thrown_1 : decode cX8_thrown 1 = .ok (.getfield 98, 3) := by decide +kernel
theorem dX8_thrown_4 : decode cX8_thrown 4 = .ok (.ireturn, 1) := by decide +kernel
theorem dX8_write_0 : decode cX8_write 0 = .ok (.aload_n 0, 1) := by decide +kernel
theorem dX8_write_1 : decode cX8_write 1 = .ok (.iconst 0, 1) := by decide +kernel
theorem dX8_write_2 : decode cX8_write 2 = .ok (.putfield 98, 3) := by decide +kernel
theorem dX8_write_5 : decode cX8_write 5 = .ok (.iconst 0, 1) := by decide +kernel
theorem dX8_write_6 : decode cX8_write 6 = .ok (.istore_n 3, 1) := by decide +kernel
theorem dX8_write_7 : decode cX8_write 7 = .ok (.bipush 7, 2) := by decide +kernel
theorem dX8_write_9 : decode cX8_write 9 = .ok (.istore 4, 2) := by decide +kernel
theorem dX8_write_11 : decode cX8_write 11 = .ok (.iload 4, 2) := by decide +kernel
theorem dX8_write_13 : decode cX8_write 13 = .ok (.ifCond .lt 57, 3) := by decide +kernel
theorem dX8_write_16 : decode cX8_write 16 = .ok (.lload_n 1, 1) := by decide +kernel
theorem dX8_write_17 : decode cX8_write 17 = .ok (.bipush 8, 2) := by decide +kernel
theorem dX8_write_19 : decode cX8_write 19 = .ok (.iload 4, 2) := by decide +kernel
theorem dX8_write_21 : decode cX8_write 21 = .ok (.imul, 1) := by decide +kernel
theorem dX8_write_22 : decode cX8_write 22 = .ok (.lushr, 1) := by decide +kernel
theorem dX8_write_23 : decode cX8_write 23 = .ok (.l2i, 1) := by decide +kernel
theorem dX8_write_24 : decode cX8_write 24 = .ok (.sipush 255, 3) := by decide +kernel
theorem dX8_write_27 : decode cX8_write 27 = .ok (.iand, 1) := by decide +kernel
theorem dX8_write_28 : decode cX8_write 28 = .ok (.istore 5, 2) := by decide +kernel
theorem dX8_write_30 : decode cX8_write 30 = .ok (.iload 5, 2) := by decide +kernel
theorem dX8_write_32 : decode cX8_write 32 = .ok (.ifCond .eq 19, 3) := by decide +kernel
theorem dX8_write_35 : decode cX8_write 35 = .ok (.iload 5, 2) := by decide +kernel
theorem dX8_write_37 : decode cX8_write 37 = .ok (.bipush 32, 2) := by decide +kernel
theorem dX8_write_39 : decode cX8_write 39 = .ok (.if_icmp .lt 10, 3) := by decide +kernel
theorem dX8_write_42 : decode cX8_write 42 = .ok (.iload 5, 2) := by decide +kernel
theorem dX8_write_44 : decode cX8_write 44 = .ok (.bipush 126, 2) := by decide +kernel
theorem dX8_write_46 : decode cX8_write 46 = .ok (.if_icmp .le 5, 3) := by decide +kernel
theorem dX8_write_49 : decode cX8_write 49 = .ok (.iconst 0, 1) := by decide +kernel
theorem dX8_write_50 : decode cX8_write 50 = .ok (.ireturn, 1) := by decide +kernel
theorem dX8_write_51 : decode cX8_write 51 = .ok (.iload 5, 2) := by decide +kernel
theorem dX8_write_53 : decode cX8_write 53 = .ok (.ifCond .eq 9, 3) := by decide +kernel
theorem dX8_write_56 : decode cX8_write 56 = .ok (.iload_n 3, 1) := by decide +kernel
theorem dX8_write_57 : decode cX8_write 57 = .ok (.iconst 1, 1) := by decide +kernel
theorem dX8_write_58 : decode cX8_write 58 = .ok (.iadd, 1) := by decide +kernel
theorem dX8_write_59 : decode cX8_write 59 = .ok (.goto 4, 3) := by decide +kernel
theorem dX8_write_62 : decode cX8_write 62 = .ok (.iload_n 3, 1) := by decide +kernel
theorem dX8_write_63 : decode cX8_write 63 = .ok (.istore_n 3, 1) := by decide +kernel
theorem dX8_write_64 : decode cX8_write 64 = .ok (.iinc 4 (-1), 3) := by decide +kernel
theorem dX8_write_67 : decode cX8_write 67 = .ok (.goto (-56), 3) := by decide +kernel
theorem dX8_write_70 : decode cX8_write 70 = .ok (.aload_n 0, 1) := by decide +kernel
theorem dX8_write_71 : decode cX8_write 71 = .ok (.getfield 101, 3) := by decide +kernel
theorem dX8_write_74 : decode cX8_write 74 = .ok (.iload_n 3, 1) := by decide +kernel
theorem dX8_write_75 : decode cX8_write 75 = .ok (.iadd, 1) := by decide +kernel
theorem dX8_write_76 : decode cX8_write 76 = .ok (.bipush 60, 2) := by decide +kernel
theorem dX8_write_78 : decode cX8_write 78 = .ok (.if_icmp .le 5, 3) := by decide +kernel
theorem dX8_write_81 : decode cX8_write 81 = .ok (.iconst 0, 1) := by decide +kernel
theorem dX8_write_82 : decode cX8_write 82 = .ok (.ireturn, 1) := by decide +kernel
theorem dX8_write_83 : decode cX8_write 83 = .ok (.bipush 7, 2) := by decide +kernel
theorem dX8_write_85 : decode cX8_write 85 = .ok (.istore 4, 2) := by decide +kernel
theorem dX8_write_87 : decode cX8_write 87 = .ok (.iload 4, 2) := by decide +kernel
theorem dX8_write_89 : decode cX8_write 89 = .ok (.ifCond .lt 50, 3) := by decide +kernel
theorem dX8_write_92 : decode cX8_write 92 = .ok (.lload_n 1, 1) := by decide +kernel
theorem dX8_write_93 : decode cX8_write 93 = .ok (.bipush 8, 2) := by decide +kernel
theorem dX8_write_95 : decode cX8_write 95 = .ok (.iload 4, 2) := by decide +kernel
theorem dX8_write_97 : decode cX8_write 97 = .ok (.imul, 1) := by decide +kernel
theorem dX8_write_98 : decode cX8_write 98 = .ok (.lushr, 1) := by decide +kernel
theorem dX8_write_99 : decode cX8_write 99 = .ok (.l2i, 1) := by decide +kernel
theorem dX8_write_100 : decode cX8_write 100 = .ok (.sipush 255, 3) := by decide +kernel
theorem dX8_write_103 : decode cX8_write 103 = .ok (.iand, 1) := by decide +kernel
theorem dX8_write_104 : decode cX8_write 104 = .ok (.istore 5, 2) := by decide +kernel
theorem dX8_write_106 : decode cX8_write 106 = .ok (.iload 5, 2) := by decide +kernel
theorem dX8_write_108 : decode cX8_write 108 = .ok (.ifCond .eq 25, 3) := by decide +kernel
theorem dX8_write_111 : decode cX8_write 111 = .ok (.aload_n 0, 1) := by decide +kernel
theorem dX8_write_112 : decode cX8_write 112 = .ok (.getfield 7, 3) := by decide +kernel
theorem dX8_write_115 : decode cX8_write 115 = .ok (.aload_n 0, 1) := by decide +kernel
theorem dX8_write_116 : decode cX8_write 116 = .ok (.getfield 101, 3) := by decide +kernel
theorem dX8_write_119 : decode cX8_write 119 = .ok (.iload 5, 2) := by decide +kernel
theorem dX8_write_121 : decode cX8_write 121 = .ok (.i2c, 1) := by decide +kernel
theorem dX8_write_122 : decode cX8_write 122 = .ok (.castore, 1) := by decide +kernel
theorem dX8_write_123 : decode cX8_write 123 = .ok (.aload_n 0, 1) := by decide +kernel
theorem dX8_write_124 : decode cX8_write 124 = .ok (.dup, 1) := by decide +kernel
theorem dX8_write_125 : decode cX8_write 125 = .ok (.getfield 101, 3) := by decide +kernel
theorem dX8_write_128 : decode cX8_write 128 = .ok (.iconst 1, 1) := by decide +kernel
theorem dX8_write_129 : decode cX8_write 129 = .ok (.iadd, 1) := by decide +kernel
theorem dX8_write_130 : decode cX8_write 130 = .ok (.putfield 101, 3) := by decide +kernel
theorem dX8_write_133 : decode cX8_write 133 = .ok (.iinc 4 (-1), 3) := by decide +kernel
theorem dX8_write_136 : decode cX8_write 136 = .ok (.goto (-49), 3) := by decide +kernel
theorem dX8_write_139 : decode cX8_write 139 = .ok (.iconst 1, 1) := by decide +kernel
theorem dX8_write_140 : decode cX8_write 140 = .ok (.ireturn, 1) := by decide +kernel
theorem dX8_here_0 : decode cX8_here 0 = .ok (.aload_n 0, 1) := by decide +kernel
theorem dX8_here_1 : decode cX8_here 1 = .ok (.getfield 104, 3) := by decide +kernel
theorem dX8_here_4 : decode cX8_here 4 = .ok (.aload_n 0, 1) := by decide +kernel
theorem dX8_here_5 : decode cX8_here 5 = .ok (.getfield 101, 3) := by decide +kernel
theorem dX8_here_8 : decode cX8_here 8 = .ok (.if_icmp .ge 15, 3) := by decide +kernel
theorem dX8_here_11 : decode cX8_here 11 = .ok (.aload_n 0, 1) := by decide +kernel
theorem dX8_here_12 : decode cX8_here 12 = .ok (.getfield 7, 3) := by decide +kernel
theorem dX8_here_15 : decode cX8_here 15 = .ok (.aload_n 0, 1) := by decide +kernel
theorem dX8_here_16 : decode cX8_here 16 = .ok (.getfield 104, 3) := by decide +kernel
theorem dX8_here_19 : decode cX8_here 19 = .ok (.caload, 1) := by decide +kernel
theorem dX8_here_20 : decode cX8_here 20 = .ok (.goto 4, 3) := by decide +kernel
theorem dX8_here_23 : decode cX8_here 23 = .ok (.iconst 0, 1) := by decide +kernel
theorem dX8_here_24 : decode cX8_here 24 = .ok (.ireturn, 1) := by decide +kernel
theorem dX8_letter_0 : decode cX8_letter 0 = .ok (.iload_n 0, 1) := by decide +kernel
theorem dX8_letter_1 : decode cX8_letter 1 = .ok (.bipush 97, 2) := by decide +kernel
theorem dX8_letter_3 : decode cX8_letter 3 = .ok (.if_icmp .lt 13, 3) := by decide +kernel
theorem dX8_letter_6 : decode cX8_letter 6 = .ok (.iload_n 0, 1) := by decide +kernel
theorem dX8_letter_7 : decode cX8_letter 7 = .ok (.bipush 122, 2) := by decide +kernel
theorem dX8_letter_9 : decode cX8_letter 9 = .ok (.if_icmp .gt 7, 3) := by decide +kernel
theorem dX8_letter_12 : decode cX8_letter 12 = .ok (.iconst 1, 1) := by decide +kernel
theorem dX8_letter_13 : decode cX8_letter 13 = .ok (.goto 4, 3) := by decide +kernel
theorem dX8_letter_16 : decode cX8_letter 16 = .ok (.iconst 0, 1) := by decide +kernel
theorem dX8_letter_17 : decode cX8_letter 17 = .ok (.ireturn, 1) := by decide +kernel
theorem dX8_digit_0 : decode cX8_digit 0 = .ok (.iload_n 0, 1) := by decide +kernel
theorem dX8_digit_1 : decode cX8_digit 1 = .ok (.bipush 48, 2) := by decide +kernel
theorem dX8_digit_3 : decode cX8_digit 3 = .ok (.if_icmp .lt 13, 3) := by decide +kernel
theorem dX8_digit_6 : decode cX8_digit 6 = .ok (.iload_n 0, 1) := by decide +kernel
theorem dX8_digit_7 : decode cX8_digit 7 = .ok (.bipush 57, 2) := by decide +kernel
theorem dX8_digit_9 : decode cX8_digit 9 = .ok (.if_icmp .gt 7, 3) := by decide +kernel
theorem dX8_digit_12 : decode cX8_digit 12 = .ok (.iconst 1, 1) := by decide +kernel
theorem dX8_digit_13 : decode cX8_digit 13 = .ok (.goto 4, 3) := by decide +kernel
theorem dX8_digit_16 : decode cX8_digit 16 = .ok (.iconst 0, 1) := by decide +kernel
theorem dX8_digit_17 : decode cX8_digit 17 = .ok (.ireturn, 1) := by decide +kernel
theorem dX8_readName_0 : decode cX8_readName 0 = .ok (.aload_n 0, 1) := by decide +kernel
theorem dX8_readName_1 : decode cX8_readName 1 = .ok (.invokevirtual 107, 3) := by decide +kernel
theorem dX8_readName_4 : decode cX8_readName 4 = .ok (.invokestatic 111, 3) := by decide +kernel
theorem dX8_readName_7 : decode cX8_readName 7 = .ok (.ifCond .ne 5, 3) := by decide +kernel
theorem dX8_readName_10 : decode cX8_readName 10 = .ok (.iconst (-1), 1) := by decide +kernel
theorem dX8_readName_11 : decode cX8_readName 11 = .ok (.ireturn, 1) := by decide +kernel
theorem dX8_readName_12 : decode cX8_readName 12 = .ok (.bipush 27, 2) := by decide +kernel
theorem dX8_readName_14 : decode cX8_readName 14 = .ok (.aload_n 0, 1) := by decide +kernel
theorem dX8_readName_15 : decode cX8_readName 15 = .ok (.invokevirtual 107, 3) := by decide +kernel
theorem dX8_readName_18 : decode cX8_readName 18 = .ok (.bipush 97, 2) := by decide +kernel
theorem dX8_readName_20 : decode cX8_readName 20 = .ok (.isub, 1) := by decide +kernel
theorem dX8_readName_21 : decode cX8_readName 21 = .ok (.iconst 1, 1) := by decide +kernel
theorem dX8_readName_22 : decode cX8_readName 22 = .ok (.iadd, 1) := by decide +kernel
theorem dX8_readName_23 : decode cX8_readName 23 = .ok (.imul, 1) := by decide +kernel
theorem dX8_readName_24 : decode cX8_readName 24 = .ok (.istore_n 1, 1) := by decide +kernel
theorem dX8_readName_25 : decode cX8_readName 25 = .ok (.aload_n 0, 1) := by decide +kernel
theorem dX8_readName_26 : decode cX8_readName 26 = .ok (.dup, 1) := by decide +kernel
theorem dX8_readName_27 : decode cX8_readName 27 = .ok (.getfield 104, 3) := by decide +kernel
theorem dX8_readName_30 : decode cX8_readName 30 = .ok (.iconst 1, 1) := by decide +kernel
theorem dX8_readName_31 : decode cX8_readName 31 = .ok (.iadd, 1) := by decide +kernel
theorem dX8_readName_32 : decode cX8_readName 32 = .ok (.putfield 104, 3) := by decide +kernel
theorem dX8_readName_35 : decode cX8_readName 35 = .ok (.aload_n 0, 1) := by decide +kernel
theorem dX8_readName_36 : decode cX8_readName 36 = .ok (.invokevirtual 107, 3) := by decide +kernel
theorem dX8_readName_39 : decode cX8_readName 39 = .ok (.invokestatic 111, 3) := by decide +kernel
theorem dX8_readName_42 : decode cX8_readName 42 = .ok (.ifCond .eq 25, 3) := by decide +kernel
theorem dX8_readName_45 : decode cX8_readName 45 = .ok (.iload_n 1, 1) := by decide +kernel
theorem dX8_readName_46 : decode cX8_readName 46 = .ok (.aload_n 0, 1) := by decide +kernel
theorem dX8_readName_47 : decode cX8_readName 47 = .ok (.invokevirtual 107, 3) := by decide +kernel
theorem dX8_readName_50 : decode cX8_readName 50 = .ok (.bipush 97, 2) := by decide +kernel
theorem dX8_readName_52 : decode cX8_readName 52 = .ok (.isub, 1) := by decide +kernel
theorem dX8_readName_53 : decode cX8_readName 53 = .ok (.iconst 1, 1) := by decide +kernel
theorem dX8_readName_54 : decode cX8_readName 54 = .ok (.iadd, 1) := by decide +kernel
theorem dX8_readName_55 : decode cX8_readName 55 = .ok (.iadd, 1) := by decide +kernel
theorem dX8_readName_56 : decode cX8_readName 56 = .ok (.istore_n 1, 1) := by decide +kernel
theorem dX8_readName_57 : decode cX8_readName 57 = .ok (.aload_n 0, 1) := by decide +kernel
theorem dX8_readName_58 : decode cX8_readName 58 = .ok (.dup, 1) := by decide +kernel
theorem dX8_readName_59 : decode cX8_readName 59 = .ok (.getfield 104, 3) := by decide +kernel
theorem dX8_readName_62 : decode cX8_readName 62 = .ok (.iconst 1, 1) := by decide +kernel
theorem dX8_readName_63 : decode cX8_readName 63 = .ok (.iadd, 1) := by decide +kernel
theorem dX8_readName_64 : decode cX8_readName 64 = .ok (.putfield 104, 3) := by decide +kernel
theorem dX8_readName_67 : decode cX8_readName 67 = .ok (.iload_n 1, 1) := by decide +kernel
theorem dX8_readName_68 : decode cX8_readName 68 = .ok (.ireturn, 1) := by decide +kernel
theorem dX8_part_0 : decode cX8_part 0 = .ok (.bipush 32, 2) := by decide +kernel
theorem dX8_part_2 : decode cX8_part 2 = .ok (.aload_n 0, 1) := by decide +kernel
theorem dX8_part_3 : decode cX8_part 3 = .ok (.getfield 115, 3) := by decide +kernel
theorem dX8_part_6 : decode cX8_part 6 = .ok (.imul, 1) := by decide +kernel
theorem dX8_part_7 : decode cX8_part 7 = .ok (.aload_n 0, 1) := by decide +kernel
theorem dX8_part_8 : decode cX8_part 8 = .ok (.getfield 34, 3) := by decide +kernel
theorem dX8_part_11 : decode cX8_part 11 = .ok (.aload_n 0, 1) := by decide +kernel
theorem dX8_part_12 : decode cX8_part 12 = .ok (.getfield 115, 3) := by decide +kernel
theorem dX8_part_15 : decode cX8_part 15 = .ok (.iaload, 1) := by decide +kernel
theorem dX8_part_16 : decode cX8_part 16 = .ok (.iadd, 1) := by decide +kernel
theorem dX8_part_17 : decode cX8_part 17 = .ok (.istore 7, 2) := by decide +kernel
theorem dX8_part_19 : decode cX8_part 19 = .ok (.aload_n 0, 1) := by decide +kernel
theorem dX8_part_20 : decode cX8_part 20 = .ok (.getfield 37, 3) := by decide +kernel
theorem dX8_part_23 : decode cX8_part 23 = .ok (.iload 7, 2) := by decide +kernel
theorem dX8_part_25 : decode cX8_part 25 = .ok (.iload_n 1, 1) := by decide +kernel
theorem dX8_part_26 : decode cX8_part 26 = .ok (.iastore, 1) := by decide +kernel
theorem dX8_part_27 : decode cX8_part 27 = .ok (.aload_n 0, 1) := by decide +kernel
theorem dX8_part_28 : decode cX8_part 28 = .ok (.getfield 40, 3) := by decide +kernel
theorem dX8_part_31 : decode cX8_part 31 = .ok (.iload 7, 2) := by decide +kernel
theorem dX8_part_33 : decode cX8_part 33 = .ok (.iload_n 2, 1) := by decide +kernel
theorem dX8_part_34 : decode cX8_part 34 = .ok (.iastore, 1) := by decide +kernel
theorem dX8_part_35 : decode cX8_part 35 = .ok (.aload_n 0, 1) := by decide +kernel
theorem dX8_part_36 : decode cX8_part 36 = .ok (.getfield 43, 3) := by decide +kernel
theorem dX8_part_39 : decode cX8_part 39 = .ok (.iload 7, 2) := by decide +kernel
theorem dX8_part_41 : decode cX8_part 41 = .ok (.iload_n 3, 1) := by decide +kernel
theorem dX8_part_42 : decode cX8_part 42 = .ok (.iastore, 1) := by decide +kernel
theorem dX8_part_43 : decode cX8_part 43 = .ok (.aload_n 0, 1) := by decide +kernel
theorem dX8_part_44 : decode cX8_part 44 = .ok (.getfield 46, 3) := by decide +kernel
theorem dX8_part_47 : decode cX8_part 47 = .ok (.iload 7, 2) := by decide +kernel
theorem dX8_part_49 : decode cX8_part 49 = .ok (.iload 4, 2) := by decide +kernel
theorem dX8_part_51 : decode cX8_part 51 = .ok (.iastore, 1) := by decide +kernel
theorem dX8_part_52 : decode cX8_part 52 = .ok (.aload_n 0, 1) := by decide +kernel
theorem dX8_part_53 : decode cX8_part 53 = .ok (.getfield 49, 3) := by decide +kernel
theorem dX8_part_56 : decode cX8_part 56 = .ok (.iload 7, 2) := by decide +kernel
theorem dX8_part_58 : decode cX8_part 58 = .ok (.lload 5, 2) := by decide +kernel
theorem dX8_part_60 : decode cX8_part 60 = .ok (.lastore, 1) := by decide +kernel
theorem dX8_part_61 : decode cX8_part 61 = .ok (.aload_n 0, 1) := by decide +kernel
theorem dX8_part_62 : decode cX8_part 62 = .ok (.getfield 34, 3) := by decide +kernel
theorem dX8_part_65 : decode cX8_part 65 = .ok (.aload_n 0, 1) := by decide +kernel
theorem dX8_part_66 : decode cX8_part 66 = .ok (.getfield 115, 3) := by decide +kernel
theorem dX8_part_69 : decode cX8_part 69 = .ok (.dup2, 1) := by decide +kernel
theorem dX8_part_70 : decode cX8_part 70 = .ok (.iaload, 1) := by decide +kernel
theorem dX8_part_71 : decode cX8_part 71 = .ok (.iconst 1, 1) := by decide +kernel
theorem dX8_part_72 : decode cX8_part 72 = .ok (.iadd, 1) := by decide +kernel
theorem dX8_part_73 : decode cX8_part 73 = .ok (.iastore, 1) := by decide +kernel
theorem dX8_part_74 : decode cX8_part 74 = .ok (.aload_n 0, 1) := by decide +kernel
theorem dX8_part_75 : decode cX8_part 75 = .ok (.getfield 34, 3) := by decide +kernel
theorem dX8_part_78 : decode cX8_part 78 = .ok (.aload_n 0, 1) := by decide +kernel
theorem dX8_part_79 : decode cX8_part 79 = .ok (.getfield 115, 3) := by decide +kernel
theorem dX8_part_82 : decode cX8_part 82 = .ok (.iaload, 1) := by decide +kernel
theorem dX8_part_83 : decode cX8_part 83 = .ok (.iconst 1, 1) := by decide +kernel
theorem dX8_part_84 : decode cX8_part 84 = .ok (.isub, 1) := by decide +kernel
theorem dX8_part_85 : decode cX8_part 85 = .ok (.ireturn, 1) := by decide +kernel
theorem dX8_readNumber_0 : decode cX8_readNumber 0 = .ok (.lconst 0, 1) := by decide +kernel
theorem dX8_readNumber_1 : decode cX8_readNumber 1 = .ok (.lstore_n 1, 1) := by decide +kernel
theorem dX8_readNumber_2 : decode cX8_readNumber 2 = .ok (.iconst 0, 1) := by decide +kernel
theorem dX8_readNumber_3 : decode cX8_readNumber 3 = .ok (.istore_n 3, 1) := by decide +kernel
theorem dX8_readNumber_4 : decode cX8_readNumber 4 = .ok (.iload_n 3, 1) := by decide +kernel
theorem dX8_readNumber_5 : decode cX8_readNumber 5 = .ok (.bipush 6, 2) := by decide +kernel
theorem dX8_readNumber_7 : decode cX8_readNumber 7 = .ok (.if_icmp .ge 45, 3) := by decide +kernel
theorem dX8_readNumber_10 : decode cX8_readNumber 10 = .ok (.aload_n 0, 1) := by decide +kernel
theorem dX8_readNumber_11 : decode cX8_readNumber 11 = .ok (.invokevirtual 107, 3) := by decide +kernel
theorem dX8_readNumber_14 : decode cX8_readNumber 14 = .ok (.invokestatic 118, 3) := by decide +kernel
theorem dX8_readNumber_17 : decode cX8_readNumber 17 = .ok (.ifCond .eq 35, 3) := by decide +kernel
theorem dX8_readNumber_20 : decode cX8_readNumber 20 = .ok (.ldc2_w 121, 3) := by decide +kernel
theorem dX8_readNumber_23 : decode cX8_readNumber 23 = .ok (.lload_n 1, 1) := by decide +kernel
theorem dX8_readNumber_24 : decode cX8_readNumber 24 = .ok (.lmul, 1) := by decide +kernel
theorem dX8_readNumber_25 : decode cX8_readNumber 25 = .ok (.aload_n 0, 1) := by decide +kernel
theorem dX8_readNumber_26 : decode cX8_readNumber 26 = .ok (.invokevirtual 107, 3) := by decide +kernel
theorem dX8_readNumber_29 : decode cX8_readNumber 29 = .ok (.i2l, 1) := by decide +kernel
theorem dX8_readNumber_30 : decode cX8_readNumber 30 = .ok (.ladd, 1) := by decide +kernel
theorem dX8_readNumber_31 : decode cX8_readNumber 31 = .ok (.ldc2_w 123, 3) := by decide +kernel
theorem dX8_readNumber_34 : decode cX8_readNumber 34 = .ok (.lsub, 1) := by decide +kernel
theorem dX8_readNumber_35 : decode cX8_readNumber 35 = .ok (.lstore_n 1, 1) := by decide +kernel
theorem dX8_readNumber_36 : decode cX8_readNumber 36 = .ok (.aload_n 0, 1) := by decide +kernel
theorem dX8_readNumber_37 : decode cX8_readNumber 37 = .ok (.dup, 1) := by decide +kernel
theorem dX8_readNumber_38 : decode cX8_readNumber 38 = .ok (.getfield 104, 3) := by decide +kernel
theorem dX8_readNumber_41 : decode cX8_readNumber 41 = .ok (.iconst 1, 1) := by decide +kernel
theorem dX8_readNumber_42 : decode cX8_readNumber 42 = .ok (.iadd, 1) := by decide +kernel
theorem dX8_readNumber_43 : decode cX8_readNumber 43 = .ok (.putfield 104, 3) := by decide +kernel
theorem dX8_readNumber_46 : decode cX8_readNumber 46 = .ok (.iinc 3 1, 3) := by decide +kernel
theorem dX8_readNumber_49 : decode cX8_readNumber 49 = .ok (.goto (-45), 3) := by decide +kernel
theorem dX8_readNumber_52 : decode cX8_readNumber 52 = .ok (.ldc2_w 125, 3) := by decide +kernel
theorem dX8_readNumber_55 : decode cX8_readNumber 55 = .ok (.lload_n 1, 1) := by decide +kernel
theorem dX8_readNumber_56 : decode cX8_readNumber 56 = .ok (.lmul, 1) := by decide +kernel
theorem dX8_readNumber_57 : decode cX8_readNumber 57 = .ok (.lstore_n 1, 1) := by decide +kernel
theorem dX8_readNumber_58 : decode cX8_readNumber 58 = .ok (.aload_n 0, 1) := by decide +kernel
theorem dX8_readNumber_59 : decode cX8_readNumber 59 = .ok (.invokevirtual 107, 3) := by decide +kernel
theorem dX8_readNumber_62 : decode cX8_readNumber 62 = .ok (.bipush 46, 2) := by decide +kernel
theorem dX8_readNumber_64 : decode cX8_readNumber 64 = .ok (.if_icmp .ne 82, 3) := by decide +kernel
theorem dX8_readNumber_67 : decode cX8_readNumber 67 = .ok (.aload_n 0, 1) := by decide +kernel
theorem dX8_readNumber_68 : decode cX8_readNumber 68 = .ok (.dup, 1) := by decide +kernel
theorem dX8_readNumber_69 : decode cX8_readNumber 69 = .ok (.getfield 104, 3) := by decide +kernel
theorem dX8_readNumber_72 : decode cX8_readNumber 72 = .ok (.iconst 1, 1) := by decide +kernel
theorem dX8_readNumber_73 : decode cX8_readNumber 73 = .ok (.iadd, 1) := by decide +kernel
theorem dX8_readNumber_74 : decode cX8_readNumber 74 = .ok (.putfield 104, 3) := by decide +kernel
theorem dX8_readNumber_77 : decode cX8_readNumber 77 = .ok (.aload_n 0, 1) := by decide +kernel
theorem dX8_readNumber_78 : decode cX8_readNumber 78 = .ok (.invokevirtual 107, 3) := by decide +kernel
theorem dX8_readNumber_81 : decode cX8_readNumber 81 = .ok (.invokestatic 118, 3) := by decide +kernel
theorem dX8_readNumber_84 : decode cX8_readNumber 84 = .ok (.ifCond .ne 7, 3) := by decide +kernel
theorem dX8_readNumber_87 : decode cX8_readNumber 87 = .ok (.ldc2_w 127, 3) := by decide +kernel
theorem dX8_readNumber_90 : decode cX8_readNumber 90 = .ok (.lreturn, 1) := by decide +kernel
theorem dX8_readNumber_91 : decode cX8_readNumber 91 = .ok (.lload_n 1, 1) := by decide +kernel
theorem dX8_readNumber_92 : decode cX8_readNumber 92 = .ok (.bipush 10, 2) := by decide +kernel
theorem dX8_readNumber_94 : decode cX8_readNumber 94 = .ok (.aload_n 0, 1) := by decide +kernel
theorem dX8_readNumber_95 : decode cX8_readNumber 95 = .ok (.invokevirtual 107, 3) := by decide +kernel
theorem dX8_readNumber_98 : decode cX8_readNumber 98 = .ok (.bipush 48, 2) := by decide +kernel
theorem dX8_readNumber_100 : decode cX8_readNumber 100 = .ok (.isub, 1) := by decide +kernel
theorem dX8_readNumber_101 : decode cX8_readNumber 101 = .ok (.imul, 1) := by decide +kernel
theorem dX8_readNumber_102 : decode cX8_readNumber 102 = .ok (.i2l, 1) := by decide +kernel
theorem dX8_readNumber_103 : decode cX8_readNumber 103 = .ok (.ladd, 1) := by decide +kernel
theorem dX8_readNumber_104 : decode cX8_readNumber 104 = .ok (.lstore_n 1, 1) := by decide +kernel
theorem dX8_readNumber_105 : decode cX8_readNumber 105 = .ok (.aload_n 0, 1) := by decide +kernel
theorem dX8_readNumber_106 : decode cX8_readNumber 106 = .ok (.dup, 1) := by decide +kernel
theorem dX8_readNumber_107 : decode cX8_readNumber 107 = .ok (.getfield 104, 3) := by decide +kernel
theorem dX8_readNumber_110 : decode cX8_readNumber 110 = .ok (.iconst 1, 1) := by decide +kernel
theorem dX8_readNumber_111 : decode cX8_readNumber 111 = .ok (.iadd, 1) := by decide +kernel
theorem dX8_readNumber_112 : decode cX8_readNumber 112 = .ok (.putfield 104, 3) := by decide +kernel
theorem dX8_readNumber_115 : decode cX8_readNumber 115 = .ok (.aload_n 0, 1) := by decide +kernel
theorem dX8_readNumber_116 : decode cX8_readNumber 116 = .ok (.invokevirtual 107, 3) := by decide +kernel
theorem dX8_readNumber_119 : decode cX8_readNumber 119 = .ok (.invokestatic 118, 3) := by decide +kernel
theorem dX8_readNumber_122 : decode cX8_readNumber 122 = .ok (.ifCond .eq 24, 3) := by decide +kernel
theorem dX8_readNumber_125 : decode cX8_readNumber 125 = .ok (.lload_n 1, 1) := by decide +kernel
theorem dX8_readNumber_126 : decode cX8_readNumber 126 = .ok (.aload_n 0, 1) := by decide +kernel
theorem dX8_readNumber_127 : decode cX8_readNumber 127 = .ok (.invokevirtual 107, 3) := by decide +kernel
theorem dX8_readNumber_130 : decode cX8_readNumber 130 = .ok (.bipush 48, 2) := by decide +kernel
theorem dX8_readNumber_132 : decode cX8_readNumber 132 = .ok (.isub, 1) := by decide +kernel
theorem dX8_readNumber_133 : decode cX8_readNumber 133 = .ok (.i2l, 1) := by decide +kernel
theorem dX8_readNumber_134 : decode cX8_readNumber 134 = .ok (.ladd, 1) := by decide +kernel
theorem dX8_readNumber_135 : decode cX8_readNumber 135 = .ok (.lstore_n 1, 1) := by decide +kernel
theorem dX8_readNumber_136 : decode cX8_readNumber 136 = .ok (.aload_n 0, 1) := by decide +kernel
theorem dX8_readNumber_137 : decode cX8_readNumber 137 = .ok (.dup, 1) := by decide +kernel
theorem dX8_readNumber_138 : decode cX8_readNumber 138 = .ok (.getfield 104, 3) := by decide +kernel
theorem dX8_readNumber_141 : decode cX8_readNumber 141 = .ok (.iconst 1, 1) := by decide +kernel
theorem dX8_readNumber_142 : decode cX8_readNumber 142 = .ok (.iadd, 1) := by decide +kernel
theorem dX8_readNumber_143 : decode cX8_readNumber 143 = .ok (.putfield 104, 3) := by decide +kernel
theorem dX8_readNumber_146 : decode cX8_readNumber 146 = .ok (.lload_n 1, 1) := by decide +kernel
theorem dX8_readNumber_147 : decode cX8_readNumber 147 = .ok (.lreturn, 1) := by decide +kernel
theorem dX8_isSign_0 : decode cX8_isSign 0 = .ok (.iload_n 0, 1) := by decide +kernel
theorem dX8_isSign_1 : decode cX8_isSign 1 = .ok (.bipush 43, 2) := by decide +kernel
theorem dX8_isSign_3 : decode cX8_isSign 3 = .ok (.if_icmp .eq 39, 3) := by decide +kernel
theorem dX8_isSign_6 : decode cX8_isSign 6 = .ok (.iload_n 0, 1) := by decide +kernel
theorem dX8_isSign_7 : decode cX8_isSign 7 = .ok (.bipush 45, 2) := by decide +kernel
theorem dX8_isSign_9 : decode cX8_isSign 9 = .ok (.if_icmp .eq 33, 3) := by decide +kernel
theorem dX8_isSign_12 : decode cX8_isSign 12 = .ok (.iload_n 0, 1) := by decide +kernel
theorem dX8_isSign_13 : decode cX8_isSign 13 = .ok (.bipush 42, 2) := by decide +kernel
theorem dX8_isSign_15 : decode cX8_isSign 15 = .ok (.if_icmp .eq 27, 3) := by decide +kernel
theorem dX8_isSign_18 : decode cX8_isSign 18 = .ok (.iload_n 0, 1) := by decide +kernel
theorem dX8_isSign_19 : decode cX8_isSign 19 = .ok (.bipush 47, 2) := by decide +kernel
theorem dX8_isSign_21 : decode cX8_isSign 21 = .ok (.if_icmp .eq 21, 3) := by decide +kernel
theorem dX8_isSign_24 : decode cX8_isSign 24 = .ok (.iload_n 0, 1) := by decide +kernel
theorem dX8_isSign_25 : decode cX8_isSign 25 = .ok (.bipush 60, 2) := by decide +kernel
theorem dX8_isSign_27 : decode cX8_isSign 27 = .ok (.if_icmp .eq 15, 3) := by decide +kernel
theorem dX8_isSign_30 : decode cX8_isSign 30 = .ok (.iload_n 0, 1) := by decide +kernel
theorem dX8_isSign_31 : decode cX8_isSign 31 = .ok (.bipush 61, 2) := by decide +kernel
theorem dX8_isSign_33 : decode cX8_isSign 33 = .ok (.if_icmp .eq 9, 3) := by decide +kernel
theorem dX8_isSign_36 : decode cX8_isSign 36 = .ok (.iload_n 0, 1) := by decide +kernel
theorem dX8_isSign_37 : decode cX8_isSign 37 = .ok (.bipush 63, 2) := by decide +kernel
theorem dX8_isSign_39 : decode cX8_isSign 39 = .ok (.if_icmp .ne 7, 3) := by decide +kernel
theorem dX8_isSign_42 : decode cX8_isSign 42 = .ok (.iconst 1, 1) := by decide +kernel
theorem dX8_isSign_43 : decode cX8_isSign 43 = .ok (.goto 4, 3) := by decide +kernel
theorem dX8_isSign_46 : decode cX8_isSign 46 = .ok (.iconst 0, 1) := by decide +kernel
theorem dX8_isSign_47 : decode cX8_isSign 47 = .ok (.ireturn, 1) := by decide +kernel
theorem dX8_begin_0 : decode cX8_begin 0 = .ok (.aload_n 0, 1) := by decide +kernel
theorem dX8_begin_1 : decode cX8_begin 1 = .ok (.invokevirtual 107, 3) := by decide +kernel
theorem dX8_begin_4 : decode cX8_begin 4 = .ok (.istore_n 1, 1) := by decide +kernel
theorem dX8_begin_5 : decode cX8_begin 5 = .ok (.iload_n 1, 1) := by decide +kernel
theorem dX8_begin_6 : decode cX8_begin 6 = .ok (.invokestatic 118, 3) := by decide +kernel
theorem dX8_begin_9 : decode cX8_begin 9 = .ok (.ifCond .eq 29, 3) := by decide +kernel
theorem dX8_begin_12 : decode cX8_begin 12 = .ok (.aload_n 0, 1) := by decide +kernel
theorem dX8_begin_13 : decode cX8_begin 13 = .ok (.invokevirtual 129, 3) := by decide +kernel
theorem dX8_begin_16 : decode cX8_begin 16 = .ok (.lstore_n 2, 1) := by decide +kernel
theorem dX8_begin_17 : decode cX8_begin 17 = .ok (.lload_n 2, 1) := by decide +kernel
theorem dX8_begin_18 : decode cX8_begin 18 = .ok (.lconst 0, 1) := by decide +kernel
theorem dX8_begin_19 : decode cX8_begin 19 = .ok (.lcmp, 1) := by decide +kernel
theorem dX8_begin_20 : decode cX8_begin 20 = .ok (.ifCond .ge 8, 3) := by decide +kernel
theorem dX8_begin_23 : decode cX8_begin 23 = .ok (.bipush (-2), 2) := by decide +kernel
theorem dX8_begin_25 : decode cX8_begin 25 = .ok (.goto 12, 3) := by decide +kernel
theorem dX8_begin_28 : decode cX8_begin 28 = .ok (.aload_n 0, 1) := by decide +kernel
theorem dX8_begin_29 : decode cX8_begin 29 = .ok (.iconst 0, 1) := by decide +kernel
theorem dX8_begin_30 : decode cX8_begin 30 = .ok (.iconst 0, 1) := by decide +kernel
theorem dX8_begin_31 : decode cX8_begin 31 = .ok (.iconst 0, 1) := by decide +kernel
theorem dX8_begin_32 : decode cX8_begin 32 = .ok (.iconst 0, 1) := by decide +kernel
theorem dX8_begin_33 : decode cX8_begin 33 = .ok (.lload_n 2, 1) := by decide +kernel
theorem dX8_begin_34 : decode cX8_begin 34 = .ok (.invokevirtual 133, 3) := by decide +kernel
theorem dX8_begin_37 : decode cX8_begin 37 = .ok (.ireturn, 1) := by decide +kernel
theorem dX8_begin_38 : decode cX8_begin 38 = .ok (.iload_n 1, 1) := by decide +kernel
theorem dX8_begin_39 : decode cX8_begin 39 = .ok (.invokestatic 111, 3) := by decide +kernel
theorem dX8_begin_42 : decode cX8_begin 42 = .ok (.ifCond .eq 16, 3) := by decide +kernel
theorem dX8_begin_45 : decode cX8_begin 45 = .ok (.aload_n 0, 1) := by decide +kernel
theorem dX8_begin_46 : decode cX8_begin 46 = .ok (.iconst 1, 1) := by decide +kernel
theorem dX8_begin_47 : decode cX8_begin 47 = .ok (.aload_n 0, 1) := by decide +kernel
theorem dX8_begin_48 : decode cX8_begin 48 = .ok (.invokevirtual 137, 3) := by decide +kernel
theorem dX8_begin_51 : decode cX8_begin 51 = .ok (.iconst 0, 1) := by decide +kernel
theorem dX8_begin_52 : decode cX8_begin 52 = .ok (.iconst 0, 1) := by decide +kernel
theorem dX8_begin_53 : decode cX8_begin 53 = .ok (.lconst 0, 1) := by decide +kernel
theorem dX8_begin_54 : decode cX8_begin 54 = .ok (.invokevirtual 133, 3) := by decide +kernel
theorem dX8_begin_57 : decode cX8_begin 57 = .ok (.ireturn, 1) := by decide +kernel
theorem dX8_begin_58 : decode cX8_begin 58 = .ok (.iload_n 1, 1) := by decide +kernel
theorem dX8_begin_59 : decode cX8_begin 59 = .ok (.bipush 35, 2) := by decide +kernel
theorem dX8_begin_61 : decode cX8_begin 61 = .ok (.if_icmp .ne 37, 3) := by decide +kernel
theorem dX8_begin_64 : decode cX8_begin 64 = .ok (.aload_n 0, 1) := by decide +kernel
theorem dX8_begin_65 : decode cX8_begin 65 = .ok (.dup, 1) := by decide +kernel
theorem dX8_begin_66 : decode cX8_begin 66 = .ok (.getfield 104, 3) := by decide +kernel
theorem dX8_begin_69 : decode cX8_begin 69 = .ok (.iconst 1, 1) := by decide +kernel
theorem dX8_begin_70 : decode cX8_begin 70 = .ok (.iadd, 1) := by decide +kernel
theorem dX8_begin_71 : decode cX8_begin 71 = .ok (.putfield 104, 3) := by decide +kernel
theorem dX8_begin_74 : decode cX8_begin 74 = .ok (.aload_n 0, 1) := by decide +kernel
theorem dX8_begin_75 : decode cX8_begin 75 = .ok (.invokevirtual 137, 3) := by decide +kernel
theorem dX8_begin_78 : decode cX8_begin 78 = .ok (.istore_n 2, 1) := by decide +kernel
theorem dX8_begin_79 : decode cX8_begin 79 = .ok (.iload_n 2, 1) := by decide +kernel
theorem dX8_begin_80 : decode cX8_begin 80 = .ok (.ifCond .ge 8, 3) := by decide +kernel
theorem dX8_begin_83 : decode cX8_begin 83 = .ok (.bipush (-2), 2) := by decide +kernel
theorem dX8_begin_85 : decode cX8_begin 85 = .ok (.goto 12, 3) := by decide +kernel
theorem dX8_begin_88 : decode cX8_begin 88 = .ok (.aload_n 0, 1) := by decide +kernel
theorem dX8_begin_89 : decode cX8_begin 89 = .ok (.iconst 2, 1) := by decide +kernel
theorem dX8_begin_90 : decode cX8_begin 90 = .ok (.iload_n 2, 1) := by decide +kernel
theorem dX8_begin_91 : decode cX8_begin 91 = .ok (.iconst 0, 1) := by decide +kernel
theorem dX8_begin_92 : decode cX8_begin 92 = .ok (.iconst 0, 1) := by decide +kernel
theorem dX8_begin_93 : decode cX8_begin 93 = .ok (.lconst 0, 1) := by decide +kernel
theorem dX8_begin_94 : decode cX8_begin 94 = .ok (.invokevirtual 133, 3) := by decide +kernel
theorem dX8_begin_97 : decode cX8_begin 97 = .ok (.ireturn, 1) := by decide +kernel
theorem dX8_begin_98 : decode cX8_begin 98 = .ok (.iload_n 1, 1) := by decide +kernel
theorem dX8_begin_99 : decode cX8_begin 99 = .ok (.bipush 40, 2) := by decide +kernel
theorem dX8_begin_101 : decode cX8_begin 101 = .ok (.if_icmp .ne 12, 3) := by decide +kernel
theorem dX8_begin_104 : decode cX8_begin 104 = .ok (.aload_n 0, 1) := by decide +kernel
theorem dX8_begin_105 : decode cX8_begin 105 = .ok (.getfield 141, 3) := by decide +kernel
theorem dX8_begin_108 : decode cX8_begin 108 = .ok (.bipush 6, 2) := by decide +kernel
theorem dX8_begin_110 : decode cX8_begin 110 = .ok (.if_icmp .ne 6, 3) := by decide +kernel
theorem dX8_begin_113 : decode cX8_begin 113 = .ok (.bipush (-2), 2) := by decide +kernel
theorem dX8_begin_115 : decode cX8_begin 115 = .ok (.ireturn, 1) := by decide +kernel
theorem dX8_begin_116 : decode cX8_begin 116 = .ok (.aload_n 0, 1) := by decide +kernel
theorem dX8_begin_117 : decode cX8_begin 117 = .ok (.dup, 1) := by decide +kernel
theorem dX8_begin_118 : decode cX8_begin 118 = .ok (.getfield 104, 3) := by decide +kernel
theorem dX8_begin_121 : decode cX8_begin 121 = .ok (.iconst 1, 1) := by decide +kernel
theorem dX8_begin_122 : decode cX8_begin 122 = .ok (.iadd, 1) := by decide +kernel
theorem dX8_begin_123 : decode cX8_begin 123 = .ok (.putfield 104, 3) := by decide +kernel
theorem dX8_begin_126 : decode cX8_begin 126 = .ok (.aload_n 0, 1) := by decide +kernel
theorem dX8_begin_127 : decode cX8_begin 127 = .ok (.getfield 53, 3) := by decide +kernel
theorem dX8_begin_130 : decode cX8_begin 130 = .ok (.aload_n 0, 1) := by decide +kernel
theorem dX8_begin_131 : decode cX8_begin 131 = .ok (.getfield 141, 3) := by decide +kernel
theorem dX8_begin_134 : decode cX8_begin 134 = .ok (.iconst 0, 1) := by decide +kernel
theorem dX8_begin_135 : decode cX8_begin 135 = .ok (.iastore, 1) := by decide +kernel
theorem dX8_begin_136 : decode cX8_begin 136 = .ok (.aload_n 0, 1) := by decide +kernel
theorem dX8_begin_137 : decode cX8_begin 137 = .ok (.dup, 1) := by decide +kernel
theorem dX8_begin_138 : decode cX8_begin 138 = .ok (.getfield 141, 3) := by decide +kernel
theorem dX8_begin_141 : decode cX8_begin 141 = .ok (.iconst 1, 1) := by decide +kernel
theorem dX8_begin_142 : decode cX8_begin 142 = .ok (.iadd, 1) := by decide +kernel
theorem dX8_begin_143 : decode cX8_begin 143 = .ok (.putfield 141, 3) := by decide +kernel
theorem dX8_begin_146 : decode cX8_begin 146 = .ok (.iconst (-1), 1) := by decide +kernel
theorem dX8_begin_147 : decode cX8_begin 147 = .ok (.ireturn, 1) := by decide +kernel
theorem dX8_goOn_0 : decode cX8_goOn 0 = .ok (.aload_n 0, 1) := by decide +kernel
theorem dX8_goOn_1 : decode cX8_goOn 1 = .ok (.getfield 141, 3) := by decide +kernel
theorem dX8_goOn_4 : decode cX8_goOn 4 = .ok (.iconst 1, 1) := by decide +kernel
theorem dX8_goOn_5 : decode cX8_goOn 5 = .ok (.isub, 1) := by decide +kernel
theorem dX8_goOn_6 : decode cX8_goOn 6 = .ok (.istore_n 2, 1) := by decide +kernel
theorem dX8_goOn_7 : decode cX8_goOn 7 = .ok (.aload_n 0, 1) := by decide +kernel
theorem dX8_goOn_8 : decode cX8_goOn 8 = .ok (.getfield 53, 3) := by decide +kernel
theorem dX8_goOn_11 : decode cX8_goOn 11 = .ok (.iload_n 2, 1) := by decide +kernel
theorem dX8_goOn_12 : decode cX8_goOn 12 = .ok (.dup2, 1) := by decide +kernel
theorem dX8_goOn_13 : decode cX8_goOn 13 = .ok (.iaload, 1) := by decide +kernel
theorem dX8_goOn_14 : decode cX8_goOn 14 = .ok (.iconst 1, 1) := by decide +kernel
theorem dX8_goOn_15 : decode cX8_goOn 15 = .ok (.iadd, 1) := by decide +kernel
theorem dX8_goOn_16 : decode cX8_goOn 16 = .ok (.iastore, 1) := by decide +kernel
theorem dX8_goOn_17 : decode cX8_goOn 17 = .ok (.aload_n 0, 1) := by decide +kernel
theorem dX8_goOn_18 : decode cX8_goOn 18 = .ok (.invokevirtual 107, 3) := by decide +kernel
theorem dX8_goOn_21 : decode cX8_goOn 21 = .ok (.istore_n 3, 1) := by decide +kernel
theorem dX8_goOn_22 : decode cX8_goOn 22 = .ok (.aload_n 0, 1) := by decide +kernel
theorem dX8_goOn_23 : decode cX8_goOn 23 = .ok (.getfield 53, 3) := by decide +kernel
theorem dX8_goOn_26 : decode cX8_goOn 26 = .ok (.iload_n 2, 1) := by decide +kernel
theorem dX8_goOn_27 : decode cX8_goOn 27 = .ok (.iaload, 1) := by decide +kernel
theorem dX8_goOn_28 : decode cX8_goOn 28 = .ok (.iconst 1, 1) := by decide +kernel
theorem dX8_goOn_29 : decode cX8_goOn 29 = .ok (.if_icmp .ne 55, 3) := by decide +kernel
theorem dX8_goOn_32 : decode cX8_goOn 32 = .ok (.aload_n 0, 1) := by decide +kernel
theorem dX8_goOn_33 : decode cX8_goOn 33 = .ok (.getfield 59, 3) := by decide +kernel
theorem dX8_goOn_36 : decode cX8_goOn 36 = .ok (.iload_n 2, 1) := by decide +kernel
theorem dX8_goOn_37 : decode cX8_goOn 37 = .ok (.iload_n 1, 1) := by decide +kernel
theorem dX8_goOn_38 : decode cX8_goOn 38 = .ok (.iastore, 1) := by decide +kernel
theorem dX8_goOn_39 : decode cX8_goOn 39 = .ok (.aload_n 0, 1) := by decide +kernel
theorem dX8_goOn_40 : decode cX8_goOn 40 = .ok (.getfield 56, 3) := by decide +kernel
theorem dX8_goOn_43 : decode cX8_goOn 43 = .ok (.iload_n 2, 1) := by decide +kernel
theorem dX8_goOn_44 : decode cX8_goOn 44 = .ok (.iload_n 3, 1) := by decide +kernel
theorem dX8_goOn_45 : decode cX8_goOn 45 = .ok (.iastore, 1) := by decide +kernel
theorem dX8_goOn_46 : decode cX8_goOn 46 = .ok (.aload_n 0, 1) := by decide +kernel
theorem dX8_goOn_47 : decode cX8_goOn 47 = .ok (.iload_n 3, 1) := by decide +kernel
theorem dX8_goOn_48 : decode cX8_goOn 48 = .ok (.invokestatic 144, 3) := by decide +kernel
theorem dX8_goOn_51 : decode cX8_goOn 51 = .ok (.ifCond .eq 12, 3) := by decide +kernel
theorem dX8_goOn_54 : decode cX8_goOn 54 = .ok (.aload_n 0, 1) := by decide +kernel
theorem dX8_goOn_55 : decode cX8_goOn 55 = .ok (.getfield 104, 3) := by decide +kernel
theorem dX8_goOn_58 : decode cX8_goOn 58 = .ok (.iconst 1, 1) := by decide +kernel
theorem dX8_goOn_59 : decode cX8_goOn 59 = .ok (.iadd, 1) := by decide +kernel
theorem dX8_goOn_60 : decode cX8_goOn 60 = .ok (.goto 7, 3) := by decide +kernel
theorem dX8_goOn_63 : decode cX8_goOn 63 = .ok (.aload_n 0, 1) := by decide +kernel
theorem dX8_goOn_64 : decode cX8_goOn 64 = .ok (.getfield 104, 3) := by decide +kernel
theorem dX8_goOn_67 : decode cX8_goOn 67 = .ok (.putfield 104, 3) := by decide +kernel
theorem dX8_goOn_70 : decode cX8_goOn 70 = .ok (.iload_n 3, 1) := by decide +kernel
theorem dX8_goOn_71 : decode cX8_goOn 71 = .ok (.invokestatic 144, 3) := by decide +kernel
theorem dX8_goOn_74 : decode cX8_goOn 74 = .ok (.ifCond .eq 7, 3) := by decide +kernel
theorem dX8_goOn_77 : decode cX8_goOn 77 = .ok (.iconst (-1), 1) := by decide +kernel
theorem dX8_goOn_78 : decode cX8_goOn 78 = .ok (.goto 5, 3) := by decide +kernel
theorem dX8_goOn_81 : decode cX8_goOn 81 = .ok (.bipush (-2), 2) := by decide +kernel
theorem dX8_goOn_83 : decode cX8_goOn 83 = .ok (.ireturn, 1) := by decide +kernel
theorem dX8_goOn_84 : decode cX8_goOn 84 = .ok (.aload_n 0, 1) := by decide +kernel
theorem dX8_goOn_85 : decode cX8_goOn 85 = .ok (.getfield 53, 3) := by decide +kernel
theorem dX8_goOn_88 : decode cX8_goOn 88 = .ok (.iload_n 2, 1) := by decide +kernel
theorem dX8_goOn_89 : decode cX8_goOn 89 = .ok (.iaload, 1) := by decide +kernel
theorem dX8_goOn_90 : decode cX8_goOn 90 = .ok (.iconst 2, 1) := by decide +kernel
theorem dX8_goOn_91 : decode cX8_goOn 91 = .ok (.if_icmp .ne 57, 3) := by decide +kernel
theorem dX8_goOn_94 : decode cX8_goOn 94 = .ok (.aload_n 0, 1) := by decide +kernel
theorem dX8_goOn_95 : decode cX8_goOn 95 = .ok (.getfield 56, 3) := by decide +kernel
theorem dX8_goOn_98 : decode cX8_goOn 98 = .ok (.iload_n 2, 1) := by decide +kernel
theorem dX8_goOn_99 : decode cX8_goOn 99 = .ok (.iaload, 1) := by decide +kernel
theorem dX8_goOn_100 : decode cX8_goOn 100 = .ok (.bipush 63, 2) := by decide +kernel
theorem dX8_goOn_102 : decode cX8_goOn 102 = .ok (.if_icmp .ne 46, 3) := by decide +kernel
theorem dX8_goOn_105 : decode cX8_goOn 105 = .ok (.aload_n 0, 1) := by decide +kernel
theorem dX8_goOn_106 : decode cX8_goOn 106 = .ok (.getfield 62, 3) := by decide +kernel
theorem dX8_goOn_109 : decode cX8_goOn 109 = .ok (.iload_n 2, 1) := by decide +kernel
theorem dX8_goOn_110 : decode cX8_goOn 110 = .ok (.iload_n 1, 1) := by decide +kernel
theorem dX8_goOn_111 : decode cX8_goOn 111 = .ok (.iastore, 1) := by decide +kernel
theorem dX8_goOn_112 : decode cX8_goOn 112 = .ok (.aload_n 0, 1) := by decide +kernel
theorem dX8_goOn_113 : decode cX8_goOn 113 = .ok (.iload_n 3, 1) := by decide +kernel
theorem dX8_goOn_114 : decode cX8_goOn 114 = .ok (.bipush 58, 2) := by decide +kernel
theorem dX8_goOn_116 : decode cX8_goOn 116 = .ok (.if_icmp .ne 12, 3) := by decide +kernel
theorem dX8_goOn_119 : decode cX8_goOn 119 = .ok (.aload_n 0, 1) := by decide +kernel
theorem dX8_goOn_120 : decode cX8_goOn 120 = .ok (.getfield 104, 3) := by decide +kernel
theorem dX8_goOn_123 : decode cX8_goOn 123 = .ok (.iconst 1, 1) := by decide +kernel
theorem dX8_goOn_124 : decode cX8_goOn 124 = .ok (.iadd, 1) := by decide +kernel
theorem dX8_goOn_125 : decode cX8_goOn 125 = .ok (.goto 7, 3) := by decide +kernel
theorem dX8_goOn_128 : decode cX8_goOn 128 = .ok (.aload_n 0, 1) := by decide +kernel
theorem dX8_goOn_129 : decode cX8_goOn 129 = .ok (.getfield 104, 3) := by decide +kernel
theorem dX8_goOn_132 : decode cX8_goOn 132 = .ok (.putfield 104, 3) := by decide +kernel
theorem dX8_goOn_135 : decode cX8_goOn 135 = .ok (.iload_n 3, 1) := by decide +kernel
theorem dX8_goOn_136 : decode cX8_goOn 136 = .ok (.bipush 58, 2) := by decide +kernel
theorem dX8_goOn_138 : decode cX8_goOn 138 = .ok (.if_icmp .ne 7, 3) := by decide +kernel
theorem dX8_goOn_141 : decode cX8_goOn 141 = .ok (.iconst (-1), 1) := by decide +kernel
theorem dX8_goOn_142 : decode cX8_goOn 142 = .ok (.goto 5, 3) := by decide +kernel
theorem dX8_goOn_145 : decode cX8_goOn 145 = .ok (.bipush (-2), 2) := by decide +kernel
theorem dX8_goOn_147 : decode cX8_goOn 147 = .ok (.ireturn, 1) := by decide +kernel
theorem dX8_goOn_148 : decode cX8_goOn 148 = .ok (.iload_n 3, 1) := by decide +kernel
theorem dX8_goOn_149 : decode cX8_goOn 149 = .ok (.bipush 41, 2) := by decide +kernel
theorem dX8_goOn_151 : decode cX8_goOn 151 = .ok (.if_icmp .eq 6, 3) := by decide +kernel
theorem dX8_goOn_154 : decode cX8_goOn 154 = .ok (.bipush (-2), 2) := by decide +kernel
theorem dX8_goOn_156 : decode cX8_goOn 156 = .ok (.ireturn, 1) := by decide +kernel
theorem dX8_goOn_157 : decode cX8_goOn 157 = .ok (.aload_n 0, 1) := by decide +kernel
theorem dX8_goOn_158 : decode cX8_goOn 158 = .ok (.dup, 1) := by decide +kernel
theorem dX8_goOn_159 : decode cX8_goOn 159 = .ok (.getfield 104, 3) := by decide +kernel
theorem dX8_goOn_162 : decode cX8_goOn 162 = .ok (.iconst 1, 1) := by decide +kernel
theorem dX8_goOn_163 : decode cX8_goOn 163 = .ok (.iadd, 1) := by decide +kernel
theorem dX8_goOn_164 : decode cX8_goOn 164 = .ok (.putfield 104, 3) := by decide +kernel
theorem dX8_goOn_167 : decode cX8_goOn 167 = .ok (.aload_n 0, 1) := by decide +kernel
theorem dX8_goOn_168 : decode cX8_goOn 168 = .ok (.dup, 1) := by decide +kernel
theorem dX8_goOn_169 : decode cX8_goOn 169 = .ok (.getfield 141, 3) := by decide +kernel
theorem dX8_goOn_172 : decode cX8_goOn 172 = .ok (.iconst 1, 1) := by decide +kernel
theorem dX8_goOn_173 : decode cX8_goOn 173 = .ok (.isub, 1) := by decide +kernel
theorem dX8_goOn_174 : decode cX8_goOn 174 = .ok (.putfield 141, 3) := by decide +kernel
theorem dX8_goOn_177 : decode cX8_goOn 177 = .ok (.aload_n 0, 1) := by decide +kernel
theorem dX8_goOn_178 : decode cX8_goOn 178 = .ok (.getfield 56, 3) := by decide +kernel
theorem dX8_goOn_181 : decode cX8_goOn 181 = .ok (.iload_n 2, 1) := by decide +kernel
theorem dX8_goOn_182 : decode cX8_goOn 182 = .ok (.iaload, 1) := by decide +kernel
theorem dX8_goOn_183 : decode cX8_goOn 183 = .ok (.bipush 63, 2) := by decide +kernel
theorem dX8_goOn_185 : decode cX8_goOn 185 = .ok (.if_icmp .ne 26, 3) := by decide +kernel
theorem dX8_goOn_188 : decode cX8_goOn 188 = .ok (.aload_n 0, 1) := by decide +kernel
theorem dX8_goOn_189 : decode cX8_goOn 189 = .ok (.bipush 63, 2) := by decide +kernel
theorem dX8_goOn_191 : decode cX8_goOn 191 = .ok (.aload_n 0, 1) := by decide +kernel
theorem dX8_goOn_192 : decode cX8_goOn 192 = .ok (.getfield 59, 3) := by decide +kernel
theorem dX8_goOn_195 : decode cX8_goOn 195 = .ok (.iload_n 2, 1) := by decide +kernel
theorem dX8_goOn_196 : decode cX8_goOn 196 = .ok (.iaload, 1) := by decide +kernel
theorem dX8_goOn_197 : decode cX8_goOn 197 = .ok (.aload_n 0, 1) := by decide +kernel
theorem dX8_goOn_198 : decode cX8_goOn 198 = .ok (.getfield 62, 3) := by decide +kernel
theorem dX8_goOn_201 : decode cX8_goOn 201 = .ok (.iload_n 2, 1) := by decide +kernel
theorem dX8_goOn_202 : decode cX8_goOn 202 = .ok (.iaload, 1) := by decide +kernel
theorem dX8_goOn_203 : decode cX8_goOn 203 = .ok (.iload_n 1, 1) := by decide +kernel
theorem dX8_goOn_204 : decode cX8_goOn 204 = .ok (.lconst 0, 1) := by decide +kernel
theorem dX8_goOn_205 : decode cX8_goOn 205 = .ok (.invokevirtual 133, 3) := by decide +kernel
theorem dX8_goOn_208 : decode cX8_goOn 208 = .ok (.goto 22, 3) := by decide +kernel
theorem dX8_goOn_211 : decode cX8_goOn 211 = .ok (.aload_n 0, 1) := by decide +kernel
theorem dX8_goOn_212 : decode cX8_goOn 212 = .ok (.aload_n 0, 1) := by decide +kernel
theorem dX8_goOn_213 : decode cX8_goOn 213 = .ok (.getfield 56, 3) := by decide +kernel
theorem dX8_goOn_216 : decode cX8_goOn 216 = .ok (.iload_n 2, 1) := by decide +kernel
theorem dX8_goOn_217 : decode cX8_goOn 217 = .ok (.iaload, 1) := by decide +kernel
theorem dX8_goOn_218 : decode cX8_goOn 218 = .ok (.aload_n 0, 1) := by decide +kernel
theorem dX8_goOn_219 : decode cX8_goOn 219 = .ok (.getfield 59, 3) := by decide +kernel
theorem dX8_goOn_222 : decode cX8_goOn 222 = .ok (.iload_n 2, 1) := by decide +kernel
theorem dX8_goOn_223 : decode cX8_goOn 223 = .ok (.iaload, 1) := by decide +kernel
theorem dX8_goOn_224 : decode cX8_goOn 224 = .ok (.iload_n 1, 1) := by decide +kernel
theorem dX8_goOn_225 : decode cX8_goOn 225 = .ok (.iconst 0, 1) := by decide +kernel
theorem dX8_goOn_226 : decode cX8_goOn 226 = .ok (.lconst 0, 1) := by decide +kernel
theorem dX8_goOn_227 : decode cX8_goOn 227 = .ok (.invokevirtual 133, 3) := by decide +kernel
theorem dX8_goOn_230 : decode cX8_goOn 230 = .ok (.ireturn, 1) := by decide +kernel
theorem dX8_expression_0 : decode cX8_expression 0 = .ok (.aload_n 0, 1) := by decide +kernel
theorem dX8_expression_1 : decode cX8_expression 1 = .ok (.iconst 0, 1) := by decide +kernel
theorem dX8_expression_2 : decode cX8_expression 2 = .ok (.putfield 141, 3) := by decide +kernel
theorem dX8_expression_5 : decode cX8_expression 5 = .ok (.iconst 0, 1) := by decide +kernel
theorem dX8_expression_6 : decode cX8_expression 6 = .ok (.istore_n 1, 1) := by decide +kernel
theorem dX8_expression_7 : decode cX8_expression 7 = .ok (.iload_n 1, 1) := by decide +kernel
theorem dX8_expression_8 : decode cX8_expression 8 = .ok (.sipush 200, 3) := by decide +kernel
theorem dX8_expression_11 : decode cX8_expression 11 = .ok (.if_icmp .ge 68, 3) := by decide +kernel
theorem dX8_expression_14 : decode cX8_expression 14 = .ok (.aload_n 0, 1) := by decide +kernel
theorem dX8_expression_15 : decode cX8_expression 15 = .ok (.invokevirtual 147, 3) := by decide +kernel
theorem dX8_expression_18 : decode cX8_expression 18 = .ok (.istore_n 2, 1) := by decide +kernel
theorem dX8_expression_19 : decode cX8_expression 19 = .ok (.iload_n 2, 1) := by decide +kernel
theorem dX8_expression_20 : decode cX8_expression 20 = .ok (.bipush (-2), 2) := by decide +kernel
theorem dX8_expression_22 : decode cX8_expression 22 = .ok (.if_icmp .ne 5, 3) := by decide +kernel
theorem dX8_expression_25 : decode cX8_expression 25 = .ok (.iconst 0, 1) := by decide +kernel
theorem dX8_expression_26 : decode cX8_expression 26 = .ok (.ireturn, 1) := by decide +kernel
theorem dX8_expression_27 : decode cX8_expression 27 = .ok (.iload_n 2, 1) := by decide +kernel
theorem dX8_expression_28 : decode cX8_expression 28 = .ok (.ifCond .lt 24, 3) := by decide +kernel
theorem dX8_expression_31 : decode cX8_expression 31 = .ok (.aload_n 0, 1) := by decide +kernel
theorem dX8_expression_32 : decode cX8_expression 32 = .ok (.getfield 141, 3) := by decide +kernel
theorem dX8_expression_35 : decode cX8_expression 35 = .ok (.ifCond .le 17, 3) := by decide +kernel
theorem dX8_expression_38 : decode cX8_expression 38 = .ok (.aload_n 0, 1) := by decide +kernel
theorem dX8_expression_39 : decode cX8_expression 39 = .ok (.iload_n 2, 1) := by decide +kernel
theorem dX8_expression_40 : decode cX8_expression 40 = .ok (.invokevirtual 150, 3) := by decide +kernel
theorem dX8_expression_43 : decode cX8_expression 43 = .ok (.istore_n 2, 1) := by decide +kernel
theorem dX8_expression_44 : decode cX8_expression 44 = .ok (.iload_n 2, 1) := by decide +kernel
theorem dX8_expression_45 : decode cX8_expression 45 = .ok (.bipush (-2), 2) := by decide +kernel
theorem dX8_expression_47 : decode cX8_expression 47 = .ok (.if_icmp .ne (-20), 3) := by decide +kernel
theorem dX8_expression_50 : decode cX8_expression 50 = .ok (.iconst 0, 1) := by decide +kernel
theorem dX8_expression_51 : decode cX8_expression 51 = .ok (.ireturn, 1) := by decide +kernel
theorem dX8_expression_52 : decode cX8_expression 52 = .ok (.iload_n 2, 1) := by decide +kernel
theorem dX8_expression_53 : decode cX8_expression 53 = .ok (.ifCond .lt 20, 3) := by decide +kernel
theorem dX8_expression_56 : decode cX8_expression 56 = .ok (.aload_n 0, 1) := by decide +kernel
theorem dX8_expression_57 : decode cX8_expression 57 = .ok (.getfield 104, 3) := by decide +kernel
theorem dX8_expression_60 : decode cX8_expression 60 = .ok (.aload_n 0, 1) := by decide +kernel
theorem dX8_expression_61 : decode cX8_expression 61 = .ok (.getfield 101, 3) := by decide +kernel
theorem dX8_expression_64 : decode cX8_expression 64 = .ok (.if_icmp .ne 7, 3) := by decide +kernel
theorem dX8_expression_67 : decode cX8_expression 67 = .ok (.iconst 1, 1) := by decide +kernel
theorem dX8_expression_68 : decode cX8_expression 68 = .ok (.goto 4, 3) := by decide +kernel
theorem dX8_expression_71 : decode cX8_expression 71 = .ok (.iconst 0, 1) := by decide +kernel
theorem dX8_expression_72 : decode cX8_expression 72 = .ok (.ireturn, 1) := by decide +kernel
theorem dX8_expression_73 : decode cX8_expression 73 = .ok (.iinc 1 1, 3) := by decide +kernel
theorem dX8_expression_76 : decode cX8_expression 76 = .ok (.goto (-69), 3) := by decide +kernel
theorem dX8_expression_79 : decode cX8_expression 79 = .ok (.iconst 0, 1) := by decide +kernel
theorem dX8_expression_80 : decode cX8_expression 80 = .ok (.ireturn, 1) := by decide +kernel
theorem dX8_star_0 : decode cX8_star 0 = .ok (.aload_n 0, 1) := by decide +kernel
theorem dX8_star_1 : decode cX8_star 1 = .ok (.invokevirtual 107, 3) := by decide +kernel
theorem dX8_star_4 : decode cX8_star 4 = .ok (.bipush 42, 2) := by decide +kernel
theorem dX8_star_6 : decode cX8_star 6 = .ok (.if_icmp .ne 7, 3) := by decide +kernel
theorem dX8_star_9 : decode cX8_star 9 = .ok (.iconst 1, 1) := by decide +kernel
theorem dX8_star_10 : decode cX8_star 10 = .ok (.goto 4, 3) := by decide +kernel
theorem dX8_star_13 : decode cX8_star 13 = .ok (.iconst 0, 1) := by decide +kernel
theorem dX8_star_14 : decode cX8_star 14 = .ok (.istore_n 1, 1) := by decide +kernel
theorem dX8_star_15 : decode cX8_star 15 = .ok (.aload_n 0, 1) := by decide +kernel
theorem dX8_star_16 : decode cX8_star 16 = .ok (.iload_n 1, 1) := by decide +kernel
theorem dX8_star_17 : decode cX8_star 17 = .ok (.ifCond .eq 12, 3) := by decide +kernel
theorem dX8_star_20 : decode cX8_star 20 = .ok (.aload_n 0, 1) := by decide +kernel
theorem dX8_star_21 : decode cX8_star 21 = .ok (.getfield 104, 3) := by decide +kernel
theorem dX8_star_24 : decode cX8_star 24 = .ok (.iconst 1, 1) := by decide +kernel
theorem dX8_star_25 : decode cX8_star 25 = .ok (.iadd, 1) := by decide +kernel
theorem dX8_star_26 : decode cX8_star 26 = .ok (.goto 7, 3) := by decide +kernel
theorem dX8_star_29 : decode cX8_star 29 = .ok (.aload_n 0, 1) := by decide +kernel
theorem dX8_star_30 : decode cX8_star 30 = .ok (.getfield 104, 3) := by decide +kernel
theorem dX8_star_33 : decode cX8_star 33 = .ok (.putfield 104, 3) := by decide +kernel
theorem dX8_star_36 : decode cX8_star 36 = .ok (.iload_n 1, 1) := by decide +kernel
theorem dX8_star_37 : decode cX8_star 37 = .ok (.ireturn, 1) := by decide +kernel
theorem dX8_read_0 : decode cX8_read 0 = .ok (.aload_n 0, 1) := by decide +kernel
theorem dX8_read_1 : decode cX8_read 1 = .ok (.iconst 0, 1) := by decide +kernel
theorem dX8_read_2 : decode cX8_read 2 = .ok (.putfield 104, 3) := by decide +kernel
theorem dX8_read_5 : decode cX8_read 5 = .ok (.aload_n 0, 1) := by decide +kernel
theorem dX8_read_6 : decode cX8_read 6 = .ok (.getfield 115, 3) := by decide +kernel
theorem dX8_read_9 : decode cX8_read 9 = .ok (.istore_n 1, 1) := by decide +kernel
theorem dX8_read_10 : decode cX8_read 10 = .ok (.aload_n 0, 1) := by decide +kernel
theorem dX8_read_11 : decode cX8_read 11 = .ok (.getfield 34, 3) := by decide +kernel
theorem dX8_read_14 : decode cX8_read 14 = .ok (.iload_n 1, 1) := by decide +kernel
theorem dX8_read_15 : decode cX8_read 15 = .ok (.iconst 0, 1) := by decide +kernel
theorem dX8_read_16 : decode cX8_read 16 = .ok (.iastore, 1) := by decide +kernel
theorem dX8_read_17 : decode cX8_read 17 = .ok (.aload_n 0, 1) := by decide +kernel
theorem dX8_read_18 : decode cX8_read 18 = .ok (.getfield 27, 3) := by decide +kernel
theorem dX8_read_21 : decode cX8_read 21 = .ok (.iload_n 1, 1) := by decide +kernel
theorem dX8_read_22 : decode cX8_read 22 = .ok (.iconst 0, 1) := by decide +kernel
theorem dX8_read_23 : decode cX8_read 23 = .ok (.bastore, 1) := by decide +kernel
theorem dX8_read_24 : decode cX8_read 24 = .ok (.aload_n 0, 1) := by decide +kernel
theorem dX8_read_25 : decode cX8_read 25 = .ok (.invokevirtual 107, 3) := by decide +kernel
theorem dX8_read_28 : decode cX8_read 28 = .ok (.istore_n 2, 1) := by decide +kernel
theorem dX8_read_29 : decode cX8_read 29 = .ok (.iload_n 2, 1) := by decide +kernel
theorem dX8_read_30 : decode cX8_read 30 = .ok (.bipush 34, 2) := by decide +kernel
theorem dX8_read_32 : decode cX8_read 32 = .ok (.if_icmp .ne 63, 3) := by decide +kernel
theorem dX8_read_35 : decode cX8_read 35 = .ok (.aload_n 0, 1) := by decide +kernel
theorem dX8_read_36 : decode cX8_read 36 = .ok (.getfield 20, 3) := by decide +kernel
theorem dX8_read_39 : decode cX8_read 39 = .ok (.iload_n 1, 1) := by decide +kernel
theorem dX8_read_40 : decode cX8_read 40 = .ok (.iconst 2, 1) := by decide +kernel
theorem dX8_read_41 : decode cX8_read 41 = .ok (.iastore, 1) := by decide +kernel
theorem dX8_read_42 : decode cX8_read 42 = .ok (.aload_n 0, 1) := by decide +kernel
theorem dX8_read_43 : decode cX8_read 43 = .ok (.getfield 31, 3) := by decide +kernel
theorem dX8_read_46 : decode cX8_read 46 = .ok (.iload_n 1, 1) := by decide +kernel
theorem dX8_read_47 : decode cX8_read 47 = .ok (.aload_n 0, 1) := by decide +kernel
theorem dX8_read_48 : decode cX8_read 48 = .ok (.getfield 101, 3) := by decide +kernel
theorem dX8_read_51 : decode cX8_read 51 = .ok (.iconst 1, 1) := by decide +kernel
theorem dX8_read_52 : decode cX8_read 52 = .ok (.isub, 1) := by decide +kernel
theorem dX8_read_53 : decode cX8_read 53 = .ok (.iastore, 1) := by decide +kernel
theorem dX8_read_54 : decode cX8_read 54 = .ok (.aload_n 0, 1) := by decide +kernel
theorem dX8_read_55 : decode cX8_read 55 = .ok (.aload_n 0, 1) := by decide +kernel
theorem dX8_read_56 : decode cX8_read 56 = .ok (.getfield 101, 3) := by decide +kernel
theorem dX8_read_59 : decode cX8_read 59 = .ok (.iconst 1, 1) := by decide +kernel
theorem dX8_read_60 : decode cX8_read 60 = .ok (.if_icmp .ne 7, 3) := by decide +kernel
theorem dX8_read_63 : decode cX8_read 63 = .ok (.iconst 1, 1) := by decide +kernel
theorem dX8_read_64 : decode cX8_read 64 = .ok (.goto 5, 3) := by decide +kernel
theorem dX8_read_67 : decode cX8_read 67 = .ok (.bipush 37, 2) := by decide +kernel
theorem dX8_read_69 : decode cX8_read 69 = .ok (.putfield 104, 3) := by decide +kernel
theorem dX8_read_72 : decode cX8_read 72 = .ok (.aload_n 0, 1) := by decide +kernel
theorem dX8_read_73 : decode cX8_read 73 = .ok (.getfield 101, 3) := by decide +kernel
theorem dX8_read_76 : decode cX8_read 76 = .ok (.iconst 1, 1) := by decide +kernel
theorem dX8_read_77 : decode cX8_read 77 = .ok (.if_icmp .le 16, 3) := by decide +kernel
theorem dX8_read_80 : decode cX8_read 80 = .ok (.aload_n 0, 1) := by decide +kernel
theorem dX8_read_81 : decode cX8_read 81 = .ok (.getfield 101, 3) := by decide +kernel
theorem dX8_read_84 : decode cX8_read 84 = .ok (.bipush 37, 2) := by decide +kernel
theorem dX8_read_86 : decode cX8_read 86 = .ok (.if_icmp .gt 7, 3) := by decide +kernel
theorem dX8_read_89 : decode cX8_read 89 = .ok (.iconst 1, 1) := by decide +kernel
theorem dX8_read_90 : decode cX8_read 90 = .ok (.goto 4, 3) := by decide +kernel
theorem dX8_read_93 : decode cX8_read 93 = .ok (.iconst 0, 1) := by decide +kernel
theorem dX8_read_94 : decode cX8_read 94 = .ok (.ireturn, 1) := by decide +kernel
theorem dX8_read_95 : decode cX8_read 95 = .ok (.iload_n 2, 1) := by decide +kernel
theorem dX8_read_96 : decode cX8_read 96 = .ok (.bipush 33, 2) := by decide +kernel
theorem dX8_read_98 : decode cX8_read 98 = .ok (.if_icmp .ne 35, 3) := by decide +kernel
theorem dX8_read_101 : decode cX8_read 101 = .ok (.aload_n 0, 1) := by decide +kernel
theorem dX8_read_102 : decode cX8_read 102 = .ok (.getfield 20, 3) := by decide +kernel
theorem dX8_read_105 : decode cX8_read 105 = .ok (.iload_n 1, 1) := by decide +kernel
theorem dX8_read_106 : decode cX8_read 106 = .ok (.iconst 1, 1) := by decide +kernel
theorem dX8_read_107 : decode cX8_read 107 = .ok (.iastore, 1) := by decide +kernel
theorem dX8_read_108 : decode cX8_read 108 = .ok (.aload_n 0, 1) := by decide +kernel
theorem dX8_read_109 : decode cX8_read 109 = .ok (.dup, 1) := by decide +kernel
theorem dX8_read_110 : decode cX8_read 110 = .ok (.getfield 104, 3) := by decide +kernel
theorem dX8_read_113 : decode cX8_read 113 = .ok (.iconst 1, 1) := by decide +kernel
theorem dX8_read_114 : decode cX8_read 114 = .ok (.iadd, 1) := by decide +kernel
theorem dX8_read_115 : decode cX8_read 115 = .ok (.putfield 104, 3) := by decide +kernel
theorem dX8_read_118 : decode cX8_read 118 = .ok (.aload_n 0, 1) := by decide +kernel
theorem dX8_read_119 : decode cX8_read 119 = .ok (.getfield 27, 3) := by decide +kernel
theorem dX8_read_122 : decode cX8_read 122 = .ok (.iload_n 1, 1) := by decide +kernel
theorem dX8_read_123 : decode cX8_read 123 = .ok (.aload_n 0, 1) := by decide +kernel
theorem dX8_read_124 : decode cX8_read 124 = .ok (.invokevirtual 154, 3) := by decide +kernel
theorem dX8_read_127 : decode cX8_read 127 = .ok (.bastore, 1) := by decide +kernel
theorem dX8_read_128 : decode cX8_read 128 = .ok (.aload_n 0, 1) := by decide +kernel
theorem dX8_read_129 : decode cX8_read 129 = .ok (.invokevirtual 158, 3) := by decide +kernel
theorem dX8_read_132 : decode cX8_read 132 = .ok (.ireturn, 1) := by decide +kernel
theorem dX8_read_133 : decode cX8_read 133 = .ok (.iload_n 2, 1) := by decide +kernel
theorem dX8_read_134 : decode cX8_read 134 = .ok (.invokestatic 111, 3) := by decide +kernel
theorem dX8_read_137 : decode cX8_read 137 = .ok (.ifCond .ne 5, 3) := by decide +kernel
theorem dX8_read_140 : decode cX8_read 140 = .ok (.iconst 0, 1) := by decide +kernel
theorem dX8_read_141 : decode cX8_read 141 = .ok (.ireturn, 1) := by decide +kernel
theorem dX8_read_142 : decode cX8_read 142 = .ok (.aload_n 0, 1) := by decide +kernel
theorem dX8_read_143 : decode cX8_read 143 = .ok (.getfield 20, 3) := by decide +kernel
theorem dX8_read_146 : decode cX8_read 146 = .ok (.iload_n 1, 1) := by decide +kernel
theorem dX8_read_147 : decode cX8_read 147 = .ok (.iconst 0, 1) := by decide +kernel
theorem dX8_read_148 : decode cX8_read 148 = .ok (.iastore, 1) := by decide +kernel
theorem dX8_read_149 : decode cX8_read 149 = .ok (.aload_n 0, 1) := by decide +kernel
theorem dX8_read_150 : decode cX8_read 150 = .ok (.getfield 24, 3) := by decide +kernel
theorem dX8_read_153 : decode cX8_read 153 = .ok (.iload_n 1, 1) := by decide +kernel
theorem dX8_read_154 : decode cX8_read 154 = .ok (.aload_n 0, 1) := by decide +kernel
theorem dX8_read_155 : decode cX8_read 155 = .ok (.invokevirtual 137, 3) := by decide +kernel
theorem dX8_read_158 : decode cX8_read 158 = .ok (.iastore, 1) := by decide +kernel
theorem dX8_read_159 : decode cX8_read 159 = .ok (.aload_n 0, 1) := by decide +kernel
theorem dX8_read_160 : decode cX8_read 160 = .ok (.getfield 27, 3) := by decide +kernel
theorem dX8_read_163 : decode cX8_read 163 = .ok (.iload_n 1, 1) := by decide +kernel
theorem dX8_read_164 : decode cX8_read 164 = .ok (.aload_n 0, 1) := by decide +kernel
theorem dX8_read_165 : decode cX8_read 165 = .ok (.invokevirtual 154, 3) := by decide +kernel
theorem dX8_read_168 : decode cX8_read 168 = .ok (.bastore, 1) := by decide +kernel
theorem dX8_read_169 : decode cX8_read 169 = .ok (.aload_n 0, 1) := by decide +kernel
theorem dX8_read_170 : decode cX8_read 170 = .ok (.getfield 104, 3) := by decide +kernel
theorem dX8_read_173 : decode cX8_read 173 = .ok (.aload_n 0, 1) := by decide +kernel
theorem dX8_read_174 : decode cX8_read 174 = .ok (.getfield 101, 3) := by decide +kernel
theorem dX8_read_177 : decode cX8_read 177 = .ok (.if_icmp .ne 5, 3) := by decide +kernel
theorem dX8_read_180 : decode cX8_read 180 = .ok (.iconst 1, 1) := by decide +kernel
theorem dX8_read_181 : decode cX8_read 181 = .ok (.ireturn, 1) := by decide +kernel
theorem dX8_read_182 : decode cX8_read 182 = .ok (.aload_n 0, 1) := by decide +kernel
theorem dX8_read_183 : decode cX8_read 183 = .ok (.invokevirtual 107, 3) := by decide +kernel
theorem dX8_read_186 : decode cX8_read 186 = .ok (.bipush 61, 2) := by decide +kernel
theorem dX8_read_188 : decode cX8_read 188 = .ok (.if_icmp .eq 5, 3) := by decide +kernel
theorem dX8_read_191 : decode cX8_read 191 = .ok (.iconst 0, 1) := by decide +kernel
theorem dX8_read_192 : decode cX8_read 192 = .ok (.ireturn, 1) := by decide +kernel
theorem dX8_read_193 : decode cX8_read 193 = .ok (.aload_n 0, 1) := by decide +kernel
theorem dX8_read_194 : decode cX8_read 194 = .ok (.dup, 1) := by decide +kernel
theorem dX8_read_195 : decode cX8_read 195 = .ok (.getfield 104, 3) := by decide +kernel
theorem dX8_read_198 : decode cX8_read 198 = .ok (.iconst 1, 1) := by decide +kernel
theorem dX8_read_199 : decode cX8_read 199 = .ok (.iadd, 1) := by decide +kernel
theorem dX8_read_200 : decode cX8_read 200 = .ok (.putfield 104, 3) := by decide +kernel
theorem dX8_read_203 : decode cX8_read 203 = .ok (.aload_n 0, 1) := by decide +kernel
theorem dX8_read_204 : decode cX8_read 204 = .ok (.invokevirtual 158, 3) := by decide +kernel
theorem dX8_read_207 : decode cX8_read 207 = .ok (.ireturn, 1) := by decide +kernel
theorem dX8_find_0 : decode cX8_find 0 = .ok (.iconst 0, 1) := by decide +kernel
theorem dX8_find_1 : decode cX8_find 1 = .ok (.istore_n 3, 1) := by decide +kernel
theorem dX8_find_2 : decode cX8_find 2 = .ok (.iload_n 3, 1) := by decide +kernel
theorem dX8_find_3 : decode cX8_find 3 = .ok (.iload_n 2, 1) := by decide +kernel
theorem dX8_find_4 : decode cX8_find 4 = .ok (.if_icmp .ge 30, 3) := by decide +kernel
theorem dX8_find_7 : decode cX8_find 7 = .ok (.aload_n 0, 1) := by decide +kernel
theorem dX8_find_8 : decode cX8_find 8 = .ok (.getfield 20, 3) := by decide +kernel
theorem dX8_find_11 : decode cX8_find 11 = .ok (.iload_n 3, 1) := by decide +kernel
theorem dX8_find_12 : decode cX8_find 12 = .ok (.iaload, 1) := by decide +kernel
theorem dX8_find_13 : decode cX8_find 13 = .ok (.ifCond .ne 15, 3) := by decide +kernel
theorem dX8_find_16 : decode cX8_find 16 = .ok (.aload_n 0, 1) := by decide +kernel
theorem dX8_find_17 : decode cX8_find 17 = .ok (.getfield 24, 3) := by decide +kernel
theorem dX8_find_20 : decode cX8_find 20 = .ok (.iload_n 3, 1) := by decide +kernel
theorem dX8_find_21 : decode cX8_find 21 = .ok (.iaload, 1) := by decide +kernel
theorem dX8_find_22 : decode cX8_find 22 = .ok (.iload_n 1, 1) := by decide +kernel
theorem dX8_find_23 : decode cX8_find 23 = .ok (.if_icmp .ne 5, 3) := by decide +kernel
theorem dX8_find_26 : decode cX8_find 26 = .ok (.iload_n 3, 1) := by decide +kernel
theorem dX8_find_27 : decode cX8_find 27 = .ok (.ireturn, 1) := by decide +kernel
theorem dX8_find_28 : decode cX8_find 28 = .ok (.iinc 3 1, 3) := by decide +kernel
theorem dX8_find_31 : decode cX8_find 31 = .ok (.goto (-29), 3) := by decide +kernel
theorem dX8_find_34 : decode cX8_find 34 = .ok (.iconst (-1), 1) := by decide +kernel
theorem dX8_find_35 : decode cX8_find 35 = .ok (.ireturn, 1) := by decide +kernel
theorem dX8_add_0 : decode cX8_add 0 = .ok (.aload_n 0, 1) := by decide +kernel
theorem dX8_add_1 : decode cX8_add 1 = .ok (.iconst (-1), 1) := by decide +kernel
theorem dX8_add_2 : decode cX8_add 2 = .ok (.putfield 13, 3) := by decide +kernel
theorem dX8_add_5 : decode cX8_add 5 = .ok (.aload_n 0, 1) := by decide +kernel
theorem dX8_add_6 : decode cX8_add 6 = .ok (.invokevirtual 161, 3) := by decide +kernel
theorem dX8_add_9 : decode cX8_add 9 = .ok (.istore_n 1, 1) := by decide +kernel
theorem dX8_add_10 : decode cX8_add 10 = .ok (.aload_n 0, 1) := by decide +kernel
theorem dX8_add_11 : decode cX8_add 11 = .ok (.iconst 0, 1) := by decide +kernel
theorem dX8_add_12 : decode cX8_add 12 = .ok (.putfield 101, 3) := by decide +kernel
theorem dX8_add_15 : decode cX8_add 15 = .ok (.iload_n 1, 1) := by decide +kernel
theorem dX8_add_16 : decode cX8_add 16 = .ok (.ifCond .ne 18, 3) := by decide +kernel
theorem dX8_add_19 : decode cX8_add 19 = .ok (.aload_n 0, 1) := by decide +kernel
theorem dX8_add_20 : decode cX8_add 20 = .ok (.aload_n 0, 1) := by decide +kernel
theorem dX8_add_21 : decode cX8_add 21 = .ok (.getfield 104, 3) := by decide +kernel
theorem dX8_add_24 : decode cX8_add 24 = .ok (.putfield 13, 3) := by decide +kernel
theorem dX8_add_27 : decode cX8_add 27 = .ok (.aload_n 0, 1) := by decide +kernel
theorem dX8_add_28 : decode cX8_add 28 = .ok (.iconst 1, 1) := by decide +kernel
theorem dX8_add_29 : decode cX8_add 29 = .ok (.putfield 98, 3) := by decide +kernel
theorem dX8_add_32 : decode cX8_add 32 = .ok (.iconst 0, 1) := by decide +kernel
theorem dX8_add_33 : decode cX8_add 33 = .ok (.ireturn, 1) := by decide +kernel
theorem dX8_add_34 : decode cX8_add 34 = .ok (.aload_n 0, 1) := by decide +kernel
theorem dX8_add_35 : decode cX8_add 35 = .ok (.aload_n 0, 1) := by decide +kernel
theorem dX8_add_36 : decode cX8_add 36 = .ok (.getfield 164, 3) := by decide +kernel
theorem dX8_add_39 : decode cX8_add 39 = .ok (.ifCond .ne 44, 3) := by decide +kernel
theorem dX8_add_42 : decode cX8_add 42 = .ok (.aload_n 0, 1) := by decide +kernel
theorem dX8_add_43 : decode cX8_add 43 = .ok (.getfield 115, 3) := by decide +kernel
theorem dX8_add_46 : decode cX8_add 46 = .ok (.bipush 16, 2) := by decide +kernel
theorem dX8_add_48 : decode cX8_add 48 = .ok (.if_icmp .eq 35, 3) := by decide +kernel
theorem dX8_add_51 : decode cX8_add 51 = .ok (.aload_n 0, 1) := by decide +kernel
theorem dX8_add_52 : decode cX8_add 52 = .ok (.getfield 20, 3) := by decide +kernel
theorem dX8_add_55 : decode cX8_add 55 = .ok (.aload_n 0, 1) := by decide +kernel
theorem dX8_add_56 : decode cX8_add 56 = .ok (.getfield 115, 3) := by decide +kernel
theorem dX8_add_59 : decode cX8_add 59 = .ok (.iaload, 1) := by decide +kernel
theorem dX8_add_60 : decode cX8_add 60 = .ok (.ifCond .ne 27, 3) := by decide +kernel
theorem dX8_add_63 : decode cX8_add 63 = .ok (.aload_n 0, 1) := by decide +kernel
theorem dX8_add_64 : decode cX8_add 64 = .ok (.aload_n 0, 1) := by decide +kernel
theorem dX8_add_65 : decode cX8_add 65 = .ok (.getfield 24, 3) := by decide +kernel
theorem dX8_add_68 : decode cX8_add 68 = .ok (.aload_n 0, 1) := by decide +kernel
theorem dX8_add_69 : decode cX8_add 69 = .ok (.getfield 115, 3) := by decide +kernel
theorem dX8_add_72 : decode cX8_add 72 = .ok (.iaload, 1) := by decide +kernel
theorem dX8_add_73 : decode cX8_add 73 = .ok (.aload_n 0, 1) := by decide +kernel
theorem dX8_add_74 : decode cX8_add 74 = .ok (.getfield 115, 3) := by decide +kernel
theorem dX8_add_77 : decode cX8_add 77 = .ok (.invokevirtual 168, 3) := by decide +kernel
theorem dX8_add_80 : decode cX8_add 80 = .ok (.ifCond .lt 7, 3) := by decide +kernel
theorem dX8_add_83 : decode cX8_add 83 = .ok (.iconst 2, 1) := by decide +kernel
theorem dX8_add_84 : decode cX8_add 84 = .ok (.goto 4, 3) := by decide +kernel
theorem dX8_add_87 : decode cX8_add 87 = .ok (.iconst 0, 1) := by decide +kernel
theorem dX8_add_88 : decode cX8_add 88 = .ok (.putfield 98, 3) := by decide +kernel
theorem dX8_add_91 : decode cX8_add 91 = .ok (.aload_n 0, 1) := by decide +kernel
theorem dX8_add_92 : decode cX8_add 92 = .ok (.getfield 98, 3) := by decide +kernel
theorem dX8_add_95 : decode cX8_add 95 = .ok (.ifCond .le 5, 3) := by decide +kernel
theorem dX8_add_98 : decode cX8_add 98 = .ok (.iconst 0, 1) := by decide +kernel
theorem dX8_add_99 : decode cX8_add 99 = .ok (.ireturn, 1) := by decide +kernel
theorem dX8_add_100 : decode cX8_add 100 = .ok (.iconst 0, 1) := by decide +kernel
theorem dX8_add_101 : decode cX8_add 101 = .ok (.istore_n 2, 1) := by decide +kernel
theorem dX8_add_102 : decode cX8_add 102 = .ok (.iload_n 2, 1) := by decide +kernel
theorem dX8_add_103 : decode cX8_add 103 = .ok (.iconst 4, 1) := by decide +kernel
theorem dX8_add_104 : decode cX8_add 104 = .ok (.if_icmp .ge 23, 3) := by decide +kernel
theorem dX8_add_107 : decode cX8_add 107 = .ok (.aload_n 0, 1) := by decide +kernel
theorem dX8_add_108 : decode cX8_add 108 = .ok (.getfield 65, 3) := by decide +kernel
theorem dX8_add_111 : decode cX8_add 111 = .ok (.iconst 4, 1) := by decide +kernel
theorem dX8_add_112 : decode cX8_add 112 = .ok (.aload_n 0, 1) := by decide +kernel
theorem dX8_add_113 : decode cX8_add 113 = .ok (.getfield 115, 3) := by decide +kernel
theorem dX8_add_116 : decode cX8_add 116 = .ok (.imul, 1) := by decide +kernel
theorem dX8_add_117 : decode cX8_add 117 = .ok (.iload_n 2, 1) := by decide +kernel
theorem dX8_add_118 : decode cX8_add 118 = .ok (.iadd, 1) := by decide +kernel
theorem dX8_add_119 : decode cX8_add 119 = .ok (.lconst 0, 1) := by decide +kernel
theorem dX8_add_120 : decode cX8_add 120 = .ok (.lastore, 1) := by decide +kernel
theorem dX8_add_121 : decode cX8_add 121 = .ok (.iinc 2 1, 3) := by decide +kernel
theorem dX8_add_124 : decode cX8_add 124 = .ok (.goto (-22), 3) := by decide +kernel
theorem dX8_add_127 : decode cX8_add 127 = .ok (.aload_n 0, 1) := by decide +kernel
theorem dX8_add_128 : decode cX8_add 128 = .ok (.dup, 1) := by decide +kernel
theorem dX8_add_129 : decode cX8_add 129 = .ok (.getfield 115, 3) := by decide +kernel
theorem dX8_add_132 : decode cX8_add 132 = .ok (.iconst 1, 1) := by decide +kernel
theorem dX8_add_133 : decode cX8_add 133 = .ok (.iadd, 1) := by decide +kernel
theorem dX8_add_134 : decode cX8_add 134 = .ok (.putfield 115, 3) := by decide +kernel
theorem dX8_add_137 : decode cX8_add 137 = .ok (.aload_n 0, 1) := by decide +kernel
theorem dX8_add_138 : decode cX8_add 138 = .ok (.getfield 115, 3) := by decide +kernel
theorem dX8_add_141 : decode cX8_add 141 = .ok (.iconst 1, 1) := by decide +kernel
theorem dX8_add_142 : decode cX8_add 142 = .ok (.isub, 1) := by decide +kernel
theorem dX8_add_143 : decode cX8_add 143 = .ok (.ireturn, 1) := by decide +kernel
theorem dX8_position_0 : decode cX8_position 0 = .ok (.aload_n 0, 1) := by decide +kernel
theorem dX8_position_1 : decode cX8_position 1 = .ok (.iconst 0, 1) := by decide +kernel
theorem dX8_position_2 : decode cX8_position 2 = .ok (.putfield 98, 3) := by decide +kernel
theorem dX8_position_5 : decode cX8_position 5 = .ok (.aload_n 0, 1) := by decide +kernel
theorem dX8_position_6 : decode cX8_position 6 = .ok (.getfield 13, 3) := by decide +kernel
theorem dX8_position_9 : decode cX8_position 9 = .ok (.ireturn, 1) := by decide +kernel
theorem dX8_named_0 : decode cX8_named 0 = .ok (.bipush 32, 2) := by decide +kernel
theorem dX8_named_2 : decode cX8_named 2 = .ok (.iload_n 1, 1) := by decide +kernel
theorem dX8_named_3 : decode cX8_named 3 = .ok (.imul, 1) := by decide +kernel
theorem dX8_named_4 : decode cX8_named 4 = .ok (.istore_n 2, 1) := by decide +kernel
theorem dX8_named_5 : decode cX8_named 5 = .ok (.iload_n 2, 1) := by decide +kernel
theorem dX8_named_6 : decode cX8_named 6 = .ok (.bipush 32, 2) := by decide +kernel
theorem dX8_named_8 : decode cX8_named 8 = .ok (.iload_n 1, 1) := by decide +kernel
theorem dX8_named_9 : decode cX8_named 9 = .ok (.imul, 1) := by decide +kernel
theorem dX8_named_10 : decode cX8_named 10 = .ok (.aload_n 0, 1) := by decide +kernel
theorem dX8_named_11 : decode cX8_named 11 = .ok (.getfield 34, 3) := by decide +kernel
theorem dX8_named_14 : decode cX8_named 14 = .ok (.iload_n 1, 1) := by decide +kernel
theorem dX8_named_15 : decode cX8_named 15 = .ok (.iaload, 1) := by decide +kernel
theorem dX8_named_16 : decode cX8_named 16 = .ok (.iadd, 1) := by decide +kernel
theorem dX8_named_17 : decode cX8_named 17 = .ok (.if_icmp .ge 97, 3) := by decide +kernel
theorem dX8_named_20 : decode cX8_named 20 = .ok (.aload_n 0, 1) := by decide +kernel
theorem dX8_named_21 : decode cX8_named 21 = .ok (.getfield 37, 3) := by decide +kernel
theorem dX8_named_24 : decode cX8_named 24 = .ok (.iload_n 2, 1) := by decide +kernel
theorem dX8_named_25 : decode cX8_named 25 = .ok (.iaload, 1) := by decide +kernel
theorem dX8_named_26 : decode cX8_named 26 = .ok (.iconst 1, 1) := by decide +kernel
theorem dX8_named_27 : decode cX8_named 27 = .ok (.if_icmp .eq 13, 3) := by decide +kernel
theorem dX8_named_30 : decode cX8_named 30 = .ok (.aload_n 0, 1) := by decide +kernel
theorem dX8_named_31 : decode cX8_named 31 = .ok (.getfield 37, 3) := by decide +kernel
theorem dX8_named_34 : decode cX8_named 34 = .ok (.iload_n 2, 1) := by decide +kernel
theorem dX8_named_35 : decode cX8_named 35 = .ok (.iaload, 1) := by decide +kernel
theorem dX8_named_36 : decode cX8_named 36 = .ok (.iconst 2, 1) := by decide +kernel
theorem dX8_named_37 : decode cX8_named 37 = .ok (.if_icmp .ne 71, 3) := by decide +kernel
theorem dX8_named_40 : decode cX8_named 40 = .ok (.aload_n 0, 1) := by decide +kernel
theorem dX8_named_41 : decode cX8_named 41 = .ok (.aload_n 0, 1) := by decide +kernel
theorem dX8_named_42 : decode cX8_named 42 = .ok (.getfield 40, 3) := by decide +kernel
theorem dX8_named_45 : decode cX8_named 45 = .ok (.iload_n 2, 1) := by decide +kernel
theorem dX8_named_46 : decode cX8_named 46 = .ok (.iaload, 1) := by decide +kernel
theorem dX8_named_47 : decode cX8_named 47 = .ok (.aload_n 0, 1) := by decide +kernel
theorem dX8_named_48 : decode cX8_named 48 = .ok (.getfield 115, 3) := by decide +kernel
theorem dX8_named_51 : decode cX8_named 51 = .ok (.invokevirtual 168, 3) := by decide +kernel
theorem dX8_named_54 : decode cX8_named 54 = .ok (.istore_n 3, 1) := by decide +kernel
theorem dX8_named_55 : decode cX8_named 55 = .ok (.iload_n 3, 1) := by decide +kernel
theorem dX8_named_56 : decode cX8_named 56 = .ok (.ifCond .lt 50, 3) := by decide +kernel
theorem dX8_named_59 : decode cX8_named 59 = .ok (.aload_n 0, 1) := by decide +kernel
theorem dX8_named_60 : decode cX8_named 60 = .ok (.getfield 37, 3) := by decide +kernel
theorem dX8_named_63 : decode cX8_named 63 = .ok (.iload_n 2, 1) := by decide +kernel
theorem dX8_named_64 : decode cX8_named 64 = .ok (.iaload, 1) := by decide +kernel
theorem dX8_named_65 : decode cX8_named 65 = .ok (.iconst 2, 1) := by decide +kernel
theorem dX8_named_66 : decode cX8_named 66 = .ok (.if_icmp .ne 12, 3) := by decide +kernel
theorem dX8_named_69 : decode cX8_named 69 = .ok (.aload_n 0, 1) := by decide +kernel
theorem dX8_named_70 : decode cX8_named 70 = .ok (.getfield 27, 3) := by decide +kernel
theorem dX8_named_73 : decode cX8_named 73 = .ok (.iload_n 3, 1) := by decide +kernel
theorem dX8_named_74 : decode cX8_named 74 = .ok (.baload, 1) := by decide +kernel
theorem dX8_named_75 : decode cX8_named 75 = .ok (.ifCond .eq 31, 3) := by decide +kernel
theorem dX8_named_78 : decode cX8_named 78 = .ok (.aload_n 0, 1) := by decide +kernel
theorem dX8_named_79 : decode cX8_named 79 = .ok (.getfield 37, 3) := by decide +kernel
theorem dX8_named_82 : decode cX8_named 82 = .ok (.iload_n 2, 1) := by decide +kernel
theorem dX8_named_83 : decode cX8_named 83 = .ok (.iaload, 1) := by decide +kernel
theorem dX8_named_84 : decode cX8_named 84 = .ok (.iconst 1, 1) := by decide +kernel
theorem dX8_named_85 : decode cX8_named 85 = .ok (.if_icmp .ne 23, 3) := by decide +kernel
theorem dX8_named_88 : decode cX8_named 88 = .ok (.aload_n 0, 1) := by decide +kernel
theorem dX8_named_89 : decode cX8_named 89 = .ok (.getfield 27, 3) := by decide +kernel
theorem dX8_named_92 : decode cX8_named 92 = .ok (.iload_n 3, 1) := by decide +kernel
theorem dX8_named_93 : decode cX8_named 93 = .ok (.baload, 1) := by decide +kernel
theorem dX8_named_94 : decode cX8_named 94 = .ok (.ifCond .eq 14, 3) := by decide +kernel
theorem dX8_named_97 : decode cX8_named 97 = .ok (.aload_n 0, 1) := by decide +kernel
theorem dX8_named_98 : decode cX8_named 98 = .ok (.getfield 27, 3) := by decide +kernel
theorem dX8_named_101 : decode cX8_named 101 = .ok (.iload_n 1, 1) := by decide +kernel
theorem dX8_named_102 : decode cX8_named 102 = .ok (.baload, 1) := by decide +kernel
theorem dX8_named_103 : decode cX8_named 103 = .ok (.ifCond .ne 5, 3) := by decide +kernel
theorem dX8_named_106 : decode cX8_named 106 = .ok (.iconst 0, 1) := by decide +kernel
theorem dX8_named_107 : decode cX8_named 107 = .ok (.ireturn, 1) := by decide +kernel
theorem dX8_named_108 : decode cX8_named 108 = .ok (.iinc 2 1, 3) := by decide +kernel
theorem dX8_named_111 : decode cX8_named 111 = .ok (.goto (-106), 3) := by decide +kernel
theorem dX8_named_114 : decode cX8_named 114 = .ok (.iconst 1, 1) := by decide +kernel
theorem dX8_named_115 : decode cX8_named 115 = .ok (.ireturn, 1) := by decide +kernel
theorem dX8_rowsOf_0 : decode cX8_rowsOf 0 = .ok (.aload_n 0, 1) := by decide +kernel
theorem dX8_rowsOf_1 : decode cX8_rowsOf 1 = .ok (.getfield 27, 3) := by decide +kernel
theorem dX8_rowsOf_4 : decode cX8_rowsOf 4 = .ok (.iload_n 1, 1) := by decide +kernel
theorem dX8_rowsOf_5 : decode cX8_rowsOf 5 = .ok (.baload, 1) := by decide +kernel
theorem dX8_rowsOf_6 : decode cX8_rowsOf 6 = .ok (.ifCond .eq 10, 3) := by decide +kernel
theorem dX8_rowsOf_9 : decode cX8_rowsOf 9 = .ok (.aload_n 0, 1) := by decide +kernel
theorem dX8_rowsOf_10 : decode cX8_rowsOf 10 = .ok (.getfield 17, 3) := by decide +kernel
theorem dX8_rowsOf_13 : decode cX8_rowsOf 13 = .ok (.goto 4, 3) := by decide +kernel
theorem dX8_rowsOf_16 : decode cX8_rowsOf 16 = .ok (.iconst 1, 1) := by decide +kernel
theorem dX8_rowsOf_17 : decode cX8_rowsOf 17 = .ok (.ireturn, 1) := by decide +kernel
theorem dX8_values_0 : decode cX8_values 0 = .ok (.iconst 0, 1) := by decide +kernel
theorem dX8_values_1 : decode cX8_values 1 = .ok (.istore_n 1, 1) := by decide +kernel
theorem dX8_values_2 : decode cX8_values 2 = .ok (.iconst 0, 1) := by decide +kernel
theorem dX8_values_3 : decode cX8_values 3 = .ok (.istore_n 2, 1) := by decide +kernel
theorem dX8_values_4 : decode cX8_values 4 = .ok (.iload_n 2, 1) := by decide +kernel
theorem dX8_values_5 : decode cX8_values 5 = .ok (.aload_n 0, 1) := by decide +kernel
theorem dX8_values_6 : decode cX8_values 6 = .ok (.getfield 115, 3) := by decide +kernel
theorem dX8_values_9 : decode cX8_values 9 = .ok (.if_icmp .ge 30, 3) := by decide +kernel
theorem dX8_values_12 : decode cX8_values 12 = .ok (.iload_n 1, 1) := by decide +kernel
theorem dX8_values_13 : decode cX8_values 13 = .ok (.aload_n 0, 1) := by decide +kernel
theorem dX8_values_14 : decode cX8_values 14 = .ok (.getfield 20, 3) := by decide +kernel
theorem dX8_values_17 : decode cX8_values 17 = .ok (.iload_n 2, 1) := by decide +kernel
theorem dX8_values_18 : decode cX8_values 18 = .ok (.iaload, 1) := by decide +kernel
theorem dX8_values_19 : decode cX8_values 19 = .ok (.ifCond .ne 11, 3) := by decide +kernel
theorem dX8_values_22 : decode cX8_values 22 = .ok (.aload_n 0, 1) := by decide +kernel
theorem dX8_values_23 : decode cX8_values 23 = .ok (.iload_n 2, 1) := by decide +kernel
theorem dX8_values_24 : decode cX8_values 24 = .ok (.invokevirtual 172, 3) := by decide +kernel
theorem dX8_values_27 : decode cX8_values 27 = .ok (.goto 4, 3) := by decide +kernel
theorem dX8_values_30 : decode cX8_values 30 = .ok (.iconst 0, 1) := by decide +kernel
theorem dX8_values_31 : decode cX8_values 31 = .ok (.iadd, 1) := by decide +kernel
theorem dX8_values_32 : decode cX8_values 32 = .ok (.istore_n 1, 1) := by decide +kernel
theorem dX8_values_33 : decode cX8_values 33 = .ok (.iinc 2 1, 3) := by decide +kernel
theorem dX8_values_36 : decode cX8_values 36 = .ok (.goto (-32), 3) := by decide +kernel
theorem dX8_values_39 : decode cX8_values 39 = .ok (.iload_n 1, 1) := by decide +kernel
theorem dX8_values_40 : decode cX8_values 40 = .ok (.ireturn, 1) := by decide +kernel
theorem dX8_close_0 : decode cX8_close 0 = .ok (.iconst 1, 1) := by decide +kernel
theorem dX8_close_1 : decode cX8_close 1 = .ok (.istore_n 1, 1) := by decide +kernel
theorem dX8_close_2 : decode cX8_close 2 = .ok (.iconst 0, 1) := by decide +kernel
theorem dX8_close_3 : decode cX8_close 3 = .ok (.istore_n 2, 1) := by decide +kernel
theorem dX8_close_4 : decode cX8_close 4 = .ok (.iload_n 2, 1) := by decide +kernel
theorem dX8_close_5 : decode cX8_close 5 = .ok (.aload_n 0, 1) := by decide +kernel
theorem dX8_close_6 : decode cX8_close 6 = .ok (.getfield 115, 3) := by decide +kernel
theorem dX8_close_9 : decode cX8_close 9 = .ok (.if_icmp .ge 37, 3) := by decide +kernel
theorem dX8_close_12 : decode cX8_close 12 = .ok (.iload_n 1, 1) := by decide +kernel
theorem dX8_close_13 : decode cX8_close 13 = .ok (.ifCond .eq 25, 3) := by decide +kernel
theorem dX8_close_16 : decode cX8_close 16 = .ok (.aload_n 0, 1) := by decide +kernel
theorem dX8_close_17 : decode cX8_close 17 = .ok (.getfield 20, 3) := by decide +kernel
theorem dX8_close_20 : decode cX8_close 20 = .ok (.iload_n 2, 1) := by decide +kernel
theorem dX8_close_21 : decode cX8_close 21 = .ok (.iaload, 1) := by decide +kernel
theorem dX8_close_22 : decode cX8_close 22 = .ok (.iconst 2, 1) := by decide +kernel
theorem dX8_close_23 : decode cX8_close 23 = .ok (.if_icmp .eq 11, 3) := by decide +kernel
theorem dX8_close_26 : decode cX8_close 26 = .ok (.aload_n 0, 1) := by decide +kernel
theorem dX8_close_27 : decode cX8_close 27 = .ok (.iload_n 2, 1) := by decide +kernel
theorem dX8_close_28 : decode cX8_close 28 = .ok (.invokevirtual 175, 3) := by decide +kernel
theorem dX8_close_31 : decode cX8_close 31 = .ok (.ifCond .eq 7, 3) := by decide +kernel
theorem dX8_close_34 : decode cX8_close 34 = .ok (.iconst 1, 1) := by decide +kernel
theorem dX8_close_35 : decode cX8_close 35 = .ok (.goto 4, 3) := by decide +kernel
theorem dX8_close_38 : decode cX8_close 38 = .ok (.iconst 0, 1) := by decide +kernel
theorem dX8_close_39 : decode cX8_close 39 = .ok (.istore_n 1, 1) := by decide +kernel
theorem dX8_close_40 : decode cX8_close 40 = .ok (.iinc 2 1, 3) := by decide +kernel
theorem dX8_close_43 : decode cX8_close 43 = .ok (.goto (-39), 3) := by decide +kernel
theorem dX8_close_46 : decode cX8_close 46 = .ok (.aload_n 0, 1) := by decide +kernel
theorem dX8_close_47 : decode cX8_close 47 = .ok (.iload_n 1, 1) := by decide +kernel
theorem dX8_close_48 : decode cX8_close 48 = .ok (.ifCond .ne 7, 3) := by decide +kernel
theorem dX8_close_51 : decode cX8_close 51 = .ok (.iconst 1, 1) := by decide +kernel
theorem dX8_close_52 : decode cX8_close 52 = .ok (.goto 15, 3) := by decide +kernel
theorem dX8_close_55 : decode cX8_close 55 = .ok (.aload_n 0, 1) := by decide +kernel
theorem dX8_close_56 : decode cX8_close 56 = .ok (.getfield 164, 3) := by decide +kernel
theorem dX8_close_59 : decode cX8_close 59 = .ok (.ifCond .eq 7, 3) := by decide +kernel
theorem dX8_close_62 : decode cX8_close 62 = .ok (.iconst 2, 1) := by decide +kernel
theorem dX8_close_63 : decode cX8_close 63 = .ok (.goto 4, 3) := by decide +kernel
theorem dX8_close_66 : decode cX8_close 66 = .ok (.iconst 0, 1) := by decide +kernel
theorem dX8_close_67 : decode cX8_close 67 = .ok (.putfield 98, 3) := by decide +kernel
theorem dX8_close_70 : decode cX8_close 70 = .ok (.aload_n 0, 1) := by decide +kernel
theorem dX8_close_71 : decode cX8_close 71 = .ok (.getfield 98, 3) := by decide +kernel
theorem dX8_close_74 : decode cX8_close 74 = .ok (.ifCond .le 5, 3) := by decide +kernel
theorem dX8_close_77 : decode cX8_close 77 = .ok (.iconst 0, 1) := by decide +kernel
theorem dX8_close_78 : decode cX8_close 78 = .ok (.ireturn, 1) := by decide +kernel
theorem dX8_close_79 : decode cX8_close 79 = .ok (.aload_n 0, 1) := by decide +kernel
theorem dX8_close_80 : decode cX8_close 80 = .ok (.iconst 1, 1) := by decide +kernel
theorem dX8_close_81 : decode cX8_close 81 = .ok (.putfield 164, 3) := by decide +kernel
theorem dX8_close_84 : decode cX8_close 84 = .ok (.aload_n 0, 1) := by decide +kernel
theorem dX8_close_85 : decode cX8_close 85 = .ok (.invokevirtual 179, 3) := by decide +kernel
theorem dX8_close_88 : decode cX8_close 88 = .ok (.aload_n 0, 1) := by decide +kernel
theorem dX8_close_89 : decode cX8_close 89 = .ok (.invokevirtual 182, 3) := by decide +kernel
theorem dX8_close_92 : decode cX8_close 92 = .ok (.ireturn, 1) := by decide +kernel
theorem dX8_clear_0 : decode cX8_clear 0 = .ok (.aload_n 0, 1) := by decide +kernel
theorem dX8_clear_1 : decode cX8_clear 1 = .ok (.iconst 0, 1) := by decide +kernel
theorem dX8_clear_2 : decode cX8_clear 2 = .ok (.putfield 98, 3) := by decide +kernel
theorem dX8_clear_5 : decode cX8_clear 5 = .ok (.aload_n 0, 1) := by decide +kernel
theorem dX8_clear_6 : decode cX8_clear 6 = .ok (.iconst 0, 1) := by decide +kernel
theorem dX8_clear_7 : decode cX8_clear 7 = .ok (.putfield 115, 3) := by decide +kernel
theorem dX8_clear_10 : decode cX8_clear 10 = .ok (.aload_n 0, 1) := by decide +kernel
theorem dX8_clear_11 : decode cX8_clear 11 = .ok (.iconst 0, 1) := by decide +kernel
theorem dX8_clear_12 : decode cX8_clear 12 = .ok (.putfield 164, 3) := by decide +kernel
theorem dX8_clear_15 : decode cX8_clear 15 = .ok (.aload_n 0, 1) := by decide +kernel
theorem dX8_clear_16 : decode cX8_clear 16 = .ok (.iconst 1, 1) := by decide +kernel
theorem dX8_clear_17 : decode cX8_clear 17 = .ok (.putfield 17, 3) := by decide +kernel
theorem dX8_clear_20 : decode cX8_clear 20 = .ok (.iconst 0, 1) := by decide +kernel
theorem dX8_clear_21 : decode cX8_clear 21 = .ok (.istore_n 1, 1) := by decide +kernel
theorem dX8_clear_22 : decode cX8_clear 22 = .ok (.iload_n 1, 1) := by decide +kernel
theorem dX8_clear_23 : decode cX8_clear 23 = .ok (.bipush 64, 2) := by decide +kernel
theorem dX8_clear_25 : decode cX8_clear 25 = .ok (.if_icmp .ge 16, 3) := by decide +kernel
theorem dX8_clear_28 : decode cX8_clear 28 = .ok (.aload_n 0, 1) := by decide +kernel
theorem dX8_clear_29 : decode cX8_clear 29 = .ok (.getfield 65, 3) := by decide +kernel
theorem dX8_clear_32 : decode cX8_clear 32 = .ok (.iload_n 1, 1) := by decide +kernel
theorem dX8_clear_33 : decode cX8_clear 33 = .ok (.lconst 0, 1) := by decide +kernel
theorem dX8_clear_34 : decode cX8_clear 34 = .ok (.lastore, 1) := by decide +kernel
theorem dX8_clear_35 : decode cX8_clear 35 = .ok (.iinc 1 1, 3) := by decide +kernel
theorem dX8_clear_38 : decode cX8_clear 38 = .ok (.goto (-16), 3) := by decide +kernel
theorem dX8_clear_41 : decode cX8_clear 41 = .ok (.return_, 1) := by decide +kernel
theorem dX8_names_0 : decode cX8_names 0 = .ok (.lconst 0, 1) := by decide +kernel
theorem dX8_names_1 : decode cX8_names 1 = .ok (.lstore_n 3, 1) := by decide +kernel
theorem dX8_names_2 : decode cX8_names 2 = .ok (.bipush 32, 2) := by decide +kernel
theorem dX8_names_4 : decode cX8_names 4 = .ok (.iload_n 1, 1) := by decide +kernel
theorem dX8_names_5 : decode cX8_names 5 = .ok (.imul, 1) := by decide +kernel
theorem dX8_names_6 : decode cX8_names 6 = .ok (.istore 5, 2) := by decide +kernel
theorem dX8_names_8 : decode cX8_names 8 = .ok (.iload 5, 2) := by decide +kernel
theorem dX8_names_10 : decode cX8_names 10 = .ok (.bipush 32, 2) := by decide +kernel
theorem dX8_names_12 : decode cX8_names 12 = .ok (.iload_n 1, 1) := by decide +kernel
theorem dX8_names_13 : decode cX8_names 13 = .ok (.imul, 1) := by decide +kernel
theorem dX8_names_14 : decode cX8_names 14 = .ok (.aload_n 0, 1) := by decide +kernel
theorem dX8_names_15 : decode cX8_names 15 = .ok (.getfield 34, 3) := by decide +kernel
theorem dX8_names_18 : decode cX8_names 18 = .ok (.iload_n 1, 1) := by decide +kernel
theorem dX8_names_19 : decode cX8_names 19 = .ok (.iaload, 1) := by decide +kernel
theorem dX8_names_20 : decode cX8_names 20 = .ok (.iadd, 1) := by decide +kernel
theorem dX8_names_21 : decode cX8_names 21 = .ok (.if_icmp .ge 131, 3) := by decide +kernel
theorem dX8_names_24 : decode cX8_names 24 = .ok (.aload_n 0, 1) := by decide +kernel
theorem dX8_names_25 : decode cX8_names 25 = .ok (.getfield 37, 3) := by decide +kernel
theorem dX8_names_28 : decode cX8_names 28 = .ok (.iload 5, 2) := by decide +kernel
theorem dX8_names_30 : decode cX8_names 30 = .ok (.iaload, 1) := by decide +kernel
theorem dX8_names_31 : decode cX8_names 31 = .ok (.iconst 1, 1) := by decide +kernel
theorem dX8_names_32 : decode cX8_names 32 = .ok (.if_icmp .eq 14, 3) := by decide +kernel
theorem dX8_names_35 : decode cX8_names 35 = .ok (.aload_n 0, 1) := by decide +kernel
theorem dX8_names_36 : decode cX8_names 36 = .ok (.getfield 37, 3) := by decide +kernel
theorem dX8_names_39 : decode cX8_names 39 = .ok (.iload 5, 2) := by decide +kernel
theorem dX8_names_41 : decode cX8_names 41 = .ok (.iaload, 1) := by decide +kernel
theorem dX8_names_42 : decode cX8_names 42 = .ok (.iconst 2, 1) := by decide +kernel
theorem dX8_names_43 : decode cX8_names 43 = .ok (.if_icmp .ne 21, 3) := by decide +kernel
theorem dX8_names_46 : decode cX8_names 46 = .ok (.aload_n 0, 1) := by decide +kernel
theorem dX8_names_47 : decode cX8_names 47 = .ok (.aload_n 0, 1) := by decide +kernel
theorem dX8_names_48 : decode cX8_names 48 = .ok (.getfield 40, 3) := by decide +kernel
theorem dX8_names_51 : decode cX8_names 51 = .ok (.iload 5, 2) := by decide +kernel
theorem dX8_names_53 : decode cX8_names 53 = .ok (.iaload, 1) := by decide +kernel
theorem dX8_names_54 : decode cX8_names 54 = .ok (.aload_n 0, 1) := by decide +kernel
theorem dX8_names_55 : decode cX8_names 55 = .ok (.getfield 115, 3) := by decide +kernel
theorem dX8_names_58 : decode cX8_names 58 = .ok (.invokevirtual 168, 3) := by decide +kernel
theorem dX8_names_61 : decode cX8_names 61 = .ok (.goto 4, 3) := by decide +kernel
theorem dX8_names_64 : decode cX8_names 64 = .ok (.iconst (-1), 1) := by decide +kernel
theorem dX8_names_65 : decode cX8_names 65 = .ok (.istore 6, 2) := by decide +kernel
theorem dX8_names_67 : decode cX8_names 67 = .ok (.iload 6, 2) := by decide +kernel
theorem dX8_names_69 : decode cX8_names 69 = .ok (.ifCond .lt 42, 3) := by decide +kernel
theorem dX8_names_72 : decode cX8_names 72 = .ok (.aload_n 0, 1) := by decide +kernel
theorem dX8_names_73 : decode cX8_names 73 = .ok (.getfield 37, 3) := by decide +kernel
theorem dX8_names_76 : decode cX8_names 76 = .ok (.iload 5, 2) := by decide +kernel
theorem dX8_names_78 : decode cX8_names 78 = .ok (.iaload, 1) := by decide +kernel
theorem dX8_names_79 : decode cX8_names 79 = .ok (.iconst 1, 1) := by decide +kernel
theorem dX8_names_80 : decode cX8_names 80 = .ok (.if_icmp .ne 31, 3) := by decide +kernel
theorem dX8_names_83 : decode cX8_names 83 = .ok (.lload_n 3, 1) := by decide +kernel
theorem dX8_names_84 : decode cX8_names 84 = .ok (.lconst 1, 1) := by decide +kernel
theorem dX8_names_85 : decode cX8_names 85 = .ok (.iconst 4, 1) := by decide +kernel
theorem dX8_names_86 : decode cX8_names 86 = .ok (.iload 6, 2) := by decide +kernel
theorem dX8_names_88 : decode cX8_names 88 = .ok (.imul, 1) := by decide +kernel
theorem dX8_names_89 : decode cX8_names 89 = .ok (.aload_n 0, 1) := by decide +kernel
theorem dX8_names_90 : decode cX8_names 90 = .ok (.getfield 27, 3) := by decide +kernel
theorem dX8_names_93 : decode cX8_names 93 = .ok (.iload 6, 2) := by decide +kernel
theorem dX8_names_95 : decode cX8_names 95 = .ok (.baload, 1) := by decide +kernel
theorem dX8_names_96 : decode cX8_names 96 = .ok (.ifCond .eq 7, 3) := by decide +kernel
theorem dX8_names_99 : decode cX8_names 99 = .ok (.iload_n 2, 1) := by decide +kernel
theorem dX8_names_100 : decode cX8_names 100 = .ok (.goto 4, 3) := by decide +kernel
theorem dX8_names_103 : decode cX8_names 103 = .ok (.iconst 0, 1) := by decide +kernel
theorem dX8_names_104 : decode cX8_names 104 = .ok (.iadd, 1) := by decide +kernel
theorem dX8_names_105 : decode cX8_names 105 = .ok (.lshl, 1) := by decide +kernel
theorem dX8_names_106 : decode cX8_names 106 = .ok (.lor, 1) := by decide +kernel
theorem dX8_names_107 : decode cX8_names 107 = .ok (.lstore_n 3, 1) := by decide +kernel
theorem dX8_names_108 : decode cX8_names 108 = .ok (.goto 38, 3) := by decide +kernel
theorem dX8_names_111 : decode cX8_names 111 = .ok (.iload 6, 2) := by decide +kernel
theorem dX8_names_113 : decode cX8_names 113 = .ok (.ifCond .lt 33, 3) := by decide +kernel
theorem dX8_names_116 : decode cX8_names 116 = .ok (.iconst 0, 1) := by decide +kernel
theorem dX8_names_117 : decode cX8_names 117 = .ok (.istore 7, 2) := by decide +kernel
theorem dX8_names_119 : decode cX8_names 119 = .ok (.iload 7, 2) := by decide +kernel
theorem dX8_names_121 : decode cX8_names 121 = .ok (.aload_n 0, 1) := by decide +kernel
theorem dX8_names_122 : decode cX8_names 122 = .ok (.getfield 17, 3) := by decide +kernel
theorem dX8_names_125 : decode cX8_names 125 = .ok (.if_icmp .ge 21, 3) := by decide +kernel
theorem dX8_names_128 : decode cX8_names 128 = .ok (.lload_n 3, 1) := by decide +kernel
theorem dX8_names_129 : decode cX8_names 129 = .ok (.lconst 1, 1) := by decide +kernel
theorem dX8_names_130 : decode cX8_names 130 = .ok (.iconst 4, 1) := by decide +kernel
theorem dX8_names_131 : decode cX8_names 131 = .ok (.iload 6, 2) := by decide +kernel
theorem dX8_names_133 : decode cX8_names 133 = .ok (.imul, 1) := by decide +kernel
theorem dX8_names_134 : decode cX8_names 134 = .ok (.iload 7, 2) := by decide +kernel
theorem dX8_names_136 : decode cX8_names 136 = .ok (.iadd, 1) := by decide +kernel
theorem dX8_names_137 : decode cX8_names 137 = .ok (.lshl, 1) := by decide +kernel
theorem dX8_names_138 : decode cX8_names 138 = .ok (.lor, 1) := by decide +kernel
theorem dX8_names_139 : decode cX8_names 139 = .ok (.lstore_n 3, 1) := by decide +kernel
theorem dX8_names_140 : decode cX8_names 140 = .ok (.iinc 7 1, 3) := by decide +kernel
theorem dX8_names_143 : decode cX8_names 143 = .ok (.goto (-24), 3) := by decide +kernel
theorem dX8_names_146 : decode cX8_names 146 = .ok (.iinc 5 1, 3) := by decide +kernel
theorem dX8_names_149 : decode cX8_names 149 = .ok (.goto (-141), 3) := by decide +kernel
theorem dX8_names_152 : decode cX8_names 152 = .ok (.lload_n 3, 1) := by decide +kernel
theorem dX8_names_153 : decode cX8_names 153 = .ok (.lreturn, 1) := by decide +kernel
theorem dX8_isIn_0 : decode cX8_isIn 0 = .ok (.lload_n 0, 1) := by decide +kernel
theorem dX8_isIn_1 : decode cX8_isIn 1 = .ok (.ldc2_w 185, 3) := by decide +kernel
theorem dX8_isIn_4 : decode cX8_isIn 4 = .ok (.lcmp, 1) := by decide +kernel
theorem dX8_isIn_5 : decode cX8_isIn 5 = .ok (.ifCond .lt 15, 3) := by decide +kernel
theorem dX8_isIn_8 : decode cX8_isIn 8 = .ok (.lload_n 0, 1) := by decide +kernel
theorem dX8_isIn_9 : decode cX8_isIn 9 = .ok (.ldc2_w 187, 3) := by decide +kernel
theorem dX8_isIn_12 : decode cX8_isIn 12 = .ok (.lcmp, 1) := by decide +kernel
theorem dX8_isIn_13 : decode cX8_isIn 13 = .ok (.ifCond .gt 7, 3) := by decide +kernel
theorem dX8_isIn_16 : decode cX8_isIn 16 = .ok (.iconst 1, 1) := by decide +kernel
theorem dX8_isIn_17 : decode cX8_isIn 17 = .ok (.goto 4, 3) := by decide +kernel
theorem dX8_isIn_20 : decode cX8_isIn 20 = .ok (.iconst 0, 1) := by decide +kernel
theorem dX8_isIn_21 : decode cX8_isIn 21 = .ok (.ireturn, 1) := by decide +kernel
theorem dX8_divided_0 : decode cX8_divided 0 = .ok (.lload_n 0, 1) := by decide +kernel
theorem dX8_divided_1 : decode cX8_divided 1 = .ok (.lconst 0, 1) := by decide +kernel
theorem dX8_divided_2 : decode cX8_divided 2 = .ok (.lcmp, 1) := by decide +kernel
theorem dX8_divided_3 : decode cX8_divided 3 = .ok (.ifCond .ge 8, 3) := by decide +kernel
theorem dX8_divided_6 : decode cX8_divided 6 = .ok (.lload_n 0, 1) := by decide +kernel
theorem dX8_divided_7 : decode cX8_divided 7 = .ok (.lneg, 1) := by decide +kernel
theorem dX8_divided_8 : decode cX8_divided 8 = .ok (.goto 4, 3) := by decide +kernel
theorem dX8_divided_11 : decode cX8_divided 11 = .ok (.lload_n 0, 1) := by decide +kernel
theorem dX8_divided_12 : decode cX8_divided 12 = .ok (.lstore 4, 2) := by decide +kernel
theorem dX8_divided_14 : decode cX8_divided 14 = .ok (.lload 4, 2) := by decide +kernel
theorem dX8_divided_16 : decode cX8_divided 16 = .ok (.lload_n 2, 1) := by decide +kernel
theorem dX8_divided_17 : decode cX8_divided 17 = .ok (.ldiv, 1) := by decide +kernel
theorem dX8_divided_18 : decode cX8_divided 18 = .ok (.lstore 6, 2) := by decide +kernel
theorem dX8_divided_20 : decode cX8_divided 20 = .ok (.lload 4, 2) := by decide +kernel
theorem dX8_divided_22 : decode cX8_divided 22 = .ok (.lload_n 2, 1) := by decide +kernel
theorem dX8_divided_23 : decode cX8_divided 23 = .ok (.lrem, 1) := by decide +kernel
theorem dX8_divided_24 : decode cX8_divided 24 = .ok (.lstore 8, 2) := by decide +kernel
theorem dX8_divided_26 : decode cX8_divided 26 = .ok (.lload_n 2, 1) := by decide +kernel
theorem dX8_divided_27 : decode cX8_divided 27 = .ok (.lload 8, 2) := by decide +kernel
theorem dX8_divided_29 : decode cX8_divided 29 = .ok (.lsub, 1) := by decide +kernel
theorem dX8_divided_30 : decode cX8_divided 30 = .ok (.lstore 10, 2) := by decide +kernel
theorem dX8_divided_32 : decode cX8_divided 32 = .ok (.lload 8, 2) := by decide +kernel
theorem dX8_divided_34 : decode cX8_divided 34 = .ok (.lload 10, 2) := by decide +kernel
theorem dX8_divided_36 : decode cX8_divided 36 = .ok (.lcmp, 1) := by decide +kernel
theorem dX8_divided_37 : decode cX8_divided 37 = .ok (.ifCond .gt 22, 3) := by decide +kernel
theorem dX8_divided_40 : decode cX8_divided 40 = .ok (.lload 8, 2) := by decide +kernel
theorem dX8_divided_42 : decode cX8_divided 42 = .ok (.lload 10, 2) := by decide +kernel
theorem dX8_divided_44 : decode cX8_divided 44 = .ok (.lcmp, 1) := by decide +kernel
theorem dX8_divided_45 : decode cX8_divided 45 = .ok (.ifCond .ne 21, 3) := by decide +kernel
theorem dX8_divided_48 : decode cX8_divided 48 = .ok (.lload 6, 2) := by decide +kernel
theorem dX8_divided_50 : decode cX8_divided 50 = .ok (.ldc2_w 189, 3) := by decide +kernel
theorem dX8_divided_53 : decode cX8_divided 53 = .ok (.lrem, 1) := by decide +kernel
theorem dX8_divided_54 : decode cX8_divided 54 = .ok (.lconst 1, 1) := by decide +kernel
theorem dX8_divided_55 : decode cX8_divided 55 = .ok (.lcmp, 1) := by decide +kernel
theorem dX8_divided_56 : decode cX8_divided 56 = .ok (.ifCond .ne 10, 3) := by decide +kernel
theorem dX8_divided_59 : decode cX8_divided 59 = .ok (.lload 6, 2) := by decide +kernel
theorem dX8_divided_61 : decode cX8_divided 61 = .ok (.lconst 1, 1) := by decide +kernel
theorem dX8_divided_62 : decode cX8_divided 62 = .ok (.ladd, 1) := by decide +kernel
theorem dX8_divided_63 : decode cX8_divided 63 = .ok (.goto 5, 3) := by decide +kernel
theorem dX8_divided_66 : decode cX8_divided 66 = .ok (.lload 6, 2) := by decide +kernel
theorem dX8_divided_68 : decode cX8_divided 68 = .ok (.lstore 6, 2) := by decide +kernel
theorem dX8_divided_70 : decode cX8_divided 70 = .ok (.lload_n 0, 1) := by decide +kernel
theorem dX8_divided_71 : decode cX8_divided 71 = .ok (.lconst 0, 1) := by decide +kernel
theorem dX8_divided_72 : decode cX8_divided 72 = .ok (.lcmp, 1) := by decide +kernel
theorem dX8_divided_73 : decode cX8_divided 73 = .ok (.ifCond .ge 9, 3) := by decide +kernel
theorem dX8_divided_76 : decode cX8_divided 76 = .ok (.lload 6, 2) := by decide +kernel
theorem dX8_divided_78 : decode cX8_divided 78 = .ok (.lneg, 1) := by decide +kernel
theorem dX8_divided_79 : decode cX8_divided 79 = .ok (.goto 5, 3) := by decide +kernel
theorem dX8_divided_82 : decode cX8_divided 82 = .ok (.lload 6, 2) := by decide +kernel
theorem dX8_divided_84 : decode cX8_divided 84 = .ok (.lreturn, 1) := by decide +kernel
theorem dX8_product_0 : decode cX8_product 0 = .ok (.lload_n 0, 1) := by decide +kernel
theorem dX8_product_1 : decode cX8_product 1 = .ok (.lconst 0, 1) := by decide +kernel
theorem dX8_product_2 : decode cX8_product 2 = .ok (.lcmp, 1) := by decide +kernel
theorem dX8_product_3 : decode cX8_product 3 = .ok (.ifCond .ge 8, 3) := by decide +kernel
theorem dX8_product_6 : decode cX8_product 6 = .ok (.lload_n 0, 1) := by decide +kernel
theorem dX8_product_7 : decode cX8_product 7 = .ok (.lneg, 1) := by decide +kernel
theorem dX8_product_8 : decode cX8_product 8 = .ok (.goto 4, 3) := by decide +kernel
theorem dX8_product_11 : decode cX8_product 11 = .ok (.lload_n 0, 1) := by decide +kernel
theorem dX8_product_12 : decode cX8_product 12 = .ok (.lstore 4, 2) := by decide +kernel
theorem dX8_product_14 : decode cX8_product 14 = .ok (.lload_n 2, 1) := by decide +kernel
theorem dX8_product_15 : decode cX8_product 15 = .ok (.lconst 0, 1) := by decide +kernel
theorem dX8_product_16 : decode cX8_product 16 = .ok (.lcmp, 1) := by decide +kernel
theorem dX8_product_17 : decode cX8_product 17 = .ok (.ifCond .ge 8, 3) := by decide +kernel
theorem dX8_product_20 : decode cX8_product 20 = .ok (.lload_n 2, 1) := by decide +kernel
theorem dX8_product_21 : decode cX8_product 21 = .ok (.lneg, 1) := by decide +kernel
theorem dX8_product_22 : decode cX8_product 22 = .ok (.goto 4, 3) := by decide +kernel
theorem dX8_product_25 : decode cX8_product 25 = .ok (.lload_n 2, 1) := by decide +kernel
theorem dX8_product_26 : decode cX8_product 26 = .ok (.lstore 6, 2) := by decide +kernel
theorem dX8_product_28 : decode cX8_product 28 = .ok (.lload_n 0, 1) := by decide +kernel
theorem dX8_product_29 : decode cX8_product 29 = .ok (.lconst 0, 1) := by decide +kernel
theorem dX8_product_30 : decode cX8_product 30 = .ok (.lcmp, 1) := by decide +kernel
theorem dX8_product_31 : decode cX8_product 31 = .ok (.ifCond .ge 7, 3) := by decide +kernel
theorem dX8_product_34 : decode cX8_product 34 = .ok (.iconst 1, 1) := by decide +kernel
theorem dX8_product_35 : decode cX8_product 35 = .ok (.goto 4, 3) := by decide +kernel
theorem dX8_product_38 : decode cX8_product 38 = .ok (.iconst 0, 1) := by decide +kernel
theorem dX8_product_39 : decode cX8_product 39 = .ok (.lload_n 2, 1) := by decide +kernel
theorem dX8_product_40 : decode cX8_product 40 = .ok (.lconst 0, 1) := by decide +kernel
theorem dX8_product_41 : decode cX8_product 41 = .ok (.lcmp, 1) := by decide +kernel
theorem dX8_product_42 : decode cX8_product 42 = .ok (.ifCond .ge 7, 3) := by decide +kernel
theorem dX8_product_45 : decode cX8_product 45 = .ok (.iconst 1, 1) := by decide +kernel
theorem dX8_product_46 : decode cX8_product 46 = .ok (.goto 4, 3) := by decide +kernel
theorem dX8_product_49 : decode cX8_product 49 = .ok (.iconst 0, 1) := by decide +kernel
theorem dX8_product_50 : decode cX8_product 50 = .ok (.if_icmp .eq 7, 3) := by decide +kernel
theorem dX8_product_53 : decode cX8_product 53 = .ok (.iconst 1, 1) := by decide +kernel
theorem dX8_product_54 : decode cX8_product 54 = .ok (.goto 4, 3) := by decide +kernel
theorem dX8_product_57 : decode cX8_product 57 = .ok (.iconst 0, 1) := by decide +kernel
theorem dX8_product_58 : decode cX8_product 58 = .ok (.istore 8, 2) := by decide +kernel
theorem dX8_product_60 : decode cX8_product 60 = .ok (.ldc2_w 191, 3) := by decide +kernel
theorem dX8_product_63 : decode cX8_product 63 = .ok (.lstore 9, 2) := by decide +kernel
theorem dX8_product_65 : decode cX8_product 65 = .ok (.lload 4, 2) := by decide +kernel
theorem dX8_product_67 : decode cX8_product 67 = .ok (.lload 9, 2) := by decide +kernel
theorem dX8_product_69 : decode cX8_product 69 = .ok (.ldiv, 1) := by decide +kernel
theorem dX8_product_70 : decode cX8_product 70 = .ok (.lload 6, 2) := by decide +kernel
theorem dX8_product_72 : decode cX8_product 72 = .ok (.lload 9, 2) := by decide +kernel
theorem dX8_product_74 : decode cX8_product 74 = .ok (.lrem, 1) := by decide +kernel
theorem dX8_product_75 : decode cX8_product 75 = .ok (.lmul, 1) := by decide +kernel
theorem dX8_product_76 : decode cX8_product 76 = .ok (.lload 4, 2) := by decide +kernel
theorem dX8_product_78 : decode cX8_product 78 = .ok (.lload 9, 2) := by decide +kernel
theorem dX8_product_80 : decode cX8_product 80 = .ok (.lrem, 1) := by decide +kernel
theorem dX8_product_81 : decode cX8_product 81 = .ok (.lload 6, 2) := by decide +kernel
theorem dX8_product_83 : decode cX8_product 83 = .ok (.lload 9, 2) := by decide +kernel
theorem dX8_product_85 : decode cX8_product 85 = .ok (.ldiv, 1) := by decide +kernel
theorem dX8_product_86 : decode cX8_product 86 = .ok (.lmul, 1) := by decide +kernel
theorem dX8_product_87 : decode cX8_product 87 = .ok (.ladd, 1) := by decide +kernel
theorem dX8_product_88 : decode cX8_product 88 = .ok (.lstore 11, 2) := by decide +kernel
theorem dX8_product_90 : decode cX8_product 90 = .ok (.lload 4, 2) := by decide +kernel
theorem dX8_product_92 : decode cX8_product 92 = .ok (.lload 9, 2) := by decide +kernel
theorem dX8_product_94 : decode cX8_product 94 = .ok (.ldiv, 1) := by decide +kernel
theorem dX8_product_95 : decode cX8_product 95 = .ok (.lload 6, 2) := by decide +kernel
theorem dX8_product_97 : decode cX8_product 97 = .ok (.lload 9, 2) := by decide +kernel
theorem dX8_product_99 : decode cX8_product 99 = .ok (.ldiv, 1) := by decide +kernel
theorem dX8_product_100 : decode cX8_product 100 = .ok (.lmul, 1) := by decide +kernel
theorem dX8_product_101 : decode cX8_product 101 = .ok (.lconst 0, 1) := by decide +kernel
theorem dX8_product_102 : decode cX8_product 102 = .ok (.lcmp, 1) := by decide +kernel
theorem dX8_product_103 : decode cX8_product 103 = .ok (.ifCond .gt 12, 3) := by decide +kernel
theorem dX8_product_106 : decode cX8_product 106 = .ok (.lload 11, 2) := by decide +kernel
theorem dX8_product_108 : decode cX8_product 108 = .ok (.ldc2_w 193, 3) := by decide +kernel
theorem dX8_product_111 : decode cX8_product 111 = .ok (.lcmp, 1) := by decide +kernel
theorem dX8_product_112 : decode cX8_product 112 = .ok (.ifCond .le 18, 3) := by decide +kernel
theorem dX8_product_115 : decode cX8_product 115 = .ok (.iload 8, 2) := by decide +kernel
theorem dX8_product_117 : decode cX8_product 117 = .ok (.ifCond .eq 9, 3) := by decide +kernel
theorem dX8_product_120 : decode cX8_product 120 = .ok (.ldc2_w 195, 3) := by decide +kernel
theorem dX8_product_123 : decode cX8_product 123 = .ok (.goto 6, 3) := by decide +kernel
theorem dX8_product_126 : decode cX8_product 126 = .ok (.ldc2_w 197, 3) := by decide +kernel
theorem dX8_product_129 : decode cX8_product 129 = .ok (.lreturn, 1) := by decide +kernel
theorem dX8_product_130 : decode cX8_product 130 = .ok (.lload 11, 2) := by decide +kernel
theorem dX8_product_132 : decode cX8_product 132 = .ok (.lload 9, 2) := by decide +kernel
theorem dX8_product_134 : decode cX8_product 134 = .ok (.lmul, 1) := by decide +kernel
theorem dX8_product_135 : decode cX8_product 135 = .ok (.lload 4, 2) := by decide +kernel
theorem dX8_product_137 : decode cX8_product 137 = .ok (.lload 9, 2) := by decide +kernel
theorem dX8_product_139 : decode cX8_product 139 = .ok (.lrem, 1) := by decide +kernel
theorem dX8_product_140 : decode cX8_product 140 = .ok (.lload 6, 2) := by decide +kernel
theorem dX8_product_142 : decode cX8_product 142 = .ok (.lload 9, 2) := by decide +kernel
theorem dX8_product_144 : decode cX8_product 144 = .ok (.lrem, 1) := by decide +kernel
theorem dX8_product_145 : decode cX8_product 145 = .ok (.lmul, 1) := by decide +kernel
theorem dX8_product_146 : decode cX8_product 146 = .ok (.ladd, 1) := by decide +kernel
theorem dX8_product_147 : decode cX8_product 147 = .ok (.ldc2_w 125, 3) := by decide +kernel
theorem dX8_product_150 : decode cX8_product 150 = .ok (.invokestatic 199, 3) := by decide +kernel
theorem dX8_product_153 : decode cX8_product 153 = .ok (.lstore 13, 2) := by decide +kernel
theorem dX8_product_155 : decode cX8_product 155 = .ok (.iload 8, 2) := by decide +kernel
theorem dX8_product_157 : decode cX8_product 157 = .ok (.ifCond .eq 9, 3) := by decide +kernel
theorem dX8_product_160 : decode cX8_product 160 = .ok (.lload 13, 2) := by decide +kernel
theorem dX8_product_162 : decode cX8_product 162 = .ok (.lneg, 1) := by decide +kernel
theorem dX8_product_163 : decode cX8_product 163 = .ok (.goto 5, 3) := by decide +kernel
theorem dX8_product_166 : decode cX8_product 166 = .ok (.lload 13, 2) := by decide +kernel
theorem dX8_product_168 : decode cX8_product 168 = .ok (.lreturn, 1) := by decide +kernel
theorem dX8_come_0 : decode cX8_come 0 = .ok (.lload_n 2, 1) := by decide +kernel
theorem dX8_come_1 : decode cX8_come 1 = .ok (.invokestatic 203, 3) := by decide +kernel
theorem dX8_come_4 : decode cX8_come 4 = .ok (.istore 5, 2) := by decide +kernel
theorem dX8_come_6 : decode cX8_come 6 = .ok (.aload_n 0, 1) := by decide +kernel
theorem dX8_come_7 : decode cX8_come 7 = .ok (.getfield 83, 3) := by decide +kernel
theorem dX8_come_10 : decode cX8_come 10 = .ok (.iload_n 1, 1) := by decide +kernel
theorem dX8_come_11 : decode cX8_come 11 = .ok (.iload 4, 2) := by decide +kernel
theorem dX8_come_13 : decode cX8_come 13 = .ok (.ifCond .eq 8, 3) := by decide +kernel
theorem dX8_come_16 : decode cX8_come 16 = .ok (.iload 4, 2) := by decide +kernel
theorem dX8_come_18 : decode cX8_come 18 = .ok (.goto 13, 3) := by decide +kernel
theorem dX8_come_21 : decode cX8_come 21 = .ok (.iload 5, 2) := by decide +kernel
theorem dX8_come_23 : decode cX8_come 23 = .ok (.ifCond .eq 7, 3) := by decide +kernel
theorem dX8_come_26 : decode cX8_come 26 = .ok (.iconst 0, 1) := by decide +kernel
theorem dX8_come_27 : decode cX8_come 27 = .ok (.goto 4, 3) := by decide +kernel
theorem dX8_come_30 : decode cX8_come 30 = .ok (.iconst 1, 1) := by decide +kernel
theorem dX8_come_31 : decode cX8_come 31 = .ok (.iastore, 1) := by decide +kernel
theorem dX8_come_32 : decode cX8_come 32 = .ok (.aload_n 0, 1) := by decide +kernel
theorem dX8_come_33 : decode cX8_come 33 = .ok (.getfield 80, 3) := by decide +kernel
theorem dX8_come_36 : decode cX8_come 36 = .ok (.iload_n 1, 1) := by decide +kernel
theorem dX8_come_37 : decode cX8_come 37 = .ok (.aload_n 0, 1) := by decide +kernel
theorem dX8_come_38 : decode cX8_come 38 = .ok (.getfield 83, 3) := by decide +kernel
theorem dX8_come_41 : decode cX8_come 41 = .ok (.iload_n 1, 1) := by decide +kernel
theorem dX8_come_42 : decode cX8_come 42 = .ok (.iaload, 1) := by decide +kernel
theorem dX8_come_43 : decode cX8_come 43 = .ok (.ifCond .ne 7, 3) := by decide +kernel
theorem dX8_come_46 : decode cX8_come 46 = .ok (.lload_n 2, 1) := by decide +kernel
theorem dX8_come_47 : decode cX8_come 47 = .ok (.goto 4, 3) := by decide +kernel
theorem dX8_come_50 : decode cX8_come 50 = .ok (.lconst 0, 1) := by decide +kernel
theorem dX8_come_51 : decode cX8_come 51 = .ok (.lastore, 1) := by decide +kernel
theorem dX8_come_52 : decode cX8_come 52 = .ok (.return_, 1) := by decide +kernel
theorem dX8_sumUp_0 : decode cX8_sumUp 0 = .ok (.lconst 0, 1) := by decide +kernel
theorem dX8_sumUp_1 : decode cX8_sumUp 1 = .ok (.lstore_n 3, 1) := by decide +kernel
theorem dX8_sumUp_2 : decode cX8_sumUp 2 = .ok (.iconst 0, 1) := by decide +kernel
theorem dX8_sumUp_3 : decode cX8_sumUp 3 = .ok (.istore 5, 2) := by decide +kernel
theorem dX8_sumUp_5 : decode cX8_sumUp 5 = .ok (.iconst 0, 1) := by decide +kernel
theorem dX8_sumUp_6 : decode cX8_sumUp 6 = .ok (.istore 6, 2) := by decide +kernel
theorem dX8_sumUp_8 : decode cX8_sumUp 8 = .ok (.iload 6, 2) := by decide +kernel
theorem dX8_sumUp_10 : decode cX8_sumUp 10 = .ok (.aload_n 0, 1) := by decide +kernel
theorem dX8_sumUp_11 : decode cX8_sumUp 11 = .ok (.getfield 17, 3) := by decide +kernel
theorem dX8_sumUp_14 : decode cX8_sumUp 14 = .ok (.if_icmp .ge 46, 3) := by decide +kernel
theorem dX8_sumUp_17 : decode cX8_sumUp 17 = .ok (.iload 5, 2) := by decide +kernel
theorem dX8_sumUp_19 : decode cX8_sumUp 19 = .ok (.ifCond .ne 17, 3) := by decide +kernel
theorem dX8_sumUp_22 : decode cX8_sumUp 22 = .ok (.aload_n 0, 1) := by decide +kernel
theorem dX8_sumUp_23 : decode cX8_sumUp 23 = .ok (.getfield 68, 3) := by decide +kernel
theorem dX8_sumUp_26 : decode cX8_sumUp 26 = .ok (.iconst 4, 1) := by decide +kernel
theorem dX8_sumUp_27 : decode cX8_sumUp 27 = .ok (.iload_n 2, 1) := by decide +kernel
theorem dX8_sumUp_28 : decode cX8_sumUp 28 = .ok (.imul, 1) := by decide +kernel
theorem dX8_sumUp_29 : decode cX8_sumUp 29 = .ok (.iload 6, 2) := by decide +kernel
theorem dX8_sumUp_31 : decode cX8_sumUp 31 = .ok (.iadd, 1) := by decide +kernel
theorem dX8_sumUp_32 : decode cX8_sumUp 32 = .ok (.iaload, 1) := by decide +kernel
theorem dX8_sumUp_33 : decode cX8_sumUp 33 = .ok (.goto 5, 3) := by decide +kernel
theorem dX8_sumUp_36 : decode cX8_sumUp 36 = .ok (.iload 5, 2) := by decide +kernel
theorem dX8_sumUp_38 : decode cX8_sumUp 38 = .ok (.istore 5, 2) := by decide +kernel
theorem dX8_sumUp_40 : decode cX8_sumUp 40 = .ok (.lload_n 3, 1) := by decide +kernel
theorem dX8_sumUp_41 : decode cX8_sumUp 41 = .ok (.aload_n 0, 1) := by decide +kernel
theorem dX8_sumUp_42 : decode cX8_sumUp 42 = .ok (.getfield 65, 3) := by decide +kernel
theorem dX8_sumUp_45 : decode cX8_sumUp 45 = .ok (.iconst 4, 1) := by decide +kernel
theorem dX8_sumUp_46 : decode cX8_sumUp 46 = .ok (.iload_n 2, 1) := by decide +kernel
theorem dX8_sumUp_47 : decode cX8_sumUp 47 = .ok (.imul, 1) := by decide +kernel
theorem dX8_sumUp_48 : decode cX8_sumUp 48 = .ok (.iload 6, 2) := by decide +kernel
theorem dX8_sumUp_50 : decode cX8_sumUp 50 = .ok (.iadd, 1) := by decide +kernel
theorem dX8_sumUp_51 : decode cX8_sumUp 51 = .ok (.laload, 1) := by decide +kernel
theorem dX8_sumUp_52 : decode cX8_sumUp 52 = .ok (.ladd, 1) := by decide +kernel
theorem dX8_sumUp_53 : decode cX8_sumUp 53 = .ok (.lstore_n 3, 1) := by decide +kernel
theorem dX8_sumUp_54 : decode cX8_sumUp 54 = .ok (.iinc 6 1, 3) := by decide +kernel
theorem dX8_sumUp_57 : decode cX8_sumUp 57 = .ok (.goto (-49), 3) := by decide +kernel
theorem dX8_sumUp_60 : decode cX8_sumUp 60 = .ok (.aload_n 0, 1) := by decide +kernel
theorem dX8_sumUp_61 : decode cX8_sumUp 61 = .ok (.iload_n 1, 1) := by decide +kernel
theorem dX8_sumUp_62 : decode cX8_sumUp 62 = .ok (.lload_n 3, 1) := by decide +kernel
theorem dX8_sumUp_63 : decode cX8_sumUp 63 = .ok (.iload 5, 2) := by decide +kernel
theorem dX8_sumUp_65 : decode cX8_sumUp 65 = .ok (.invokevirtual 207, 3) := by decide +kernel
theorem dX8_sumUp_68 : decode cX8_sumUp 68 = .ok (.return_, 1) := by decide +kernel
theorem dX8_worked_0 : decode cX8_worked 0 = .ok (.aload_n 0, 1) := by decide +kernel
theorem dX8_worked_1 : decode cX8_worked 1 = .ok (.getfield 80, 3) := by decide +kernel
theorem dX8_worked_4 : decode cX8_worked 4 = .ok (.iload_n 3, 1) := by decide +kernel
theorem dX8_worked_5 : decode cX8_worked 5 = .ok (.laload, 1) := by decide +kernel
theorem dX8_worked_6 : decode cX8_worked 6 = .ok (.lstore 5, 2) := by decide +kernel
theorem dX8_worked_8 : decode cX8_worked 8 = .ok (.aload_n 0, 1) := by decide +kernel
theorem dX8_worked_9 : decode cX8_worked 9 = .ok (.getfield 80, 3) := by decide +kernel
theorem dX8_worked_12 : decode cX8_worked 12 = .ok (.iload 4, 2) := by decide +kernel
theorem dX8_worked_14 : decode cX8_worked 14 = .ok (.laload, 1) := by decide +kernel
theorem dX8_worked_15 : decode cX8_worked 15 = .ok (.lstore 7, 2) := by decide +kernel
theorem dX8_worked_17 : decode cX8_worked 17 = .ok (.aload_n 0, 1) := by decide +kernel
theorem dX8_worked_18 : decode cX8_worked 18 = .ok (.getfield 83, 3) := by decide +kernel
theorem dX8_worked_21 : decode cX8_worked 21 = .ok (.iload_n 3, 1) := by decide +kernel
theorem dX8_worked_22 : decode cX8_worked 22 = .ok (.iaload, 1) := by decide +kernel
theorem dX8_worked_23 : decode cX8_worked 23 = .ok (.ifCond .eq 12, 3) := by decide +kernel
theorem dX8_worked_26 : decode cX8_worked 26 = .ok (.aload_n 0, 1) := by decide +kernel
theorem dX8_worked_27 : decode cX8_worked 27 = .ok (.getfield 83, 3) := by decide +kernel
theorem dX8_worked_30 : decode cX8_worked 30 = .ok (.iload_n 3, 1) := by decide +kernel
theorem dX8_worked_31 : decode cX8_worked 31 = .ok (.iaload, 1) := by decide +kernel
theorem dX8_worked_32 : decode cX8_worked 32 = .ok (.goto 10, 3) := by decide +kernel
theorem dX8_worked_35 : decode cX8_worked 35 = .ok (.aload_n 0, 1) := by decide +kernel
theorem dX8_worked_36 : decode cX8_worked 36 = .ok (.getfield 83, 3) := by decide +kernel
theorem dX8_worked_39 : decode cX8_worked 39 = .ok (.iload 4, 2) := by decide +kernel
theorem dX8_worked_41 : decode cX8_worked 41 = .ok (.iaload, 1) := by decide +kernel
theorem dX8_worked_42 : decode cX8_worked 42 = .ok (.istore 9, 2) := by decide +kernel
theorem dX8_worked_44 : decode cX8_worked 44 = .ok (.iload 9, 2) := by decide +kernel
theorem dX8_worked_46 : decode cX8_worked 46 = .ok (.ifCond .eq 12, 3) := by decide +kernel
theorem dX8_worked_49 : decode cX8_worked 49 = .ok (.aload_n 0, 1) := by decide +kernel
theorem dX8_worked_50 : decode cX8_worked 50 = .ok (.iload_n 1, 1) := by decide +kernel
theorem dX8_worked_51 : decode cX8_worked 51 = .ok (.lconst 0, 1) := by decide +kernel
theorem dX8_worked_52 : decode cX8_worked 52 = .ok (.iload 9, 2) := by decide +kernel
theorem dX8_worked_54 : decode cX8_worked 54 = .ok (.invokevirtual 207, 3) := by decide +kernel
theorem dX8_worked_57 : decode cX8_worked 57 = .ok (.return_, 1) := by decide +kernel
theorem dX8_worked_58 : decode cX8_worked 58 = .ok (.iload_n 2, 1) := by decide +kernel
theorem dX8_worked_59 : decode cX8_worked 59 = .ok (.lookupswitch 176 #[(42, 77), (43, 49), (45, 63), (47, 93), (60, 152)], 49) := by decide +kernel
theorem dX8_worked_108 : decode cX8_worked 108 = .ok (.aload_n 0, 1) := by decide +kernel
theorem dX8_worked_109 : decode cX8_worked 109 = .ok (.iload_n 1, 1) := by decide +kernel
theorem dX8_worked_110 : decode cX8_worked 110 = .ok (.lload 5, 2) := by decide +kernel
theorem dX8_worked_112 : decode cX8_worked 112 = .ok (.lload 7, 2) := by decide +kernel
theorem dX8_worked_114 : decode cX8_worked 114 = .ok (.ladd, 1) := by decide +kernel
theorem dX8_worked_115 : decode cX8_worked 115 = .ok (.iconst 0, 1) := by decide +kernel
theorem dX8_worked_116 : decode cX8_worked 116 = .ok (.invokevirtual 207, 3) := by decide +kernel
theorem dX8_worked_119 : decode cX8_worked 119 = .ok (.goto 137, 3) := by decide +kernel
theorem dX8_worked_122 : decode cX8_worked 122 = .ok (.aload_n 0, 1) := by decide +kernel
theorem dX8_worked_123 : decode cX8_worked 123 = .ok (.iload_n 1, 1) := by decide +kernel
theorem dX8_worked_124 : decode cX8_worked 124 = .ok (.lload 5, 2) := by decide +kernel
theorem dX8_worked_126 : decode cX8_worked 126 = .ok (.lload 7, 2) := by decide +kernel
theorem dX8_worked_128 : decode cX8_worked 128 = .ok (.lsub, 1) := by decide +kernel
theorem dX8_worked_129 : decode cX8_worked 129 = .ok (.iconst 0, 1) := by decide +kernel
theorem dX8_worked_130 : decode cX8_worked 130 = .ok (.invokevirtual 207, 3) := by decide +kernel
theorem dX8_worked_133 : decode cX8_worked 133 = .ok (.goto 123, 3) := by decide +kernel
theorem dX8_worked_136 : decode cX8_worked 136 = .ok (.aload_n 0, 1) := by decide +kernel
theorem dX8_worked_137 : decode cX8_worked 137 = .ok (.iload_n 1, 1) := by decide +kernel
theorem dX8_worked_138 : decode cX8_worked 138 = .ok (.lload 5, 2) := by decide +kernel
theorem dX8_worked_140 : decode cX8_worked 140 = .ok (.lload 7, 2) := by decide +kernel
theorem dX8_worked_142 : decode cX8_worked 142 = .ok (.invokestatic 211, 3) := by decide +kernel
theorem dX8_worked_145 : decode cX8_worked 145 = .ok (.iconst 0, 1) := by decide +kernel
theorem dX8_worked_146 : decode cX8_worked 146 = .ok (.invokevirtual 207, 3) := by decide +kernel
theorem dX8_worked_149 : decode cX8_worked 149 = .ok (.goto 107, 3) := by decide +kernel
theorem dX8_worked_152 : decode cX8_worked 152 = .ok (.lload 7, 2) := by decide +kernel
theorem dX8_worked_154 : decode cX8_worked 154 = .ok (.lconst 0, 1) := by decide +kernel
theorem dX8_worked_155 : decode cX8_worked 155 = .ok (.lcmp, 1) := by decide +kernel
theorem dX8_worked_156 : decode cX8_worked 156 = .ok (.ifCond .ne 13, 3) := by decide +kernel
theorem dX8_worked_159 : decode cX8_worked 159 = .ok (.aload_n 0, 1) := by decide +kernel
theorem dX8_worked_160 : decode cX8_worked 160 = .ok (.iload_n 1, 1) := by decide +kernel
theorem dX8_worked_161 : decode cX8_worked 161 = .ok (.lconst 0, 1) := by decide +kernel
theorem dX8_worked_162 : decode cX8_worked 162 = .ok (.iconst 2, 1) := by decide +kernel
theorem dX8_worked_163 : decode cX8_worked 163 = .ok (.invokevirtual 207, 3) := by decide +kernel
theorem dX8_worked_166 : decode cX8_worked 166 = .ok (.goto 90, 3) := by decide +kernel
theorem dX8_worked_169 : decode cX8_worked 169 = .ok (.aload_n 0, 1) := by decide +kernel
theorem dX8_worked_170 : decode cX8_worked 170 = .ok (.iload_n 1, 1) := by decide +kernel
theorem dX8_worked_171 : decode cX8_worked 171 = .ok (.lload 7, 2) := by decide +kernel
theorem dX8_worked_173 : decode cX8_worked 173 = .ok (.lconst 0, 1) := by decide +kernel
theorem dX8_worked_174 : decode cX8_worked 174 = .ok (.lcmp, 1) := by decide +kernel
theorem dX8_worked_175 : decode cX8_worked 175 = .ok (.ifCond .ge 18, 3) := by decide +kernel
theorem dX8_worked_178 : decode cX8_worked 178 = .ok (.ldc2_w 214, 3) := by decide +kernel
theorem dX8_worked_181 : decode cX8_worked 181 = .ok (.lload 5, 2) := by decide +kernel
theorem dX8_worked_183 : decode cX8_worked 183 = .ok (.lmul, 1) := by decide +kernel
theorem dX8_worked_184 : decode cX8_worked 184 = .ok (.lload 7, 2) := by decide +kernel
theorem dX8_worked_186 : decode cX8_worked 186 = .ok (.lneg, 1) := by decide +kernel
theorem dX8_worked_187 : decode cX8_worked 187 = .ok (.invokestatic 199, 3) := by decide +kernel
theorem dX8_worked_190 : decode cX8_worked 190 = .ok (.goto 14, 3) := by decide +kernel
theorem dX8_worked_193 : decode cX8_worked 193 = .ok (.ldc2_w 125, 3) := by decide +kernel
theorem dX8_worked_196 : decode cX8_worked 196 = .ok (.lload 5, 2) := by decide +kernel
theorem dX8_worked_198 : decode cX8_worked 198 = .ok (.lmul, 1) := by decide +kernel
theorem dX8_worked_199 : decode cX8_worked 199 = .ok (.lload 7, 2) := by decide +kernel
theorem dX8_worked_201 : decode cX8_worked 201 = .ok (.invokestatic 199, 3) := by decide +kernel
theorem dX8_worked_204 : decode cX8_worked 204 = .ok (.iconst 0, 1) := by decide +kernel
theorem dX8_worked_205 : decode cX8_worked 205 = .ok (.invokevirtual 207, 3) := by decide +kernel
theorem dX8_worked_208 : decode cX8_worked 208 = .ok (.goto 48, 3) := by decide +kernel
theorem dX8_worked_211 : decode cX8_worked 211 = .ok (.aload_n 0, 1) := by decide +kernel
theorem dX8_worked_212 : decode cX8_worked 212 = .ok (.iload_n 1, 1) := by decide +kernel
theorem dX8_worked_213 : decode cX8_worked 213 = .ok (.lload 5, 2) := by decide +kernel
theorem dX8_worked_215 : decode cX8_worked 215 = .ok (.lload 7, 2) := by decide +kernel
theorem dX8_worked_217 : decode cX8_worked 217 = .ok (.lcmp, 1) := by decide +kernel
theorem dX8_worked_218 : decode cX8_worked 218 = .ok (.ifCond .ge 9, 3) := by decide +kernel
theorem dX8_worked_221 : decode cX8_worked 221 = .ok (.ldc2_w 125, 3) := by decide +kernel
theorem dX8_worked_224 : decode cX8_worked 224 = .ok (.goto 4, 3) := by decide +kernel
theorem dX8_worked_227 : decode cX8_worked 227 = .ok (.lconst 0, 1) := by decide +kernel
theorem dX8_worked_228 : decode cX8_worked 228 = .ok (.iconst 0, 1) := by decide +kernel
theorem dX8_worked_229 : decode cX8_worked 229 = .ok (.invokevirtual 207, 3) := by decide +kernel
theorem dX8_worked_232 : decode cX8_worked 232 = .ok (.goto 24, 3) := by decide +kernel
theorem dX8_worked_235 : decode cX8_worked 235 = .ok (.aload_n 0, 1) := by decide +kernel
theorem dX8_worked_236 : decode cX8_worked 236 = .ok (.iload_n 1, 1) := by decide +kernel
theorem dX8_worked_237 : decode cX8_worked 237 = .ok (.lload 5, 2) := by decide +kernel
theorem dX8_worked_239 : decode cX8_worked 239 = .ok (.lload 7, 2) := by decide +kernel
theorem dX8_worked_241 : decode cX8_worked 241 = .ok (.lcmp, 1) := by decide +kernel
theorem dX8_worked_242 : decode cX8_worked 242 = .ok (.ifCond .ne 9, 3) := by decide +kernel
theorem dX8_worked_245 : decode cX8_worked 245 = .ok (.ldc2_w 125, 3) := by decide +kernel
theorem dX8_worked_248 : decode cX8_worked 248 = .ok (.goto 4, 3) := by decide +kernel
theorem dX8_worked_251 : decode cX8_worked 251 = .ok (.lconst 0, 1) := by decide +kernel
theorem dX8_worked_252 : decode cX8_worked 252 = .ok (.iconst 0, 1) := by decide +kernel
theorem dX8_worked_253 : decode cX8_worked 253 = .ok (.invokevirtual 207, 3) := by decide +kernel
theorem dX8_worked_256 : decode cX8_worked 256 = .ok (.return_, 1) := by decide +kernel
theorem dX8_work_0 : decode cX8_work 0 = .ok (.iconst 0, 1) := by decide +kernel
theorem dX8_work_1 : decode cX8_work 1 = .ok (.istore_n 3, 1) := by decide +kernel
theorem dX8_work_2 : decode cX8_work 2 = .ok (.iload_n 3, 1) := by decide +kernel
theorem dX8_work_3 : decode cX8_work 3 = .ok (.aload_n 0, 1) := by decide +kernel
theorem dX8_work_4 : decode cX8_work 4 = .ok (.getfield 34, 3) := by decide +kernel
theorem dX8_work_7 : decode cX8_work 7 = .ok (.iload_n 1, 1) := by decide +kernel
theorem dX8_work_8 : decode cX8_work 8 = .ok (.iaload, 1) := by decide +kernel
theorem dX8_work_9 : decode cX8_work 9 = .ok (.if_icmp .ge 281, 3) := by decide +kernel
theorem dX8_work_12 : decode cX8_work 12 = .ok (.bipush 32, 2) := by decide +kernel
theorem dX8_work_14 : decode cX8_work 14 = .ok (.iload_n 1, 1) := by decide +kernel
theorem dX8_work_15 : decode cX8_work 15 = .ok (.imul, 1) := by decide +kernel
theorem dX8_work_16 : decode cX8_work 16 = .ok (.iload_n 3, 1) := by decide +kernel
theorem dX8_work_17 : decode cX8_work 17 = .ok (.iadd, 1) := by decide +kernel
theorem dX8_work_18 : decode cX8_work 18 = .ok (.istore 4, 2) := by decide +kernel
theorem dX8_work_20 : decode cX8_work 20 = .ok (.aload_n 0, 1) := by decide +kernel
theorem dX8_work_21 : decode cX8_work 21 = .ok (.getfield 40, 3) := by decide +kernel
theorem dX8_work_24 : decode cX8_work 24 = .ok (.iload 4, 2) := by decide +kernel
theorem dX8_work_26 : decode cX8_work 26 = .ok (.iaload, 1) := by decide +kernel
theorem dX8_work_27 : decode cX8_work 27 = .ok (.istore 5, 2) := by decide +kernel
theorem dX8_work_29 : decode cX8_work 29 = .ok (.aload_n 0, 1) := by decide +kernel
theorem dX8_work_30 : decode cX8_work 30 = .ok (.getfield 37, 3) := by decide +kernel
theorem dX8_work_33 : decode cX8_work 33 = .ok (.iload 4, 2) := by decide +kernel
theorem dX8_work_35 : decode cX8_work 35 = .ok (.iaload, 1) := by decide +kernel
theorem dX8_work_36 : decode cX8_work 36 = .ok (.iconst 1, 1) := by decide +kernel
theorem dX8_work_37 : decode cX8_work 37 = .ok (.if_icmp .eq 14, 3) := by decide +kernel
theorem dX8_work_40 : decode cX8_work 40 = .ok (.aload_n 0, 1) := by decide +kernel
theorem dX8_work_41 : decode cX8_work 41 = .ok (.getfield 37, 3) := by decide +kernel
theorem dX8_work_44 : decode cX8_work 44 = .ok (.iload 4, 2) := by decide +kernel
theorem dX8_work_46 : decode cX8_work 46 = .ok (.iaload, 1) := by decide +kernel
theorem dX8_work_47 : decode cX8_work 47 = .ok (.iconst 2, 1) := by decide +kernel
theorem dX8_work_48 : decode cX8_work 48 = .ok (.if_icmp .ne 16, 3) := by decide +kernel
theorem dX8_work_51 : decode cX8_work 51 = .ok (.aload_n 0, 1) := by decide +kernel
theorem dX8_work_52 : decode cX8_work 52 = .ok (.iload 5, 2) := by decide +kernel
theorem dX8_work_54 : decode cX8_work 54 = .ok (.aload_n 0, 1) := by decide +kernel
theorem dX8_work_55 : decode cX8_work 55 = .ok (.getfield 115, 3) := by decide +kernel
theorem dX8_work_58 : decode cX8_work 58 = .ok (.invokevirtual 168, 3) := by decide +kernel
theorem dX8_work_61 : decode cX8_work 61 = .ok (.goto 4, 3) := by decide +kernel
theorem dX8_work_64 : decode cX8_work 64 = .ok (.iconst 0, 1) := by decide +kernel
theorem dX8_work_65 : decode cX8_work 65 = .ok (.istore 6, 2) := by decide +kernel
theorem dX8_work_67 : decode cX8_work 67 = .ok (.aload_n 0, 1) := by decide +kernel
theorem dX8_work_68 : decode cX8_work 68 = .ok (.getfield 37, 3) := by decide +kernel
theorem dX8_work_71 : decode cX8_work 71 = .ok (.iload 4, 2) := by decide +kernel
theorem dX8_work_73 : decode cX8_work 73 = .ok (.iaload, 1) := by decide +kernel
theorem dX8_work_74 : decode cX8_work 74 = .ok (.ifCond .ne 19, 3) := by decide +kernel
theorem dX8_work_77 : decode cX8_work 77 = .ok (.aload_n 0, 1) := by decide +kernel
theorem dX8_work_78 : decode cX8_work 78 = .ok (.iload_n 3, 1) := by decide +kernel
theorem dX8_work_79 : decode cX8_work 79 = .ok (.aload_n 0, 1) := by decide +kernel
theorem dX8_work_80 : decode cX8_work 80 = .ok (.getfield 49, 3) := by decide +kernel
theorem dX8_work_83 : decode cX8_work 83 = .ok (.iload 4, 2) := by decide +kernel
theorem dX8_work_85 : decode cX8_work 85 = .ok (.laload, 1) := by decide +kernel
theorem dX8_work_86 : decode cX8_work 86 = .ok (.iconst 0, 1) := by decide +kernel
theorem dX8_work_87 : decode cX8_work 87 = .ok (.invokevirtual 207, 3) := by decide +kernel
theorem dX8_work_90 : decode cX8_work 90 = .ok (.goto 194, 3) := by decide +kernel
theorem dX8_work_93 : decode cX8_work 93 = .ok (.aload_n 0, 1) := by decide +kernel
theorem dX8_work_94 : decode cX8_work 94 = .ok (.getfield 37, 3) := by decide +kernel
theorem dX8_work_97 : decode cX8_work 97 = .ok (.iload 4, 2) := by decide +kernel
theorem dX8_work_99 : decode cX8_work 99 = .ok (.iaload, 1) := by decide +kernel
theorem dX8_work_100 : decode cX8_work 100 = .ok (.iconst 1, 1) := by decide +kernel
theorem dX8_work_101 : decode cX8_work 101 = .ok (.if_icmp .ne 47, 3) := by decide +kernel
theorem dX8_work_104 : decode cX8_work 104 = .ok (.iconst 4, 1) := by decide +kernel
theorem dX8_work_105 : decode cX8_work 105 = .ok (.iload 6, 2) := by decide +kernel
theorem dX8_work_107 : decode cX8_work 107 = .ok (.imul, 1) := by decide +kernel
theorem dX8_work_108 : decode cX8_work 108 = .ok (.aload_n 0, 1) := by decide +kernel
theorem dX8_work_109 : decode cX8_work 109 = .ok (.getfield 27, 3) := by decide +kernel
theorem dX8_work_112 : decode cX8_work 112 = .ok (.iload 6, 2) := by decide +kernel
theorem dX8_work_114 : decode cX8_work 114 = .ok (.baload, 1) := by decide +kernel
theorem dX8_work_115 : decode cX8_work 115 = .ok (.ifCond .eq 7, 3) := by decide +kernel
theorem dX8_work_118 : decode cX8_work 118 = .ok (.iload_n 2, 1) := by decide +kernel
theorem dX8_work_119 : decode cX8_work 119 = .ok (.goto 4, 3) := by decide +kernel
theorem dX8_work_122 : decode cX8_work 122 = .ok (.iconst 0, 1) := by decide +kernel
theorem dX8_work_123 : decode cX8_work 123 = .ok (.iadd, 1) := by decide +kernel
theorem dX8_work_124 : decode cX8_work 124 = .ok (.istore 7, 2) := by decide +kernel
theorem dX8_work_126 : decode cX8_work 126 = .ok (.aload_n 0, 1) := by decide +kernel
theorem dX8_work_127 : decode cX8_work 127 = .ok (.iload_n 3, 1) := by decide +kernel
theorem dX8_work_128 : decode cX8_work 128 = .ok (.aload_n 0, 1) := by decide +kernel
theorem dX8_work_129 : decode cX8_work 129 = .ok (.getfield 65, 3) := by decide +kernel
theorem dX8_work_132 : decode cX8_work 132 = .ok (.iload 7, 2) := by decide +kernel
theorem dX8_work_134 : decode cX8_work 134 = .ok (.laload, 1) := by decide +kernel
theorem dX8_work_135 : decode cX8_work 135 = .ok (.aload_n 0, 1) := by decide +kernel
theorem dX8_work_136 : decode cX8_work 136 = .ok (.getfield 68, 3) := by decide +kernel
theorem dX8_work_139 : decode cX8_work 139 = .ok (.iload 7, 2) := by decide +kernel
theorem dX8_work_141 : decode cX8_work 141 = .ok (.iaload, 1) := by decide +kernel
theorem dX8_work_142 : decode cX8_work 142 = .ok (.invokevirtual 207, 3) := by decide +kernel
theorem dX8_work_145 : decode cX8_work 145 = .ok (.goto 139, 3) := by decide +kernel
theorem dX8_work_148 : decode cX8_work 148 = .ok (.aload_n 0, 1) := by decide +kernel
theorem dX8_work_149 : decode cX8_work 149 = .ok (.getfield 37, 3) := by decide +kernel
theorem dX8_work_152 : decode cX8_work 152 = .ok (.iload 4, 2) := by decide +kernel
theorem dX8_work_154 : decode cX8_work 154 = .ok (.iaload, 1) := by decide +kernel
theorem dX8_work_155 : decode cX8_work 155 = .ok (.iconst 2, 1) := by decide +kernel
theorem dX8_work_156 : decode cX8_work 156 = .ok (.if_icmp .ne 13, 3) := by decide +kernel
theorem dX8_work_159 : decode cX8_work 159 = .ok (.aload_n 0, 1) := by decide +kernel
theorem dX8_work_160 : decode cX8_work 160 = .ok (.iload_n 3, 1) := by decide +kernel
theorem dX8_work_161 : decode cX8_work 161 = .ok (.iload 6, 2) := by decide +kernel
theorem dX8_work_163 : decode cX8_work 163 = .ok (.invokevirtual 216, 3) := by decide +kernel
theorem dX8_work_166 : decode cX8_work 166 = .ok (.goto 118, 3) := by decide +kernel
theorem dX8_work_169 : decode cX8_work 169 = .ok (.aload_n 0, 1) := by decide +kernel
theorem dX8_work_170 : decode cX8_work 170 = .ok (.getfield 37, 3) := by decide +kernel
theorem dX8_work_173 : decode cX8_work 173 = .ok (.iload 4, 2) := by decide +kernel
theorem dX8_work_175 : decode cX8_work 175 = .ok (.iaload, 1) := by decide +kernel
theorem dX8_work_176 : decode cX8_work 176 = .ok (.bipush 63, 2) := by decide +kernel
theorem dX8_work_178 : decode cX8_work 178 = .ok (.if_icmp .ne 85, 3) := by decide +kernel
theorem dX8_work_181 : decode cX8_work 181 = .ok (.aload_n 0, 1) := by decide +kernel
theorem dX8_work_182 : decode cX8_work 182 = .ok (.getfield 83, 3) := by decide +kernel
theorem dX8_work_185 : decode cX8_work 185 = .ok (.iload 5, 2) := by decide +kernel
theorem dX8_work_187 : decode cX8_work 187 = .ok (.iaload, 1) := by decide +kernel
theorem dX8_work_188 : decode cX8_work 188 = .ok (.ifCond .eq 8, 3) := by decide +kernel
theorem dX8_work_191 : decode cX8_work 191 = .ok (.iload 5, 2) := by decide +kernel
theorem dX8_work_193 : decode cX8_work 193 = .ok (.goto 32, 3) := by decide +kernel
theorem dX8_work_196 : decode cX8_work 196 = .ok (.aload_n 0, 1) := by decide +kernel
theorem dX8_work_197 : decode cX8_work 197 = .ok (.getfield 80, 3) := by decide +kernel
theorem dX8_work_200 : decode cX8_work 200 = .ok (.iload 5, 2) := by decide +kernel
theorem dX8_work_202 : decode cX8_work 202 = .ok (.laload, 1) := by decide +kernel
theorem dX8_work_203 : decode cX8_work 203 = .ok (.lconst 0, 1) := by decide +kernel
theorem dX8_work_204 : decode cX8_work 204 = .ok (.lcmp, 1) := by decide +kernel
theorem dX8_work_205 : decode cX8_work 205 = .ok (.ifCond .eq 13, 3) := by decide +kernel
theorem dX8_work_208 : decode cX8_work 208 = .ok (.aload_n 0, 1) := by decide +kernel
theorem dX8_work_209 : decode cX8_work 209 = .ok (.getfield 43, 3) := by decide +kernel
theorem dX8_work_212 : decode cX8_work 212 = .ok (.iload 4, 2) := by decide +kernel
theorem dX8_work_214 : decode cX8_work 214 = .ok (.iaload, 1) := by decide +kernel
theorem dX8_work_215 : decode cX8_work 215 = .ok (.goto 10, 3) := by decide +kernel
theorem dX8_work_218 : decode cX8_work 218 = .ok (.aload_n 0, 1) := by decide +kernel
theorem dX8_work_219 : decode cX8_work 219 = .ok (.getfield 46, 3) := by decide +kernel
theorem dX8_work_222 : decode cX8_work 222 = .ok (.iload 4, 2) := by decide +kernel
theorem dX8_work_224 : decode cX8_work 224 = .ok (.iaload, 1) := by decide +kernel
theorem dX8_work_225 : decode cX8_work 225 = .ok (.istore 7, 2) := by decide +kernel
theorem dX8_work_227 : decode cX8_work 227 = .ok (.aload_n 0, 1) := by decide +kernel
theorem dX8_work_228 : decode cX8_work 228 = .ok (.iload_n 3, 1) := by decide +kernel
theorem dX8_work_229 : decode cX8_work 229 = .ok (.aload_n 0, 1) := by decide +kernel
theorem dX8_work_230 : decode cX8_work 230 = .ok (.getfield 83, 3) := by decide +kernel
theorem dX8_work_233 : decode cX8_work 233 = .ok (.iload 5, 2) := by decide +kernel
theorem dX8_work_235 : decode cX8_work 235 = .ok (.iaload, 1) := by decide +kernel
theorem dX8_work_236 : decode cX8_work 236 = .ok (.ifCond .eq 7, 3) := by decide +kernel
theorem dX8_work_239 : decode cX8_work 239 = .ok (.lconst 0, 1) := by decide +kernel
theorem dX8_work_240 : decode cX8_work 240 = .ok (.goto 10, 3) := by decide +kernel
theorem dX8_work_243 : decode cX8_work 243 = .ok (.aload_n 0, 1) := by decide +kernel
theorem dX8_work_244 : decode cX8_work 244 = .ok (.getfield 80, 3) := by decide +kernel
theorem dX8_work_247 : decode cX8_work 247 = .ok (.iload 7, 2) := by decide +kernel
theorem dX8_work_249 : decode cX8_work 249 = .ok (.laload, 1) := by decide +kernel
theorem dX8_work_250 : decode cX8_work 250 = .ok (.aload_n 0, 1) := by decide +kernel
theorem dX8_work_251 : decode cX8_work 251 = .ok (.getfield 83, 3) := by decide +kernel
theorem dX8_work_254 : decode cX8_work 254 = .ok (.iload 7, 2) := by decide +kernel
theorem dX8_work_256 : decode cX8_work 256 = .ok (.iaload, 1) := by decide +kernel
theorem dX8_work_257 : decode cX8_work 257 = .ok (.invokevirtual 207, 3) := by decide +kernel
theorem dX8_work_260 : decode cX8_work 260 = .ok (.goto 24, 3) := by decide +kernel
theorem dX8_work_263 : decode cX8_work 263 = .ok (.aload_n 0, 1) := by decide +kernel
theorem dX8_work_264 : decode cX8_work 264 = .ok (.iload_n 3, 1) := by decide +kernel
theorem dX8_work_265 : decode cX8_work 265 = .ok (.aload_n 0, 1) := by decide +kernel
theorem dX8_work_266 : decode cX8_work 266 = .ok (.getfield 37, 3) := by decide +kernel
theorem dX8_work_269 : decode cX8_work 269 = .ok (.iload 4, 2) := by decide +kernel
theorem dX8_work_271 : decode cX8_work 271 = .ok (.iaload, 1) := by decide +kernel
theorem dX8_work_272 : decode cX8_work 272 = .ok (.iload 5, 2) := by decide +kernel
theorem dX8_work_274 : decode cX8_work 274 = .ok (.aload_n 0, 1) := by decide +kernel
theorem dX8_work_275 : decode cX8_work 275 = .ok (.getfield 43, 3) := by decide +kernel
theorem dX8_work_278 : decode cX8_work 278 = .ok (.iload 4, 2) := by decide +kernel
theorem dX8_work_280 : decode cX8_work 280 = .ok (.iaload, 1) := by decide +kernel
theorem dX8_work_281 : decode cX8_work 281 = .ok (.invokevirtual 220, 3) := by decide +kernel
theorem dX8_work_284 : decode cX8_work 284 = .ok (.iinc 3 1, 3) := by decide +kernel
theorem dX8_work_287 : decode cX8_work 287 = .ok (.goto (-285), 3) := by decide +kernel
theorem dX8_work_290 : decode cX8_work 290 = .ok (.aload_n 0, 1) := by decide +kernel
theorem dX8_work_291 : decode cX8_work 291 = .ok (.getfield 34, 3) := by decide +kernel
theorem dX8_work_294 : decode cX8_work 294 = .ok (.iload_n 1, 1) := by decide +kernel
theorem dX8_work_295 : decode cX8_work 295 = .ok (.iaload, 1) := by decide +kernel
theorem dX8_work_296 : decode cX8_work 296 = .ok (.iconst 1, 1) := by decide +kernel
theorem dX8_work_297 : decode cX8_work 297 = .ok (.isub, 1) := by decide +kernel
theorem dX8_work_298 : decode cX8_work 298 = .ok (.ireturn, 1) := by decide +kernel
theorem dX8_isWorked_0 : decode cX8_isWorked 0 = .ok (.aload_n 0, 1) := by decide +kernel
theorem dX8_isWorked_1 : decode cX8_isWorked 1 = .ok (.getfield 20, 3) := by decide +kernel
theorem dX8_isWorked_4 : decode cX8_isWorked 4 = .ok (.iload_n 1, 1) := by decide +kernel
theorem dX8_isWorked_5 : decode cX8_isWorked 5 = .ok (.iaload, 1) := by decide +kernel
theorem dX8_isWorked_6 : decode cX8_isWorked 6 = .ok (.ifCond .ne 16, 3) := by decide +kernel
theorem dX8_isWorked_9 : decode cX8_isWorked 9 = .ok (.aload_n 0, 1) := by decide +kernel
theorem dX8_isWorked_10 : decode cX8_isWorked 10 = .ok (.getfield 34, 3) := by decide +kernel
theorem dX8_isWorked_13 : decode cX8_isWorked 13 = .ok (.iload_n 1, 1) := by decide +kernel
theorem dX8_isWorked_14 : decode cX8_isWorked 14 = .ok (.iaload, 1) := by decide +kernel
theorem dX8_isWorked_15 : decode cX8_isWorked 15 = .ok (.ifCond .le 7, 3) := by decide +kernel
theorem dX8_isWorked_18 : decode cX8_isWorked 18 = .ok (.iconst 1, 1) := by decide +kernel
theorem dX8_isWorked_19 : decode cX8_isWorked 19 = .ok (.goto 4, 3) := by decide +kernel
theorem dX8_isWorked_22 : decode cX8_isWorked 22 = .ok (.iconst 0, 1) := by decide +kernel
theorem dX8_isWorked_23 : decode cX8_isWorked 23 = .ok (.ireturn, 1) := by decide +kernel
theorem dX8_workAll_0 : decode cX8_workAll 0 = .ok (.iconst 0, 1) := by decide +kernel
theorem dX8_workAll_1 : decode cX8_workAll 1 = .ok (.istore_n 1, 1) := by decide +kernel
theorem dX8_workAll_2 : decode cX8_workAll 2 = .ok (.iload_n 1, 1) := by decide +kernel
theorem dX8_workAll_3 : decode cX8_workAll 3 = .ok (.bipush 64, 2) := by decide +kernel
theorem dX8_workAll_5 : decode cX8_workAll 5 = .ok (.if_icmp .ge 138, 3) := by decide +kernel
theorem dX8_workAll_8 : decode cX8_workAll 8 = .ok (.iload_n 1, 1) := by decide +kernel
theorem dX8_workAll_9 : decode cX8_workAll 9 = .ok (.iconst 4, 1) := by decide +kernel
theorem dX8_workAll_10 : decode cX8_workAll 10 = .ok (.idiv, 1) := by decide +kernel
theorem dX8_workAll_11 : decode cX8_workAll 11 = .ok (.istore_n 2, 1) := by decide +kernel
theorem dX8_workAll_12 : decode cX8_workAll 12 = .ok (.iload_n 2, 1) := by decide +kernel
theorem dX8_workAll_13 : decode cX8_workAll 13 = .ok (.aload_n 0, 1) := by decide +kernel
theorem dX8_workAll_14 : decode cX8_workAll 14 = .ok (.getfield 115, 3) := by decide +kernel
theorem dX8_workAll_17 : decode cX8_workAll 17 = .ok (.if_icmp .ge 27, 3) := by decide +kernel
theorem dX8_workAll_20 : decode cX8_workAll 20 = .ok (.aload_n 0, 1) := by decide +kernel
theorem dX8_workAll_21 : decode cX8_workAll 21 = .ok (.getfield 20, 3) := by decide +kernel
theorem dX8_workAll_24 : decode cX8_workAll 24 = .ok (.iload_n 2, 1) := by decide +kernel
theorem dX8_workAll_25 : decode cX8_workAll 25 = .ok (.iaload, 1) := by decide +kernel
theorem dX8_workAll_26 : decode cX8_workAll 26 = .ok (.ifCond .ne 18, 3) := by decide +kernel
theorem dX8_workAll_29 : decode cX8_workAll 29 = .ok (.iload_n 1, 1) := by decide +kernel
theorem dX8_workAll_30 : decode cX8_workAll 30 = .ok (.iconst 4, 1) := by decide +kernel
theorem dX8_workAll_31 : decode cX8_workAll 31 = .ok (.irem, 1) := by decide +kernel
theorem dX8_workAll_32 : decode cX8_workAll 32 = .ok (.aload_n 0, 1) := by decide +kernel
theorem dX8_workAll_33 : decode cX8_workAll 33 = .ok (.iload_n 2, 1) := by decide +kernel
theorem dX8_workAll_34 : decode cX8_workAll 34 = .ok (.invokevirtual 172, 3) := by decide +kernel
theorem dX8_workAll_37 : decode cX8_workAll 37 = .ok (.if_icmp .ge 7, 3) := by decide +kernel
theorem dX8_workAll_40 : decode cX8_workAll 40 = .ok (.iconst 1, 1) := by decide +kernel
theorem dX8_workAll_41 : decode cX8_workAll 41 = .ok (.goto 4, 3) := by decide +kernel
theorem dX8_workAll_44 : decode cX8_workAll 44 = .ok (.iconst 0, 1) := by decide +kernel
theorem dX8_workAll_45 : decode cX8_workAll 45 = .ok (.istore_n 3, 1) := by decide +kernel
theorem dX8_workAll_46 : decode cX8_workAll 46 = .ok (.aload_n 0, 1) := by decide +kernel
theorem dX8_workAll_47 : decode cX8_workAll 47 = .ok (.getfield 71, 3) := by decide +kernel
theorem dX8_workAll_50 : decode cX8_workAll 50 = .ok (.iload_n 1, 1) := by decide +kernel
theorem dX8_workAll_51 : decode cX8_workAll 51 = .ok (.iload_n 3, 1) := by decide +kernel
theorem dX8_workAll_52 : decode cX8_workAll 52 = .ok (.ifCond .eq 23, 3) := by decide +kernel
theorem dX8_workAll_55 : decode cX8_workAll 55 = .ok (.aload_n 0, 1) := by decide +kernel
theorem dX8_workAll_56 : decode cX8_workAll 56 = .ok (.getfield 34, 3) := by decide +kernel
theorem dX8_workAll_59 : decode cX8_workAll 59 = .ok (.iload_n 2, 1) := by decide +kernel
theorem dX8_workAll_60 : decode cX8_workAll 60 = .ok (.iaload, 1) := by decide +kernel
theorem dX8_workAll_61 : decode cX8_workAll 61 = .ok (.ifCond .le 14, 3) := by decide +kernel
theorem dX8_workAll_64 : decode cX8_workAll 64 = .ok (.aload_n 0, 1) := by decide +kernel
theorem dX8_workAll_65 : decode cX8_workAll 65 = .ok (.iload_n 2, 1) := by decide +kernel
theorem dX8_workAll_66 : decode cX8_workAll 66 = .ok (.iload_n 1, 1) := by decide +kernel
theorem dX8_workAll_67 : decode cX8_workAll 67 = .ok (.iconst 4, 1) := by decide +kernel
theorem dX8_workAll_68 : decode cX8_workAll 68 = .ok (.irem, 1) := by decide +kernel
theorem dX8_workAll_69 : decode cX8_workAll 69 = .ok (.invokevirtual 224, 3) := by decide +kernel
theorem dX8_workAll_72 : decode cX8_workAll 72 = .ok (.goto 4, 3) := by decide +kernel
theorem dX8_workAll_75 : decode cX8_workAll 75 = .ok (.lconst 0, 1) := by decide +kernel
theorem dX8_workAll_76 : decode cX8_workAll 76 = .ok (.lastore, 1) := by decide +kernel
theorem dX8_workAll_77 : decode cX8_workAll 77 = .ok (.aload_n 0, 1) := by decide +kernel
theorem dX8_workAll_78 : decode cX8_workAll 78 = .ok (.getfield 77, 3) := by decide +kernel
theorem dX8_workAll_81 : decode cX8_workAll 81 = .ok (.iload_n 1, 1) := by decide +kernel
theorem dX8_workAll_82 : decode cX8_workAll 82 = .ok (.iload_n 3, 1) := by decide +kernel
theorem dX8_workAll_83 : decode cX8_workAll 83 = .ok (.ifCond .eq 12, 3) := by decide +kernel
theorem dX8_workAll_86 : decode cX8_workAll 86 = .ok (.aload_n 0, 1) := by decide +kernel
theorem dX8_workAll_87 : decode cX8_workAll 87 = .ok (.getfield 34, 3) := by decide +kernel
theorem dX8_workAll_90 : decode cX8_workAll 90 = .ok (.iload_n 2, 1) := by decide +kernel
theorem dX8_workAll_91 : decode cX8_workAll 91 = .ok (.iaload, 1) := by decide +kernel
theorem dX8_workAll_92 : decode cX8_workAll 92 = .ok (.ifCond .gt 7, 3) := by decide +kernel
theorem dX8_workAll_95 : decode cX8_workAll 95 = .ok (.iconst 1, 1) := by decide +kernel
theorem dX8_workAll_96 : decode cX8_workAll 96 = .ok (.goto 4, 3) := by decide +kernel
theorem dX8_workAll_99 : decode cX8_workAll 99 = .ok (.iconst 0, 1) := by decide +kernel
theorem dX8_workAll_100 : decode cX8_workAll 100 = .ok (.bastore, 1) := by decide +kernel
theorem dX8_workAll_101 : decode cX8_workAll 101 = .ok (.aload_n 0, 1) := by decide +kernel
theorem dX8_workAll_102 : decode cX8_workAll 102 = .ok (.getfield 68, 3) := by decide +kernel
theorem dX8_workAll_105 : decode cX8_workAll 105 = .ok (.iload_n 1, 1) := by decide +kernel
theorem dX8_workAll_106 : decode cX8_workAll 106 = .ok (.iconst 0, 1) := by decide +kernel
theorem dX8_workAll_107 : decode cX8_workAll 107 = .ok (.iastore, 1) := by decide +kernel
theorem dX8_workAll_108 : decode cX8_workAll 108 = .ok (.aload_n 0, 1) := by decide +kernel
theorem dX8_workAll_109 : decode cX8_workAll 109 = .ok (.getfield 65, 3) := by decide +kernel
theorem dX8_workAll_112 : decode cX8_workAll 112 = .ok (.iload_n 1, 1) := by decide +kernel
theorem dX8_workAll_113 : decode cX8_workAll 113 = .ok (.aload_n 0, 1) := by decide +kernel
theorem dX8_workAll_114 : decode cX8_workAll 114 = .ok (.getfield 77, 3) := by decide +kernel
theorem dX8_workAll_117 : decode cX8_workAll 117 = .ok (.iload_n 1, 1) := by decide +kernel
theorem dX8_workAll_118 : decode cX8_workAll 118 = .ok (.baload, 1) := by decide +kernel
theorem dX8_workAll_119 : decode cX8_workAll 119 = .ok (.ifCond .eq 16, 3) := by decide +kernel
theorem dX8_workAll_122 : decode cX8_workAll 122 = .ok (.iload_n 3, 1) := by decide +kernel
theorem dX8_workAll_123 : decode cX8_workAll 123 = .ok (.ifCond .eq 12, 3) := by decide +kernel
theorem dX8_workAll_126 : decode cX8_workAll 126 = .ok (.aload_n 0, 1) := by decide +kernel
theorem dX8_workAll_127 : decode cX8_workAll 127 = .ok (.getfield 65, 3) := by decide +kernel
theorem dX8_workAll_130 : decode cX8_workAll 130 = .ok (.iload_n 1, 1) := by decide +kernel
theorem dX8_workAll_131 : decode cX8_workAll 131 = .ok (.laload, 1) := by decide +kernel
theorem dX8_workAll_132 : decode cX8_workAll 132 = .ok (.goto 4, 3) := by decide +kernel
theorem dX8_workAll_135 : decode cX8_workAll 135 = .ok (.lconst 0, 1) := by decide +kernel
theorem dX8_workAll_136 : decode cX8_workAll 136 = .ok (.lastore, 1) := by decide +kernel
theorem dX8_workAll_137 : decode cX8_workAll 137 = .ok (.iinc 1 1, 3) := by decide +kernel
theorem dX8_workAll_140 : decode cX8_workAll 140 = .ok (.goto (-138), 3) := by decide +kernel
theorem dX8_workAll_143 : decode cX8_workAll 143 = .ok (.aload_n 0, 1) := by decide +kernel
theorem dX8_workAll_144 : decode cX8_workAll 144 = .ok (.invokevirtual 228, 3) := by decide +kernel
theorem dX8_workAll_147 : decode cX8_workAll 147 = .ok (.iconst 0, 1) := by decide +kernel
theorem dX8_workAll_148 : decode cX8_workAll 148 = .ok (.istore_n 1, 1) := by decide +kernel
theorem dX8_workAll_149 : decode cX8_workAll 149 = .ok (.iload_n 1, 1) := by decide +kernel
theorem dX8_workAll_150 : decode cX8_workAll 150 = .ok (.bipush 64, 2) := by decide +kernel
theorem dX8_workAll_152 : decode cX8_workAll 152 = .ok (.if_icmp .ge 38, 3) := by decide +kernel
theorem dX8_workAll_155 : decode cX8_workAll 155 = .ok (.aload_n 0, 1) := by decide +kernel
theorem dX8_workAll_156 : decode cX8_workAll 156 = .ok (.getfield 71, 3) := by decide +kernel
theorem dX8_workAll_159 : decode cX8_workAll 159 = .ok (.iload_n 1, 1) := by decide +kernel
theorem dX8_workAll_160 : decode cX8_workAll 160 = .ok (.laload, 1) := by decide +kernel
theorem dX8_workAll_161 : decode cX8_workAll 161 = .ok (.iload_n 1, 1) := by decide +kernel
theorem dX8_workAll_162 : decode cX8_workAll 162 = .ok (.lshr, 1) := by decide +kernel
theorem dX8_workAll_163 : decode cX8_workAll 163 = .ok (.lconst 1, 1) := by decide +kernel
theorem dX8_workAll_164 : decode cX8_workAll 164 = .ok (.land, 1) := by decide +kernel
theorem dX8_workAll_165 : decode cX8_workAll 165 = .ok (.lconst 1, 1) := by decide +kernel
theorem dX8_workAll_166 : decode cX8_workAll 166 = .ok (.lcmp, 1) := by decide +kernel
theorem dX8_workAll_167 : decode cX8_workAll 167 = .ok (.ifCond .ne 17, 3) := by decide +kernel
theorem dX8_workAll_170 : decode cX8_workAll 170 = .ok (.aload_n 0, 1) := by decide +kernel
theorem dX8_workAll_171 : decode cX8_workAll 171 = .ok (.getfield 77, 3) := by decide +kernel
theorem dX8_workAll_174 : decode cX8_workAll 174 = .ok (.iload_n 1, 1) := by decide +kernel
theorem dX8_workAll_175 : decode cX8_workAll 175 = .ok (.iconst 1, 1) := by decide +kernel
theorem dX8_workAll_176 : decode cX8_workAll 176 = .ok (.bastore, 1) := by decide +kernel
theorem dX8_workAll_177 : decode cX8_workAll 177 = .ok (.aload_n 0, 1) := by decide +kernel
theorem dX8_workAll_178 : decode cX8_workAll 178 = .ok (.getfield 68, 3) := by decide +kernel
theorem dX8_workAll_181 : decode cX8_workAll 181 = .ok (.iload_n 1, 1) := by decide +kernel
theorem dX8_workAll_182 : decode cX8_workAll 182 = .ok (.iconst 3, 1) := by decide +kernel
theorem dX8_workAll_183 : decode cX8_workAll 183 = .ok (.iastore, 1) := by decide +kernel
theorem dX8_workAll_184 : decode cX8_workAll 184 = .ok (.iinc 1 1, 3) := by decide +kernel
theorem dX8_workAll_187 : decode cX8_workAll 187 = .ok (.goto (-38), 3) := by decide +kernel
theorem dX8_workAll_190 : decode cX8_workAll 190 = .ok (.iconst 0, 1) := by decide +kernel
theorem dX8_workAll_191 : decode cX8_workAll 191 = .ok (.istore_n 1, 1) := by decide +kernel
theorem dX8_workAll_192 : decode cX8_workAll 192 = .ok (.iload_n 1, 1) := by decide +kernel
theorem dX8_workAll_193 : decode cX8_workAll 193 = .ok (.bipush 64, 2) := by decide +kernel
theorem dX8_workAll_195 : decode cX8_workAll 195 = .ok (.if_icmp .ge 87, 3) := by decide +kernel
theorem dX8_workAll_198 : decode cX8_workAll 198 = .ok (.iconst 0, 1) := by decide +kernel
theorem dX8_workAll_199 : decode cX8_workAll 199 = .ok (.istore_n 2, 1) := by decide +kernel
theorem dX8_workAll_200 : decode cX8_workAll 200 = .ok (.iload_n 2, 1) := by decide +kernel
theorem dX8_workAll_201 : decode cX8_workAll 201 = .ok (.bipush 64, 2) := by decide +kernel
theorem dX8_workAll_203 : decode cX8_workAll 203 = .ok (.if_icmp .ge 73, 3) := by decide +kernel
theorem dX8_workAll_206 : decode cX8_workAll 206 = .ok (.aload_n 0, 1) := by decide +kernel
theorem dX8_workAll_207 : decode cX8_workAll 207 = .ok (.getfield 77, 3) := by decide +kernel
theorem dX8_workAll_210 : decode cX8_workAll 210 = .ok (.iload_n 2, 1) := by decide +kernel
theorem dX8_workAll_211 : decode cX8_workAll 211 = .ok (.baload, 1) := by decide +kernel
theorem dX8_workAll_212 : decode cX8_workAll 212 = .ok (.ifCond .ne 58, 3) := by decide +kernel
theorem dX8_workAll_215 : decode cX8_workAll 215 = .ok (.aload_n 0, 1) := by decide +kernel
theorem dX8_workAll_216 : decode cX8_workAll 216 = .ok (.aload_n 0, 1) := by decide +kernel
theorem dX8_workAll_217 : decode cX8_workAll 217 = .ok (.getfield 74, 3) := by decide +kernel
theorem dX8_workAll_220 : decode cX8_workAll 220 = .ok (.iload_n 2, 1) := by decide +kernel
theorem dX8_workAll_221 : decode cX8_workAll 221 = .ok (.laload, 1) := by decide +kernel
theorem dX8_workAll_222 : decode cX8_workAll 222 = .ok (.invokevirtual 231, 3) := by decide +kernel
theorem dX8_workAll_225 : decode cX8_workAll 225 = .ok (.ifCond .eq 45, 3) := by decide +kernel
theorem dX8_workAll_228 : decode cX8_workAll 228 = .ok (.aload_n 0, 1) := by decide +kernel
theorem dX8_workAll_229 : decode cX8_workAll 229 = .ok (.iload_n 2, 1) := by decide +kernel
theorem dX8_workAll_230 : decode cX8_workAll 230 = .ok (.iconst 4, 1) := by decide +kernel
theorem dX8_workAll_231 : decode cX8_workAll 231 = .ok (.idiv, 1) := by decide +kernel
theorem dX8_workAll_232 : decode cX8_workAll 232 = .ok (.iload_n 2, 1) := by decide +kernel
theorem dX8_workAll_233 : decode cX8_workAll 233 = .ok (.iconst 4, 1) := by decide +kernel
theorem dX8_workAll_234 : decode cX8_workAll 234 = .ok (.irem, 1) := by decide +kernel
theorem dX8_workAll_235 : decode cX8_workAll 235 = .ok (.invokevirtual 234, 3) := by decide +kernel
theorem dX8_workAll_238 : decode cX8_workAll 238 = .ok (.istore_n 3, 1) := by decide +kernel
theorem dX8_workAll_239 : decode cX8_workAll 239 = .ok (.aload_n 0, 1) := by decide +kernel
theorem dX8_workAll_240 : decode cX8_workAll 240 = .ok (.getfield 65, 3) := by decide +kernel
theorem dX8_workAll_243 : decode cX8_workAll 243 = .ok (.iload_n 2, 1) := by decide +kernel
theorem dX8_workAll_244 : decode cX8_workAll 244 = .ok (.aload_n 0, 1) := by decide +kernel
theorem dX8_workAll_245 : decode cX8_workAll 245 = .ok (.getfield 80, 3) := by decide +kernel
theorem dX8_workAll_248 : decode cX8_workAll 248 = .ok (.iload_n 3, 1) := by decide +kernel
theorem dX8_workAll_249 : decode cX8_workAll 249 = .ok (.laload, 1) := by decide +kernel
theorem dX8_workAll_250 : decode cX8_workAll 250 = .ok (.lastore, 1) := by decide +kernel
theorem dX8_workAll_251 : decode cX8_workAll 251 = .ok (.aload_n 0, 1) := by decide +kernel
theorem dX8_workAll_252 : decode cX8_workAll 252 = .ok (.getfield 68, 3) := by decide +kernel
theorem dX8_workAll_255 : decode cX8_workAll 255 = .ok (.iload_n 2, 1) := by decide +kernel
theorem dX8_workAll_256 : decode cX8_workAll 256 = .ok (.aload_n 0, 1) := by decide +kernel
theorem dX8_workAll_257 : decode cX8_workAll 257 = .ok (.getfield 83, 3) := by decide +kernel
theorem dX8_workAll_260 : decode cX8_workAll 260 = .ok (.iload_n 3, 1) := by decide +kernel
theorem dX8_workAll_261 : decode cX8_workAll 261 = .ok (.iaload, 1) := by decide +kernel
theorem dX8_workAll_262 : decode cX8_workAll 262 = .ok (.iastore, 1) := by decide +kernel
theorem dX8_workAll_263 : decode cX8_workAll 263 = .ok (.aload_n 0, 1) := by decide +kernel
theorem dX8_workAll_264 : decode cX8_workAll 264 = .ok (.getfield 77, 3) := by decide +kernel
theorem dX8_workAll_267 : decode cX8_workAll 267 = .ok (.iload_n 2, 1) := by decide +kernel
theorem dX8_workAll_268 : decode cX8_workAll 268 = .ok (.iconst 1, 1) := by decide +kernel
theorem dX8_workAll_269 : decode cX8_workAll 269 = .ok (.bastore, 1) := by decide +kernel
theorem dX8_workAll_270 : decode cX8_workAll 270 = .ok (.iinc 2 1, 3) := by decide +kernel
theorem dX8_workAll_273 : decode cX8_workAll 273 = .ok (.goto (-73), 3) := by decide +kernel
theorem dX8_workAll_276 : decode cX8_workAll 276 = .ok (.iinc 1 1, 3) := by decide +kernel
theorem dX8_workAll_279 : decode cX8_workAll 279 = .ok (.goto (-87), 3) := by decide +kernel
theorem dX8_workAll_282 : decode cX8_workAll 282 = .ok (.return_, 1) := by decide +kernel
theorem dX8_follow_0 : decode cX8_follow 0 = .ok (.iconst 0, 1) := by decide +kernel
theorem dX8_follow_1 : decode cX8_follow 1 = .ok (.istore_n 1, 1) := by decide +kernel
theorem dX8_follow_2 : decode cX8_follow 2 = .ok (.iload_n 1, 1) := by decide +kernel
theorem dX8_follow_3 : decode cX8_follow 3 = .ok (.bipush 64, 2) := by decide +kernel
theorem dX8_follow_5 : decode cX8_follow 5 = .ok (.if_icmp .ge 21, 3) := by decide +kernel
theorem dX8_follow_8 : decode cX8_follow 8 = .ok (.aload_n 0, 1) := by decide +kernel
theorem dX8_follow_9 : decode cX8_follow 9 = .ok (.getfield 74, 3) := by decide +kernel
theorem dX8_follow_12 : decode cX8_follow 12 = .ok (.iload_n 1, 1) := by decide +kernel
theorem dX8_follow_13 : decode cX8_follow 13 = .ok (.aload_n 0, 1) := by decide +kernel
theorem dX8_follow_14 : decode cX8_follow 14 = .ok (.getfield 71, 3) := by decide +kernel
theorem dX8_follow_17 : decode cX8_follow 17 = .ok (.iload_n 1, 1) := by decide +kernel
theorem dX8_follow_18 : decode cX8_follow 18 = .ok (.laload, 1) := by decide +kernel
theorem dX8_follow_19 : decode cX8_follow 19 = .ok (.lastore, 1) := by decide +kernel
theorem dX8_follow_20 : decode cX8_follow 20 = .ok (.iinc 1 1, 3) := by decide +kernel
theorem dX8_follow_23 : decode cX8_follow 23 = .ok (.goto (-21), 3) := by decide +kernel
theorem dX8_follow_26 : decode cX8_follow 26 = .ok (.iconst 0, 1) := by decide +kernel
theorem dX8_follow_27 : decode cX8_follow 27 = .ok (.istore_n 1, 1) := by decide +kernel
theorem dX8_follow_28 : decode cX8_follow 28 = .ok (.iload_n 1, 1) := by decide +kernel
theorem dX8_follow_29 : decode cX8_follow 29 = .ok (.bipush 64, 2) := by decide +kernel
theorem dX8_follow_31 : decode cX8_follow 31 = .ok (.if_icmp .ge 83, 3) := by decide +kernel
theorem dX8_follow_34 : decode cX8_follow 34 = .ok (.iconst 0, 1) := by decide +kernel
theorem dX8_follow_35 : decode cX8_follow 35 = .ok (.istore_n 2, 1) := by decide +kernel
theorem dX8_follow_36 : decode cX8_follow 36 = .ok (.iload_n 2, 1) := by decide +kernel
theorem dX8_follow_37 : decode cX8_follow 37 = .ok (.bipush 64, 2) := by decide +kernel
theorem dX8_follow_39 : decode cX8_follow 39 = .ok (.if_icmp .ge 69, 3) := by decide +kernel
theorem dX8_follow_42 : decode cX8_follow 42 = .ok (.aload_n 0, 1) := by decide +kernel
theorem dX8_follow_43 : decode cX8_follow 43 = .ok (.getfield 71, 3) := by decide +kernel
theorem dX8_follow_46 : decode cX8_follow 46 = .ok (.iload_n 2, 1) := by decide +kernel
theorem dX8_follow_47 : decode cX8_follow 47 = .ok (.laload, 1) := by decide +kernel
theorem dX8_follow_48 : decode cX8_follow 48 = .ok (.lstore_n 3, 1) := by decide +kernel
theorem dX8_follow_49 : decode cX8_follow 49 = .ok (.iconst 0, 1) := by decide +kernel
theorem dX8_follow_50 : decode cX8_follow 50 = .ok (.istore 5, 2) := by decide +kernel
theorem dX8_follow_52 : decode cX8_follow 52 = .ok (.iload 5, 2) := by decide +kernel
theorem dX8_follow_54 : decode cX8_follow 54 = .ok (.bipush 64, 2) := by decide +kernel
theorem dX8_follow_56 : decode cX8_follow 56 = .ok (.if_icmp .ge 39, 3) := by decide +kernel
theorem dX8_follow_59 : decode cX8_follow 59 = .ok (.aload_n 0, 1) := by decide +kernel
theorem dX8_follow_60 : decode cX8_follow 60 = .ok (.getfield 71, 3) := by decide +kernel
theorem dX8_follow_63 : decode cX8_follow 63 = .ok (.iload_n 2, 1) := by decide +kernel
theorem dX8_follow_64 : decode cX8_follow 64 = .ok (.laload, 1) := by decide +kernel
theorem dX8_follow_65 : decode cX8_follow 65 = .ok (.iload 5, 2) := by decide +kernel
theorem dX8_follow_67 : decode cX8_follow 67 = .ok (.lshr, 1) := by decide +kernel
theorem dX8_follow_68 : decode cX8_follow 68 = .ok (.lconst 1, 1) := by decide +kernel
theorem dX8_follow_69 : decode cX8_follow 69 = .ok (.land, 1) := by decide +kernel
theorem dX8_follow_70 : decode cX8_follow 70 = .ok (.lconst 1, 1) := by decide +kernel
theorem dX8_follow_71 : decode cX8_follow 71 = .ok (.lcmp, 1) := by decide +kernel
theorem dX8_follow_72 : decode cX8_follow 72 = .ok (.ifCond .ne 15, 3) := by decide +kernel
theorem dX8_follow_75 : decode cX8_follow 75 = .ok (.lload_n 3, 1) := by decide +kernel
theorem dX8_follow_76 : decode cX8_follow 76 = .ok (.aload_n 0, 1) := by decide +kernel
theorem dX8_follow_77 : decode cX8_follow 77 = .ok (.getfield 71, 3) := by decide +kernel
theorem dX8_follow_80 : decode cX8_follow 80 = .ok (.iload 5, 2) := by decide +kernel
theorem dX8_follow_82 : decode cX8_follow 82 = .ok (.laload, 1) := by decide +kernel
theorem dX8_follow_83 : decode cX8_follow 83 = .ok (.lor, 1) := by decide +kernel
theorem dX8_follow_84 : decode cX8_follow 84 = .ok (.goto 4, 3) := by decide +kernel
theorem dX8_follow_87 : decode cX8_follow 87 = .ok (.lload_n 3, 1) := by decide +kernel
theorem dX8_follow_88 : decode cX8_follow 88 = .ok (.lstore_n 3, 1) := by decide +kernel
theorem dX8_follow_89 : decode cX8_follow 89 = .ok (.iinc 5 1, 3) := by decide +kernel
theorem dX8_follow_92 : decode cX8_follow 92 = .ok (.goto (-40), 3) := by decide +kernel
theorem dX8_follow_95 : decode cX8_follow 95 = .ok (.aload_n 0, 1) := by decide +kernel
theorem dX8_follow_96 : decode cX8_follow 96 = .ok (.getfield 71, 3) := by decide +kernel
theorem dX8_follow_99 : decode cX8_follow 99 = .ok (.iload_n 2, 1) := by decide +kernel
theorem dX8_follow_100 : decode cX8_follow 100 = .ok (.lload_n 3, 1) := by decide +kernel
theorem dX8_follow_101 : decode cX8_follow 101 = .ok (.lastore, 1) := by decide +kernel
theorem dX8_follow_102 : decode cX8_follow 102 = .ok (.iinc 2 1, 3) := by decide +kernel
theorem dX8_follow_105 : decode cX8_follow 105 = .ok (.goto (-69), 3) := by decide +kernel
theorem dX8_follow_108 : decode cX8_follow 108 = .ok (.iinc 1 1, 3) := by decide +kernel
theorem dX8_follow_111 : decode cX8_follow 111 = .ok (.goto (-83), 3) := by decide +kernel
theorem dX8_follow_114 : decode cX8_follow 114 = .ok (.return_, 1) := by decide +kernel
theorem dX8_allKnown_0 : decode cX8_allKnown 0 = .ok (.iconst 1, 1) := by decide +kernel
theorem dX8_allKnown_1 : decode cX8_allKnown 1 = .ok (.istore_n 3, 1) := by decide +kernel
theorem dX8_allKnown_2 : decode cX8_allKnown 2 = .ok (.iconst 0, 1) := by decide +kernel
theorem dX8_allKnown_3 : decode cX8_allKnown 3 = .ok (.istore 4, 2) := by decide +kernel
theorem dX8_allKnown_5 : decode cX8_allKnown 5 = .ok (.iload 4, 2) := by decide +kernel
theorem dX8_allKnown_7 : decode cX8_allKnown 7 = .ok (.bipush 64, 2) := by decide +kernel
theorem dX8_allKnown_9 : decode cX8_allKnown 9 = .ok (.if_icmp .ge 40, 3) := by decide +kernel
theorem dX8_allKnown_12 : decode cX8_allKnown 12 = .ok (.iload_n 3, 1) := by decide +kernel
theorem dX8_allKnown_13 : decode cX8_allKnown 13 = .ok (.ifCond .eq 28, 3) := by decide +kernel
theorem dX8_allKnown_16 : decode cX8_allKnown 16 = .ok (.lload_n 1, 1) := by decide +kernel
theorem dX8_allKnown_17 : decode cX8_allKnown 17 = .ok (.iload 4, 2) := by decide +kernel
theorem dX8_allKnown_19 : decode cX8_allKnown 19 = .ok (.lshr, 1) := by decide +kernel
theorem dX8_allKnown_20 : decode cX8_allKnown 20 = .ok (.lconst 1, 1) := by decide +kernel
theorem dX8_allKnown_21 : decode cX8_allKnown 21 = .ok (.land, 1) := by decide +kernel
theorem dX8_allKnown_22 : decode cX8_allKnown 22 = .ok (.lconst 0, 1) := by decide +kernel
theorem dX8_allKnown_23 : decode cX8_allKnown 23 = .ok (.lcmp, 1) := by decide +kernel
theorem dX8_allKnown_24 : decode cX8_allKnown 24 = .ok (.ifCond .eq 13, 3) := by decide +kernel
theorem dX8_allKnown_27 : decode cX8_allKnown 27 = .ok (.aload_n 0, 1) := by decide +kernel
theorem dX8_allKnown_28 : decode cX8_allKnown 28 = .ok (.getfield 77, 3) := by decide +kernel
theorem dX8_allKnown_31 : decode cX8_allKnown 31 = .ok (.iload 4, 2) := by decide +kernel
theorem dX8_allKnown_33 : decode cX8_allKnown 33 = .ok (.baload, 1) := by decide +kernel
theorem dX8_allKnown_34 : decode cX8_allKnown 34 = .ok (.ifCond .eq 7, 3) := by decide +kernel
theorem dX8_allKnown_37 : decode cX8_allKnown 37 = .ok (.iconst 1, 1) := by decide +kernel
theorem dX8_allKnown_38 : decode cX8_allKnown 38 = .ok (.goto 4, 3) := by decide +kernel
theorem dX8_allKnown_41 : decode cX8_allKnown 41 = .ok (.iconst 0, 1) := by decide +kernel
theorem dX8_allKnown_42 : decode cX8_allKnown 42 = .ok (.istore_n 3, 1) := by decide +kernel
theorem dX8_allKnown_43 : decode cX8_allKnown 43 = .ok (.iinc 4 1, 3) := by decide +kernel
theorem dX8_allKnown_46 : decode cX8_allKnown 46 = .ok (.goto (-41), 3) := by decide +kernel
theorem dX8_allKnown_49 : decode cX8_allKnown 49 = .ok (.iload_n 3, 1) := by decide +kernel
theorem dX8_allKnown_50 : decode cX8_allKnown 50 = .ok (.ireturn, 1) := by decide +kernel
theorem dX8_fails_0 : decode cX8_fails 0 = .ok (.aload_n 0, 1) := by decide +kernel
theorem dX8_fails_1 : decode cX8_fails 1 = .ok (.iload_n 1, 1) := by decide +kernel
theorem dX8_fails_2 : decode cX8_fails 2 = .ok (.iload_n 2, 1) := by decide +kernel
theorem dX8_fails_3 : decode cX8_fails 3 = .ok (.invokevirtual 234, 3) := by decide +kernel
theorem dX8_fails_6 : decode cX8_fails 6 = .ok (.istore_n 3, 1) := by decide +kernel
theorem dX8_fails_7 : decode cX8_fails 7 = .ok (.aload_n 0, 1) := by decide +kernel
theorem dX8_fails_8 : decode cX8_fails 8 = .ok (.getfield 83, 3) := by decide +kernel
theorem dX8_fails_11 : decode cX8_fails 11 = .ok (.iload_n 3, 1) := by decide +kernel
theorem dX8_fails_12 : decode cX8_fails 12 = .ok (.iaload, 1) := by decide +kernel
theorem dX8_fails_13 : decode cX8_fails 13 = .ok (.ifCond .ne 14, 3) := by decide +kernel
theorem dX8_fails_16 : decode cX8_fails 16 = .ok (.aload_n 0, 1) := by decide +kernel
theorem dX8_fails_17 : decode cX8_fails 17 = .ok (.getfield 80, 3) := by decide +kernel
theorem dX8_fails_20 : decode cX8_fails 20 = .ok (.iload_n 3, 1) := by decide +kernel
theorem dX8_fails_21 : decode cX8_fails 21 = .ok (.laload, 1) := by decide +kernel
theorem dX8_fails_22 : decode cX8_fails 22 = .ok (.lconst 0, 1) := by decide +kernel
theorem dX8_fails_23 : decode cX8_fails 23 = .ok (.lcmp, 1) := by decide +kernel
theorem dX8_fails_24 : decode cX8_fails 24 = .ok (.ifCond .ne 7, 3) := by decide +kernel
theorem dX8_fails_27 : decode cX8_fails 27 = .ok (.iconst 1, 1) := by decide +kernel
theorem dX8_fails_28 : decode cX8_fails 28 = .ok (.goto 4, 3) := by decide +kernel
theorem dX8_fails_31 : decode cX8_fails 31 = .ok (.iconst 0, 1) := by decide +kernel
theorem dX8_fails_32 : decode cX8_fails 32 = .ok (.ireturn, 1) := by decide +kernel
theorem dX8_linesOf_0 : decode cX8_linesOf 0 = .ok (.aload_n 0, 1) := by decide +kernel
theorem dX8_linesOf_1 : decode cX8_linesOf 1 = .ok (.getfield 20, 3) := by decide +kernel
theorem dX8_linesOf_4 : decode cX8_linesOf 4 = .ok (.iload_n 1, 1) := by decide +kernel
theorem dX8_linesOf_5 : decode cX8_linesOf 5 = .ok (.iaload, 1) := by decide +kernel
theorem dX8_linesOf_6 : decode cX8_linesOf 6 = .ok (.ifCond .ne 7, 3) := by decide +kernel
theorem dX8_linesOf_9 : decode cX8_linesOf 9 = .ok (.iconst 1, 1) := by decide +kernel
theorem dX8_linesOf_10 : decode cX8_linesOf 10 = .ok (.goto 42, 3) := by decide +kernel
theorem dX8_linesOf_13 : decode cX8_linesOf 13 = .ok (.aload_n 0, 1) := by decide +kernel
theorem dX8_linesOf_14 : decode cX8_linesOf 14 = .ok (.getfield 20, 3) := by decide +kernel
theorem dX8_linesOf_17 : decode cX8_linesOf 17 = .ok (.iload_n 1, 1) := by decide +kernel
theorem dX8_linesOf_18 : decode cX8_linesOf 18 = .ok (.iaload, 1) := by decide +kernel
theorem dX8_linesOf_19 : decode cX8_linesOf 19 = .ok (.iconst 2, 1) := by decide +kernel
theorem dX8_linesOf_20 : decode cX8_linesOf 20 = .ok (.if_icmp .ne 18, 3) := by decide +kernel
theorem dX8_linesOf_23 : decode cX8_linesOf 23 = .ok (.aload_n 0, 1) := by decide +kernel
theorem dX8_linesOf_24 : decode cX8_linesOf 24 = .ok (.getfield 31, 3) := by decide +kernel
theorem dX8_linesOf_27 : decode cX8_linesOf 27 = .ok (.iload_n 1, 1) := by decide +kernel
theorem dX8_linesOf_28 : decode cX8_linesOf 28 = .ok (.iaload, 1) := by decide +kernel
theorem dX8_linesOf_29 : decode cX8_linesOf 29 = .ok (.bipush 11, 2) := by decide +kernel
theorem dX8_linesOf_31 : decode cX8_linesOf 31 = .ok (.iadd, 1) := by decide +kernel
theorem dX8_linesOf_32 : decode cX8_linesOf 32 = .ok (.bipush 12, 2) := by decide +kernel
theorem dX8_linesOf_34 : decode cX8_linesOf 34 = .ok (.idiv, 1) := by decide +kernel
theorem dX8_linesOf_35 : decode cX8_linesOf 35 = .ok (.goto 17, 3) := by decide +kernel
theorem dX8_linesOf_38 : decode cX8_linesOf 38 = .ok (.aload_n 0, 1) := by decide +kernel
theorem dX8_linesOf_39 : decode cX8_linesOf 39 = .ok (.iload_n 1, 1) := by decide +kernel
theorem dX8_linesOf_40 : decode cX8_linesOf 40 = .ok (.iload_n 2, 1) := by decide +kernel
theorem dX8_linesOf_41 : decode cX8_linesOf 41 = .ok (.invokevirtual 237, 3) := by decide +kernel
theorem dX8_linesOf_44 : decode cX8_linesOf 44 = .ok (.ifCond .eq 7, 3) := by decide +kernel
theorem dX8_linesOf_47 : decode cX8_linesOf 47 = .ok (.iconst 1, 1) := by decide +kernel
theorem dX8_linesOf_48 : decode cX8_linesOf 48 = .ok (.goto 4, 3) := by decide +kernel
theorem dX8_linesOf_51 : decode cX8_linesOf 51 = .ok (.iconst 0, 1) := by decide +kernel
theorem dX8_linesOf_52 : decode cX8_linesOf 52 = .ok (.ireturn, 1) := by decide +kernel
theorem dX8_lay_0 : decode cX8_lay 0 = .ok (.aload_n 0, 1) := by decide +kernel
theorem dX8_lay_1 : decode cX8_lay 1 = .ok (.iload_n 1, 1) := by decide +kernel
theorem dX8_lay_2 : decode cX8_lay 2 = .ok (.iload_n 2, 1) := by decide +kernel
theorem dX8_lay_3 : decode cX8_lay 3 = .ok (.invokevirtual 241, 3) := by decide +kernel
theorem dX8_lay_6 : decode cX8_lay 6 = .ok (.istore 4, 2) := by decide +kernel
theorem dX8_lay_8 : decode cX8_lay 8 = .ok (.iload 4, 2) := by decide +kernel
theorem dX8_lay_10 : decode cX8_lay 10 = .ok (.ifCond .le 29, 3) := by decide +kernel
theorem dX8_lay_13 : decode cX8_lay 13 = .ok (.iload_n 3, 1) := by decide +kernel
theorem dX8_lay_14 : decode cX8_lay 14 = .ok (.ifCond .ne 25, 3) := by decide +kernel
theorem dX8_lay_17 : decode cX8_lay 17 = .ok (.aload_n 0, 1) := by decide +kernel
theorem dX8_lay_18 : decode cX8_lay 18 = .ok (.getfield 89, 3) := by decide +kernel
theorem dX8_lay_21 : decode cX8_lay 21 = .ok (.iconst 4, 1) := by decide +kernel
theorem dX8_lay_22 : decode cX8_lay 22 = .ok (.iload_n 1, 1) := by decide +kernel
theorem dX8_lay_23 : decode cX8_lay 23 = .ok (.imul, 1) := by decide +kernel
theorem dX8_lay_24 : decode cX8_lay 24 = .ok (.iload_n 2, 1) := by decide +kernel
theorem dX8_lay_25 : decode cX8_lay 25 = .ok (.iadd, 1) := by decide +kernel
theorem dX8_lay_26 : decode cX8_lay 26 = .ok (.bipush 32, 2) := by decide +kernel
theorem dX8_lay_28 : decode cX8_lay 28 = .ok (.aload_n 0, 1) := by decide +kernel
theorem dX8_lay_29 : decode cX8_lay 29 = .ok (.getfield 244, 3) := by decide +kernel
theorem dX8_lay_32 : decode cX8_lay 32 = .ok (.imul, 1) := by decide +kernel
theorem dX8_lay_33 : decode cX8_lay 33 = .ok (.aload_n 0, 1) := by decide +kernel
theorem dX8_lay_34 : decode cX8_lay 34 = .ok (.getfield 247, 3) := by decide +kernel
theorem dX8_lay_37 : decode cX8_lay 37 = .ok (.iadd, 1) := by decide +kernel
theorem dX8_lay_38 : decode cX8_lay 38 = .ok (.iastore, 1) := by decide +kernel
theorem dX8_lay_39 : decode cX8_lay 39 = .ok (.iconst 0, 1) := by decide +kernel
theorem dX8_lay_40 : decode cX8_lay 40 = .ok (.istore 5, 2) := by decide +kernel
theorem dX8_lay_42 : decode cX8_lay 42 = .ok (.iload 5, 2) := by decide +kernel
theorem dX8_lay_44 : decode cX8_lay 44 = .ok (.iload 4, 2) := by decide +kernel
theorem dX8_lay_46 : decode cX8_lay 46 = .ok (.if_icmp .ge 42, 3) := by decide +kernel
theorem dX8_lay_49 : decode cX8_lay 49 = .ok (.aload_n 0, 1) := by decide +kernel
theorem dX8_lay_50 : decode cX8_lay 50 = .ok (.getfield 92, 3) := by decide +kernel
theorem dX8_lay_53 : decode cX8_lay 53 = .ok (.bipush 32, 2) := by decide +kernel
theorem dX8_lay_55 : decode cX8_lay 55 = .ok (.aload_n 0, 1) := by decide +kernel
theorem dX8_lay_56 : decode cX8_lay 56 = .ok (.getfield 244, 3) := by decide +kernel
theorem dX8_lay_59 : decode cX8_lay 59 = .ok (.imul, 1) := by decide +kernel
theorem dX8_lay_60 : decode cX8_lay 60 = .ok (.aload_n 0, 1) := by decide +kernel
theorem dX8_lay_61 : decode cX8_lay 61 = .ok (.getfield 247, 3) := by decide +kernel
theorem dX8_lay_64 : decode cX8_lay 64 = .ok (.iadd, 1) := by decide +kernel
theorem dX8_lay_65 : decode cX8_lay 65 = .ok (.bipush 8, 2) := by decide +kernel
theorem dX8_lay_67 : decode cX8_lay 67 = .ok (.iload_n 1, 1) := by decide +kernel
theorem dX8_lay_68 : decode cX8_lay 68 = .ok (.imul, 1) := by decide +kernel
theorem dX8_lay_69 : decode cX8_lay 69 = .ok (.iload_n 2, 1) := by decide +kernel
theorem dX8_lay_70 : decode cX8_lay 70 = .ok (.iadd, 1) := by decide +kernel
theorem dX8_lay_71 : decode cX8_lay 71 = .ok (.iastore, 1) := by decide +kernel
theorem dX8_lay_72 : decode cX8_lay 72 = .ok (.aload_n 0, 1) := by decide +kernel
theorem dX8_lay_73 : decode cX8_lay 73 = .ok (.dup, 1) := by decide +kernel
theorem dX8_lay_74 : decode cX8_lay 74 = .ok (.getfield 247, 3) := by decide +kernel
theorem dX8_lay_77 : decode cX8_lay 77 = .ok (.iconst 1, 1) := by decide +kernel
theorem dX8_lay_78 : decode cX8_lay 78 = .ok (.iadd, 1) := by decide +kernel
theorem dX8_lay_79 : decode cX8_lay 79 = .ok (.putfield 247, 3) := by decide +kernel
theorem dX8_lay_82 : decode cX8_lay 82 = .ok (.iinc 5 1, 3) := by decide +kernel
theorem dX8_lay_85 : decode cX8_lay 85 = .ok (.goto (-43), 3) := by decide +kernel
theorem dX8_lay_88 : decode cX8_lay 88 = .ok (.aload_n 0, 1) := by decide +kernel
theorem dX8_lay_89 : decode cX8_lay 89 = .ok (.iload 4, 2) := by decide +kernel
theorem dX8_lay_91 : decode cX8_lay 91 = .ok (.ifCond .le 12, 3) := by decide +kernel
theorem dX8_lay_94 : decode cX8_lay 94 = .ok (.aload_n 0, 1) := by decide +kernel
theorem dX8_lay_95 : decode cX8_lay 95 = .ok (.getfield 244, 3) := by decide +kernel
theorem dX8_lay_98 : decode cX8_lay 98 = .ok (.iconst 1, 1) := by decide +kernel
theorem dX8_lay_99 : decode cX8_lay 99 = .ok (.iadd, 1) := by decide +kernel
theorem dX8_lay_100 : decode cX8_lay 100 = .ok (.goto 7, 3) := by decide +kernel
theorem dX8_lay_103 : decode cX8_lay 103 = .ok (.aload_n 0, 1) := by decide +kernel
theorem dX8_lay_104 : decode cX8_lay 104 = .ok (.getfield 250, 3) := by decide +kernel
theorem dX8_lay_107 : decode cX8_lay 107 = .ok (.putfield 250, 3) := by decide +kernel
theorem dX8_lay_110 : decode cX8_lay 110 = .ok (.return_, 1) := by decide +kernel
theorem dX8_turn_0 : decode cX8_turn 0 = .ok (.iload_n 1, 1) := by decide +kernel
theorem dX8_turn_1 : decode cX8_turn 1 = .ok (.aload_n 0, 1) := by decide +kernel
theorem dX8_turn_2 : decode cX8_turn 2 = .ok (.getfield 95, 3) := by decide +kernel
theorem dX8_turn_5 : decode cX8_turn 5 = .ok (.aload_n 0, 1) := by decide +kernel
theorem dX8_turn_6 : decode cX8_turn 6 = .ok (.getfield 247, 3) := by decide +kernel
theorem dX8_turn_9 : decode cX8_turn 9 = .ok (.isub, 1) := by decide +kernel
theorem dX8_turn_10 : decode cX8_turn 10 = .ok (.if_icmp .le 10, 3) := by decide +kernel
theorem dX8_turn_13 : decode cX8_turn 13 = .ok (.aload_n 0, 1) := by decide +kernel
theorem dX8_turn_14 : decode cX8_turn 14 = .ok (.getfield 247, 3) := by decide +kernel
theorem dX8_turn_17 : decode cX8_turn 17 = .ok (.ifCond .ne 5, 3) := by decide +kernel
theorem dX8_turn_20 : decode cX8_turn 20 = .ok (.iconst 0, 1) := by decide +kernel
theorem dX8_turn_21 : decode cX8_turn 21 = .ok (.ireturn, 1) := by decide +kernel
theorem dX8_turn_22 : decode cX8_turn 22 = .ok (.aload_n 0, 1) := by decide +kernel
theorem dX8_turn_23 : decode cX8_turn 23 = .ok (.dup, 1) := by decide +kernel
theorem dX8_turn_24 : decode cX8_turn 24 = .ok (.getfield 244, 3) := by decide +kernel
theorem dX8_turn_27 : decode cX8_turn 27 = .ok (.iconst 1, 1) := by decide +kernel
theorem dX8_turn_28 : decode cX8_turn 28 = .ok (.iadd, 1) := by decide +kernel
theorem dX8_turn_29 : decode cX8_turn 29 = .ok (.putfield 244, 3) := by decide +kernel
theorem dX8_turn_32 : decode cX8_turn 32 = .ok (.aload_n 0, 1) := by decide +kernel
theorem dX8_turn_33 : decode cX8_turn 33 = .ok (.iconst 0, 1) := by decide +kernel
theorem dX8_turn_34 : decode cX8_turn 34 = .ok (.putfield 247, 3) := by decide +kernel
theorem dX8_turn_37 : decode cX8_turn 37 = .ok (.iconst 1, 1) := by decide +kernel
theorem dX8_turn_38 : decode cX8_turn 38 = .ok (.ireturn, 1) := by decide +kernel
theorem dX8_layBlock_0 : decode cX8_layBlock 0 = .ok (.iconst 0, 1) := by decide +kernel
theorem dX8_layBlock_1 : decode cX8_layBlock 1 = .ok (.istore 5, 2) := by decide +kernel
theorem dX8_layBlock_3 : decode cX8_layBlock 3 = .ok (.iload_n 1, 1) := by decide +kernel
theorem dX8_layBlock_4 : decode cX8_layBlock 4 = .ok (.istore 6, 2) := by decide +kernel
theorem dX8_layBlock_6 : decode cX8_layBlock 6 = .ok (.iload 6, 2) := by decide +kernel
theorem dX8_layBlock_8 : decode cX8_layBlock 8 = .ok (.iload_n 2, 1) := by decide +kernel
theorem dX8_layBlock_9 : decode cX8_layBlock 9 = .ok (.if_icmp .ge 21, 3) := by decide +kernel
theorem dX8_layBlock_12 : decode cX8_layBlock 12 = .ok (.iload 5, 2) := by decide +kernel
theorem dX8_layBlock_14 : decode cX8_layBlock 14 = .ok (.aload_n 0, 1) := by decide +kernel
theorem dX8_layBlock_15 : decode cX8_layBlock 15 = .ok (.iload 6, 2) := by decide +kernel
theorem dX8_layBlock_17 : decode cX8_layBlock 17 = .ok (.iload_n 3, 1) := by decide +kernel
theorem dX8_layBlock_18 : decode cX8_layBlock 18 = .ok (.invokevirtual 241, 3) := by decide +kernel
theorem dX8_layBlock_21 : decode cX8_layBlock 21 = .ok (.iadd, 1) := by decide +kernel
theorem dX8_layBlock_22 : decode cX8_layBlock 22 = .ok (.istore 5, 2) := by decide +kernel
theorem dX8_layBlock_24 : decode cX8_layBlock 24 = .ok (.iinc 6 1, 3) := by decide +kernel
theorem dX8_layBlock_27 : decode cX8_layBlock 27 = .ok (.goto (-21), 3) := by decide +kernel
theorem dX8_layBlock_30 : decode cX8_layBlock 30 = .ok (.iload 5, 2) := by decide +kernel
theorem dX8_layBlock_32 : decode cX8_layBlock 32 = .ok (.aload_n 0, 1) := by decide +kernel
theorem dX8_layBlock_33 : decode cX8_layBlock 33 = .ok (.getfield 95, 3) := by decide +kernel
theorem dX8_layBlock_36 : decode cX8_layBlock 36 = .ok (.if_icmp .le 40, 3) := by decide +kernel
theorem dX8_layBlock_39 : decode cX8_layBlock 39 = .ok (.iload_n 1, 1) := by decide +kernel
theorem dX8_layBlock_40 : decode cX8_layBlock 40 = .ok (.istore 6, 2) := by decide +kernel
theorem dX8_layBlock_42 : decode cX8_layBlock 42 = .ok (.iload 6, 2) := by decide +kernel
theorem dX8_layBlock_44 : decode cX8_layBlock 44 = .ok (.iload_n 2, 1) := by decide +kernel
theorem dX8_layBlock_45 : decode cX8_layBlock 45 = .ok (.if_icmp .ge 30, 3) := by decide +kernel
theorem dX8_layBlock_48 : decode cX8_layBlock 48 = .ok (.aload_n 0, 1) := by decide +kernel
theorem dX8_layBlock_49 : decode cX8_layBlock 49 = .ok (.aload_n 0, 1) := by decide +kernel
theorem dX8_layBlock_50 : decode cX8_layBlock 50 = .ok (.iload 6, 2) := by decide +kernel
theorem dX8_layBlock_52 : decode cX8_layBlock 52 = .ok (.iload_n 3, 1) := by decide +kernel
theorem dX8_layBlock_53 : decode cX8_layBlock 53 = .ok (.invokevirtual 241, 3) := by decide +kernel
theorem dX8_layBlock_56 : decode cX8_layBlock 56 = .ok (.invokevirtual 253, 3) := by decide +kernel
theorem dX8_layBlock_59 : decode cX8_layBlock 59 = .ok (.istore 7, 2) := by decide +kernel
theorem dX8_layBlock_61 : decode cX8_layBlock 61 = .ok (.aload_n 0, 1) := by decide +kernel
theorem dX8_layBlock_62 : decode cX8_layBlock 62 = .ok (.iload 6, 2) := by decide +kernel
theorem dX8_layBlock_64 : decode cX8_layBlock 64 = .ok (.iload_n 3, 1) := by decide +kernel
theorem dX8_layBlock_65 : decode cX8_layBlock 65 = .ok (.iconst 0, 1) := by decide +kernel
theorem dX8_layBlock_66 : decode cX8_layBlock 66 = .ok (.invokevirtual 256, 3) := by decide +kernel
theorem dX8_layBlock_69 : decode cX8_layBlock 69 = .ok (.iinc 6 1, 3) := by decide +kernel
theorem dX8_layBlock_72 : decode cX8_layBlock 72 = .ok (.goto (-30), 3) := by decide +kernel
theorem dX8_layBlock_75 : decode cX8_layBlock 75 = .ok (.return_, 1) := by decide +kernel
theorem dX8_layBlock_76 : decode cX8_layBlock 76 = .ok (.iload 5, 2) := by decide +kernel
theorem dX8_layBlock_78 : decode cX8_layBlock 78 = .ok (.ifCond .le 46, 3) := by decide +kernel
theorem dX8_layBlock_81 : decode cX8_layBlock 81 = .ok (.aload_n 0, 1) := by decide +kernel
theorem dX8_layBlock_82 : decode cX8_layBlock 82 = .ok (.iload 5, 2) := by decide +kernel
theorem dX8_layBlock_84 : decode cX8_layBlock 84 = .ok (.invokevirtual 253, 3) := by decide +kernel
theorem dX8_layBlock_87 : decode cX8_layBlock 87 = .ok (.ifCond .eq 37, 3) := by decide +kernel
theorem dX8_layBlock_90 : decode cX8_layBlock 90 = .ok (.iload_n 3, 1) := by decide +kernel
theorem dX8_layBlock_91 : decode cX8_layBlock 91 = .ok (.ifCond .le 33, 3) := by decide +kernel
theorem dX8_layBlock_94 : decode cX8_layBlock 94 = .ok (.iload 4, 2) := by decide +kernel
theorem dX8_layBlock_96 : decode cX8_layBlock 96 = .ok (.ifCond .lt 28, 3) := by decide +kernel
theorem dX8_layBlock_99 : decode cX8_layBlock 99 = .ok (.iload 5, 2) := by decide +kernel
theorem dX8_layBlock_101 : decode cX8_layBlock 101 = .ok (.aload_n 0, 1) := by decide +kernel
theorem dX8_layBlock_102 : decode cX8_layBlock 102 = .ok (.iload 4, 2) := by decide +kernel
theorem dX8_layBlock_104 : decode cX8_layBlock 104 = .ok (.iconst 0, 1) := by decide +kernel
theorem dX8_layBlock_105 : decode cX8_layBlock 105 = .ok (.invokevirtual 241, 3) := by decide +kernel
theorem dX8_layBlock_108 : decode cX8_layBlock 108 = .ok (.iadd, 1) := by decide +kernel
theorem dX8_layBlock_109 : decode cX8_layBlock 109 = .ok (.aload_n 0, 1) := by decide +kernel
theorem dX8_layBlock_110 : decode cX8_layBlock 110 = .ok (.getfield 95, 3) := by decide +kernel
theorem dX8_layBlock_113 : decode cX8_layBlock 113 = .ok (.if_icmp .gt 11, 3) := by decide +kernel
theorem dX8_layBlock_116 : decode cX8_layBlock 116 = .ok (.aload_n 0, 1) := by decide +kernel
theorem dX8_layBlock_117 : decode cX8_layBlock 117 = .ok (.iload 4, 2) := by decide +kernel
theorem dX8_layBlock_119 : decode cX8_layBlock 119 = .ok (.iconst 0, 1) := by decide +kernel
theorem dX8_layBlock_120 : decode cX8_layBlock 120 = .ok (.iconst 1, 1) := by decide +kernel
theorem dX8_layBlock_121 : decode cX8_layBlock 121 = .ok (.invokevirtual 256, 3) := by decide +kernel
theorem dX8_layBlock_124 : decode cX8_layBlock 124 = .ok (.iload_n 1, 1) := by decide +kernel
theorem dX8_layBlock_125 : decode cX8_layBlock 125 = .ok (.istore 6, 2) := by decide +kernel
theorem dX8_layBlock_127 : decode cX8_layBlock 127 = .ok (.iload 6, 2) := by decide +kernel
theorem dX8_layBlock_129 : decode cX8_layBlock 129 = .ok (.iload_n 2, 1) := by decide +kernel
theorem dX8_layBlock_130 : decode cX8_layBlock 130 = .ok (.if_icmp .ge 17, 3) := by decide +kernel
theorem dX8_layBlock_133 : decode cX8_layBlock 133 = .ok (.aload_n 0, 1) := by decide +kernel
theorem dX8_layBlock_134 : decode cX8_layBlock 134 = .ok (.iload 6, 2) := by decide +kernel
theorem dX8_layBlock_136 : decode cX8_layBlock 136 = .ok (.iload_n 3, 1) := by decide +kernel
theorem dX8_layBlock_137 : decode cX8_layBlock 137 = .ok (.iconst 0, 1) := by decide +kernel
theorem dX8_layBlock_138 : decode cX8_layBlock 138 = .ok (.invokevirtual 256, 3) := by decide +kernel
theorem dX8_layBlock_141 : decode cX8_layBlock 141 = .ok (.iinc 6 1, 3) := by decide +kernel
theorem dX8_layBlock_144 : decode cX8_layBlock 144 = .ok (.goto (-17), 3) := by decide +kernel
theorem dX8_layBlock_147 : decode cX8_layBlock 147 = .ok (.return_, 1) := by decide +kernel
theorem dX8_refresh_0 : decode cX8_refresh 0 = .ok (.aload_n 0, 1) := by decide +kernel
theorem dX8_refresh_1 : decode cX8_refresh 1 = .ok (.invokevirtual 260, 3) := by decide +kernel
theorem dX8_refresh_4 : decode cX8_refresh 4 = .ok (.aload_n 0, 1) := by decide +kernel
theorem dX8_refresh_5 : decode cX8_refresh 5 = .ok (.iconst 0, 1) := by decide +kernel
theorem dX8_refresh_6 : decode cX8_refresh 6 = .ok (.putfield 263, 3) := by decide +kernel
theorem dX8_refresh_9 : decode cX8_refresh 9 = .ok (.iconst 0, 1) := by decide +kernel
theorem dX8_refresh_10 : decode cX8_refresh 10 = .ok (.istore_n 1, 1) := by decide +kernel
theorem dX8_refresh_11 : decode cX8_refresh 11 = .ok (.iload_n 1, 1) := by decide +kernel
theorem dX8_refresh_12 : decode cX8_refresh 12 = .ok (.aload_n 0, 1) := by decide +kernel
theorem dX8_refresh_13 : decode cX8_refresh 13 = .ok (.getfield 115, 3) := by decide +kernel
theorem dX8_refresh_16 : decode cX8_refresh 16 = .ok (.if_icmp .ge 70, 3) := by decide +kernel
theorem dX8_refresh_19 : decode cX8_refresh 19 = .ok (.iconst 0, 1) := by decide +kernel
theorem dX8_refresh_20 : decode cX8_refresh 20 = .ok (.istore_n 2, 1) := by decide +kernel
theorem dX8_refresh_21 : decode cX8_refresh 21 = .ok (.iload_n 2, 1) := by decide +kernel
theorem dX8_refresh_22 : decode cX8_refresh 22 = .ok (.aload_n 0, 1) := by decide +kernel
theorem dX8_refresh_23 : decode cX8_refresh 23 = .ok (.iload_n 1, 1) := by decide +kernel
theorem dX8_refresh_24 : decode cX8_refresh 24 = .ok (.invokevirtual 172, 3) := by decide +kernel
theorem dX8_refresh_27 : decode cX8_refresh 27 = .ok (.if_icmp .ge 53, 3) := by decide +kernel
theorem dX8_refresh_30 : decode cX8_refresh 30 = .ok (.aload_n 0, 1) := by decide +kernel
theorem dX8_refresh_31 : decode cX8_refresh 31 = .ok (.getfield 20, 3) := by decide +kernel
theorem dX8_refresh_34 : decode cX8_refresh 34 = .ok (.iload_n 1, 1) := by decide +kernel
theorem dX8_refresh_35 : decode cX8_refresh 35 = .ok (.iaload, 1) := by decide +kernel
theorem dX8_refresh_36 : decode cX8_refresh 36 = .ok (.iconst 1, 1) := by decide +kernel
theorem dX8_refresh_37 : decode cX8_refresh 37 = .ok (.if_icmp .ne 43, 3) := by decide +kernel
theorem dX8_refresh_40 : decode cX8_refresh 40 = .ok (.aload_n 0, 1) := by decide +kernel
theorem dX8_refresh_41 : decode cX8_refresh 41 = .ok (.iload_n 1, 1) := by decide +kernel
theorem dX8_refresh_42 : decode cX8_refresh 42 = .ok (.iload_n 2, 1) := by decide +kernel
theorem dX8_refresh_43 : decode cX8_refresh 43 = .ok (.invokevirtual 237, 3) := by decide +kernel
theorem dX8_refresh_46 : decode cX8_refresh 46 = .ok (.ifCond .eq 28, 3) := by decide +kernel
theorem dX8_refresh_49 : decode cX8_refresh 49 = .ok (.aload_n 0, 1) := by decide +kernel
theorem dX8_refresh_50 : decode cX8_refresh 50 = .ok (.getfield 86, 3) := by decide +kernel
theorem dX8_refresh_53 : decode cX8_refresh 53 = .ok (.aload_n 0, 1) := by decide +kernel
theorem dX8_refresh_54 : decode cX8_refresh 54 = .ok (.getfield 263, 3) := by decide +kernel
theorem dX8_refresh_57 : decode cX8_refresh 57 = .ok (.bipush 8, 2) := by decide +kernel
theorem dX8_refresh_59 : decode cX8_refresh 59 = .ok (.iload_n 1, 1) := by decide +kernel
theorem dX8_refresh_60 : decode cX8_refresh 60 = .ok (.imul, 1) := by decide +kernel
theorem dX8_refresh_61 : decode cX8_refresh 61 = .ok (.iload_n 2, 1) := by decide +kernel
theorem dX8_refresh_62 : decode cX8_refresh 62 = .ok (.iadd, 1) := by decide +kernel
theorem dX8_refresh_63 : decode cX8_refresh 63 = .ok (.iastore, 1) := by decide +kernel
theorem dX8_refresh_64 : decode cX8_refresh 64 = .ok (.aload_n 0, 1) := by decide +kernel
theorem dX8_refresh_65 : decode cX8_refresh 65 = .ok (.dup, 1) := by decide +kernel
theorem dX8_refresh_66 : decode cX8_refresh 66 = .ok (.getfield 263, 3) := by decide +kernel
theorem dX8_refresh_69 : decode cX8_refresh 69 = .ok (.iconst 1, 1) := by decide +kernel
theorem dX8_refresh_70 : decode cX8_refresh 70 = .ok (.iadd, 1) := by decide +kernel
theorem dX8_refresh_71 : decode cX8_refresh 71 = .ok (.putfield 263, 3) := by decide +kernel
theorem dX8_refresh_74 : decode cX8_refresh 74 = .ok (.iinc 2 1, 3) := by decide +kernel
theorem dX8_refresh_77 : decode cX8_refresh 77 = .ok (.goto (-56), 3) := by decide +kernel
theorem dX8_refresh_80 : decode cX8_refresh 80 = .ok (.iinc 1 1, 3) := by decide +kernel
theorem dX8_refresh_83 : decode cX8_refresh 83 = .ok (.goto (-72), 3) := by decide +kernel
theorem dX8_refresh_86 : decode cX8_refresh 86 = .ok (.aload_n 0, 1) := by decide +kernel
theorem dX8_refresh_87 : decode cX8_refresh 87 = .ok (.iconst 0, 1) := by decide +kernel
theorem dX8_refresh_88 : decode cX8_refresh 88 = .ok (.putfield 244, 3) := by decide +kernel
theorem dX8_refresh_91 : decode cX8_refresh 91 = .ok (.aload_n 0, 1) := by decide +kernel
theorem dX8_refresh_92 : decode cX8_refresh 92 = .ok (.iconst 0, 1) := by decide +kernel
theorem dX8_refresh_93 : decode cX8_refresh 93 = .ok (.putfield 247, 3) := by decide +kernel
theorem dX8_refresh_96 : decode cX8_refresh 96 = .ok (.aload_n 0, 1) := by decide +kernel
theorem dX8_refresh_97 : decode cX8_refresh 97 = .ok (.iconst 0, 1) := by decide +kernel
theorem dX8_refresh_98 : decode cX8_refresh 98 = .ok (.putfield 250, 3) := by decide +kernel
theorem dX8_refresh_101 : decode cX8_refresh 101 = .ok (.iconst 0, 1) := by decide +kernel
theorem dX8_refresh_102 : decode cX8_refresh 102 = .ok (.istore_n 1, 1) := by decide +kernel
theorem dX8_refresh_103 : decode cX8_refresh 103 = .ok (.iload_n 1, 1) := by decide +kernel
theorem dX8_refresh_104 : decode cX8_refresh 104 = .ok (.bipush 68, 2) := by decide +kernel
theorem dX8_refresh_106 : decode cX8_refresh 106 = .ok (.if_icmp .ge 16, 3) := by decide +kernel
theorem dX8_refresh_109 : decode cX8_refresh 109 = .ok (.aload_n 0, 1) := by decide +kernel
theorem dX8_refresh_110 : decode cX8_refresh 110 = .ok (.getfield 89, 3) := by decide +kernel
theorem dX8_refresh_113 : decode cX8_refresh 113 = .ok (.iload_n 1, 1) := by decide +kernel
theorem dX8_refresh_114 : decode cX8_refresh 114 = .ok (.iconst (-1), 1) := by decide +kernel
theorem dX8_refresh_115 : decode cX8_refresh 115 = .ok (.iastore, 1) := by decide +kernel
theorem dX8_refresh_116 : decode cX8_refresh 116 = .ok (.iinc 1 1, 3) := by decide +kernel
theorem dX8_refresh_119 : decode cX8_refresh 119 = .ok (.goto (-16), 3) := by decide +kernel
theorem dX8_refresh_122 : decode cX8_refresh 122 = .ok (.iconst 0, 1) := by decide +kernel
theorem dX8_refresh_123 : decode cX8_refresh 123 = .ok (.istore_n 1, 1) := by decide +kernel
theorem dX8_refresh_124 : decode cX8_refresh 124 = .ok (.iload_n 1, 1) := by decide +kernel
theorem dX8_refresh_125 : decode cX8_refresh 125 = .ok (.sipush 2560, 3) := by decide +kernel
theorem dX8_refresh_128 : decode cX8_refresh 128 = .ok (.if_icmp .ge 16, 3) := by decide +kernel
theorem dX8_refresh_131 : decode cX8_refresh 131 = .ok (.aload_n 0, 1) := by decide +kernel
theorem dX8_refresh_132 : decode cX8_refresh 132 = .ok (.getfield 92, 3) := by decide +kernel
theorem dX8_refresh_135 : decode cX8_refresh 135 = .ok (.iload_n 1, 1) := by decide +kernel
theorem dX8_refresh_136 : decode cX8_refresh 136 = .ok (.iconst (-1), 1) := by decide +kernel
theorem dX8_refresh_137 : decode cX8_refresh 137 = .ok (.iastore, 1) := by decide +kernel
theorem dX8_refresh_138 : decode cX8_refresh 138 = .ok (.iinc 1 1, 3) := by decide +kernel
theorem dX8_refresh_141 : decode cX8_refresh 141 = .ok (.goto (-17), 3) := by decide +kernel
theorem dX8_refresh_144 : decode cX8_refresh 144 = .ok (.iconst 0, 1) := by decide +kernel
theorem dX8_refresh_145 : decode cX8_refresh 145 = .ok (.istore_n 1, 1) := by decide +kernel
theorem dX8_refresh_146 : decode cX8_refresh 146 = .ok (.iload_n 1, 1) := by decide +kernel
theorem dX8_refresh_147 : decode cX8_refresh 147 = .ok (.aload_n 0, 1) := by decide +kernel
theorem dX8_refresh_148 : decode cX8_refresh 148 = .ok (.getfield 115, 3) := by decide +kernel
theorem dX8_refresh_151 : decode cX8_refresh 151 = .ok (.if_icmp .ge 134, 3) := by decide +kernel
theorem dX8_refresh_154 : decode cX8_refresh 154 = .ok (.aload_n 0, 1) := by decide +kernel
theorem dX8_refresh_155 : decode cX8_refresh 155 = .ok (.getfield 27, 3) := by decide +kernel
theorem dX8_refresh_158 : decode cX8_refresh 158 = .ok (.iload_n 1, 1) := by decide +kernel
theorem dX8_refresh_159 : decode cX8_refresh 159 = .ok (.baload, 1) := by decide +kernel
theorem dX8_refresh_160 : decode cX8_refresh 160 = .ok (.ifCond .ne 44, 3) := by decide +kernel
theorem dX8_refresh_163 : decode cX8_refresh 163 = .ok (.aload_n 0, 1) := by decide +kernel
theorem dX8_refresh_164 : decode cX8_refresh 164 = .ok (.iload_n 1, 1) := by decide +kernel
theorem dX8_refresh_165 : decode cX8_refresh 165 = .ok (.iconst 0, 1) := by decide +kernel
theorem dX8_refresh_166 : decode cX8_refresh 166 = .ok (.invokevirtual 241, 3) := by decide +kernel
theorem dX8_refresh_169 : decode cX8_refresh 169 = .ok (.ifCond .le 20, 3) := by decide +kernel
theorem dX8_refresh_172 : decode cX8_refresh 172 = .ok (.aload_n 0, 1) := by decide +kernel
theorem dX8_refresh_173 : decode cX8_refresh 173 = .ok (.aload_n 0, 1) := by decide +kernel
theorem dX8_refresh_174 : decode cX8_refresh 174 = .ok (.iload_n 1, 1) := by decide +kernel
theorem dX8_refresh_175 : decode cX8_refresh 175 = .ok (.iconst 0, 1) := by decide +kernel
theorem dX8_refresh_176 : decode cX8_refresh 176 = .ok (.invokevirtual 241, 3) := by decide +kernel
theorem dX8_refresh_179 : decode cX8_refresh 179 = .ok (.invokevirtual 253, 3) := by decide +kernel
theorem dX8_refresh_182 : decode cX8_refresh 182 = .ok (.ifCond .eq 7, 3) := by decide +kernel
theorem dX8_refresh_185 : decode cX8_refresh 185 = .ok (.iconst 1, 1) := by decide +kernel
theorem dX8_refresh_186 : decode cX8_refresh 186 = .ok (.goto 4, 3) := by decide +kernel
theorem dX8_refresh_189 : decode cX8_refresh 189 = .ok (.iconst 0, 1) := by decide +kernel
theorem dX8_refresh_190 : decode cX8_refresh 190 = .ok (.istore_n 2, 1) := by decide +kernel
theorem dX8_refresh_191 : decode cX8_refresh 191 = .ok (.aload_n 0, 1) := by decide +kernel
theorem dX8_refresh_192 : decode cX8_refresh 192 = .ok (.iload_n 1, 1) := by decide +kernel
theorem dX8_refresh_193 : decode cX8_refresh 193 = .ok (.iconst 0, 1) := by decide +kernel
theorem dX8_refresh_194 : decode cX8_refresh 194 = .ok (.iconst 0, 1) := by decide +kernel
theorem dX8_refresh_195 : decode cX8_refresh 195 = .ok (.invokevirtual 256, 3) := by decide +kernel
theorem dX8_refresh_198 : decode cX8_refresh 198 = .ok (.iinc 1 1, 3) := by decide +kernel
theorem dX8_refresh_201 : decode cX8_refresh 201 = .ok (.goto (-55), 3) := by decide +kernel
theorem dX8_refresh_204 : decode cX8_refresh 204 = .ok (.iload_n 1, 1) := by decide +kernel
theorem dX8_refresh_205 : decode cX8_refresh 205 = .ok (.istore_n 2, 1) := by decide +kernel
theorem dX8_refresh_206 : decode cX8_refresh 206 = .ok (.iload_n 2, 1) := by decide +kernel
theorem dX8_refresh_207 : decode cX8_refresh 207 = .ok (.aload_n 0, 1) := by decide +kernel
theorem dX8_refresh_208 : decode cX8_refresh 208 = .ok (.getfield 115, 3) := by decide +kernel
theorem dX8_refresh_211 : decode cX8_refresh 211 = .ok (.if_icmp .ge 18, 3) := by decide +kernel
theorem dX8_refresh_214 : decode cX8_refresh 214 = .ok (.aload_n 0, 1) := by decide +kernel
theorem dX8_refresh_215 : decode cX8_refresh 215 = .ok (.getfield 27, 3) := by decide +kernel
theorem dX8_refresh_218 : decode cX8_refresh 218 = .ok (.iload_n 2, 1) := by decide +kernel
theorem dX8_refresh_219 : decode cX8_refresh 219 = .ok (.baload, 1) := by decide +kernel
theorem dX8_refresh_220 : decode cX8_refresh 220 = .ok (.ifCond .eq 9, 3) := by decide +kernel
theorem dX8_refresh_223 : decode cX8_refresh 223 = .ok (.iinc 2 1, 3) := by decide +kernel
theorem dX8_refresh_226 : decode cX8_refresh 226 = .ok (.goto (-20), 3) := by decide +kernel
theorem dX8_refresh_229 : decode cX8_refresh 229 = .ok (.iload_n 1, 1) := by decide +kernel
theorem dX8_refresh_230 : decode cX8_refresh 230 = .ok (.ifCond .le 21, 3) := by decide +kernel
theorem dX8_refresh_233 : decode cX8_refresh 233 = .ok (.aload_n 0, 1) := by decide +kernel
theorem dX8_refresh_234 : decode cX8_refresh 234 = .ok (.getfield 20, 3) := by decide +kernel
theorem dX8_refresh_237 : decode cX8_refresh 237 = .ok (.iload_n 1, 1) := by decide +kernel
theorem dX8_refresh_238 : decode cX8_refresh 238 = .ok (.iconst 1, 1) := by decide +kernel
theorem dX8_refresh_239 : decode cX8_refresh 239 = .ok (.isub, 1) := by decide +kernel
theorem dX8_refresh_240 : decode cX8_refresh 240 = .ok (.iaload, 1) := by decide +kernel
theorem dX8_refresh_241 : decode cX8_refresh 241 = .ok (.iconst 2, 1) := by decide +kernel
theorem dX8_refresh_242 : decode cX8_refresh 242 = .ok (.if_icmp .ne 9, 3) := by decide +kernel
theorem dX8_refresh_245 : decode cX8_refresh 245 = .ok (.iload_n 1, 1) := by decide +kernel
theorem dX8_refresh_246 : decode cX8_refresh 246 = .ok (.iconst 1, 1) := by decide +kernel
theorem dX8_refresh_247 : decode cX8_refresh 247 = .ok (.isub, 1) := by decide +kernel
theorem dX8_refresh_248 : decode cX8_refresh 248 = .ok (.goto 4, 3) := by decide +kernel
theorem dX8_refresh_251 : decode cX8_refresh 251 = .ok (.iconst (-1), 1) := by decide +kernel
theorem dX8_refresh_252 : decode cX8_refresh 252 = .ok (.istore_n 3, 1) := by decide +kernel
theorem dX8_refresh_253 : decode cX8_refresh 253 = .ok (.iconst 0, 1) := by decide +kernel
theorem dX8_refresh_254 : decode cX8_refresh 254 = .ok (.istore 4, 2) := by decide +kernel
theorem dX8_refresh_256 : decode cX8_refresh 256 = .ok (.iload 4, 2) := by decide +kernel
theorem dX8_refresh_258 : decode cX8_refresh 258 = .ok (.aload_n 0, 1) := by decide +kernel
theorem dX8_refresh_259 : decode cX8_refresh 259 = .ok (.getfield 17, 3) := by decide +kernel
theorem dX8_refresh_262 : decode cX8_refresh 262 = .ok (.if_icmp .ge 18, 3) := by decide +kernel
theorem dX8_refresh_265 : decode cX8_refresh 265 = .ok (.aload_n 0, 1) := by decide +kernel
theorem dX8_refresh_266 : decode cX8_refresh 266 = .ok (.iload_n 1, 1) := by decide +kernel
theorem dX8_refresh_267 : decode cX8_refresh 267 = .ok (.iload_n 2, 1) := by decide +kernel
theorem dX8_refresh_268 : decode cX8_refresh 268 = .ok (.iload 4, 2) := by decide +kernel
theorem dX8_refresh_270 : decode cX8_refresh 270 = .ok (.iload_n 3, 1) := by decide +kernel
theorem dX8_refresh_271 : decode cX8_refresh 271 = .ok (.invokevirtual 266, 3) := by decide +kernel
theorem dX8_refresh_274 : decode cX8_refresh 274 = .ok (.iinc 4 1, 3) := by decide +kernel
theorem dX8_refresh_277 : decode cX8_refresh 277 = .ok (.goto (-21), 3) := by decide +kernel
theorem dX8_refresh_280 : decode cX8_refresh 280 = .ok (.iload_n 2, 1) := by decide +kernel
theorem dX8_refresh_281 : decode cX8_refresh 281 = .ok (.istore_n 1, 1) := by decide +kernel
theorem dX8_refresh_282 : decode cX8_refresh 282 = .ok (.goto (-136), 3) := by decide +kernel
theorem dX8_refresh_285 : decode cX8_refresh 285 = .ok (.return_, 1) := by decide +kernel
theorem dX8_rows_0 : decode cX8_rows 0 = .ok (.aload_n 0, 1) := by decide +kernel
theorem dX8_rows_1 : decode cX8_rows 1 = .ok (.iconst 0, 1) := by decide +kernel
theorem dX8_rows_2 : decode cX8_rows 2 = .ok (.putfield 98, 3) := by decide +kernel
theorem dX8_rows_5 : decode cX8_rows 5 = .ok (.aload_n 0, 1) := by decide +kernel
theorem dX8_rows_6 : decode cX8_rows 6 = .ok (.getfield 164, 3) := by decide +kernel
theorem dX8_rows_9 : decode cX8_rows 9 = .ok (.ifCond .eq 12, 3) := by decide +kernel
theorem dX8_rows_12 : decode cX8_rows 12 = .ok (.iload_n 1, 1) := by decide +kernel
theorem dX8_rows_13 : decode cX8_rows 13 = .ok (.ifCond .lt 8, 3) := by decide +kernel
theorem dX8_rows_16 : decode cX8_rows 16 = .ok (.iload_n 1, 1) := by decide +kernel
theorem dX8_rows_17 : decode cX8_rows 17 = .ok (.iconst 4, 1) := by decide +kernel
theorem dX8_rows_18 : decode cX8_rows 18 = .ok (.if_icmp .le 5, 3) := by decide +kernel
theorem dX8_rows_21 : decode cX8_rows 21 = .ok (.iconst (-1), 1) := by decide +kernel
theorem dX8_rows_22 : decode cX8_rows 22 = .ok (.ireturn, 1) := by decide +kernel
theorem dX8_rows_23 : decode cX8_rows 23 = .ok (.iconst 0, 1) := by decide +kernel
theorem dX8_rows_24 : decode cX8_rows 24 = .ok (.istore_n 2, 1) := by decide +kernel
theorem dX8_rows_25 : decode cX8_rows 25 = .ok (.iload_n 2, 1) := by decide +kernel
theorem dX8_rows_26 : decode cX8_rows 26 = .ok (.bipush 64, 2) := by decide +kernel
theorem dX8_rows_28 : decode cX8_rows 28 = .ok (.if_icmp .ge 53, 3) := by decide +kernel
theorem dX8_rows_31 : decode cX8_rows 31 = .ok (.aload_n 0, 1) := by decide +kernel
theorem dX8_rows_32 : decode cX8_rows 32 = .ok (.getfield 65, 3) := by decide +kernel
theorem dX8_rows_35 : decode cX8_rows 35 = .ok (.iload_n 2, 1) := by decide +kernel
theorem dX8_rows_36 : decode cX8_rows 36 = .ok (.iload_n 2, 1) := by decide +kernel
theorem dX8_rows_37 : decode cX8_rows 37 = .ok (.iconst 4, 1) := by decide +kernel
theorem dX8_rows_38 : decode cX8_rows 38 = .ok (.irem, 1) := by decide +kernel
theorem dX8_rows_39 : decode cX8_rows 39 = .ok (.iload_n 1, 1) := by decide +kernel
theorem dX8_rows_40 : decode cX8_rows 40 = .ok (.if_icmp .lt 28, 3) := by decide +kernel
theorem dX8_rows_43 : decode cX8_rows 43 = .ok (.iload_n 2, 1) := by decide +kernel
theorem dX8_rows_44 : decode cX8_rows 44 = .ok (.iconst 4, 1) := by decide +kernel
theorem dX8_rows_45 : decode cX8_rows 45 = .ok (.idiv, 1) := by decide +kernel
theorem dX8_rows_46 : decode cX8_rows 46 = .ok (.aload_n 0, 1) := by decide +kernel
theorem dX8_rows_47 : decode cX8_rows 47 = .ok (.getfield 115, 3) := by decide +kernel
theorem dX8_rows_50 : decode cX8_rows 50 = .ok (.if_icmp .ge 18, 3) := by decide +kernel
theorem dX8_rows_53 : decode cX8_rows 53 = .ok (.aload_n 0, 1) := by decide +kernel
theorem dX8_rows_54 : decode cX8_rows 54 = .ok (.getfield 27, 3) := by decide +kernel
theorem dX8_rows_57 : decode cX8_rows 57 = .ok (.iload_n 2, 1) := by decide +kernel
theorem dX8_rows_58 : decode cX8_rows 58 = .ok (.iconst 4, 1) := by decide +kernel
theorem dX8_rows_59 : decode cX8_rows 59 = .ok (.idiv, 1) := by decide +kernel
theorem dX8_rows_60 : decode cX8_rows 60 = .ok (.baload, 1) := by decide +kernel
theorem dX8_rows_61 : decode cX8_rows 61 = .ok (.ifCond .eq 7, 3) := by decide +kernel
theorem dX8_rows_64 : decode cX8_rows 64 = .ok (.lconst 0, 1) := by decide +kernel
theorem dX8_rows_65 : decode cX8_rows 65 = .ok (.goto 9, 3) := by decide +kernel
theorem dX8_rows_68 : decode cX8_rows 68 = .ok (.aload_n 0, 1) := by decide +kernel
theorem dX8_rows_69 : decode cX8_rows 69 = .ok (.getfield 65, 3) := by decide +kernel
theorem dX8_rows_72 : decode cX8_rows 72 = .ok (.iload_n 2, 1) := by decide +kernel
theorem dX8_rows_73 : decode cX8_rows 73 = .ok (.laload, 1) := by decide +kernel
theorem dX8_rows_74 : decode cX8_rows 74 = .ok (.lastore, 1) := by decide +kernel
theorem dX8_rows_75 : decode cX8_rows 75 = .ok (.iinc 2 1, 3) := by decide +kernel
theorem dX8_rows_78 : decode cX8_rows 78 = .ok (.goto (-53), 3) := by decide +kernel
theorem dX8_rows_81 : decode cX8_rows 81 = .ok (.aload_n 0, 1) := by decide +kernel
theorem dX8_rows_82 : decode cX8_rows 82 = .ok (.iload_n 1, 1) := by decide +kernel
theorem dX8_rows_83 : decode cX8_rows 83 = .ok (.putfield 17, 3) := by decide +kernel
theorem dX8_rows_86 : decode cX8_rows 86 = .ok (.aload_n 0, 1) := by decide +kernel
theorem dX8_rows_87 : decode cX8_rows 87 = .ok (.invokevirtual 179, 3) := by decide +kernel
theorem dX8_rows_90 : decode cX8_rows 90 = .ok (.aload_n 0, 1) := by decide +kernel
theorem dX8_rows_91 : decode cX8_rows 91 = .ok (.invokevirtual 182, 3) := by decide +kernel
theorem dX8_rows_94 : decode cX8_rows 94 = .ok (.ireturn, 1) := by decide +kernel
theorem dX8_there_0 : decode cX8_there 0 = .ok (.aload_n 0, 1) := by decide +kernel
theorem dX8_there_1 : decode cX8_there 1 = .ok (.getfield 164, 3) := by decide +kernel
theorem dX8_there_4 : decode cX8_there 4 = .ok (.ifCond .eq 32, 3) := by decide +kernel
theorem dX8_there_7 : decode cX8_there 7 = .ok (.iload_n 1, 1) := by decide +kernel
theorem dX8_there_8 : decode cX8_there 8 = .ok (.ifCond .lt 28, 3) := by decide +kernel
theorem dX8_there_11 : decode cX8_there 11 = .ok (.iload_n 1, 1) := by decide +kernel
theorem dX8_there_12 : decode cX8_there 12 = .ok (.aload_n 0, 1) := by decide +kernel
theorem dX8_there_13 : decode cX8_there 13 = .ok (.getfield 115, 3) := by decide +kernel
theorem dX8_there_16 : decode cX8_there 16 = .ok (.if_icmp .ge 20, 3) := by decide +kernel
theorem dX8_there_19 : decode cX8_there 19 = .ok (.iload_n 2, 1) := by decide +kernel
theorem dX8_there_20 : decode cX8_there 20 = .ok (.ifCond .lt 16, 3) := by decide +kernel
theorem dX8_there_23 : decode cX8_there 23 = .ok (.iload_n 2, 1) := by decide +kernel
theorem dX8_there_24 : decode cX8_there 24 = .ok (.aload_n 0, 1) := by decide +kernel
theorem dX8_there_25 : decode cX8_there 25 = .ok (.iload_n 1, 1) := by decide +kernel
theorem dX8_there_26 : decode cX8_there 26 = .ok (.invokevirtual 172, 3) := by decide +kernel
theorem dX8_there_29 : decode cX8_there 29 = .ok (.if_icmp .ge 7, 3) := by decide +kernel
theorem dX8_there_32 : decode cX8_there 32 = .ok (.iconst 1, 1) := by decide +kernel
theorem dX8_there_33 : decode cX8_there 33 = .ok (.goto 4, 3) := by decide +kernel
theorem dX8_there_36 : decode cX8_there 36 = .ok (.iconst 0, 1) := by decide +kernel
theorem dX8_there_37 : decode cX8_there 37 = .ok (.ireturn, 1) := by decide +kernel
theorem dX8_set_0 : decode cX8_set 0 = .ok (.aload_n 0, 1) := by decide +kernel
theorem dX8_set_1 : decode cX8_set 1 = .ok (.iconst 0, 1) := by decide +kernel
theorem dX8_set_2 : decode cX8_set 2 = .ok (.putfield 98, 3) := by decide +kernel
theorem dX8_set_5 : decode cX8_set 5 = .ok (.aload_n 0, 1) := by decide +kernel
theorem dX8_set_6 : decode cX8_set 6 = .ok (.iload_n 1, 1) := by decide +kernel
theorem dX8_set_7 : decode cX8_set 7 = .ok (.iload_n 2, 1) := by decide +kernel
theorem dX8_set_8 : decode cX8_set 8 = .ok (.invokevirtual 269, 3) := by decide +kernel
theorem dX8_set_11 : decode cX8_set 11 = .ok (.ifCond .eq 27, 3) := by decide +kernel
theorem dX8_set_14 : decode cX8_set 14 = .ok (.aload_n 0, 1) := by decide +kernel
theorem dX8_set_15 : decode cX8_set 15 = .ok (.getfield 20, 3) := by decide +kernel
theorem dX8_set_18 : decode cX8_set 18 = .ok (.iload_n 1, 1) := by decide +kernel
theorem dX8_set_19 : decode cX8_set 19 = .ok (.iaload, 1) := by decide +kernel
theorem dX8_set_20 : decode cX8_set 20 = .ok (.ifCond .ne 18, 3) := by decide +kernel
theorem dX8_set_23 : decode cX8_set 23 = .ok (.aload_n 0, 1) := by decide +kernel
theorem dX8_set_24 : decode cX8_set 24 = .ok (.iload_n 1, 1) := by decide +kernel
theorem dX8_set_25 : decode cX8_set 25 = .ok (.invokevirtual 272, 3) := by decide +kernel
theorem dX8_set_28 : decode cX8_set 28 = .ok (.ifCond .ne 10, 3) := by decide +kernel
theorem dX8_set_31 : decode cX8_set 31 = .ok (.lload_n 3, 1) := by decide +kernel
theorem dX8_set_32 : decode cX8_set 32 = .ok (.invokestatic 203, 3) := by decide +kernel
theorem dX8_set_35 : decode cX8_set 35 = .ok (.ifCond .ne 5, 3) := by decide +kernel
theorem dX8_set_38 : decode cX8_set 38 = .ok (.iconst (-1), 1) := by decide +kernel
theorem dX8_set_39 : decode cX8_set 39 = .ok (.ireturn, 1) := by decide +kernel
theorem dX8_set_40 : decode cX8_set 40 = .ok (.iconst 4, 1) := by decide +kernel
theorem dX8_set_41 : decode cX8_set 41 = .ok (.iload_n 1, 1) := by decide +kernel
theorem dX8_set_42 : decode cX8_set 42 = .ok (.imul, 1) := by decide +kernel
theorem dX8_set_43 : decode cX8_set 43 = .ok (.iload_n 2, 1) := by decide +kernel
theorem dX8_set_44 : decode cX8_set 44 = .ok (.iadd, 1) := by decide +kernel
theorem dX8_set_45 : decode cX8_set 45 = .ok (.istore 5, 2) := by decide +kernel
theorem dX8_set_47 : decode cX8_set 47 = .ok (.aload_n 0, 1) := by decide +kernel
theorem dX8_set_48 : decode cX8_set 48 = .ok (.getfield 65, 3) := by decide +kernel
theorem dX8_set_51 : decode cX8_set 51 = .ok (.iload 5, 2) := by decide +kernel
theorem dX8_set_53 : decode cX8_set 53 = .ok (.lload_n 3, 1) := by decide +kernel
theorem dX8_set_54 : decode cX8_set 54 = .ok (.lastore, 1) := by decide +kernel
theorem dX8_set_55 : decode cX8_set 55 = .ok (.aload_n 0, 1) := by decide +kernel
theorem dX8_set_56 : decode cX8_set 56 = .ok (.invokevirtual 179, 3) := by decide +kernel
theorem dX8_set_59 : decode cX8_set 59 = .ok (.iconst 0, 1) := by decide +kernel
theorem dX8_set_60 : decode cX8_set 60 = .ok (.istore 6, 2) := by decide +kernel
theorem dX8_set_62 : decode cX8_set 62 = .ok (.iconst 0, 1) := by decide +kernel
theorem dX8_set_63 : decode cX8_set 63 = .ok (.istore 7, 2) := by decide +kernel
theorem dX8_set_65 : decode cX8_set 65 = .ok (.iload 7, 2) := by decide +kernel
theorem dX8_set_67 : decode cX8_set 67 = .ok (.bipush 64, 2) := by decide +kernel
theorem dX8_set_69 : decode cX8_set 69 = .ok (.if_icmp .ge 37, 3) := by decide +kernel
theorem dX8_set_72 : decode cX8_set 72 = .ok (.aload_n 0, 1) := by decide +kernel
theorem dX8_set_73 : decode cX8_set 73 = .ok (.getfield 71, 3) := by decide +kernel
theorem dX8_set_76 : decode cX8_set 76 = .ok (.iload 7, 2) := by decide +kernel
theorem dX8_set_78 : decode cX8_set 78 = .ok (.laload, 1) := by decide +kernel
theorem dX8_set_79 : decode cX8_set 79 = .ok (.iload 5, 2) := by decide +kernel
theorem dX8_set_81 : decode cX8_set 81 = .ok (.lshr, 1) := by decide +kernel
theorem dX8_set_82 : decode cX8_set 82 = .ok (.lconst 1, 1) := by decide +kernel
theorem dX8_set_83 : decode cX8_set 83 = .ok (.land, 1) := by decide +kernel
theorem dX8_set_84 : decode cX8_set 84 = .ok (.lconst 1, 1) := by decide +kernel
theorem dX8_set_85 : decode cX8_set 85 = .ok (.lcmp, 1) := by decide +kernel
theorem dX8_set_86 : decode cX8_set 86 = .ok (.ifCond .ne 10, 3) := by decide +kernel
theorem dX8_set_89 : decode cX8_set 89 = .ok (.iload 6, 2) := by decide +kernel
theorem dX8_set_91 : decode cX8_set 91 = .ok (.iconst 1, 1) := by decide +kernel
theorem dX8_set_92 : decode cX8_set 92 = .ok (.iadd, 1) := by decide +kernel
theorem dX8_set_93 : decode cX8_set 93 = .ok (.goto 5, 3) := by decide +kernel
theorem dX8_set_96 : decode cX8_set 96 = .ok (.iload 6, 2) := by decide +kernel
theorem dX8_set_98 : decode cX8_set 98 = .ok (.istore 6, 2) := by decide +kernel
theorem dX8_set_100 : decode cX8_set 100 = .ok (.iinc 7 1, 3) := by decide +kernel
theorem dX8_set_103 : decode cX8_set 103 = .ok (.goto (-38), 3) := by decide +kernel
theorem dX8_set_106 : decode cX8_set 106 = .ok (.iload 6, 2) := by decide +kernel
theorem dX8_set_108 : decode cX8_set 108 = .ok (.ireturn, 1) := by decide +kernel
theorem dX8_get_0 : decode cX8_get 0 = .ok (.aload_n 0, 1) := by decide +kernel
theorem dX8_get_1 : decode cX8_get 1 = .ok (.iconst 0, 1) := by decide +kernel
theorem dX8_get_2 : decode cX8_get 2 = .ok (.putfield 98, 3) := by decide +kernel
theorem dX8_get_5 : decode cX8_get 5 = .ok (.aload_n 0, 1) := by decide +kernel
theorem dX8_get_6 : decode cX8_get 6 = .ok (.iload_n 1, 1) := by decide +kernel
theorem dX8_get_7 : decode cX8_get 7 = .ok (.iload_n 2, 1) := by decide +kernel
theorem dX8_get_8 : decode cX8_get 8 = .ok (.invokevirtual 269, 3) := by decide +kernel
theorem dX8_get_11 : decode cX8_get 11 = .ok (.ifCond .eq 38, 3) := by decide +kernel
theorem dX8_get_14 : decode cX8_get 14 = .ok (.aload_n 0, 1) := by decide +kernel
theorem dX8_get_15 : decode cX8_get 15 = .ok (.getfield 20, 3) := by decide +kernel
theorem dX8_get_18 : decode cX8_get 18 = .ok (.iload_n 1, 1) := by decide +kernel
theorem dX8_get_19 : decode cX8_get 19 = .ok (.iaload, 1) := by decide +kernel
theorem dX8_get_20 : decode cX8_get 20 = .ok (.ifCond .ne 29, 3) := by decide +kernel
theorem dX8_get_23 : decode cX8_get 23 = .ok (.aload_n 0, 1) := by decide +kernel
theorem dX8_get_24 : decode cX8_get 24 = .ok (.getfield 68, 3) := by decide +kernel
theorem dX8_get_27 : decode cX8_get 27 = .ok (.iconst 4, 1) := by decide +kernel
theorem dX8_get_28 : decode cX8_get 28 = .ok (.iload_n 1, 1) := by decide +kernel
theorem dX8_get_29 : decode cX8_get 29 = .ok (.imul, 1) := by decide +kernel
theorem dX8_get_30 : decode cX8_get 30 = .ok (.iload_n 2, 1) := by decide +kernel
theorem dX8_get_31 : decode cX8_get 31 = .ok (.iadd, 1) := by decide +kernel
theorem dX8_get_32 : decode cX8_get 32 = .ok (.iaload, 1) := by decide +kernel
theorem dX8_get_33 : decode cX8_get 33 = .ok (.ifCond .ne 16, 3) := by decide +kernel
theorem dX8_get_36 : decode cX8_get 36 = .ok (.aload_n 0, 1) := by decide +kernel
theorem dX8_get_37 : decode cX8_get 37 = .ok (.getfield 65, 3) := by decide +kernel
theorem dX8_get_40 : decode cX8_get 40 = .ok (.iconst 4, 1) := by decide +kernel
theorem dX8_get_41 : decode cX8_get 41 = .ok (.iload_n 1, 1) := by decide +kernel
theorem dX8_get_42 : decode cX8_get 42 = .ok (.imul, 1) := by decide +kernel
theorem dX8_get_43 : decode cX8_get 43 = .ok (.iload_n 2, 1) := by decide +kernel
theorem dX8_get_44 : decode cX8_get 44 = .ok (.iadd, 1) := by decide +kernel
theorem dX8_get_45 : decode cX8_get 45 = .ok (.laload, 1) := by decide +kernel
theorem dX8_get_46 : decode cX8_get 46 = .ok (.goto 4, 3) := by decide +kernel
theorem dX8_get_49 : decode cX8_get 49 = .ok (.lconst 0, 1) := by decide +kernel
theorem dX8_get_50 : decode cX8_get 50 = .ok (.lreturn, 1) := by decide +kernel
theorem dX8_fault_0 : decode cX8_fault 0 = .ok (.aload_n 0, 1) := by decide +kernel
theorem dX8_fault_1 : decode cX8_fault 1 = .ok (.iconst 0, 1) := by decide +kernel
theorem dX8_fault_2 : decode cX8_fault 2 = .ok (.putfield 98, 3) := by decide +kernel
theorem dX8_fault_5 : decode cX8_fault 5 = .ok (.aload_n 0, 1) := by decide +kernel
theorem dX8_fault_6 : decode cX8_fault 6 = .ok (.iload_n 1, 1) := by decide +kernel
theorem dX8_fault_7 : decode cX8_fault 7 = .ok (.iload_n 2, 1) := by decide +kernel
theorem dX8_fault_8 : decode cX8_fault 8 = .ok (.invokevirtual 269, 3) := by decide +kernel
theorem dX8_fault_11 : decode cX8_fault 11 = .ok (.ifCond .eq 13, 3) := by decide +kernel
theorem dX8_fault_14 : decode cX8_fault 14 = .ok (.aload_n 0, 1) := by decide +kernel
theorem dX8_fault_15 : decode cX8_fault 15 = .ok (.getfield 20, 3) := by decide +kernel
theorem dX8_fault_18 : decode cX8_fault 18 = .ok (.iload_n 1, 1) := by decide +kernel
theorem dX8_fault_19 : decode cX8_fault 19 = .ok (.iaload, 1) := by decide +kernel
theorem dX8_fault_20 : decode cX8_fault 20 = .ok (.iconst 2, 1) := by decide +kernel
theorem dX8_fault_21 : decode cX8_fault 21 = .ok (.if_icmp .ne 5, 3) := by decide +kernel
theorem dX8_fault_24 : decode cX8_fault 24 = .ok (.iconst (-1), 1) := by decide +kernel
theorem dX8_fault_25 : decode cX8_fault 25 = .ok (.ireturn, 1) := by decide +kernel
theorem dX8_fault_26 : decode cX8_fault 26 = .ok (.aload_n 0, 1) := by decide +kernel
theorem dX8_fault_27 : decode cX8_fault 27 = .ok (.getfield 20, 3) := by decide +kernel
theorem dX8_fault_30 : decode cX8_fault 30 = .ok (.iload_n 1, 1) := by decide +kernel
theorem dX8_fault_31 : decode cX8_fault 31 = .ok (.iaload, 1) := by decide +kernel
theorem dX8_fault_32 : decode cX8_fault 32 = .ok (.ifCond .ne 16, 3) := by decide +kernel
theorem dX8_fault_35 : decode cX8_fault 35 = .ok (.aload_n 0, 1) := by decide +kernel
theorem dX8_fault_36 : decode cX8_fault 36 = .ok (.getfield 68, 3) := by decide +kernel
theorem dX8_fault_39 : decode cX8_fault 39 = .ok (.iconst 4, 1) := by decide +kernel
theorem dX8_fault_40 : decode cX8_fault 40 = .ok (.iload_n 1, 1) := by decide +kernel
theorem dX8_fault_41 : decode cX8_fault 41 = .ok (.imul, 1) := by decide +kernel
theorem dX8_fault_42 : decode cX8_fault 42 = .ok (.iload_n 2, 1) := by decide +kernel
theorem dX8_fault_43 : decode cX8_fault 43 = .ok (.iadd, 1) := by decide +kernel
theorem dX8_fault_44 : decode cX8_fault 44 = .ok (.iaload, 1) := by decide +kernel
theorem dX8_fault_45 : decode cX8_fault 45 = .ok (.goto 17, 3) := by decide +kernel
theorem dX8_fault_48 : decode cX8_fault 48 = .ok (.aload_n 0, 1) := by decide +kernel
theorem dX8_fault_49 : decode cX8_fault 49 = .ok (.iload_n 1, 1) := by decide +kernel
theorem dX8_fault_50 : decode cX8_fault 50 = .ok (.iload_n 2, 1) := by decide +kernel
theorem dX8_fault_51 : decode cX8_fault 51 = .ok (.invokevirtual 237, 3) := by decide +kernel
theorem dX8_fault_54 : decode cX8_fault 54 = .ok (.ifCond .eq 7, 3) := by decide +kernel
theorem dX8_fault_57 : decode cX8_fault 57 = .ok (.iconst 1, 1) := by decide +kernel
theorem dX8_fault_58 : decode cX8_fault 58 = .ok (.goto 4, 3) := by decide +kernel
theorem dX8_fault_61 : decode cX8_fault 61 = .ok (.iconst 0, 1) := by decide +kernel
theorem dX8_fault_62 : decode cX8_fault 62 = .ok (.ireturn, 1) := by decide +kernel
theorem dX8_message_0 : decode cX8_message 0 = .ok (.aload_n 0, 1) := by decide +kernel
theorem dX8_message_1 : decode cX8_message 1 = .ok (.iconst 0, 1) := by decide +kernel
theorem dX8_message_2 : decode cX8_message 2 = .ok (.putfield 98, 3) := by decide +kernel
theorem dX8_message_5 : decode cX8_message 5 = .ok (.aload_n 0, 1) := by decide +kernel
theorem dX8_message_6 : decode cX8_message 6 = .ok (.getfield 164, 3) := by decide +kernel
theorem dX8_message_9 : decode cX8_message 9 = .ok (.ifCond .eq 10, 3) := by decide +kernel
theorem dX8_message_12 : decode cX8_message 12 = .ok (.aload_n 0, 1) := by decide +kernel
theorem dX8_message_13 : decode cX8_message 13 = .ok (.getfield 263, 3) := by decide +kernel
theorem dX8_message_16 : decode cX8_message 16 = .ok (.goto 4, 3) := by decide +kernel
theorem dX8_message_19 : decode cX8_message 19 = .ok (.iconst 0, 1) := by decide +kernel
theorem dX8_message_20 : decode cX8_message 20 = .ok (.istore_n 2, 1) := by decide +kernel
theorem dX8_message_21 : decode cX8_message 21 = .ok (.iload_n 1, 1) := by decide +kernel
theorem dX8_message_22 : decode cX8_message 22 = .ok (.iconst (-1), 1) := by decide +kernel
theorem dX8_message_23 : decode cX8_message 23 = .ok (.if_icmp .ne 7, 3) := by decide +kernel
theorem dX8_message_26 : decode cX8_message 26 = .ok (.iload_n 2, 1) := by decide +kernel
theorem dX8_message_27 : decode cX8_message 27 = .ok (.goto 22, 3) := by decide +kernel
theorem dX8_message_30 : decode cX8_message 30 = .ok (.iload_n 1, 1) := by decide +kernel
theorem dX8_message_31 : decode cX8_message 31 = .ok (.ifCond .lt 17, 3) := by decide +kernel
theorem dX8_message_34 : decode cX8_message 34 = .ok (.iload_n 1, 1) := by decide +kernel
theorem dX8_message_35 : decode cX8_message 35 = .ok (.iload_n 2, 1) := by decide +kernel
theorem dX8_message_36 : decode cX8_message 36 = .ok (.if_icmp .ge 12, 3) := by decide +kernel
theorem dX8_message_39 : decode cX8_message 39 = .ok (.aload_n 0, 1) := by decide +kernel
theorem dX8_message_40 : decode cX8_message 40 = .ok (.getfield 86, 3) := by decide +kernel
theorem dX8_message_43 : decode cX8_message 43 = .ok (.iload_n 1, 1) := by decide +kernel
theorem dX8_message_44 : decode cX8_message 44 = .ok (.iaload, 1) := by decide +kernel
theorem dX8_message_45 : decode cX8_message 45 = .ok (.goto 4, 3) := by decide +kernel
theorem dX8_message_48 : decode cX8_message 48 = .ok (.iconst (-1), 1) := by decide +kernel
theorem dX8_message_49 : decode cX8_message 49 = .ok (.ireturn, 1) := by decide +kernel
theorem dX8_place_0 : decode cX8_place 0 = .ok (.aload_n 0, 1) := by decide +kernel
theorem dX8_place_1 : decode cX8_place 1 = .ok (.iconst 0, 1) := by decide +kernel
theorem dX8_place_2 : decode cX8_place 2 = .ok (.putfield 98, 3) := by decide +kernel
theorem dX8_place_5 : decode cX8_place 5 = .ok (.aload_n 0, 1) := by decide +kernel
theorem dX8_place_6 : decode cX8_place 6 = .ok (.iload_n 1, 1) := by decide +kernel
theorem dX8_place_7 : decode cX8_place 7 = .ok (.iload_n 2, 1) := by decide +kernel
theorem dX8_place_8 : decode cX8_place 8 = .ok (.invokevirtual 269, 3) := by decide +kernel
theorem dX8_place_11 : decode cX8_place 11 = .ok (.ifCond .eq 16, 3) := by decide +kernel
theorem dX8_place_14 : decode cX8_place 14 = .ok (.aload_n 0, 1) := by decide +kernel
theorem dX8_place_15 : decode cX8_place 15 = .ok (.getfield 89, 3) := by decide +kernel
theorem dX8_place_18 : decode cX8_place 18 = .ok (.iconst 4, 1) := by decide +kernel
theorem dX8_place_19 : decode cX8_place 19 = .ok (.iload_n 1, 1) := by decide +kernel
theorem dX8_place_20 : decode cX8_place 20 = .ok (.imul, 1) := by decide +kernel
theorem dX8_place_21 : decode cX8_place 21 = .ok (.iload_n 2, 1) := by decide +kernel
theorem dX8_place_22 : decode cX8_place 22 = .ok (.iadd, 1) := by decide +kernel
theorem dX8_place_23 : decode cX8_place 23 = .ok (.iaload, 1) := by decide +kernel
theorem dX8_place_24 : decode cX8_place 24 = .ok (.goto 4, 3) := by decide +kernel
theorem dX8_place_27 : decode cX8_place 27 = .ok (.iconst (-1), 1) := by decide +kernel
theorem dX8_place_28 : decode cX8_place 28 = .ok (.ireturn, 1) := by decide +kernel
theorem dX8_pages_0 : decode cX8_pages 0 = .ok (.aload_n 0, 1) := by decide +kernel
theorem dX8_pages_1 : decode cX8_pages 1 = .ok (.iconst 0, 1) := by decide +kernel
theorem dX8_pages_2 : decode cX8_pages 2 = .ok (.putfield 98, 3) := by decide +kernel
theorem dX8_pages_5 : decode cX8_pages 5 = .ok (.aload_n 0, 1) := by decide +kernel
theorem dX8_pages_6 : decode cX8_pages 6 = .ok (.getfield 164, 3) := by decide +kernel
theorem dX8_pages_9 : decode cX8_pages 9 = .ok (.ifCond .eq 10, 3) := by decide +kernel
theorem dX8_pages_12 : decode cX8_pages 12 = .ok (.aload_n 0, 1) := by decide +kernel
theorem dX8_pages_13 : decode cX8_pages 13 = .ok (.getfield 250, 3) := by decide +kernel
theorem dX8_pages_16 : decode cX8_pages 16 = .ok (.goto 4, 3) := by decide +kernel
theorem dX8_pages_19 : decode cX8_pages 19 = .ok (.iconst 0, 1) := by decide +kernel
theorem dX8_pages_20 : decode cX8_pages 20 = .ok (.ireturn, 1) := by decide +kernel
theorem dX8_line_0 : decode cX8_line 0 = .ok (.aload_n 0, 1) := by decide +kernel
theorem dX8_line_1 : decode cX8_line 1 = .ok (.iconst 0, 1) := by decide +kernel
theorem dX8_line_2 : decode cX8_line 2 = .ok (.putfield 98, 3) := by decide +kernel
theorem dX8_line_5 : decode cX8_line 5 = .ok (.aload_n 0, 1) := by decide +kernel
theorem dX8_line_6 : decode cX8_line 6 = .ok (.getfield 164, 3) := by decide +kernel
theorem dX8_line_9 : decode cX8_line 9 = .ok (.ifCond .eq 39, 3) := by decide +kernel
theorem dX8_line_12 : decode cX8_line 12 = .ok (.iload_n 1, 1) := by decide +kernel
theorem dX8_line_13 : decode cX8_line 13 = .ok (.ifCond .lt 35, 3) := by decide +kernel
theorem dX8_line_16 : decode cX8_line 16 = .ok (.iload_n 1, 1) := by decide +kernel
theorem dX8_line_17 : decode cX8_line 17 = .ok (.bipush 80, 2) := by decide +kernel
theorem dX8_line_19 : decode cX8_line 19 = .ok (.if_icmp .ge 29, 3) := by decide +kernel
theorem dX8_line_22 : decode cX8_line 22 = .ok (.iload_n 2, 1) := by decide +kernel
theorem dX8_line_23 : decode cX8_line 23 = .ok (.ifCond .lt 25, 3) := by decide +kernel
theorem dX8_line_26 : decode cX8_line 26 = .ok (.iload_n 2, 1) := by decide +kernel
theorem dX8_line_27 : decode cX8_line 27 = .ok (.aload_n 0, 1) := by decide +kernel
theorem dX8_line_28 : decode cX8_line 28 = .ok (.getfield 95, 3) := by decide +kernel
theorem dX8_line_31 : decode cX8_line 31 = .ok (.if_icmp .ge 17, 3) := by decide +kernel
theorem dX8_line_34 : decode cX8_line 34 = .ok (.aload_n 0, 1) := by decide +kernel
theorem dX8_line_35 : decode cX8_line 35 = .ok (.getfield 92, 3) := by decide +kernel
theorem dX8_line_38 : decode cX8_line 38 = .ok (.bipush 32, 2) := by decide +kernel
theorem dX8_line_40 : decode cX8_line 40 = .ok (.iload_n 1, 1) := by decide +kernel
theorem dX8_line_41 : decode cX8_line 41 = .ok (.imul, 1) := by decide +kernel
theorem dX8_line_42 : decode cX8_line 42 = .ok (.iload_n 2, 1) := by decide +kernel
theorem dX8_line_43 : decode cX8_line 43 = .ok (.iadd, 1) := by decide +kernel
theorem dX8_line_44 : decode cX8_line 44 = .ok (.iaload, 1) := by decide +kernel
theorem dX8_line_45 : decode cX8_line 45 = .ok (.goto 4, 3) := by decide +kernel
theorem dX8_line_48 : decode cX8_line 48 = .ok (.iconst (-1), 1) := by decide +kernel
theorem dX8_line_49 : decode cX8_line 49 = .ok (.ireturn, 1) := by decide +kernel
theorem dX8_count_0 : decode cX8_count 0 = .ok (.aload_n 0, 1) := by decide +kernel
theorem dX8_count_1 : decode cX8_count 1 = .ok (.iconst 0, 1) := by decide +kernel
theorem dX8_count_2 : decode cX8_count 2 = .ok (.putfield 98, 3) := by decide +kernel
theorem dX8_count_5 : decode cX8_count 5 = .ok (.iload_n 1, 1) := by decide +kernel
theorem dX8_count_6 : decode cX8_count 6 = .ok (.iconst 4, 1) := by decide +kernel
theorem dX8_count_7 : decode cX8_count 7 = .ok (.if_icmp .ne 45, 3) := by decide +kernel
theorem dX8_count_10 : decode cX8_count 10 = .ok (.iconst 0, 1) := by decide +kernel
theorem dX8_count_11 : decode cX8_count 11 = .ok (.istore_n 2, 1) := by decide +kernel
theorem dX8_count_12 : decode cX8_count 12 = .ok (.iconst 0, 1) := by decide +kernel
theorem dX8_count_13 : decode cX8_count 13 = .ok (.istore_n 3, 1) := by decide +kernel
theorem dX8_count_14 : decode cX8_count 14 = .ok (.iload_n 3, 1) := by decide +kernel
theorem dX8_count_15 : decode cX8_count 15 = .ok (.bipush 64, 2) := by decide +kernel
theorem dX8_count_17 : decode cX8_count 17 = .ok (.if_icmp .ge 33, 3) := by decide +kernel
theorem dX8_count_20 : decode cX8_count 20 = .ok (.aload_n 0, 1) := by decide +kernel
theorem dX8_count_21 : decode cX8_count 21 = .ok (.getfield 164, 3) := by decide +kernel
theorem dX8_count_24 : decode cX8_count 24 = .ok (.ifCond .eq 26, 3) := by decide +kernel
theorem dX8_count_27 : decode cX8_count 27 = .ok (.aload_n 0, 1) := by decide +kernel
theorem dX8_count_28 : decode cX8_count 28 = .ok (.getfield 68, 3) := by decide +kernel
theorem dX8_count_31 : decode cX8_count 31 = .ok (.iload_n 3, 1) := by decide +kernel
theorem dX8_count_32 : decode cX8_count 32 = .ok (.iaload, 1) := by decide +kernel
theorem dX8_count_33 : decode cX8_count 33 = .ok (.ifCond .eq 9, 3) := by decide +kernel
theorem dX8_count_36 : decode cX8_count 36 = .ok (.iload_n 2, 1) := by decide +kernel
theorem dX8_count_37 : decode cX8_count 37 = .ok (.iconst 1, 1) := by decide +kernel
theorem dX8_count_38 : decode cX8_count 38 = .ok (.iadd, 1) := by decide +kernel
theorem dX8_count_39 : decode cX8_count 39 = .ok (.goto 4, 3) := by decide +kernel
theorem dX8_count_42 : decode cX8_count 42 = .ok (.iload_n 2, 1) := by decide +kernel
theorem dX8_count_43 : decode cX8_count 43 = .ok (.istore_n 2, 1) := by decide +kernel
theorem dX8_count_44 : decode cX8_count 44 = .ok (.iinc 3 1, 3) := by decide +kernel
theorem dX8_count_47 : decode cX8_count 47 = .ok (.goto (-33), 3) := by decide +kernel
theorem dX8_count_50 : decode cX8_count 50 = .ok (.iload_n 2, 1) := by decide +kernel
theorem dX8_count_51 : decode cX8_count 51 = .ok (.ireturn, 1) := by decide +kernel
theorem dX8_count_52 : decode cX8_count 52 = .ok (.iload_n 1, 1) := by decide +kernel
theorem dX8_count_53 : decode cX8_count 53 = .ok (.ifCond .ne 10, 3) := by decide +kernel
theorem dX8_count_56 : decode cX8_count 56 = .ok (.aload_n 0, 1) := by decide +kernel
theorem dX8_count_57 : decode cX8_count 57 = .ok (.getfield 115, 3) := by decide +kernel
theorem dX8_count_60 : decode cX8_count 60 = .ok (.goto 48, 3) := by decide +kernel
theorem dX8_count_63 : decode cX8_count 63 = .ok (.iload_n 1, 1) := by decide +kernel
theorem dX8_count_64 : decode cX8_count 64 = .ok (.iconst 1, 1) := by decide +kernel
theorem dX8_count_65 : decode cX8_count 65 = .ok (.if_icmp .ne 10, 3) := by decide +kernel
theorem dX8_count_68 : decode cX8_count 68 = .ok (.aload_n 0, 1) := by decide +kernel
theorem dX8_count_69 : decode cX8_count 69 = .ok (.getfield 17, 3) := by decide +kernel
theorem dX8_count_72 : decode cX8_count 72 = .ok (.goto 36, 3) := by decide +kernel
theorem dX8_count_75 : decode cX8_count 75 = .ok (.iload_n 1, 1) := by decide +kernel
theorem dX8_count_76 : decode cX8_count 76 = .ok (.iconst 2, 1) := by decide +kernel
theorem dX8_count_77 : decode cX8_count 77 = .ok (.if_icmp .ne 10, 3) := by decide +kernel
theorem dX8_count_80 : decode cX8_count 80 = .ok (.aload_n 0, 1) := by decide +kernel
theorem dX8_count_81 : decode cX8_count 81 = .ok (.getfield 95, 3) := by decide +kernel
theorem dX8_count_84 : decode cX8_count 84 = .ok (.goto 24, 3) := by decide +kernel
theorem dX8_count_87 : decode cX8_count 87 = .ok (.iload_n 1, 1) := by decide +kernel
theorem dX8_count_88 : decode cX8_count 88 = .ok (.iconst 3, 1) := by decide +kernel
theorem dX8_count_89 : decode cX8_count 89 = .ok (.if_icmp .ne 18, 3) := by decide +kernel
theorem dX8_count_92 : decode cX8_count 92 = .ok (.aload_n 0, 1) := by decide +kernel
theorem dX8_count_93 : decode cX8_count 93 = .ok (.getfield 164, 3) := by decide +kernel
theorem dX8_count_96 : decode cX8_count 96 = .ok (.ifCond .eq 7, 3) := by decide +kernel
theorem dX8_count_99 : decode cX8_count 99 = .ok (.iconst 1, 1) := by decide +kernel
theorem dX8_count_100 : decode cX8_count 100 = .ok (.goto 8, 3) := by decide +kernel
theorem dX8_count_103 : decode cX8_count 103 = .ok (.iconst 0, 1) := by decide +kernel
theorem dX8_count_104 : decode cX8_count 104 = .ok (.goto 4, 3) := by decide +kernel
theorem dX8_count_107 : decode cX8_count 107 = .ok (.iconst (-1), 1) := by decide +kernel
theorem dX8_count_108 : decode cX8_count 108 = .ok (.ireturn, 1) := by decide +kernel
