theorem dX11_between_46 : decode cX11_between 46 = .ok (.goto 4, 3) := by decide +kernel
theorem dX11_between_49 : decode cX11_between 49 = .ok (.iconst 0, 1) := by decide +kernel
theorem dX11_between_50 : decode cX11_between 50 = .ok (.ireturn, 1) := by decide +kernel
theorem dX11_between_51 : decode cX11_between 51 = .ok (.iload_n 1, 1) := by decide +kernel
theorem dX11_between_52 : decode cX11_between 52 = .ok (.iload_n 2, 1) := by decide +kernel
theorem dX11_between_53 : decode cX11_between 53 = .ok (.if_icmp .ge 7, 3) := by decide +kernel
theorem dX11_between_56 : decode cX11_between 56 = .ok (.iconst 1, 1) := by decide +kernel
theorem dX11_between_57 : decode cX11_between 57 = .ok (.goto 4, 3) := by decide +kernel
theorem dX11_between_60 : decode cX11_between 60 = .ok (.iconst 0, 1) := by decide +kernel
theorem dX11_between_61 : decode cX11_between 61 = .ok (.ireturn, 1) := by decide +kernel
theorem dX11_between_62 : decode cX11_between 62 = .ok (.iload_n 1, 1) := by decide +kernel
theorem dX11_between_63 : decode cX11_between 63 = .ok (.iload_n 2, 1) := by decide +kernel
theorem dX11_between_64 : decode cX11_between 64 = .ok (.if_icmp .le 7, 3) := by decide +kernel
theorem dX11_between_67 : decode cX11_between 67 = .ok (.iconst 1, 1) := by decide +kernel
theorem dX11_between_68 : decode cX11_between 68 = .ok (.goto 4, 3) := by decide +kernel
theorem dX11_between_71 : decode cX11_between 71 = .ok (.iconst 0, 1) := by decide +kernel
theorem dX11_between_72 : decode cX11_between 72 = .ok (.ireturn, 1) := by decide +kernel
theorem dX11_between_73 : decode cX11_between 73 = .ok (.iload_n 1, 1) := by decide +kernel
theorem dX11_between_74 : decode cX11_between 74 = .ok (.iload_n 2, 1) := by decide +kernel
theorem dX11_between_75 : decode cX11_between 75 = .ok (.iand, 1) := by decide +kernel
theorem dX11_between_76 : decode cX11_between 76 = .ok (.ireturn, 1) := by decide +kernel
theorem dX11_between_77 : decode cX11_between 77 = .ok (.iload_n 1, 1) := by decide +kernel
theorem dX11_between_78 : decode cX11_between 78 = .ok (.iload_n 2, 1) := by decide +kernel
theorem dX11_between_79 : decode cX11_between 79 = .ok (.ior, 1) := by decide +kernel
theorem dX11_between_80 : decode cX11_between 80 = .ok (.ireturn, 1) := by decide +kernel
theorem dX11_between_81 : decode cX11_between 81 = .ok (.iload_n 0, 1) := by decide +kernel
theorem dX11_between_82 : decode cX11_between 82 = .ok (.sipush 3000, 3) := by decide +kernel
theorem dX11_between_85 : decode cX11_between 85 = .ok (.if_icmp .ne 11, 3) := by decide +kernel
theorem dX11_between_88 : decode cX11_between 88 = .ok (.iload_n 1, 1) := by decide +kernel
theorem dX11_between_89 : decode cX11_between 89 = .ok (.i2l, 1) := by decide +kernel
theorem dX11_between_90 : decode cX11_between 90 = .ok (.iload_n 2, 1) := by decide +kernel
theorem dX11_between_91 : decode cX11_between 91 = .ok (.i2l, 1) := by decide +kernel
theorem dX11_between_92 : decode cX11_between 92 = .ok (.ladd, 1) := by decide +kernel
theorem dX11_between_93 : decode cX11_between 93 = .ok (.goto 23, 3) := by decide +kernel
theorem dX11_between_96 : decode cX11_between 96 = .ok (.iload_n 0, 1) := by decide +kernel
theorem dX11_between_97 : decode cX11_between 97 = .ok (.sipush 3001, 3) := by decide +kernel
theorem dX11_between_100 : decode cX11_between 100 = .ok (.if_icmp .ne 11, 3) := by decide +kernel
theorem dX11_between_103 : decode cX11_between 103 = .ok (.iload_n 1, 1) := by decide +kernel
theorem dX11_between_104 : decode cX11_between 104 = .ok (.i2l, 1) := by decide +kernel
theorem dX11_between_105 : decode cX11_between 105 = .ok (.iload_n 2, 1) := by decide +kernel
theorem dX11_between_106 : decode cX11_between 106 = .ok (.i2l, 1) := by decide +kernel
theorem dX11_between_107 : decode cX11_between 107 = .ok (.lsub, 1) := by decide +kernel
theorem dX11_between_108 : decode cX11_between 108 = .ok (.goto 8, 3) := by decide +kernel
theorem dX11_between_111 : decode cX11_between 111 = .ok (.iload_n 1, 1) := by decide +kernel
theorem dX11_between_112 : decode cX11_between 112 = .ok (.i2l, 1) := by decide +kernel
theorem dX11_between_113 : decode cX11_between 113 = .ok (.iload_n 2, 1) := by decide +kernel
theorem dX11_between_114 : decode cX11_between 114 = .ok (.i2l, 1) := by decide +kernel
theorem dX11_between_115 : decode cX11_between 115 = .ok (.lmul, 1) := by decide +kernel
theorem dX11_between_116 : decode cX11_between 116 = .ok (.lstore_n 3, 1) := by decide +kernel
theorem dX11_between_117 : decode cX11_between 117 = .ok (.lload_n 3, 1) := by decide +kernel
theorem dX11_between_118 : decode cX11_between 118 = .ok (.ldc2_w 231, 3) := by decide +kernel
theorem dX11_between_121 : decode cX11_between 121 = .ok (.lcmp, 1) := by decide +kernel
theorem dX11_between_122 : decode cX11_between 122 = .ok (.ifCond .le 9, 3) := by decide +kernel
theorem dX11_between_125 : decode cX11_between 125 = .ok (.ldc2_w 231, 3) := by decide +kernel
theorem dX11_between_128 : decode cX11_between 128 = .ok (.goto 18, 3) := by decide +kernel
theorem dX11_between_131 : decode cX11_between 131 = .ok (.lload_n 3, 1) := by decide +kernel
theorem dX11_between_132 : decode cX11_between 132 = .ok (.ldc2_w 233, 3) := by decide +kernel
theorem dX11_between_135 : decode cX11_between 135 = .ok (.lcmp, 1) := by decide +kernel
theorem dX11_between_136 : decode cX11_between 136 = .ok (.ifCond .ge 9, 3) := by decide +kernel
theorem dX11_between_139 : decode cX11_between 139 = .ok (.ldc2_w 233, 3) := by decide +kernel
theorem dX11_between_142 : decode cX11_between 142 = .ok (.goto 4, 3) := by decide +kernel
theorem dX11_between_145 : decode cX11_between 145 = .ok (.lload_n 3, 1) := by decide +kernel
theorem dX11_between_146 : decode cX11_between 146 = .ok (.l2i, 1) := by decide +kernel
theorem dX11_between_147 : decode cX11_between 147 = .ok (.ireturn, 1) := by decide +kernel
theorem dX11_reckons_0 : decode cX11_reckons 0 = .ok (.aload_n 0, 1) := by decide +kernel
theorem dX11_reckons_1 : decode cX11_reckons 1 = .ok (.getfield 33, 3) := by decide +kernel
theorem dX11_reckons_4 : decode cX11_reckons 4 = .ok (.iconst 0, 1) := by decide +kernel
theorem dX11_reckons_5 : decode cX11_reckons 5 = .ok (.iload_n 3, 1) := by decide +kernel
theorem dX11_reckons_6 : decode cX11_reckons 6 = .ok (.iastore, 1) := by decide +kernel
theorem dX11_reckons_7 : decode cX11_reckons 7 = .ok (.aload_n 0, 1) := by decide +kernel
theorem dX11_reckons_8 : decode cX11_reckons 8 = .ok (.getfield 33, 3) := by decide +kernel
theorem dX11_reckons_11 : decode cX11_reckons 11 = .ok (.iconst 1, 1) := by decide +kernel
theorem dX11_reckons_12 : decode cX11_reckons 12 = .ok (.aload_n 0, 1) := by decide +kernel
theorem dX11_reckons_13 : decode cX11_reckons 13 = .ok (.getfield 13, 3) := by decide +kernel
theorem dX11_reckons_16 : decode cX11_reckons 16 = .ok (.bipush 10, 2) := by decide +kernel
theorem dX11_reckons_18 : decode cX11_reckons 18 = .ok (.iload_n 3, 1) := by decide +kernel
theorem dX11_reckons_19 : decode cX11_reckons 19 = .ok (.iadd, 1) := by decide +kernel
theorem dX11_reckons_20 : decode cX11_reckons 20 = .ok (.iaload, 1) := by decide +kernel
theorem dX11_reckons_21 : decode cX11_reckons 21 = .ok (.iastore, 1) := by decide +kernel
theorem dX11_reckons_22 : decode cX11_reckons 22 = .ok (.aload_n 0, 1) := by decide +kernel
theorem dX11_reckons_23 : decode cX11_reckons 23 = .ok (.getfield 33, 3) := by decide +kernel
theorem dX11_reckons_26 : decode cX11_reckons 26 = .ok (.iconst 2, 1) := by decide +kernel
theorem dX11_reckons_27 : decode cX11_reckons 27 = .ok (.aload_n 0, 1) := by decide +kernel
theorem dX11_reckons_28 : decode cX11_reckons 28 = .ok (.getfield 13, 3) := by decide +kernel
theorem dX11_reckons_31 : decode cX11_reckons 31 = .ok (.bipush 18, 2) := by decide +kernel
theorem dX11_reckons_33 : decode cX11_reckons 33 = .ok (.iload_n 3, 1) := by decide +kernel
theorem dX11_reckons_34 : decode cX11_reckons 34 = .ok (.iadd, 1) := by decide +kernel
theorem dX11_reckons_35 : decode cX11_reckons 35 = .ok (.iaload, 1) := by decide +kernel
theorem dX11_reckons_36 : decode cX11_reckons 36 = .ok (.iastore, 1) := by decide +kernel
theorem dX11_reckons_37 : decode cX11_reckons 37 = .ok (.aload_n 0, 1) := by decide +kernel
theorem dX11_reckons_38 : decode cX11_reckons 38 = .ok (.getfield 33, 3) := by decide +kernel
theorem dX11_reckons_41 : decode cX11_reckons 41 = .ok (.iconst 3, 1) := by decide +kernel
theorem dX11_reckons_42 : decode cX11_reckons 42 = .ok (.aload_n 0, 1) := by decide +kernel
theorem dX11_reckons_43 : decode cX11_reckons 43 = .ok (.iload_n 2, 1) := by decide +kernel
theorem dX11_reckons_44 : decode cX11_reckons 44 = .ok (.invokevirtual 225, 3) := by decide +kernel
theorem dX11_reckons_47 : decode cX11_reckons 47 = .ok (.invokestatic 235, 3) := by decide +kernel
theorem dX11_reckons_50 : decode cX11_reckons 50 = .ok (.iastore, 1) := by decide +kernel
theorem dX11_reckons_51 : decode cX11_reckons 51 = .ok (.aload_n 0, 1) := by decide +kernel
theorem dX11_reckons_52 : decode cX11_reckons 52 = .ok (.getfield 33, 3) := by decide +kernel
theorem dX11_reckons_55 : decode cX11_reckons 55 = .ok (.iconst 4, 1) := by decide +kernel
theorem dX11_reckons_56 : decode cX11_reckons 56 = .ok (.aload_n 0, 1) := by decide +kernel
theorem dX11_reckons_57 : decode cX11_reckons 57 = .ok (.iload_n 2, 1) := by decide +kernel
theorem dX11_reckons_58 : decode cX11_reckons 58 = .ok (.invokevirtual 238, 3) := by decide +kernel
theorem dX11_reckons_61 : decode cX11_reckons 61 = .ok (.iastore, 1) := by decide +kernel
theorem dX11_reckons_62 : decode cX11_reckons 62 = .ok (.aload_n 0, 1) := by decide +kernel
theorem dX11_reckons_63 : decode cX11_reckons 63 = .ok (.getfield 33, 3) := by decide +kernel
theorem dX11_reckons_66 : decode cX11_reckons 66 = .ok (.iconst 5, 1) := by decide +kernel
theorem dX11_reckons_67 : decode cX11_reckons 67 = .ok (.iload 4, 2) := by decide +kernel
theorem dX11_reckons_69 : decode cX11_reckons 69 = .ok (.iastore, 1) := by decide +kernel
theorem dX11_reckons_70 : decode cX11_reckons 70 = .ok (.iconst 0, 1) := by decide +kernel
theorem dX11_reckons_71 : decode cX11_reckons 71 = .ok (.istore 5, 2) := by decide +kernel
theorem dX11_reckons_73 : decode cX11_reckons 73 = .ok (.iconst 0, 1) := by decide +kernel
theorem dX11_reckons_74 : decode cX11_reckons 74 = .ok (.istore 6, 2) := by decide +kernel
theorem dX11_reckons_76 : decode cX11_reckons 76 = .ok (.iload 6, 2) := by decide +kernel
theorem dX11_reckons_78 : decode cX11_reckons 78 = .ok (.aload_n 0, 1) := by decide +kernel
theorem dX11_reckons_79 : decode cX11_reckons 79 = .ok (.getfield 13, 3) := by decide +kernel
theorem dX11_reckons_82 : decode cX11_reckons 82 = .ok (.bipush 8, 2) := by decide +kernel
theorem dX11_reckons_84 : decode cX11_reckons 84 = .ok (.iload_n 1, 1) := by decide +kernel
theorem dX11_reckons_85 : decode cX11_reckons 85 = .ok (.iadd, 1) := by decide +kernel
theorem dX11_reckons_86 : decode cX11_reckons 86 = .ok (.iaload, 1) := by decide +kernel
theorem dX11_reckons_87 : decode cX11_reckons 87 = .ok (.if_icmp .ge 141, 3) := by decide +kernel
theorem dX11_reckons_90 : decode cX11_reckons 90 = .ok (.aload_n 0, 1) := by decide +kernel
theorem dX11_reckons_91 : decode cX11_reckons 91 = .ok (.getfield 13, 3) := by decide +kernel
theorem dX11_reckons_94 : decode cX11_reckons 94 = .ok (.sipush 175, 3) := by decide +kernel
theorem dX11_reckons_97 : decode cX11_reckons 97 = .ok (.aload_n 0, 1) := by decide +kernel
theorem dX11_reckons_98 : decode cX11_reckons 98 = .ok (.getfield 13, 3) := by decide +kernel
theorem dX11_reckons_101 : decode cX11_reckons 101 = .ok (.bipush 6, 2) := by decide +kernel
theorem dX11_reckons_103 : decode cX11_reckons 103 = .ok (.iload_n 1, 1) := by decide +kernel
theorem dX11_reckons_104 : decode cX11_reckons 104 = .ok (.iadd, 1) := by decide +kernel
theorem dX11_reckons_105 : decode cX11_reckons 105 = .ok (.iaload, 1) := by decide +kernel
theorem dX11_reckons_106 : decode cX11_reckons 106 = .ok (.iadd, 1) := by decide +kernel
theorem dX11_reckons_107 : decode cX11_reckons 107 = .ok (.iload 6, 2) := by decide +kernel
theorem dX11_reckons_109 : decode cX11_reckons 109 = .ok (.iadd, 1) := by decide +kernel
theorem dX11_reckons_110 : decode cX11_reckons 110 = .ok (.iaload, 1) := by decide +kernel
theorem dX11_reckons_111 : decode cX11_reckons 111 = .ok (.istore 7, 2) := by decide +kernel
theorem dX11_reckons_113 : decode cX11_reckons 113 = .ok (.iload 7, 2) := by decide +kernel
theorem dX11_reckons_115 : decode cX11_reckons 115 = .ok (.sipush 3000, 3) := by decide +kernel
theorem dX11_reckons_118 : decode cX11_reckons 118 = .ok (.if_icmp .ge 40, 3) := by decide +kernel
theorem dX11_reckons_121 : decode cX11_reckons 121 = .ok (.aload_n 0, 1) := by decide +kernel
theorem dX11_reckons_122 : decode cX11_reckons 122 = .ok (.getfield 30, 3) := by decide +kernel
theorem dX11_reckons_125 : decode cX11_reckons 125 = .ok (.iload 5, 2) := by decide +kernel
theorem dX11_reckons_127 : decode cX11_reckons 127 = .ok (.iload 7, 2) := by decide +kernel
theorem dX11_reckons_129 : decode cX11_reckons 129 = .ok (.sipush 1000, 3) := by decide +kernel
theorem dX11_reckons_132 : decode cX11_reckons 132 = .ok (.if_icmp .ge 8, 3) := by decide +kernel
theorem dX11_reckons_135 : decode cX11_reckons 135 = .ok (.iload 7, 2) := by decide +kernel
theorem dX11_reckons_137 : decode cX11_reckons 137 = .ok (.goto 14, 3) := by decide +kernel
theorem dX11_reckons_140 : decode cX11_reckons 140 = .ok (.aload_n 0, 1) := by decide +kernel
theorem dX11_reckons_141 : decode cX11_reckons 141 = .ok (.getfield 33, 3) := by decide +kernel
theorem dX11_reckons_144 : decode cX11_reckons 144 = .ok (.iload 7, 2) := by decide +kernel
theorem dX11_reckons_146 : decode cX11_reckons 146 = .ok (.sipush 1000, 3) := by decide +kernel
theorem dX11_reckons_149 : decode cX11_reckons 149 = .ok (.isub, 1) := by decide +kernel
theorem dX11_reckons_150 : decode cX11_reckons 150 = .ok (.iaload, 1) := by decide +kernel
theorem dX11_reckons_151 : decode cX11_reckons 151 = .ok (.iastore, 1) := by decide +kernel
theorem dX11_reckons_152 : decode cX11_reckons 152 = .ok (.iinc 5 1, 3) := by decide +kernel
theorem dX11_reckons_155 : decode cX11_reckons 155 = .ok (.goto 67, 3) := by decide +kernel
theorem dX11_reckons_158 : decode cX11_reckons 158 = .ok (.iload 7, 2) := by decide +kernel
theorem dX11_reckons_160 : decode cX11_reckons 160 = .ok (.sipush 3006, 3) := by decide +kernel
theorem dX11_reckons_163 : decode cX11_reckons 163 = .ok (.if_icmp .ne 26, 3) := by decide +kernel
theorem dX11_reckons_166 : decode cX11_reckons 166 = .ok (.aload_n 0, 1) := by decide +kernel
theorem dX11_reckons_167 : decode cX11_reckons 167 = .ok (.getfield 30, 3) := by decide +kernel
theorem dX11_reckons_170 : decode cX11_reckons 170 = .ok (.iload 5, 2) := by decide +kernel
theorem dX11_reckons_172 : decode cX11_reckons 172 = .ok (.iconst 1, 1) := by decide +kernel
theorem dX11_reckons_173 : decode cX11_reckons 173 = .ok (.isub, 1) := by decide +kernel
theorem dX11_reckons_174 : decode cX11_reckons 174 = .ok (.iconst 1, 1) := by decide +kernel
theorem dX11_reckons_175 : decode cX11_reckons 175 = .ok (.aload_n 0, 1) := by decide +kernel
theorem dX11_reckons_176 : decode cX11_reckons 176 = .ok (.getfield 30, 3) := by decide +kernel
theorem dX11_reckons_179 : decode cX11_reckons 179 = .ok (.iload 5, 2) := by decide +kernel
theorem dX11_reckons_181 : decode cX11_reckons 181 = .ok (.iconst 1, 1) := by decide +kernel
theorem dX11_reckons_182 : decode cX11_reckons 182 = .ok (.isub, 1) := by decide +kernel
theorem dX11_reckons_183 : decode cX11_reckons 183 = .ok (.iaload, 1) := by decide +kernel
theorem dX11_reckons_184 : decode cX11_reckons 184 = .ok (.isub, 1) := by decide +kernel
theorem dX11_reckons_185 : decode cX11_reckons 185 = .ok (.iastore, 1) := by decide +kernel
theorem dX11_reckons_186 : decode cX11_reckons 186 = .ok (.goto 36, 3) := by decide +kernel
theorem dX11_reckons_189 : decode cX11_reckons 189 = .ok (.iinc 5 (-1), 3) := by decide +kernel
theorem dX11_reckons_192 : decode cX11_reckons 192 = .ok (.aload_n 0, 1) := by decide +kernel
theorem dX11_reckons_193 : decode cX11_reckons 193 = .ok (.getfield 30, 3) := by decide +kernel
theorem dX11_reckons_196 : decode cX11_reckons 196 = .ok (.iload 5, 2) := by decide +kernel
theorem dX11_reckons_198 : decode cX11_reckons 198 = .ok (.iconst 1, 1) := by decide +kernel
theorem dX11_reckons_199 : decode cX11_reckons 199 = .ok (.isub, 1) := by decide +kernel
theorem dX11_reckons_200 : decode cX11_reckons 200 = .ok (.iload 7, 2) := by decide +kernel
theorem dX11_reckons_202 : decode cX11_reckons 202 = .ok (.aload_n 0, 1) := by decide +kernel
theorem dX11_reckons_203 : decode cX11_reckons 203 = .ok (.getfield 30, 3) := by decide +kernel
theorem dX11_reckons_206 : decode cX11_reckons 206 = .ok (.iload 5, 2) := by decide +kernel
theorem dX11_reckons_208 : decode cX11_reckons 208 = .ok (.iconst 1, 1) := by decide +kernel
theorem dX11_reckons_209 : decode cX11_reckons 209 = .ok (.isub, 1) := by decide +kernel
theorem dX11_reckons_210 : decode cX11_reckons 210 = .ok (.iaload, 1) := by decide +kernel
theorem dX11_reckons_211 : decode cX11_reckons 211 = .ok (.aload_n 0, 1) := by decide +kernel
theorem dX11_reckons_212 : decode cX11_reckons 212 = .ok (.getfield 30, 3) := by decide +kernel
theorem dX11_reckons_215 : decode cX11_reckons 215 = .ok (.iload 5, 2) := by decide +kernel
theorem dX11_reckons_217 : decode cX11_reckons 217 = .ok (.iaload, 1) := by decide +kernel
theorem dX11_reckons_218 : decode cX11_reckons 218 = .ok (.invokestatic 241, 3) := by decide +kernel
theorem dX11_reckons_221 : decode cX11_reckons 221 = .ok (.iastore, 1) := by decide +kernel
theorem dX11_reckons_222 : decode cX11_reckons 222 = .ok (.iinc 6 1, 3) := by decide +kernel
theorem dX11_reckons_225 : decode cX11_reckons 225 = .ok (.goto (-149), 3) := by decide +kernel
theorem dX11_reckons_228 : decode cX11_reckons 228 = .ok (.aload_n 0, 1) := by decide +kernel
theorem dX11_reckons_229 : decode cX11_reckons 229 = .ok (.getfield 30, 3) := by decide +kernel
theorem dX11_reckons_232 : decode cX11_reckons 232 = .ok (.iconst 0, 1) := by decide +kernel
theorem dX11_reckons_233 : decode cX11_reckons 233 = .ok (.iaload, 1) := by decide +kernel
theorem dX11_reckons_234 : decode cX11_reckons 234 = .ok (.iconst 1, 1) := by decide +kernel
theorem dX11_reckons_235 : decode cX11_reckons 235 = .ok (.if_icmp .ne 7, 3) := by decide +kernel
theorem dX11_reckons_238 : decode cX11_reckons 238 = .ok (.iconst 1, 1) := by decide +kernel
theorem dX11_reckons_239 : decode cX11_reckons 239 = .ok (.goto 4, 3) := by decide +kernel
theorem dX11_reckons_242 : decode cX11_reckons 242 = .ok (.iconst 0, 1) := by decide +kernel
theorem dX11_reckons_243 : decode cX11_reckons 243 = .ok (.ireturn, 1) := by decide +kernel
theorem dX11_hasNeeds_0 : decode cX11_hasNeeds 0 = .ok (.aload_n 0, 1) := by decide +kernel
theorem dX11_hasNeeds_1 : decode cX11_hasNeeds 1 = .ok (.getfield 13, 3) := by decide +kernel
theorem dX11_hasNeeds_4 : decode cX11_hasNeeds 4 = .ok (.bipush 50, 2) := by decide +kernel
theorem dX11_hasNeeds_6 : decode cX11_hasNeeds 6 = .ok (.iload_n 2, 1) := by decide +kernel
theorem dX11_hasNeeds_7 : decode cX11_hasNeeds 7 = .ok (.iadd, 1) := by decide +kernel
theorem dX11_hasNeeds_8 : decode cX11_hasNeeds 8 = .ok (.iaload, 1) := by decide +kernel
theorem dX11_hasNeeds_9 : decode cX11_hasNeeds 9 = .ok (.aload_n 0, 1) := by decide +kernel
theorem dX11_hasNeeds_10 : decode cX11_hasNeeds 10 = .ok (.iload_n 1, 1) := by decide +kernel
theorem dX11_hasNeeds_11 : decode cX11_hasNeeds 11 = .ok (.invokevirtual 245, 3) := by decide +kernel
theorem dX11_hasNeeds_14 : decode cX11_hasNeeds 14 = .ok (.iconst (-1), 1) := by decide +kernel
theorem dX11_hasNeeds_15 : decode cX11_hasNeeds 15 = .ok (.ixor, 1) := by decide +kernel
theorem dX11_hasNeeds_16 : decode cX11_hasNeeds 16 = .ok (.iand, 1) := by decide +kernel
theorem dX11_hasNeeds_17 : decode cX11_hasNeeds 17 = .ok (.ifCond .ne 7, 3) := by decide +kernel
theorem dX11_hasNeeds_20 : decode cX11_hasNeeds 20 = .ok (.iconst 1, 1) := by decide +kernel
theorem dX11_hasNeeds_21 : decode cX11_hasNeeds 21 = .ok (.goto 4, 3) := by decide +kernel
theorem dX11_hasNeeds_24 : decode cX11_hasNeeds 24 = .ok (.iconst 0, 1) := by decide +kernel
theorem dX11_hasNeeds_25 : decode cX11_hasNeeds 25 = .ok (.ireturn, 1) := by decide +kernel
theorem dX11_isDone_0 : decode cX11_isDone 0 = .ok (.iload_n 0, 1) := by decide +kernel
theorem dX11_isDone_1 : decode cX11_isDone 1 = .ok (.iload_n 1, 1) := by decide +kernel
theorem dX11_isDone_2 : decode cX11_isDone 2 = .ok (.invokestatic 215, 3) := by decide +kernel
theorem dX11_isDone_5 : decode cX11_isDone 5 = .ok (.iconst 1, 1) := by decide +kernel
theorem dX11_isDone_6 : decode cX11_isDone 6 = .ok (.if_icmp .eq 12, 3) := by decide +kernel
theorem dX11_isDone_9 : decode cX11_isDone 9 = .ok (.iload_n 0, 1) := by decide +kernel
theorem dX11_isDone_10 : decode cX11_isDone 10 = .ok (.iload_n 1, 1) := by decide +kernel
theorem dX11_isDone_11 : decode cX11_isDone 11 = .ok (.invokestatic 215, 3) := by decide +kernel
theorem dX11_isDone_14 : decode cX11_isDone 14 = .ok (.iconst 2, 1) := by decide +kernel
theorem dX11_isDone_15 : decode cX11_isDone 15 = .ok (.if_icmp .ne 7, 3) := by decide +kernel
theorem dX11_isDone_18 : decode cX11_isDone 18 = .ok (.iconst 1, 1) := by decide +kernel
theorem dX11_isDone_19 : decode cX11_isDone 19 = .ok (.goto 4, 3) := by decide +kernel
theorem dX11_isDone_22 : decode cX11_isDone 22 = .ok (.iconst 0, 1) := by decide +kernel
theorem dX11_isDone_23 : decode cX11_isDone 23 = .ok (.ireturn, 1) := by decide +kernel
theorem dX11_doneTo_0 : decode cX11_doneTo 0 = .ok (.iload_n 1, 1) := by decide +kernel
theorem dX11_doneTo_1 : decode cX11_doneTo 1 = .ok (.iload_n 2, 1) := by decide +kernel
theorem dX11_doneTo_2 : decode cX11_doneTo 2 = .ok (.iconst 0, 1) := by decide +kernel
theorem dX11_doneTo_3 : decode cX11_doneTo 3 = .ok (.invokestatic 248, 3) := by decide +kernel
theorem dX11_doneTo_6 : decode cX11_doneTo 6 = .ok (.istore_n 3, 1) := by decide +kernel
theorem dX11_doneTo_7 : decode cX11_doneTo 7 = .ok (.aload_n 0, 1) := by decide +kernel
theorem dX11_doneTo_8 : decode cX11_doneTo 8 = .ok (.getfield 13, 3) := by decide +kernel
theorem dX11_doneTo_11 : decode cX11_doneTo 11 = .ok (.bipush 10, 2) := by decide +kernel
theorem dX11_doneTo_13 : decode cX11_doneTo 13 = .ok (.iload_n 2, 1) := by decide +kernel
theorem dX11_doneTo_14 : decode cX11_doneTo 14 = .ok (.iadd, 1) := by decide +kernel
theorem dX11_doneTo_15 : decode cX11_doneTo 15 = .ok (.iaload, 1) := by decide +kernel
theorem dX11_doneTo_16 : decode cX11_doneTo 16 = .ok (.aload_n 0, 1) := by decide +kernel
theorem dX11_doneTo_17 : decode cX11_doneTo 17 = .ok (.iload_n 3, 1) := by decide +kernel
theorem dX11_doneTo_18 : decode cX11_doneTo 18 = .ok (.invokevirtual 238, 3) := by decide +kernel
theorem dX11_doneTo_21 : decode cX11_doneTo 21 = .ok (.if_icmp .gt 33, 3) := by decide +kernel
theorem dX11_doneTo_24 : decode cX11_doneTo 24 = .ok (.aload_n 0, 1) := by decide +kernel
theorem dX11_doneTo_25 : decode cX11_doneTo 25 = .ok (.getfield 13, 3) := by decide +kernel
theorem dX11_doneTo_28 : decode cX11_doneTo 28 = .ok (.iconst 4, 1) := by decide +kernel
theorem dX11_doneTo_29 : decode cX11_doneTo 29 = .ok (.iaload, 1) := by decide +kernel
theorem dX11_doneTo_30 : decode cX11_doneTo 30 = .ok (.ifCond .eq 20, 3) := by decide +kernel
theorem dX11_doneTo_33 : decode cX11_doneTo 33 = .ok (.aload_n 0, 1) := by decide +kernel
theorem dX11_doneTo_34 : decode cX11_doneTo 34 = .ok (.iconst 0, 1) := by decide +kernel
theorem dX11_doneTo_35 : decode cX11_doneTo 35 = .ok (.iload_n 3, 1) := by decide +kernel
theorem dX11_doneTo_36 : decode cX11_doneTo 36 = .ok (.iload_n 2, 1) := by decide +kernel
theorem dX11_doneTo_37 : decode cX11_doneTo 37 = .ok (.aload_n 0, 1) := by decide +kernel
theorem dX11_doneTo_38 : decode cX11_doneTo 38 = .ok (.getfield 13, 3) := by decide +kernel
theorem dX11_doneTo_41 : decode cX11_doneTo 41 = .ok (.bipush 82, 2) := by decide +kernel
theorem dX11_doneTo_43 : decode cX11_doneTo 43 = .ok (.iaload, 1) := by decide +kernel
theorem dX11_doneTo_44 : decode cX11_doneTo 44 = .ok (.invokevirtual 251, 3) := by decide +kernel
theorem dX11_doneTo_47 : decode cX11_doneTo 47 = .ok (.ifCond .eq 7, 3) := by decide +kernel
theorem dX11_doneTo_50 : decode cX11_doneTo 50 = .ok (.iconst 1, 1) := by decide +kernel
theorem dX11_doneTo_51 : decode cX11_doneTo 51 = .ok (.goto 4, 3) := by decide +kernel
theorem dX11_doneTo_54 : decode cX11_doneTo 54 = .ok (.iconst 0, 1) := by decide +kernel
theorem dX11_doneTo_55 : decode cX11_doneTo 55 = .ok (.istore 4, 2) := by decide +kernel
theorem dX11_doneTo_57 : decode cX11_doneTo 57 = .ok (.iload_n 3, 1) := by decide +kernel
theorem dX11_doneTo_58 : decode cX11_doneTo 58 = .ok (.iload_n 2, 1) := by decide +kernel
theorem dX11_doneTo_59 : decode cX11_doneTo 59 = .ok (.iload 4, 2) := by decide +kernel
theorem dX11_doneTo_61 : decode cX11_doneTo 61 = .ok (.ifCond .eq 7, 3) := by decide +kernel
theorem dX11_doneTo_64 : decode cX11_doneTo 64 = .ok (.iconst 1, 1) := by decide +kernel
theorem dX11_doneTo_65 : decode cX11_doneTo 65 = .ok (.goto 4, 3) := by decide +kernel
theorem dX11_doneTo_68 : decode cX11_doneTo 68 = .ok (.iconst 2, 1) := by decide +kernel
theorem dX11_doneTo_69 : decode cX11_doneTo 69 = .ok (.invokestatic 248, 3) := by decide +kernel
theorem dX11_doneTo_72 : decode cX11_doneTo 72 = .ok (.ireturn, 1) := by decide +kernel
theorem dX11_droppedTo_0 : decode cX11_droppedTo 0 = .ok (.iload_n 0, 1) := by decide +kernel
theorem dX11_droppedTo_1 : decode cX11_droppedTo 1 = .ok (.iload_n 1, 1) := by decide +kernel
theorem dX11_droppedTo_2 : decode cX11_droppedTo 2 = .ok (.iload_n 0, 1) := by decide +kernel
theorem dX11_droppedTo_3 : decode cX11_droppedTo 3 = .ok (.iload_n 1, 1) := by decide +kernel
theorem dX11_droppedTo_4 : decode cX11_droppedTo 4 = .ok (.invokestatic 215, 3) := by decide +kernel
theorem dX11_droppedTo_7 : decode cX11_droppedTo 7 = .ok (.iconst 1, 1) := by decide +kernel
theorem dX11_droppedTo_8 : decode cX11_droppedTo 8 = .ok (.if_icmp .ne 7, 3) := by decide +kernel
theorem dX11_droppedTo_11 : decode cX11_droppedTo 11 = .ok (.iconst 2, 1) := by decide +kernel
theorem dX11_droppedTo_12 : decode cX11_droppedTo 12 = .ok (.goto 4, 3) := by decide +kernel
theorem dX11_droppedTo_15 : decode cX11_droppedTo 15 = .ok (.iconst 0, 1) := by decide +kernel
theorem dX11_droppedTo_16 : decode cX11_droppedTo 16 = .ok (.invokestatic 248, 3) := by decide +kernel
theorem dX11_droppedTo_19 : decode cX11_droppedTo 19 = .ok (.ireturn, 1) := by decide +kernel
theorem dX11_passesBy_0 : decode cX11_passesBy 0 = .ok (.aload_n 0, 1) := by decide +kernel
theorem dX11_passesBy_1 : decode cX11_passesBy 1 = .ok (.getfield 13, 3) := by decide +kernel
theorem dX11_passesBy_4 : decode cX11_passesBy 4 = .ok (.iconst 5, 1) := by decide +kernel
theorem dX11_passesBy_5 : decode cX11_passesBy 5 = .ok (.iaload, 1) := by decide +kernel
theorem dX11_passesBy_6 : decode cX11_passesBy 6 = .ok (.iconst 1, 1) := by decide +kernel
theorem dX11_passesBy_7 : decode cX11_passesBy 7 = .ok (.if_icmp .ne 18, 3) := by decide +kernel
theorem dX11_passesBy_10 : decode cX11_passesBy 10 = .ok (.aload_n 0, 1) := by decide +kernel
theorem dX11_passesBy_11 : decode cX11_passesBy 11 = .ok (.iconst 1, 1) := by decide +kernel
theorem dX11_passesBy_12 : decode cX11_passesBy 12 = .ok (.iload_n 1, 1) := by decide +kernel
theorem dX11_passesBy_13 : decode cX11_passesBy 13 = .ok (.iload_n 2, 1) := by decide +kernel
theorem dX11_passesBy_14 : decode cX11_passesBy 14 = .ok (.iload_n 3, 1) := by decide +kernel
theorem dX11_passesBy_15 : decode cX11_passesBy 15 = .ok (.invokevirtual 251, 3) := by decide +kernel
theorem dX11_passesBy_18 : decode cX11_passesBy 18 = .ok (.ifCond .eq 7, 3) := by decide +kernel
theorem dX11_passesBy_21 : decode cX11_passesBy 21 = .ok (.iconst 1, 1) := by decide +kernel
theorem dX11_passesBy_22 : decode cX11_passesBy 22 = .ok (.goto 4, 3) := by decide +kernel
theorem dX11_passesBy_25 : decode cX11_passesBy 25 = .ok (.iconst 0, 1) := by decide +kernel
theorem dX11_passesBy_26 : decode cX11_passesBy 26 = .ok (.ireturn, 1) := by decide +kernel
theorem dX11_backOf_0 : decode cX11_backOf 0 = .ok (.iconst 1, 1) := by decide +kernel
theorem dX11_backOf_1 : decode cX11_backOf 1 = .ok (.iload_n 2, 1) := by decide +kernel
theorem dX11_backOf_2 : decode cX11_backOf 2 = .ok (.ishl, 1) := by decide +kernel
theorem dX11_backOf_3 : decode cX11_backOf 3 = .ok (.istore_n 3, 1) := by decide +kernel
theorem dX11_backOf_4 : decode cX11_backOf 4 = .ok (.iload_n 2, 1) := by decide +kernel
theorem dX11_backOf_5 : decode cX11_backOf 5 = .ok (.iconst 1, 1) := by decide +kernel
theorem dX11_backOf_6 : decode cX11_backOf 6 = .ok (.iadd, 1) := by decide +kernel
theorem dX11_backOf_7 : decode cX11_backOf 7 = .ok (.istore 4, 2) := by decide +kernel
theorem dX11_backOf_9 : decode cX11_backOf 9 = .ok (.iload 4, 2) := by decide +kernel
theorem dX11_backOf_11 : decode cX11_backOf 11 = .ok (.aload_n 0, 1) := by decide +kernel
theorem dX11_backOf_12 : decode cX11_backOf 12 = .ok (.getfield 13, 3) := by decide +kernel
theorem dX11_backOf_15 : decode cX11_backOf 15 = .ok (.iconst 1, 1) := by decide +kernel
theorem dX11_backOf_16 : decode cX11_backOf 16 = .ok (.iaload, 1) := by decide +kernel
theorem dX11_backOf_17 : decode cX11_backOf 17 = .ok (.if_icmp .ge 40, 3) := by decide +kernel
theorem dX11_backOf_20 : decode cX11_backOf 20 = .ok (.iload_n 1, 1) := by decide +kernel
theorem dX11_backOf_21 : decode cX11_backOf 21 = .ok (.iload 4, 2) := by decide +kernel
theorem dX11_backOf_23 : decode cX11_backOf 23 = .ok (.invokestatic 255, 3) := by decide +kernel
theorem dX11_backOf_26 : decode cX11_backOf 26 = .ok (.ifCond .eq 25, 3) := by decide +kernel
theorem dX11_backOf_29 : decode cX11_backOf 29 = .ok (.aload_n 0, 1) := by decide +kernel
theorem dX11_backOf_30 : decode cX11_backOf 30 = .ok (.getfield 13, 3) := by decide +kernel
theorem dX11_backOf_33 : decode cX11_backOf 33 = .ok (.bipush 50, 2) := by decide +kernel
theorem dX11_backOf_35 : decode cX11_backOf 35 = .ok (.iload 4, 2) := by decide +kernel
theorem dX11_backOf_37 : decode cX11_backOf 37 = .ok (.iadd, 1) := by decide +kernel
theorem dX11_backOf_38 : decode cX11_backOf 38 = .ok (.iaload, 1) := by decide +kernel
theorem dX11_backOf_39 : decode cX11_backOf 39 = .ok (.iload_n 3, 1) := by decide +kernel
theorem dX11_backOf_40 : decode cX11_backOf 40 = .ok (.iand, 1) := by decide +kernel
theorem dX11_backOf_41 : decode cX11_backOf 41 = .ok (.ifCond .eq 10, 3) := by decide +kernel
theorem dX11_backOf_44 : decode cX11_backOf 44 = .ok (.iload_n 3, 1) := by decide +kernel
theorem dX11_backOf_45 : decode cX11_backOf 45 = .ok (.iconst 1, 1) := by decide +kernel
theorem dX11_backOf_46 : decode cX11_backOf 46 = .ok (.iload 4, 2) := by decide +kernel
theorem dX11_backOf_48 : decode cX11_backOf 48 = .ok (.ishl, 1) := by decide +kernel
theorem dX11_backOf_49 : decode cX11_backOf 49 = .ok (.ior, 1) := by decide +kernel
theorem dX11_backOf_50 : decode cX11_backOf 50 = .ok (.istore_n 3, 1) := by decide +kernel
theorem dX11_backOf_51 : decode cX11_backOf 51 = .ok (.iinc 4 1, 3) := by decide +kernel
theorem dX11_backOf_54 : decode cX11_backOf 54 = .ok (.goto (-45), 3) := by decide +kernel
theorem dX11_backOf_57 : decode cX11_backOf 57 = .ok (.iload_n 3, 1) := by decide +kernel
theorem dX11_backOf_58 : decode cX11_backOf 58 = .ok (.ireturn, 1) := by decide +kernel
theorem dX11_askedOf_0 : decode cX11_askedOf 0 = .ok (.iload_n 1, 1) := by decide +kernel
theorem dX11_askedOf_1 : decode cX11_askedOf 1 = .ok (.iload_n 2, 1) := by decide +kernel
theorem dX11_askedOf_2 : decode cX11_askedOf 2 = .ok (.invokestatic 215, 3) := by decide +kernel
theorem dX11_askedOf_5 : decode cX11_askedOf 5 = .ok (.istore_n 3, 1) := by decide +kernel
theorem dX11_askedOf_6 : decode cX11_askedOf 6 = .ok (.iload_n 3, 1) := by decide +kernel
theorem dX11_askedOf_7 : decode cX11_askedOf 7 = .ok (.iconst 1, 1) := by decide +kernel
theorem dX11_askedOf_8 : decode cX11_askedOf 8 = .ok (.if_icmp .eq 28, 3) := by decide +kernel
theorem dX11_askedOf_11 : decode cX11_askedOf 11 = .ok (.iload_n 3, 1) := by decide +kernel
theorem dX11_askedOf_12 : decode cX11_askedOf 12 = .ok (.ifCond .eq 24, 3) := by decide +kernel
theorem dX11_askedOf_15 : decode cX11_askedOf 15 = .ok (.iload_n 3, 1) := by decide +kernel
theorem dX11_askedOf_16 : decode cX11_askedOf 16 = .ok (.iconst 3, 1) := by decide +kernel
theorem dX11_askedOf_17 : decode cX11_askedOf 17 = .ok (.if_icmp .ne 21, 3) := by decide +kernel
theorem dX11_askedOf_20 : decode cX11_askedOf 20 = .ok (.aload_n 0, 1) := by decide +kernel
theorem dX11_askedOf_21 : decode cX11_askedOf 21 = .ok (.iload_n 1, 1) := by decide +kernel
theorem dX11_askedOf_22 : decode cX11_askedOf 22 = .ok (.iload_n 2, 1) := by decide +kernel
theorem dX11_askedOf_23 : decode cX11_askedOf 23 = .ok (.aload_n 0, 1) := by decide +kernel
theorem dX11_askedOf_24 : decode cX11_askedOf 24 = .ok (.getfield 13, 3) := by decide +kernel
theorem dX11_askedOf_27 : decode cX11_askedOf 27 = .ok (.bipush 82, 2) := by decide +kernel
theorem dX11_askedOf_29 : decode cX11_askedOf 29 = .ok (.iaload, 1) := by decide +kernel
theorem dX11_askedOf_30 : decode cX11_askedOf 30 = .ok (.invokevirtual 259, 3) := by decide +kernel
theorem dX11_askedOf_33 : decode cX11_askedOf 33 = .ok (.ifCond .eq 5, 3) := by decide +kernel
theorem dX11_askedOf_36 : decode cX11_askedOf 36 = .ok (.iconst 0, 1) := by decide +kernel
theorem dX11_askedOf_37 : decode cX11_askedOf 37 = .ok (.ireturn, 1) := by decide +kernel
theorem dX11_askedOf_38 : decode cX11_askedOf 38 = .ok (.aload_n 0, 1) := by decide +kernel
theorem dX11_askedOf_39 : decode cX11_askedOf 39 = .ok (.iload_n 1, 1) := by decide +kernel
theorem dX11_askedOf_40 : decode cX11_askedOf 40 = .ok (.iload_n 2, 1) := by decide +kernel
theorem dX11_askedOf_41 : decode cX11_askedOf 41 = .ok (.invokevirtual 263, 3) := by decide +kernel
theorem dX11_askedOf_44 : decode cX11_askedOf 44 = .ok (.ireturn, 1) := by decide +kernel
theorem dX11_opened_0 : decode cX11_opened 0 = .ok (.iload_n 0, 1) := by decide +kernel
theorem dX11_opened_1 : decode cX11_opened 1 = .ok (.istore_n 2, 1) := by decide +kernel
theorem dX11_opened_2 : decode cX11_opened 2 = .ok (.iconst 0, 1) := by decide +kernel
theorem dX11_opened_3 : decode cX11_opened 3 = .ok (.istore_n 3, 1) := by decide +kernel
theorem dX11_opened_4 : decode cX11_opened 4 = .ok (.iload_n 3, 1) := by decide +kernel
theorem dX11_opened_5 : decode cX11_opened 5 = .ok (.bipush 8, 2) := by decide +kernel
theorem dX11_opened_7 : decode cX11_opened 7 = .ok (.if_icmp .ge 25, 3) := by decide +kernel
theorem dX11_opened_10 : decode cX11_opened 10 = .ok (.iload_n 1, 1) := by decide +kernel
theorem dX11_opened_11 : decode cX11_opened 11 = .ok (.i2l, 1) := by decide +kernel
theorem dX11_opened_12 : decode cX11_opened 12 = .ok (.iload_n 3, 1) := by decide +kernel
theorem dX11_opened_13 : decode cX11_opened 13 = .ok (.invokestatic 221, 3) := by decide +kernel
theorem dX11_opened_16 : decode cX11_opened 16 = .ok (.ifCond .eq 10, 3) := by decide +kernel
theorem dX11_opened_19 : decode cX11_opened 19 = .ok (.iload_n 2, 1) := by decide +kernel
theorem dX11_opened_20 : decode cX11_opened 20 = .ok (.iload_n 3, 1) := by decide +kernel
theorem dX11_opened_21 : decode cX11_opened 21 = .ok (.iconst 0, 1) := by decide +kernel
theorem dX11_opened_22 : decode cX11_opened 22 = .ok (.invokestatic 248, 3) := by decide +kernel
theorem dX11_opened_25 : decode cX11_opened 25 = .ok (.istore_n 2, 1) := by decide +kernel
theorem dX11_opened_26 : decode cX11_opened 26 = .ok (.iinc 3 1, 3) := by decide +kernel
theorem dX11_opened_29 : decode cX11_opened 29 = .ok (.goto (-25), 3) := by decide +kernel
theorem dX11_opened_32 : decode cX11_opened 32 = .ok (.iload_n 2, 1) := by decide +kernel
theorem dX11_opened_33 : decode cX11_opened 33 = .ok (.ireturn, 1) := by decide +kernel
theorem dX11_doing_0 : decode cX11_doing 0 = .ok (.aload_n 0, 1) := by decide +kernel
theorem dX11_doing_1 : decode cX11_doing 1 = .ok (.iconst 0, 1) := by decide +kernel
theorem dX11_doing_2 : decode cX11_doing 2 = .ok (.putfield 1, 3) := by decide +kernel
theorem dX11_doing_5 : decode cX11_doing 5 = .ok (.aload_n 0, 1) := by decide +kernel
theorem dX11_doing_6 : decode cX11_doing 6 = .ok (.iload_n 1, 1) := by decide +kernel
theorem dX11_doing_7 : decode cX11_doing 7 = .ok (.i2l, 1) := by decide +kernel
theorem dX11_doing_8 : decode cX11_doing 8 = .ok (.invokevirtual 266, 3) := by decide +kernel
theorem dX11_doing_11 : decode cX11_doing 11 = .ok (.ifCond .ne 6, 3) := by decide +kernel
theorem dX11_doing_14 : decode cX11_doing 14 = .ok (.bipush (-2), 2) := by decide +kernel
theorem dX11_doing_16 : decode cX11_doing 16 = .ok (.ireturn, 1) := by decide +kernel
theorem dX11_doing_17 : decode cX11_doing 17 = .ok (.iload_n 2, 1) := by decide +kernel
theorem dX11_doing_18 : decode cX11_doing 18 = .ok (.tableswitch 126 0 7 #[46, 56, 66, 76, 86, 96, 106, 116], 46) := by decide +kernel
theorem dX11_doing_64 : decode cX11_doing 64 = .ok (.aload_n 0, 1) := by decide +kernel
theorem dX11_doing_65 : decode cX11_doing 65 = .ok (.getfield 13, 3) := by decide +kernel
theorem dX11_doing_68 : decode cX11_doing 68 = .ok (.bipush 74, 2) := by decide +kernel
theorem dX11_doing_70 : decode cX11_doing 70 = .ok (.iload_n 1, 1) := by decide +kernel
theorem dX11_doing_71 : decode cX11_doing 71 = .ok (.iadd, 1) := by decide +kernel
theorem dX11_doing_72 : decode cX11_doing 72 = .ok (.iaload, 1) := by decide +kernel
theorem dX11_doing_73 : decode cX11_doing 73 = .ok (.ireturn, 1) := by decide +kernel
theorem dX11_doing_74 : decode cX11_doing 74 = .ok (.aload_n 0, 1) := by decide +kernel
theorem dX11_doing_75 : decode cX11_doing 75 = .ok (.getfield 13, 3) := by decide +kernel
theorem dX11_doing_78 : decode cX11_doing 78 = .ok (.bipush 10, 2) := by decide +kernel
theorem dX11_doing_80 : decode cX11_doing 80 = .ok (.iload_n 1, 1) := by decide +kernel
theorem dX11_doing_81 : decode cX11_doing 81 = .ok (.iadd, 1) := by decide +kernel
theorem dX11_doing_82 : decode cX11_doing 82 = .ok (.iaload, 1) := by decide +kernel
theorem dX11_doing_83 : decode cX11_doing 83 = .ok (.ireturn, 1) := by decide +kernel
theorem dX11_doing_84 : decode cX11_doing 84 = .ok (.aload_n 0, 1) := by decide +kernel
theorem dX11_doing_85 : decode cX11_doing 85 = .ok (.getfield 13, 3) := by decide +kernel
theorem dX11_doing_88 : decode cX11_doing 88 = .ok (.bipush 18, 2) := by decide +kernel
theorem dX11_doing_90 : decode cX11_doing 90 = .ok (.iload_n 1, 1) := by decide +kernel
theorem dX11_doing_91 : decode cX11_doing 91 = .ok (.iadd, 1) := by decide +kernel
theorem dX11_doing_92 : decode cX11_doing 92 = .ok (.iaload, 1) := by decide +kernel
theorem dX11_doing_93 : decode cX11_doing 93 = .ok (.ireturn, 1) := by decide +kernel
theorem dX11_doing_94 : decode cX11_doing 94 = .ok (.aload_n 0, 1) := by decide +kernel
theorem dX11_doing_95 : decode cX11_doing 95 = .ok (.getfield 13, 3) := by decide +kernel
theorem dX11_doing_98 : decode cX11_doing 98 = .ok (.bipush 26, 2) := by decide +kernel
theorem dX11_doing_100 : decode cX11_doing 100 = .ok (.iload_n 1, 1) := by decide +kernel
theorem dX11_doing_101 : decode cX11_doing 101 = .ok (.iadd, 1) := by decide +kernel
theorem dX11_doing_102 : decode cX11_doing 102 = .ok (.iaload, 1) := by decide +kernel
theorem dX11_doing_103 : decode cX11_doing 103 = .ok (.ireturn, 1) := by decide +kernel
theorem dX11_doing_104 : decode cX11_doing 104 = .ok (.aload_n 0, 1) := by decide +kernel
theorem dX11_doing_105 : decode cX11_doing 105 = .ok (.getfield 13, 3) := by decide +kernel
theorem dX11_doing_108 : decode cX11_doing 108 = .ok (.bipush 34, 2) := by decide +kernel
theorem dX11_doing_110 : decode cX11_doing 110 = .ok (.iload_n 1, 1) := by decide +kernel
theorem dX11_doing_111 : decode cX11_doing 111 = .ok (.iadd, 1) := by decide +kernel
theorem dX11_doing_112 : decode cX11_doing 112 = .ok (.iaload, 1) := by decide +kernel
theorem dX11_doing_113 : decode cX11_doing 113 = .ok (.ireturn, 1) := by decide +kernel
theorem dX11_doing_114 : decode cX11_doing 114 = .ok (.aload_n 0, 1) := by decide +kernel
theorem dX11_doing_115 : decode cX11_doing 115 = .ok (.getfield 13, 3) := by decide +kernel
theorem dX11_doing_118 : decode cX11_doing 118 = .ok (.bipush 42, 2) := by decide +kernel
theorem dX11_doing_120 : decode cX11_doing 120 = .ok (.iload_n 1, 1) := by decide +kernel
theorem dX11_doing_121 : decode cX11_doing 121 = .ok (.iadd, 1) := by decide +kernel
theorem dX11_doing_122 : decode cX11_doing 122 = .ok (.iaload, 1) := by decide +kernel
theorem dX11_doing_123 : decode cX11_doing 123 = .ok (.ireturn, 1) := by decide +kernel
theorem dX11_doing_124 : decode cX11_doing 124 = .ok (.aload_n 0, 1) := by decide +kernel
theorem dX11_doing_125 : decode cX11_doing 125 = .ok (.getfield 13, 3) := by decide +kernel
theorem dX11_doing_128 : decode cX11_doing 128 = .ok (.bipush 50, 2) := by decide +kernel
theorem dX11_doing_130 : decode cX11_doing 130 = .ok (.iload_n 1, 1) := by decide +kernel
theorem dX11_doing_131 : decode cX11_doing 131 = .ok (.iadd, 1) := by decide +kernel
theorem dX11_doing_132 : decode cX11_doing 132 = .ok (.iaload, 1) := by decide +kernel
theorem dX11_doing_133 : decode cX11_doing 133 = .ok (.ireturn, 1) := by decide +kernel
theorem dX11_doing_134 : decode cX11_doing 134 = .ok (.aload_n 0, 1) := by decide +kernel
theorem dX11_doing_135 : decode cX11_doing 135 = .ok (.getfield 13, 3) := by decide +kernel
theorem dX11_doing_138 : decode cX11_doing 138 = .ok (.bipush 58, 2) := by decide +kernel
theorem dX11_doing_140 : decode cX11_doing 140 = .ok (.iload_n 1, 1) := by decide +kernel
theorem dX11_doing_141 : decode cX11_doing 141 = .ok (.iadd, 1) := by decide +kernel
theorem dX11_doing_142 : decode cX11_doing 142 = .ok (.iaload, 1) := by decide +kernel
theorem dX11_doing_143 : decode cX11_doing 143 = .ok (.ireturn, 1) := by decide +kernel
theorem dX11_doing_144 : decode cX11_doing 144 = .ok (.bipush (-2), 2) := by decide +kernel
theorem dX11_doing_146 : decode cX11_doing 146 = .ok (.ireturn, 1) := by decide +kernel
theorem dX11_door_0 : decode cX11_door 0 = .ok (.aload_n 0, 1) := by decide +kernel
theorem dX11_door_1 : decode cX11_door 1 = .ok (.iconst 0, 1) := by decide +kernel
theorem dX11_door_2 : decode cX11_door 2 = .ok (.putfield 1, 3) := by decide +kernel
theorem dX11_door_5 : decode cX11_door 5 = .ok (.iload_n 1, 1) := by decide +kernel
theorem dX11_door_6 : decode cX11_door 6 = .ok (.i2l, 1) := by decide +kernel
theorem dX11_door_7 : decode cX11_door 7 = .ok (.lconst 0, 1) := by decide +kernel
theorem dX11_door_8 : decode cX11_door 8 = .ok (.aload_n 0, 1) := by decide +kernel
theorem dX11_door_9 : decode cX11_door 9 = .ok (.getfield 13, 3) := by decide +kernel
theorem dX11_door_12 : decode cX11_door 12 = .ok (.iconst 2, 1) := by decide +kernel
theorem dX11_door_13 : decode cX11_door 13 = .ok (.iaload, 1) := by decide +kernel
theorem dX11_door_14 : decode cX11_door 14 = .ok (.iconst 1, 1) := by decide +kernel
theorem dX11_door_15 : decode cX11_door 15 = .ok (.isub, 1) := by decide +kernel
theorem dX11_door_16 : decode cX11_door 16 = .ok (.i2l, 1) := by decide +kernel
theorem dX11_door_17 : decode cX11_door 17 = .ok (.invokestatic 150, 3) := by decide +kernel
theorem dX11_door_20 : decode cX11_door 20 = .ok (.ifCond .eq 15, 3) := by decide +kernel
theorem dX11_door_23 : decode cX11_door 23 = .ok (.aload_n 0, 1) := by decide +kernel
theorem dX11_door_24 : decode cX11_door 24 = .ok (.getfield 13, 3) := by decide +kernel
theorem dX11_door_27 : decode cX11_door 27 = .ok (.bipush 66, 2) := by decide +kernel
theorem dX11_door_29 : decode cX11_door 29 = .ok (.iload_n 1, 1) := by decide +kernel
theorem dX11_door_30 : decode cX11_door 30 = .ok (.iadd, 1) := by decide +kernel
theorem dX11_door_31 : decode cX11_door 31 = .ok (.iaload, 1) := by decide +kernel
theorem dX11_door_32 : decode cX11_door 32 = .ok (.goto 5, 3) := by decide +kernel
theorem dX11_door_35 : decode cX11_door 35 = .ok (.bipush (-2), 2) := by decide +kernel
theorem dX11_door_37 : decode cX11_door 37 = .ok (.ireturn, 1) := by decide +kernel
theorem dX11_putBack_0 : decode cX11_putBack 0 = .ok (.aload_n 0, 1) := by decide +kernel
theorem dX11_putBack_1 : decode cX11_putBack 1 = .ok (.iconst 0, 1) := by decide +kernel
theorem dX11_putBack_2 : decode cX11_putBack 2 = .ok (.putfield 1, 3) := by decide +kernel
theorem dX11_putBack_5 : decode cX11_putBack 5 = .ok (.aload_n 0, 1) := by decide +kernel
theorem dX11_putBack_6 : decode cX11_putBack 6 = .ok (.iload_n 1, 1) := by decide +kernel
theorem dX11_putBack_7 : decode cX11_putBack 7 = .ok (.i2l, 1) := by decide +kernel
theorem dX11_putBack_8 : decode cX11_putBack 8 = .ok (.invokevirtual 266, 3) := by decide +kernel
theorem dX11_putBack_11 : decode cX11_putBack 11 = .ok (.ifCond .ne 6, 3) := by decide +kernel
theorem dX11_putBack_14 : decode cX11_putBack 14 = .ok (.bipush (-2), 2) := by decide +kernel
theorem dX11_putBack_16 : decode cX11_putBack 16 = .ok (.ireturn, 1) := by decide +kernel
theorem dX11_putBack_17 : decode cX11_putBack 17 = .ok (.aload_n 0, 1) := by decide +kernel
theorem dX11_putBack_18 : decode cX11_putBack 18 = .ok (.invokevirtual 270, 3) := by decide +kernel
theorem dX11_putBack_21 : decode cX11_putBack 21 = .ok (.iload_n 1, 1) := by decide +kernel
theorem dX11_putBack_22 : decode cX11_putBack 22 = .ok (.invokestatic 255, 3) := by decide +kernel
theorem dX11_putBack_25 : decode cX11_putBack 25 = .ok (.ifCond .eq 15, 3) := by decide +kernel
theorem dX11_putBack_28 : decode cX11_putBack 28 = .ok (.aload_n 0, 1) := by decide +kernel
theorem dX11_putBack_29 : decode cX11_putBack 29 = .ok (.aload_n 0, 1) := by decide +kernel
theorem dX11_putBack_30 : decode cX11_putBack 30 = .ok (.invokevirtual 270, 3) := by decide +kernel
theorem dX11_putBack_33 : decode cX11_putBack 33 = .ok (.iload_n 1, 1) := by decide +kernel
theorem dX11_putBack_34 : decode cX11_putBack 34 = .ok (.invokevirtual 263, 3) := by decide +kernel
theorem dX11_putBack_37 : decode cX11_putBack 37 = .ok (.goto 5, 3) := by decide +kernel
theorem dX11_putBack_40 : decode cX11_putBack 40 = .ok (.bipush (-5), 2) := by decide +kernel
theorem dX11_putBack_42 : decode cX11_putBack 42 = .ok (.ireturn, 1) := by decide +kernel
theorem dX11_open_0 : decode cX11_open 0 = .ok (.aload_n 0, 1) := by decide +kernel
theorem dX11_open_1 : decode cX11_open 1 = .ok (.iconst 0, 1) := by decide +kernel
theorem dX11_open_2 : decode cX11_open 2 = .ok (.putfield 1, 3) := by decide +kernel
theorem dX11_open_5 : decode cX11_open 5 = .ok (.iconst 0, 1) := by decide +kernel
theorem dX11_open_6 : decode cX11_open 6 = .ok (.istore_n 1, 1) := by decide +kernel
theorem dX11_open_7 : decode cX11_open 7 = .ok (.iconst 0, 1) := by decide +kernel
theorem dX11_open_8 : decode cX11_open 8 = .ok (.istore_n 2, 1) := by decide +kernel
theorem dX11_open_9 : decode cX11_open 9 = .ok (.iload_n 2, 1) := by decide +kernel
theorem dX11_open_10 : decode cX11_open 10 = .ok (.aload_n 0, 1) := by decide +kernel
theorem dX11_open_11 : decode cX11_open 11 = .ok (.getfield 13, 3) := by decide +kernel
theorem dX11_open_14 : decode cX11_open 14 = .ok (.iconst 1, 1) := by decide +kernel
theorem dX11_open_15 : decode cX11_open 15 = .ok (.iaload, 1) := by decide +kernel
theorem dX11_open_16 : decode cX11_open 16 = .ok (.if_icmp .ge 42, 3) := by decide +kernel
theorem dX11_open_19 : decode cX11_open 19 = .ok (.iload_n 1, 1) := by decide +kernel
theorem dX11_open_20 : decode cX11_open 20 = .ok (.aload_n 0, 1) := by decide +kernel
theorem dX11_open_21 : decode cX11_open 21 = .ok (.invokevirtual 270, 3) := by decide +kernel
theorem dX11_open_24 : decode cX11_open 24 = .ok (.iload_n 2, 1) := by decide +kernel
theorem dX11_open_25 : decode cX11_open 25 = .ok (.invokestatic 255, 3) := by decide +kernel
theorem dX11_open_28 : decode cX11_open 28 = .ok (.ifCond .ne 21, 3) := by decide +kernel
theorem dX11_open_31 : decode cX11_open 31 = .ok (.aload_n 0, 1) := by decide +kernel
theorem dX11_open_32 : decode cX11_open 32 = .ok (.aload_n 0, 1) := by decide +kernel
theorem dX11_open_33 : decode cX11_open 33 = .ok (.invokevirtual 270, 3) := by decide +kernel
theorem dX11_open_36 : decode cX11_open 36 = .ok (.iload_n 2, 1) := by decide +kernel
theorem dX11_open_37 : decode cX11_open 37 = .ok (.invokevirtual 273, 3) := by decide +kernel
theorem dX11_open_40 : decode cX11_open 40 = .ok (.ifCond .eq 9, 3) := by decide +kernel
theorem dX11_open_43 : decode cX11_open 43 = .ok (.iconst 1, 1) := by decide +kernel
theorem dX11_open_44 : decode cX11_open 44 = .ok (.iload_n 2, 1) := by decide +kernel
theorem dX11_open_45 : decode cX11_open 45 = .ok (.ishl, 1) := by decide +kernel
theorem dX11_open_46 : decode cX11_open 46 = .ok (.goto 4, 3) := by decide +kernel
theorem dX11_open_49 : decode cX11_open 49 = .ok (.iconst 0, 1) := by decide +kernel
theorem dX11_open_50 : decode cX11_open 50 = .ok (.ior, 1) := by decide +kernel
theorem dX11_open_51 : decode cX11_open 51 = .ok (.istore_n 1, 1) := by decide +kernel
theorem dX11_open_52 : decode cX11_open 52 = .ok (.iinc 2 1, 3) := by decide +kernel
theorem dX11_open_55 : decode cX11_open 55 = .ok (.goto (-46), 3) := by decide +kernel
theorem dX11_open_58 : decode cX11_open 58 = .ok (.iload_n 1, 1) := by decide +kernel
theorem dX11_open_59 : decode cX11_open 59 = .ok (.ireturn, 1) := by decide +kernel
theorem dX11_keeps_0 : decode cX11_keeps 0 = .ok (.iconst 0, 1) := by decide +kernel
theorem dX11_keeps_1 : decode cX11_keeps 1 = .ok (.istore_n 1, 1) := by decide +kernel
theorem dX11_keeps_2 : decode cX11_keeps 2 = .ok (.iload_n 1, 1) := by decide +kernel
theorem dX11_keeps_3 : decode cX11_keeps 3 = .ok (.bipush 9, 2) := by decide +kernel
theorem dX11_keeps_5 : decode cX11_keeps 5 = .ok (.if_icmp .ge 24, 3) := by decide +kernel
theorem dX11_keeps_8 : decode cX11_keeps 8 = .ok (.aload_n 0, 1) := by decide +kernel
theorem dX11_keeps_9 : decode cX11_keeps 9 = .ok (.getfield 36, 3) := by decide +kernel
theorem dX11_keeps_12 : decode cX11_keeps 12 = .ok (.iload_n 1, 1) := by decide +kernel
theorem dX11_keeps_13 : decode cX11_keeps 13 = .ok (.aload_n 0, 1) := by decide +kernel
theorem dX11_keeps_14 : decode cX11_keeps 14 = .ok (.getfield 13, 3) := by decide +kernel
theorem dX11_keeps_17 : decode cX11_keeps 17 = .ok (.bipush 74, 2) := by decide +kernel
theorem dX11_keeps_19 : decode cX11_keeps 19 = .ok (.iload_n 1, 1) := by decide +kernel
theorem dX11_keeps_20 : decode cX11_keeps 20 = .ok (.iadd, 1) := by decide +kernel
theorem dX11_keeps_21 : decode cX11_keeps 21 = .ok (.iaload, 1) := by decide +kernel
theorem dX11_keeps_22 : decode cX11_keeps 22 = .ok (.iastore, 1) := by decide +kernel
theorem dX11_keeps_23 : decode cX11_keeps 23 = .ok (.iinc 1 1, 3) := by decide +kernel
theorem dX11_keeps_26 : decode cX11_keeps 26 = .ok (.goto (-24), 3) := by decide +kernel
theorem dX11_keeps_29 : decode cX11_keeps 29 = .ok (.return_, 1) := by decide +kernel
theorem dX11_isAgain_0 : decode cX11_isAgain 0 = .ok (.iconst 0, 1) := by decide +kernel
theorem dX11_isAgain_1 : decode cX11_isAgain 1 = .ok (.istore_n 1, 1) := by decide +kernel
theorem dX11_isAgain_2 : decode cX11_isAgain 2 = .ok (.iload_n 1, 1) := by decide +kernel
theorem dX11_isAgain_3 : decode cX11_isAgain 3 = .ok (.bipush 9, 2) := by decide +kernel
theorem dX11_isAgain_5 : decode cX11_isAgain 5 = .ok (.if_icmp .ge 24, 3) := by decide +kernel
theorem dX11_isAgain_8 : decode cX11_isAgain 8 = .ok (.aload_n 0, 1) := by decide +kernel
theorem dX11_isAgain_9 : decode cX11_isAgain 9 = .ok (.getfield 13, 3) := by decide +kernel
theorem dX11_isAgain_12 : decode cX11_isAgain 12 = .ok (.bipush 74, 2) := by decide +kernel
theorem dX11_isAgain_14 : decode cX11_isAgain 14 = .ok (.iload_n 1, 1) := by decide +kernel
theorem dX11_isAgain_15 : decode cX11_isAgain 15 = .ok (.iadd, 1) := by decide +kernel
theorem dX11_isAgain_16 : decode cX11_isAgain 16 = .ok (.aload_n 0, 1) := by decide +kernel
theorem dX11_isAgain_17 : decode cX11_isAgain 17 = .ok (.getfield 36, 3) := by decide +kernel
theorem dX11_isAgain_20 : decode cX11_isAgain 20 = .ok (.iload_n 1, 1) := by decide +kernel
theorem dX11_isAgain_21 : decode cX11_isAgain 21 = .ok (.iaload, 1) := by decide +kernel
theorem dX11_isAgain_22 : decode cX11_isAgain 22 = .ok (.iastore, 1) := by decide +kernel
theorem dX11_isAgain_23 : decode cX11_isAgain 23 = .ok (.iinc 1 1, 3) := by decide +kernel
theorem dX11_isAgain_26 : decode cX11_isAgain 26 = .ok (.goto (-24), 3) := by decide +kernel
theorem dX11_isAgain_29 : decode cX11_isAgain 29 = .ok (.return_, 1) := by decide +kernel
theorem dX11_notes_0 : decode cX11_notes 0 = .ok (.aload_n 0, 1) := by decide +kernel
theorem dX11_notes_1 : decode cX11_notes 1 = .ok (.getfield 13, 3) := by decide +kernel
theorem dX11_notes_4 : decode cX11_notes 4 = .ok (.bipush 83, 2) := by decide +kernel
theorem dX11_notes_6 : decode cX11_notes 6 = .ok (.iaload, 1) := by decide +kernel
theorem dX11_notes_7 : decode cX11_notes 7 = .ok (.bipush 10, 2) := by decide +kernel
theorem dX11_notes_9 : decode cX11_notes 9 = .ok (.if_icmp .ne 46, 3) := by decide +kernel
theorem dX11_notes_12 : decode cX11_notes 12 = .ok (.iconst 0, 1) := by decide +kernel
theorem dX11_notes_13 : decode cX11_notes 13 = .ok (.istore_n 1, 1) := by decide +kernel
theorem dX11_notes_14 : decode cX11_notes 14 = .ok (.iload_n 1, 1) := by decide +kernel
theorem dX11_notes_15 : decode cX11_notes 15 = .ok (.bipush 81, 2) := by decide +kernel
theorem dX11_notes_17 : decode cX11_notes 17 = .ok (.if_icmp .ge 27, 3) := by decide +kernel
theorem dX11_notes_20 : decode cX11_notes 20 = .ok (.aload_n 0, 1) := by decide +kernel
theorem dX11_notes_21 : decode cX11_notes 21 = .ok (.getfield 13, 3) := by decide +kernel
theorem dX11_notes_24 : decode cX11_notes 24 = .ok (.bipush 84, 2) := by decide +kernel
theorem dX11_notes_26 : decode cX11_notes 26 = .ok (.iload_n 1, 1) := by decide +kernel
theorem dX11_notes_27 : decode cX11_notes 27 = .ok (.iadd, 1) := by decide +kernel
theorem dX11_notes_28 : decode cX11_notes 28 = .ok (.aload_n 0, 1) := by decide +kernel
theorem dX11_notes_29 : decode cX11_notes 29 = .ok (.getfield 13, 3) := by decide +kernel
theorem dX11_notes_32 : decode cX11_notes 32 = .ok (.bipush 93, 2) := by decide +kernel
theorem dX11_notes_34 : decode cX11_notes 34 = .ok (.iload_n 1, 1) := by decide +kernel
theorem dX11_notes_35 : decode cX11_notes 35 = .ok (.iadd, 1) := by decide +kernel
theorem dX11_notes_36 : decode cX11_notes 36 = .ok (.iaload, 1) := by decide +kernel
theorem dX11_notes_37 : decode cX11_notes 37 = .ok (.iastore, 1) := by decide +kernel
theorem dX11_notes_38 : decode cX11_notes 38 = .ok (.iinc 1 1, 3) := by decide +kernel
theorem dX11_notes_41 : decode cX11_notes 41 = .ok (.goto (-27), 3) := by decide +kernel
theorem dX11_notes_44 : decode cX11_notes 44 = .ok (.aload_n 0, 1) := by decide +kernel
theorem dX11_notes_45 : decode cX11_notes 45 = .ok (.getfield 13, 3) := by decide +kernel
theorem dX11_notes_48 : decode cX11_notes 48 = .ok (.bipush 83, 2) := by decide +kernel
theorem dX11_notes_50 : decode cX11_notes 50 = .ok (.dup2, 1) := by decide +kernel
theorem dX11_notes_51 : decode cX11_notes 51 = .ok (.iaload, 1) := by decide +kernel
theorem dX11_notes_52 : decode cX11_notes 52 = .ok (.iconst 1, 1) := by decide +kernel
theorem dX11_notes_53 : decode cX11_notes 53 = .ok (.isub, 1) := by decide +kernel
theorem dX11_notes_54 : decode cX11_notes 54 = .ok (.iastore, 1) := by decide +kernel
theorem dX11_notes_55 : decode cX11_notes 55 = .ok (.iconst 0, 1) := by decide +kernel
theorem dX11_notes_56 : decode cX11_notes 56 = .ok (.istore_n 1, 1) := by decide +kernel
theorem dX11_notes_57 : decode cX11_notes 57 = .ok (.iload_n 1, 1) := by decide +kernel
theorem dX11_notes_58 : decode cX11_notes 58 = .ok (.bipush 9, 2) := by decide +kernel
theorem dX11_notes_60 : decode cX11_notes 60 = .ok (.if_icmp .ge 35, 3) := by decide +kernel
theorem dX11_notes_63 : decode cX11_notes 63 = .ok (.aload_n 0, 1) := by decide +kernel
theorem dX11_notes_64 : decode cX11_notes 64 = .ok (.getfield 13, 3) := by decide +kernel
theorem dX11_notes_67 : decode cX11_notes 67 = .ok (.bipush 84, 2) := by decide +kernel
theorem dX11_notes_69 : decode cX11_notes 69 = .ok (.bipush 9, 2) := by decide +kernel
theorem dX11_notes_71 : decode cX11_notes 71 = .ok (.aload_n 0, 1) := by decide +kernel
theorem dX11_notes_72 : decode cX11_notes 72 = .ok (.getfield 13, 3) := by decide +kernel
theorem dX11_notes_75 : decode cX11_notes 75 = .ok (.bipush 83, 2) := by decide +kernel
theorem dX11_notes_77 : decode cX11_notes 77 = .ok (.iaload, 1) := by decide +kernel
theorem dX11_notes_78 : decode cX11_notes 78 = .ok (.imul, 1) := by decide +kernel
theorem dX11_notes_79 : decode cX11_notes 79 = .ok (.iadd, 1) := by decide +kernel
theorem dX11_notes_80 : decode cX11_notes 80 = .ok (.iload_n 1, 1) := by decide +kernel
theorem dX11_notes_81 : decode cX11_notes 81 = .ok (.iadd, 1) := by decide +kernel
theorem dX11_notes_82 : decode cX11_notes 82 = .ok (.aload_n 0, 1) := by decide +kernel
theorem dX11_notes_83 : decode cX11_notes 83 = .ok (.getfield 36, 3) := by decide +kernel
theorem dX11_notes_86 : decode cX11_notes 86 = .ok (.iload_n 1, 1) := by decide +kernel
theorem dX11_notes_87 : decode cX11_notes 87 = .ok (.iaload, 1) := by decide +kernel
theorem dX11_notes_88 : decode cX11_notes 88 = .ok (.iastore, 1) := by decide +kernel
theorem dX11_notes_89 : decode cX11_notes 89 = .ok (.iinc 1 1, 3) := by decide +kernel
theorem dX11_notes_92 : decode cX11_notes 92 = .ok (.goto (-35), 3) := by decide +kernel
theorem dX11_notes_95 : decode cX11_notes 95 = .ok (.aload_n 0, 1) := by decide +kernel
theorem dX11_notes_96 : decode cX11_notes 96 = .ok (.getfield 13, 3) := by decide +kernel
theorem dX11_notes_99 : decode cX11_notes 99 = .ok (.bipush 83, 2) := by decide +kernel
theorem dX11_notes_101 : decode cX11_notes 101 = .ok (.dup2, 1) := by decide +kernel
theorem dX11_notes_102 : decode cX11_notes 102 = .ok (.iaload, 1) := by decide +kernel
theorem dX11_notes_103 : decode cX11_notes 103 = .ok (.iconst 1, 1) := by decide +kernel
theorem dX11_notes_104 : decode cX11_notes 104 = .ok (.iadd, 1) := by decide +kernel
theorem dX11_notes_105 : decode cX11_notes 105 = .ok (.iastore, 1) := by decide +kernel
theorem dX11_notes_106 : decode cX11_notes 106 = .ok (.return_, 1) := by decide +kernel
theorem dX11_whyDo_0 : decode cX11_whyDo 0 = .ok (.aload_n 0, 1) := by decide +kernel
theorem dX11_whyDo_1 : decode cX11_whyDo 1 = .ok (.lload_n 1, 1) := by decide +kernel
theorem dX11_whyDo_2 : decode cX11_whyDo 2 = .ok (.invokevirtual 266, 3) := by decide +kernel
theorem dX11_whyDo_5 : decode cX11_whyDo 5 = .ok (.ifCond .ne 5, 3) := by decide +kernel
theorem dX11_whyDo_8 : decode cX11_whyDo 8 = .ok (.iconst 1, 1) := by decide +kernel
theorem dX11_whyDo_9 : decode cX11_whyDo 9 = .ok (.ireturn, 1) := by decide +kernel
theorem dX11_whyDo_10 : decode cX11_whyDo 10 = .ok (.aload_n 0, 1) := by decide +kernel
theorem dX11_whyDo_11 : decode cX11_whyDo 11 = .ok (.invokevirtual 270, 3) := by decide +kernel
theorem dX11_whyDo_14 : decode cX11_whyDo 14 = .ok (.istore_n 3, 1) := by decide +kernel
theorem dX11_whyDo_15 : decode cX11_whyDo 15 = .ok (.iload_n 3, 1) := by decide +kernel
theorem dX11_whyDo_16 : decode cX11_whyDo 16 = .ok (.lload_n 1, 1) := by decide +kernel
theorem dX11_whyDo_17 : decode cX11_whyDo 17 = .ok (.l2i, 1) := by decide +kernel
theorem dX11_whyDo_18 : decode cX11_whyDo 18 = .ok (.invokestatic 255, 3) := by decide +kernel
theorem dX11_whyDo_21 : decode cX11_whyDo 21 = .ok (.ifCond .eq 7, 3) := by decide +kernel
theorem dX11_whyDo_24 : decode cX11_whyDo 24 = .ok (.iconst 2, 1) := by decide +kernel
theorem dX11_whyDo_25 : decode cX11_whyDo 25 = .ok (.goto 18, 3) := by decide +kernel
theorem dX11_whyDo_28 : decode cX11_whyDo 28 = .ok (.aload_n 0, 1) := by decide +kernel
theorem dX11_whyDo_29 : decode cX11_whyDo 29 = .ok (.iload_n 3, 1) := by decide +kernel
theorem dX11_whyDo_30 : decode cX11_whyDo 30 = .ok (.lload_n 1, 1) := by decide +kernel
theorem dX11_whyDo_31 : decode cX11_whyDo 31 = .ok (.l2i, 1) := by decide +kernel
theorem dX11_whyDo_32 : decode cX11_whyDo 32 = .ok (.invokevirtual 273, 3) := by decide +kernel
theorem dX11_whyDo_35 : decode cX11_whyDo 35 = .ok (.ifCond .eq 7, 3) := by decide +kernel
theorem dX11_whyDo_38 : decode cX11_whyDo 38 = .ok (.iconst 0, 1) := by decide +kernel
theorem dX11_whyDo_39 : decode cX11_whyDo 39 = .ok (.goto 4, 3) := by decide +kernel
theorem dX11_whyDo_42 : decode cX11_whyDo 42 = .ok (.iconst 3, 1) := by decide +kernel
theorem dX11_whyDo_43 : decode cX11_whyDo 43 = .ok (.ireturn, 1) := by decide +kernel
theorem dX11_whyDrop_0 : decode cX11_whyDrop 0 = .ok (.aload_n 0, 1) := by decide +kernel
theorem dX11_whyDrop_1 : decode cX11_whyDrop 1 = .ok (.lload_n 1, 1) := by decide +kernel
theorem dX11_whyDrop_2 : decode cX11_whyDrop 2 = .ok (.invokevirtual 266, 3) := by decide +kernel
theorem dX11_whyDrop_5 : decode cX11_whyDrop 5 = .ok (.ifCond .ne 5, 3) := by decide +kernel
theorem dX11_whyDrop_8 : decode cX11_whyDrop 8 = .ok (.iconst 1, 1) := by decide +kernel
theorem dX11_whyDrop_9 : decode cX11_whyDrop 9 = .ok (.ireturn, 1) := by decide +kernel
theorem dX11_whyDrop_10 : decode cX11_whyDrop 10 = .ok (.aload_n 0, 1) := by decide +kernel
theorem dX11_whyDrop_11 : decode cX11_whyDrop 11 = .ok (.getfield 13, 3) := by decide +kernel
theorem dX11_whyDrop_14 : decode cX11_whyDrop 14 = .ok (.bipush 74, 2) := by decide +kernel
theorem dX11_whyDrop_16 : decode cX11_whyDrop 16 = .ok (.lload_n 1, 1) := by decide +kernel
theorem dX11_whyDrop_17 : decode cX11_whyDrop 17 = .ok (.l2i, 1) := by decide +kernel
theorem dX11_whyDrop_18 : decode cX11_whyDrop 18 = .ok (.iadd, 1) := by decide +kernel
theorem dX11_whyDrop_19 : decode cX11_whyDrop 19 = .ok (.iaload, 1) := by decide +kernel
theorem dX11_whyDrop_20 : decode cX11_whyDrop 20 = .ok (.istore_n 3, 1) := by decide +kernel
theorem dX11_whyDrop_21 : decode cX11_whyDrop 21 = .ok (.iload_n 3, 1) := by decide +kernel
theorem dX11_whyDrop_22 : decode cX11_whyDrop 22 = .ok (.ifCond .eq 8, 3) := by decide +kernel
theorem dX11_whyDrop_25 : decode cX11_whyDrop 25 = .ok (.iload_n 3, 1) := by decide +kernel
theorem dX11_whyDrop_26 : decode cX11_whyDrop 26 = .ok (.iconst 2, 1) := by decide +kernel
theorem dX11_whyDrop_27 : decode cX11_whyDrop 27 = .ok (.if_icmp .ne 7, 3) := by decide +kernel
theorem dX11_whyDrop_30 : decode cX11_whyDrop 30 = .ok (.iconst 2, 1) := by decide +kernel
theorem dX11_whyDrop_31 : decode cX11_whyDrop 31 = .ok (.goto 4, 3) := by decide +kernel
theorem dX11_whyDrop_34 : decode cX11_whyDrop 34 = .ok (.iconst 0, 1) := by decide +kernel
theorem dX11_whyDrop_35 : decode cX11_whyDrop 35 = .ok (.ireturn, 1) := by decide +kernel
theorem dX11_whyForge_0 : decode cX11_whyForge 0 = .ok (.aload_n 0, 1) := by decide +kernel
theorem dX11_whyForge_1 : decode cX11_whyForge 1 = .ok (.lload_n 1, 1) := by decide +kernel
theorem dX11_whyForge_2 : decode cX11_whyForge 2 = .ok (.invokevirtual 266, 3) := by decide +kernel
theorem dX11_whyForge_5 : decode cX11_whyForge 5 = .ok (.ifCond .ne 5, 3) := by decide +kernel
theorem dX11_whyForge_8 : decode cX11_whyForge 8 = .ok (.iconst 1, 1) := by decide +kernel
theorem dX11_whyForge_9 : decode cX11_whyForge 9 = .ok (.ireturn, 1) := by decide +kernel
theorem dX11_whyForge_10 : decode cX11_whyForge 10 = .ok (.aload_n 0, 1) := by decide +kernel
theorem dX11_whyForge_11 : decode cX11_whyForge 11 = .ok (.getfield 13, 3) := by decide +kernel
theorem dX11_whyForge_14 : decode cX11_whyForge 14 = .ok (.bipush 74, 2) := by decide +kernel
theorem dX11_whyForge_16 : decode cX11_whyForge 16 = .ok (.lload_n 1, 1) := by decide +kernel
theorem dX11_whyForge_17 : decode cX11_whyForge 17 = .ok (.l2i, 1) := by decide +kernel
theorem dX11_whyForge_18 : decode cX11_whyForge 18 = .ok (.iadd, 1) := by decide +kernel
theorem dX11_whyForge_19 : decode cX11_whyForge 19 = .ok (.iaload, 1) := by decide +kernel
theorem dX11_whyForge_20 : decode cX11_whyForge 20 = .ok (.ifCond .eq 5, 3) := by decide +kernel
theorem dX11_whyForge_23 : decode cX11_whyForge 23 = .ok (.iconst 2, 1) := by decide +kernel
theorem dX11_whyForge_24 : decode cX11_whyForge 24 = .ok (.ireturn, 1) := by decide +kernel
theorem dX11_whyForge_25 : decode cX11_whyForge 25 = .ok (.aload_n 0, 1) := by decide +kernel
theorem dX11_whyForge_26 : decode cX11_whyForge 26 = .ok (.getfield 13, 3) := by decide +kernel
theorem dX11_whyForge_29 : decode cX11_whyForge 29 = .ok (.bipush 10, 2) := by decide +kernel
theorem dX11_whyForge_31 : decode cX11_whyForge 31 = .ok (.lload_n 1, 1) := by decide +kernel
theorem dX11_whyForge_32 : decode cX11_whyForge 32 = .ok (.l2i, 1) := by decide +kernel
theorem dX11_whyForge_33 : decode cX11_whyForge 33 = .ok (.iadd, 1) := by decide +kernel
theorem dX11_whyForge_34 : decode cX11_whyForge 34 = .ok (.iaload, 1) := by decide +kernel
theorem dX11_whyForge_35 : decode cX11_whyForge 35 = .ok (.aload_n 0, 1) := by decide +kernel
theorem dX11_whyForge_36 : decode cX11_whyForge 36 = .ok (.aload_n 0, 1) := by decide +kernel
theorem dX11_whyForge_37 : decode cX11_whyForge 37 = .ok (.invokevirtual 270, 3) := by decide +kernel
theorem dX11_whyForge_40 : decode cX11_whyForge 40 = .ok (.invokevirtual 238, 3) := by decide +kernel
theorem dX11_whyForge_43 : decode cX11_whyForge 43 = .ok (.if_icmp .le 7, 3) := by decide +kernel
theorem dX11_whyForge_46 : decode cX11_whyForge 46 = .ok (.iconst 4, 1) := by decide +kernel
theorem dX11_whyForge_47 : decode cX11_whyForge 47 = .ok (.goto 4, 3) := by decide +kernel
theorem dX11_whyForge_50 : decode cX11_whyForge 50 = .ok (.iconst 0, 1) := by decide +kernel
theorem dX11_whyForge_51 : decode cX11_whyForge 51 = .ok (.ireturn, 1) := by decide +kernel
theorem dX11_does_0 : decode cX11_does 0 = .ok (.aload_n 0, 1) := by decide +kernel
theorem dX11_does_1 : decode cX11_does 1 = .ok (.iconst 0, 1) := by decide +kernel
theorem dX11_does_2 : decode cX11_does 2 = .ok (.putfield 1, 3) := by decide +kernel
theorem dX11_does_5 : decode cX11_does 5 = .ok (.aload_n 0, 1) := by decide +kernel
theorem dX11_does_6 : decode cX11_does 6 = .ok (.iload_n 1, 1) := by decide +kernel
theorem dX11_does_7 : decode cX11_does 7 = .ok (.i2l, 1) := by decide +kernel
theorem dX11_does_8 : decode cX11_does 8 = .ok (.invokevirtual 276, 3) := by decide +kernel
theorem dX11_does_11 : decode cX11_does 11 = .ok (.istore_n 2, 1) := by decide +kernel
theorem dX11_does_12 : decode cX11_does 12 = .ok (.iload_n 2, 1) := by decide +kernel
theorem dX11_does_13 : decode cX11_does 13 = .ok (.ifCond .eq 8, 3) := by decide +kernel
theorem dX11_does_16 : decode cX11_does 16 = .ok (.bipush (-10), 2) := by decide +kernel
theorem dX11_does_18 : decode cX11_does 18 = .ok (.iload_n 2, 1) := by decide +kernel
theorem dX11_does_19 : decode cX11_does 19 = .ok (.isub, 1) := by decide +kernel
theorem dX11_does_20 : decode cX11_does 20 = .ok (.ireturn, 1) := by decide +kernel
theorem dX11_does_21 : decode cX11_does 21 = .ok (.aload_n 0, 1) := by decide +kernel
theorem dX11_does_22 : decode cX11_does 22 = .ok (.invokevirtual 280, 3) := by decide +kernel
theorem dX11_does_25 : decode cX11_does 25 = .ok (.aload_n 0, 1) := by decide +kernel
theorem dX11_does_26 : decode cX11_does 26 = .ok (.aload_n 0, 1) := by decide +kernel
theorem dX11_does_27 : decode cX11_does 27 = .ok (.aload_n 0, 1) := by decide +kernel
theorem dX11_does_28 : decode cX11_does 28 = .ok (.invokevirtual 270, 3) := by decide +kernel
theorem dX11_does_31 : decode cX11_does 31 = .ok (.iload_n 1, 1) := by decide +kernel
theorem dX11_does_32 : decode cX11_does 32 = .ok (.invokevirtual 283, 3) := by decide +kernel
theorem dX11_does_35 : decode cX11_does 35 = .ok (.invokevirtual 286, 3) := by decide +kernel
theorem dX11_does_38 : decode cX11_does 38 = .ok (.aload_n 0, 1) := by decide +kernel
theorem dX11_does_39 : decode cX11_does 39 = .ok (.invokevirtual 289, 3) := by decide +kernel
theorem dX11_does_42 : decode cX11_does 42 = .ok (.aload_n 0, 1) := by decide +kernel
theorem dX11_does_43 : decode cX11_does 43 = .ok (.getfield 13, 3) := by decide +kernel
theorem dX11_does_46 : decode cX11_does 46 = .ok (.bipush 74, 2) := by decide +kernel
theorem dX11_does_48 : decode cX11_does 48 = .ok (.iload_n 1, 1) := by decide +kernel
theorem dX11_does_49 : decode cX11_does 49 = .ok (.iadd, 1) := by decide +kernel
theorem dX11_does_50 : decode cX11_does 50 = .ok (.iaload, 1) := by decide +kernel
theorem dX11_does_51 : decode cX11_does 51 = .ok (.ireturn, 1) := by decide +kernel
theorem dX11_drop_0 : decode cX11_drop 0 = .ok (.aload_n 0, 1) := by decide +kernel
theorem dX11_drop_1 : decode cX11_drop 1 = .ok (.iconst 0, 1) := by decide +kernel
theorem dX11_drop_2 : decode cX11_drop 2 = .ok (.putfield 1, 3) := by decide +kernel
theorem dX11_drop_5 : decode cX11_drop 5 = .ok (.aload_n 0, 1) := by decide +kernel
theorem dX11_drop_6 : decode cX11_drop 6 = .ok (.iload_n 1, 1) := by decide +kernel
theorem dX11_drop_7 : decode cX11_drop 7 = .ok (.i2l, 1) := by decide +kernel
theorem dX11_drop_8 : decode cX11_drop 8 = .ok (.invokevirtual 292, 3) := by decide +kernel
theorem dX11_drop_11 : decode cX11_drop 11 = .ok (.istore_n 2, 1) := by decide +kernel
theorem dX11_drop_12 : decode cX11_drop 12 = .ok (.iload_n 2, 1) := by decide +kernel
theorem dX11_drop_13 : decode cX11_drop 13 = .ok (.ifCond .eq 8, 3) := by decide +kernel
theorem dX11_drop_16 : decode cX11_drop 16 = .ok (.bipush (-10), 2) := by decide +kernel
theorem dX11_drop_18 : decode cX11_drop 18 = .ok (.iload_n 2, 1) := by decide +kernel
theorem dX11_drop_19 : decode cX11_drop 19 = .ok (.isub, 1) := by decide +kernel
theorem dX11_drop_20 : decode cX11_drop 20 = .ok (.ireturn, 1) := by decide +kernel
theorem dX11_drop_21 : decode cX11_drop 21 = .ok (.aload_n 0, 1) := by decide +kernel
theorem dX11_drop_22 : decode cX11_drop 22 = .ok (.invokevirtual 280, 3) := by decide +kernel
theorem dX11_drop_25 : decode cX11_drop 25 = .ok (.aload_n 0, 1) := by decide +kernel
theorem dX11_drop_26 : decode cX11_drop 26 = .ok (.aload_n 0, 1) := by decide +kernel
theorem dX11_drop_27 : decode cX11_drop 27 = .ok (.invokevirtual 270, 3) := by decide +kernel
theorem dX11_drop_30 : decode cX11_drop 30 = .ok (.iload_n 1, 1) := by decide +kernel
theorem dX11_drop_31 : decode cX11_drop 31 = .ok (.invokestatic 295, 3) := by decide +kernel
theorem dX11_drop_34 : decode cX11_drop 34 = .ok (.invokevirtual 286, 3) := by decide +kernel
theorem dX11_drop_37 : decode cX11_drop 37 = .ok (.aload_n 0, 1) := by decide +kernel
theorem dX11_drop_38 : decode cX11_drop 38 = .ok (.invokevirtual 289, 3) := by decide +kernel
theorem dX11_drop_41 : decode cX11_drop 41 = .ok (.aload_n 0, 1) := by decide +kernel
theorem dX11_drop_42 : decode cX11_drop 42 = .ok (.aload_n 0, 1) := by decide +kernel
theorem dX11_drop_43 : decode cX11_drop 43 = .ok (.invokevirtual 270, 3) := by decide +kernel
theorem dX11_drop_46 : decode cX11_drop 46 = .ok (.invokevirtual 225, 3) := by decide +kernel
theorem dX11_drop_49 : decode cX11_drop 49 = .ok (.invokestatic 235, 3) := by decide +kernel
theorem dX11_drop_52 : decode cX11_drop 52 = .ok (.ireturn, 1) := by decide +kernel
theorem dX11_forge_0 : decode cX11_forge 0 = .ok (.aload_n 0, 1) := by decide +kernel
theorem dX11_forge_1 : decode cX11_forge 1 = .ok (.iconst 0, 1) := by decide +kernel
theorem dX11_forge_2 : decode cX11_forge 2 = .ok (.putfield 1, 3) := by decide +kernel
theorem dX11_forge_5 : decode cX11_forge 5 = .ok (.aload_n 0, 1) := by decide +kernel
theorem dX11_forge_6 : decode cX11_forge 6 = .ok (.iload_n 1, 1) := by decide +kernel
theorem dX11_forge_7 : decode cX11_forge 7 = .ok (.i2l, 1) := by decide +kernel
theorem dX11_forge_8 : decode cX11_forge 8 = .ok (.invokevirtual 298, 3) := by decide +kernel
theorem dX11_forge_11 : decode cX11_forge 11 = .ok (.istore_n 2, 1) := by decide +kernel
theorem dX11_forge_12 : decode cX11_forge 12 = .ok (.iload_n 2, 1) := by decide +kernel
theorem dX11_forge_13 : decode cX11_forge 13 = .ok (.ifCond .eq 8, 3) := by decide +kernel
theorem dX11_forge_16 : decode cX11_forge 16 = .ok (.bipush (-10), 2) := by decide +kernel
theorem dX11_forge_18 : decode cX11_forge 18 = .ok (.iload_n 2, 1) := by decide +kernel
theorem dX11_forge_19 : decode cX11_forge 19 = .ok (.isub, 1) := by decide +kernel
theorem dX11_forge_20 : decode cX11_forge 20 = .ok (.ireturn, 1) := by decide +kernel
theorem dX11_forge_21 : decode cX11_forge 21 = .ok (.aload_n 0, 1) := by decide +kernel
theorem dX11_forge_22 : decode cX11_forge 22 = .ok (.invokevirtual 280, 3) := by decide +kernel
theorem dX11_forge_25 : decode cX11_forge 25 = .ok (.aload_n 0, 1) := by decide +kernel
theorem dX11_forge_26 : decode cX11_forge 26 = .ok (.getfield 13, 3) := by decide +kernel
theorem dX11_forge_29 : decode cX11_forge 29 = .ok (.bipush 74, 2) := by decide +kernel
theorem dX11_forge_31 : decode cX11_forge 31 = .ok (.iload_n 1, 1) := by decide +kernel
theorem dX11_forge_32 : decode cX11_forge 32 = .ok (.iadd, 1) := by decide +kernel
theorem dX11_forge_33 : decode cX11_forge 33 = .ok (.iconst 3, 1) := by decide +kernel
theorem dX11_forge_34 : decode cX11_forge 34 = .ok (.iastore, 1) := by decide +kernel
theorem dX11_forge_35 : decode cX11_forge 35 = .ok (.aload_n 0, 1) := by decide +kernel
theorem dX11_forge_36 : decode cX11_forge 36 = .ok (.invokevirtual 289, 3) := by decide +kernel
theorem dX11_forge_39 : decode cX11_forge 39 = .ok (.aload_n 0, 1) := by decide +kernel
theorem dX11_forge_40 : decode cX11_forge 40 = .ok (.aload_n 0, 1) := by decide +kernel
theorem dX11_forge_41 : decode cX11_forge 41 = .ok (.invokevirtual 270, 3) := by decide +kernel
theorem dX11_forge_44 : decode cX11_forge 44 = .ok (.invokevirtual 238, 3) := by decide +kernel
theorem dX11_forge_47 : decode cX11_forge 47 = .ok (.ireturn, 1) := by decide +kernel
theorem dX11_ask_0 : decode cX11_ask 0 = .ok (.aload_n 0, 1) := by decide +kernel
theorem dX11_ask_1 : decode cX11_ask 1 = .ok (.iconst 0, 1) := by decide +kernel
theorem dX11_ask_2 : decode cX11_ask 2 = .ok (.putfield 1, 3) := by decide +kernel
theorem dX11_ask_5 : decode cX11_ask 5 = .ok (.aload_n 0, 1) := by decide +kernel
theorem dX11_ask_6 : decode cX11_ask 6 = .ok (.iload_n 1, 1) := by decide +kernel
theorem dX11_ask_7 : decode cX11_ask 7 = .ok (.i2l, 1) := by decide +kernel
theorem dX11_ask_8 : decode cX11_ask 8 = .ok (.invokevirtual 266, 3) := by decide +kernel
theorem dX11_ask_11 : decode cX11_ask 11 = .ok (.ifCond .ne 6, 3) := by decide +kernel
theorem dX11_ask_14 : decode cX11_ask 14 = .ok (.bipush (-11), 2) := by decide +kernel
theorem dX11_ask_16 : decode cX11_ask 16 = .ok (.ireturn, 1) := by decide +kernel
theorem dX11_ask_17 : decode cX11_ask 17 = .ok (.aload_n 0, 1) := by decide +kernel
theorem dX11_ask_18 : decode cX11_ask 18 = .ok (.invokevirtual 280, 3) := by decide +kernel
theorem dX11_ask_21 : decode cX11_ask 21 = .ok (.aload_n 0, 1) := by decide +kernel
theorem dX11_ask_22 : decode cX11_ask 22 = .ok (.aload_n 0, 1) := by decide +kernel
theorem dX11_ask_23 : decode cX11_ask 23 = .ok (.invokevirtual 270, 3) := by decide +kernel
theorem dX11_ask_26 : decode cX11_ask 26 = .ok (.iload_n 1, 1) := by decide +kernel
theorem dX11_ask_27 : decode cX11_ask 27 = .ok (.invokevirtual 301, 3) := by decide +kernel
theorem dX11_ask_30 : decode cX11_ask 30 = .ok (.istore_n 2, 1) := by decide +kernel
theorem dX11_ask_31 : decode cX11_ask 31 = .ok (.aload_n 0, 1) := by decide +kernel
theorem dX11_ask_32 : decode cX11_ask 32 = .ok (.aload_n 0, 1) := by decide +kernel
theorem dX11_ask_33 : decode cX11_ask 33 = .ok (.invokevirtual 270, 3) := by decide +kernel
theorem dX11_ask_36 : decode cX11_ask 36 = .ok (.iload_n 2, 1) := by decide +kernel
theorem dX11_ask_37 : decode cX11_ask 37 = .ok (.invokestatic 304, 3) := by decide +kernel
theorem dX11_ask_40 : decode cX11_ask 40 = .ok (.invokevirtual 286, 3) := by decide +kernel
theorem dX11_ask_43 : decode cX11_ask 43 = .ok (.aload_n 0, 1) := by decide +kernel
theorem dX11_ask_44 : decode cX11_ask 44 = .ok (.invokevirtual 289, 3) := by decide +kernel
theorem dX11_ask_47 : decode cX11_ask 47 = .ok (.iload_n 2, 1) := by decide +kernel
theorem dX11_ask_48 : decode cX11_ask 48 = .ok (.ireturn, 1) := by decide +kernel
theorem dX11_slip_0 : decode cX11_slip 0 = .ok (.aload_n 0, 1) := by decide +kernel
theorem dX11_slip_1 : decode cX11_slip 1 = .ok (.iconst 0, 1) := by decide +kernel
theorem dX11_slip_2 : decode cX11_slip 2 = .ok (.putfield 1, 3) := by decide +kernel
theorem dX11_slip_5 : decode cX11_slip 5 = .ok (.iload_n 1, 1) := by decide +kernel
theorem dX11_slip_6 : decode cX11_slip 6 = .ok (.i2l, 1) := by decide +kernel
theorem dX11_slip_7 : decode cX11_slip 7 = .ok (.lconst 0, 1) := by decide +kernel
theorem dX11_slip_8 : decode cX11_slip 8 = .ok (.ldc2_w 307, 3) := by decide +kernel
theorem dX11_slip_11 : decode cX11_slip 11 = .ok (.invokestatic 150, 3) := by decide +kernel
theorem dX11_slip_14 : decode cX11_slip 14 = .ok (.ifCond .ne 6, 3) := by decide +kernel
theorem dX11_slip_17 : decode cX11_slip 17 = .ok (.bipush (-11), 2) := by decide +kernel
theorem dX11_slip_19 : decode cX11_slip 19 = .ok (.ireturn, 1) := by decide +kernel
theorem dX11_slip_20 : decode cX11_slip 20 = .ok (.aload_n 0, 1) := by decide +kernel
theorem dX11_slip_21 : decode cX11_slip 21 = .ok (.invokevirtual 280, 3) := by decide +kernel
theorem dX11_slip_24 : decode cX11_slip 24 = .ok (.aload_n 0, 1) := by decide +kernel
theorem dX11_slip_25 : decode cX11_slip 25 = .ok (.getfield 13, 3) := by decide +kernel
theorem dX11_slip_28 : decode cX11_slip 28 = .ok (.bipush 82, 2) := by decide +kernel
theorem dX11_slip_30 : decode cX11_slip 30 = .ok (.iload_n 1, 1) := by decide +kernel
theorem dX11_slip_31 : decode cX11_slip 31 = .ok (.iastore, 1) := by decide +kernel
theorem dX11_slip_32 : decode cX11_slip 32 = .ok (.aload_n 0, 1) := by decide +kernel
theorem dX11_slip_33 : decode cX11_slip 33 = .ok (.invokevirtual 289, 3) := by decide +kernel
theorem dX11_slip_36 : decode cX11_slip 36 = .ok (.aload_n 0, 1) := by decide +kernel
theorem dX11_slip_37 : decode cX11_slip 37 = .ok (.getfield 36, 3) := by decide +kernel
theorem dX11_slip_40 : decode cX11_slip 40 = .ok (.bipush 8, 2) := by decide +kernel
theorem dX11_slip_42 : decode cX11_slip 42 = .ok (.iaload, 1) := by decide +kernel
theorem dX11_slip_43 : decode cX11_slip 43 = .ok (.ireturn, 1) := by decide +kernel
theorem dX11_undo_0 : decode cX11_undo 0 = .ok (.aload_n 0, 1) := by decide +kernel
theorem dX11_undo_1 : decode cX11_undo 1 = .ok (.iconst 0, 1) := by decide +kernel
theorem dX11_undo_2 : decode cX11_undo 2 = .ok (.putfield 1, 3) := by decide +kernel
theorem dX11_undo_5 : decode cX11_undo 5 = .ok (.iload_n 1, 1) := by decide +kernel
theorem dX11_undo_6 : decode cX11_undo 6 = .ok (.i2l, 1) := by decide +kernel
theorem dX11_undo_7 : decode cX11_undo 7 = .ok (.lconst 1, 1) := by decide +kernel
theorem dX11_undo_8 : decode cX11_undo 8 = .ok (.ldc2_w 309, 3) := by decide +kernel
theorem dX11_undo_11 : decode cX11_undo 11 = .ok (.invokestatic 150, 3) := by decide +kernel
theorem dX11_undo_14 : decode cX11_undo 14 = .ok (.ifCond .eq 14, 3) := by decide +kernel
theorem dX11_undo_17 : decode cX11_undo 17 = .ok (.iload_n 1, 1) := by decide +kernel
theorem dX11_undo_18 : decode cX11_undo 18 = .ok (.aload_n 0, 1) := by decide +kernel
theorem dX11_undo_19 : decode cX11_undo 19 = .ok (.getfield 13, 3) := by decide +kernel
theorem dX11_undo_22 : decode cX11_undo 22 = .ok (.bipush 83, 2) := by decide +kernel
theorem dX11_undo_24 : decode cX11_undo 24 = .ok (.iaload, 1) := by decide +kernel
theorem dX11_undo_25 : decode cX11_undo 25 = .ok (.if_icmp .le 6, 3) := by decide +kernel
theorem dX11_undo_28 : decode cX11_undo 28 = .ok (.bipush (-3), 2) := by decide +kernel
theorem dX11_undo_30 : decode cX11_undo 30 = .ok (.ireturn, 1) := by decide +kernel
theorem dX11_undo_31 : decode cX11_undo 31 = .ok (.aload_n 0, 1) := by decide +kernel
theorem dX11_undo_32 : decode cX11_undo 32 = .ok (.getfield 13, 3) := by decide +kernel
theorem dX11_undo_35 : decode cX11_undo 35 = .ok (.bipush 83, 2) := by decide +kernel
theorem dX11_undo_37 : decode cX11_undo 37 = .ok (.dup2, 1) := by decide +kernel
theorem dX11_undo_38 : decode cX11_undo 38 = .ok (.iaload, 1) := by decide +kernel
theorem dX11_undo_39 : decode cX11_undo 39 = .ok (.iload_n 1, 1) := by decide +kernel
theorem dX11_undo_40 : decode cX11_undo 40 = .ok (.isub, 1) := by decide +kernel
theorem dX11_undo_41 : decode cX11_undo 41 = .ok (.iastore, 1) := by decide +kernel
theorem dX11_undo_42 : decode cX11_undo 42 = .ok (.iconst 0, 1) := by decide +kernel
theorem dX11_undo_43 : decode cX11_undo 43 = .ok (.istore_n 2, 1) := by decide +kernel
theorem dX11_undo_44 : decode cX11_undo 44 = .ok (.iload_n 2, 1) := by decide +kernel
theorem dX11_undo_45 : decode cX11_undo 45 = .ok (.bipush 9, 2) := by decide +kernel
theorem dX11_undo_47 : decode cX11_undo 47 = .ok (.if_icmp .ge 38, 3) := by decide +kernel
theorem dX11_undo_50 : decode cX11_undo 50 = .ok (.aload_n 0, 1) := by decide +kernel
theorem dX11_undo_51 : decode cX11_undo 51 = .ok (.getfield 13, 3) := by decide +kernel
theorem dX11_undo_54 : decode cX11_undo 54 = .ok (.bipush 74, 2) := by decide +kernel
theorem dX11_undo_56 : decode cX11_undo 56 = .ok (.iload_n 2, 1) := by decide +kernel
theorem dX11_undo_57 : decode cX11_undo 57 = .ok (.iadd, 1) := by decide +kernel
theorem dX11_undo_58 : decode cX11_undo 58 = .ok (.aload_n 0, 1) := by decide +kernel
theorem dX11_undo_59 : decode cX11_undo 59 = .ok (.getfield 13, 3) := by decide +kernel
theorem dX11_undo_62 : decode cX11_undo 62 = .ok (.bipush 84, 2) := by decide +kernel
theorem dX11_undo_64 : decode cX11_undo 64 = .ok (.bipush 9, 2) := by decide +kernel
theorem dX11_undo_66 : decode cX11_undo 66 = .ok (.aload_n 0, 1) := by decide +kernel
theorem dX11_undo_67 : decode cX11_undo 67 = .ok (.getfield 13, 3) := by decide +kernel
theorem dX11_undo_70 : decode cX11_undo 70 = .ok (.bipush 83, 2) := by decide +kernel
theorem dX11_undo_72 : decode cX11_undo 72 = .ok (.iaload, 1) := by decide +kernel
theorem dX11_undo_73 : decode cX11_undo 73 = .ok (.imul, 1) := by decide +kernel
theorem dX11_undo_74 : decode cX11_undo 74 = .ok (.iadd, 1) := by decide +kernel
theorem dX11_undo_75 : decode cX11_undo 75 = .ok (.iload_n 2, 1) := by decide +kernel
theorem dX11_undo_76 : decode cX11_undo 76 = .ok (.iadd, 1) := by decide +kernel
theorem dX11_undo_77 : decode cX11_undo 77 = .ok (.iaload, 1) := by decide +kernel
theorem dX11_undo_78 : decode cX11_undo 78 = .ok (.iastore, 1) := by decide +kernel
theorem dX11_undo_79 : decode cX11_undo 79 = .ok (.iinc 2 1, 3) := by decide +kernel
theorem dX11_undo_82 : decode cX11_undo 82 = .ok (.goto (-38), 3) := by decide +kernel
theorem dX11_undo_85 : decode cX11_undo 85 = .ok (.aload_n 0, 1) := by decide +kernel
theorem dX11_undo_86 : decode cX11_undo 86 = .ok (.getfield 13, 3) := by decide +kernel
theorem dX11_undo_89 : decode cX11_undo 89 = .ok (.bipush 83, 2) := by decide +kernel
theorem dX11_undo_91 : decode cX11_undo 91 = .ok (.iaload, 1) := by decide +kernel
theorem dX11_undo_92 : decode cX11_undo 92 = .ok (.ireturn, 1) := by decide +kernel
theorem dX11_whyNot_0 : decode cX11_whyNot 0 = .ok (.lload_n 1, 1) := by decide +kernel
theorem dX11_whyNot_1 : decode cX11_whyNot 1 = .ok (.lconst 0, 1) := by decide +kernel
theorem dX11_whyNot_2 : decode cX11_whyNot 2 = .ok (.ldc2_w 307, 3) := by decide +kernel
theorem dX11_whyNot_5 : decode cX11_whyNot 5 = .ok (.invokestatic 150, 3) := by decide +kernel
theorem dX11_whyNot_8 : decode cX11_whyNot 8 = .ok (.ifCond .eq 9, 3) := by decide +kernel
theorem dX11_whyNot_11 : decode cX11_whyNot 11 = .ok (.aload_n 0, 1) := by decide +kernel
theorem dX11_whyNot_12 : decode cX11_whyNot 12 = .ok (.lload_n 1, 1) := by decide +kernel
theorem dX11_whyNot_13 : decode cX11_whyNot 13 = .ok (.invokevirtual 276, 3) := by decide +kernel
theorem dX11_whyNot_16 : decode cX11_whyNot 16 = .ok (.ireturn, 1) := by decide +kernel
theorem dX11_whyNot_17 : decode cX11_whyNot 17 = .ok (.lload_n 1, 1) := by decide +kernel
theorem dX11_whyNot_18 : decode cX11_whyNot 18 = .ok (.ldc2_w 309, 3) := by decide +kernel
theorem dX11_whyNot_21 : decode cX11_whyNot 21 = .ok (.ldc2_w 311, 3) := by decide +kernel
theorem dX11_whyNot_24 : decode cX11_whyNot 24 = .ok (.invokestatic 150, 3) := by decide +kernel
theorem dX11_whyNot_27 : decode cX11_whyNot 27 = .ok (.ifCond .eq 13, 3) := by decide +kernel
theorem dX11_whyNot_30 : decode cX11_whyNot 30 = .ok (.aload_n 0, 1) := by decide +kernel
theorem dX11_whyNot_31 : decode cX11_whyNot 31 = .ok (.lload_n 1, 1) := by decide +kernel
theorem dX11_whyNot_32 : decode cX11_whyNot 32 = .ok (.ldc2_w 309, 3) := by decide +kernel
theorem dX11_whyNot_35 : decode cX11_whyNot 35 = .ok (.lsub, 1) := by decide +kernel
theorem dX11_whyNot_36 : decode cX11_whyNot 36 = .ok (.invokevirtual 292, 3) := by decide +kernel
theorem dX11_whyNot_39 : decode cX11_whyNot 39 = .ok (.ireturn, 1) := by decide +kernel
theorem dX11_whyNot_40 : decode cX11_whyNot 40 = .ok (.lload_n 1, 1) := by decide +kernel
theorem dX11_whyNot_41 : decode cX11_whyNot 41 = .ok (.ldc2_w 313, 3) := by decide +kernel
theorem dX11_whyNot_44 : decode cX11_whyNot 44 = .ok (.ldc2_w 315, 3) := by decide +kernel
theorem dX11_whyNot_47 : decode cX11_whyNot 47 = .ok (.invokestatic 150, 3) := by decide +kernel
theorem dX11_whyNot_50 : decode cX11_whyNot 50 = .ok (.ifCond .eq 13, 3) := by decide +kernel
theorem dX11_whyNot_53 : decode cX11_whyNot 53 = .ok (.aload_n 0, 1) := by decide +kernel
theorem dX11_whyNot_54 : decode cX11_whyNot 54 = .ok (.lload_n 1, 1) := by decide +kernel
theorem dX11_whyNot_55 : decode cX11_whyNot 55 = .ok (.ldc2_w 313, 3) := by decide +kernel
theorem dX11_whyNot_58 : decode cX11_whyNot 58 = .ok (.lsub, 1) := by decide +kernel
theorem dX11_whyNot_59 : decode cX11_whyNot 59 = .ok (.invokevirtual 298, 3) := by decide +kernel
theorem dX11_whyNot_62 : decode cX11_whyNot 62 = .ok (.ireturn, 1) := by decide +kernel
theorem dX11_whyNot_63 : decode cX11_whyNot 63 = .ok (.lload_n 1, 1) := by decide +kernel
theorem dX11_whyNot_64 : decode cX11_whyNot 64 = .ok (.ldc2_w 317, 3) := by decide +kernel
theorem dX11_whyNot_67 : decode cX11_whyNot 67 = .ok (.ldc2_w 319, 3) := by decide +kernel
theorem dX11_whyNot_70 : decode cX11_whyNot 70 = .ok (.invokestatic 150, 3) := by decide +kernel
theorem dX11_whyNot_73 : decode cX11_whyNot 73 = .ok (.ifCond .eq 21, 3) := by decide +kernel
theorem dX11_whyNot_76 : decode cX11_whyNot 76 = .ok (.aload_n 0, 1) := by decide +kernel
theorem dX11_whyNot_77 : decode cX11_whyNot 77 = .ok (.lload_n 1, 1) := by decide +kernel
theorem dX11_whyNot_78 : decode cX11_whyNot 78 = .ok (.ldc2_w 317, 3) := by decide +kernel
theorem dX11_whyNot_81 : decode cX11_whyNot 81 = .ok (.lsub, 1) := by decide +kernel
theorem dX11_whyNot_82 : decode cX11_whyNot 82 = .ok (.invokevirtual 266, 3) := by decide +kernel
theorem dX11_whyNot_85 : decode cX11_whyNot 85 = .ok (.ifCond .eq 7, 3) := by decide +kernel
theorem dX11_whyNot_88 : decode cX11_whyNot 88 = .ok (.iconst 0, 1) := by decide +kernel
theorem dX11_whyNot_89 : decode cX11_whyNot 89 = .ok (.goto 4, 3) := by decide +kernel
theorem dX11_whyNot_92 : decode cX11_whyNot 92 = .ok (.iconst 1, 1) := by decide +kernel
theorem dX11_whyNot_93 : decode cX11_whyNot 93 = .ok (.ireturn, 1) := by decide +kernel
theorem dX11_whyNot_94 : decode cX11_whyNot 94 = .ok (.lload_n 1, 1) := by decide +kernel
theorem dX11_whyNot_95 : decode cX11_whyNot 95 = .ok (.ldc2_w 321, 3) := by decide +kernel
theorem dX11_whyNot_98 : decode cX11_whyNot 98 = .ok (.ldc2_w 323, 3) := by decide +kernel
theorem dX11_whyNot_101 : decode cX11_whyNot 101 = .ok (.invokestatic 150, 3) := by decide +kernel
theorem dX11_whyNot_104 : decode cX11_whyNot 104 = .ok (.ifCond .eq 7, 3) := by decide +kernel
theorem dX11_whyNot_107 : decode cX11_whyNot 107 = .ok (.iconst 0, 1) := by decide +kernel
theorem dX11_whyNot_108 : decode cX11_whyNot 108 = .ok (.goto 4, 3) := by decide +kernel
theorem dX11_whyNot_111 : decode cX11_whyNot 111 = .ok (.iconst 1, 1) := by decide +kernel
theorem dX11_whyNot_112 : decode cX11_whyNot 112 = .ok (.ireturn, 1) := by decide +kernel
theorem dX11_acts_0 : decode cX11_acts 0 = .ok (.iload_n 1, 1) := by decide +kernel
theorem dX11_acts_1 : decode cX11_acts 1 = .ok (.bipush 10, 2) := by decide +kernel
theorem dX11_acts_3 : decode cX11_acts 3 = .ok (.irem, 1) := by decide +kernel
theorem dX11_acts_4 : decode cX11_acts 4 = .ok (.istore_n 2, 1) := by decide +kernel
theorem dX11_acts_5 : decode cX11_acts 5 = .ok (.iload_n 1, 1) := by decide +kernel
theorem dX11_acts_6 : decode cX11_acts 6 = .ok (.bipush 10, 2) := by decide +kernel
theorem dX11_acts_8 : decode cX11_acts 8 = .ok (.if_icmp .ge 19, 3) := by decide +kernel
theorem dX11_acts_11 : decode cX11_acts 11 = .ok (.aload_n 0, 1) := by decide +kernel
theorem dX11_acts_12 : decode cX11_acts 12 = .ok (.aload_n 0, 1) := by decide +kernel
theorem dX11_acts_13 : decode cX11_acts 13 = .ok (.aload_n 0, 1) := by decide +kernel
theorem dX11_acts_14 : decode cX11_acts 14 = .ok (.invokevirtual 270, 3) := by decide +kernel
theorem dX11_acts_17 : decode cX11_acts 17 = .ok (.iload_n 2, 1) := by decide +kernel
theorem dX11_acts_18 : decode cX11_acts 18 = .ok (.invokevirtual 283, 3) := by decide +kernel
theorem dX11_acts_21 : decode cX11_acts 21 = .ok (.invokevirtual 286, 3) := by decide +kernel
theorem dX11_acts_24 : decode cX11_acts 24 = .ok (.goto 80, 3) := by decide +kernel
theorem dX11_acts_27 : decode cX11_acts 27 = .ok (.iload_n 1, 1) := by decide +kernel
theorem dX11_acts_28 : decode cX11_acts 28 = .ok (.bipush 20, 2) := by decide +kernel
theorem dX11_acts_30 : decode cX11_acts 30 = .ok (.if_icmp .ge 18, 3) := by decide +kernel
theorem dX11_acts_33 : decode cX11_acts 33 = .ok (.aload_n 0, 1) := by decide +kernel
theorem dX11_acts_34 : decode cX11_acts 34 = .ok (.aload_n 0, 1) := by decide +kernel
theorem dX11_acts_35 : decode cX11_acts 35 = .ok (.invokevirtual 270, 3) := by decide +kernel
theorem dX11_acts_38 : decode cX11_acts 38 = .ok (.iload_n 2, 1) := by decide +kernel
theorem dX11_acts_39 : decode cX11_acts 39 = .ok (.invokestatic 295, 3) := by decide +kernel
theorem dX11_acts_42 : decode cX11_acts 42 = .ok (.invokevirtual 286, 3) := by decide +kernel
theorem dX11_acts_45 : decode cX11_acts 45 = .ok (.goto 59, 3) := by decide +kernel
theorem dX11_acts_48 : decode cX11_acts 48 = .ok (.iload_n 1, 1) := by decide +kernel
theorem dX11_acts_49 : decode cX11_acts 49 = .ok (.bipush 30, 2) := by decide +kernel
theorem dX11_acts_51 : decode cX11_acts 51 = .ok (.if_icmp .ge 16, 3) := by decide +kernel
theorem dX11_acts_54 : decode cX11_acts 54 = .ok (.aload_n 0, 1) := by decide +kernel
theorem dX11_acts_55 : decode cX11_acts 55 = .ok (.getfield 13, 3) := by decide +kernel
theorem dX11_acts_58 : decode cX11_acts 58 = .ok (.bipush 74, 2) := by decide +kernel
theorem dX11_acts_60 : decode cX11_acts 60 = .ok (.iload_n 2, 1) := by decide +kernel
theorem dX11_acts_61 : decode cX11_acts 61 = .ok (.iadd, 1) := by decide +kernel
theorem dX11_acts_62 : decode cX11_acts 62 = .ok (.iconst 3, 1) := by decide +kernel
theorem dX11_acts_63 : decode cX11_acts 63 = .ok (.iastore, 1) := by decide +kernel
theorem dX11_acts_64 : decode cX11_acts 64 = .ok (.goto 40, 3) := by decide +kernel
theorem dX11_acts_67 : decode cX11_acts 67 = .ok (.iload_n 1, 1) := by decide +kernel
theorem dX11_acts_68 : decode cX11_acts 68 = .ok (.bipush 40, 2) := by decide +kernel
theorem dX11_acts_70 : decode cX11_acts 70 = .ok (.if_icmp .ge 26, 3) := by decide +kernel
theorem dX11_acts_73 : decode cX11_acts 73 = .ok (.aload_n 0, 1) := by decide +kernel
theorem dX11_acts_74 : decode cX11_acts 74 = .ok (.aload_n 0, 1) := by decide +kernel
theorem dX11_acts_75 : decode cX11_acts 75 = .ok (.invokevirtual 270, 3) := by decide +kernel
theorem dX11_acts_78 : decode cX11_acts 78 = .ok (.aload_n 0, 1) := by decide +kernel
theorem dX11_acts_79 : decode cX11_acts 79 = .ok (.aload_n 0, 1) := by decide +kernel
theorem dX11_acts_80 : decode cX11_acts 80 = .ok (.invokevirtual 270, 3) := by decide +kernel
theorem dX11_acts_83 : decode cX11_acts 83 = .ok (.iload_n 2, 1) := by decide +kernel
theorem dX11_acts_84 : decode cX11_acts 84 = .ok (.invokevirtual 301, 3) := by decide +kernel
theorem dX11_acts_87 : decode cX11_acts 87 = .ok (.invokestatic 304, 3) := by decide +kernel
theorem dX11_acts_90 : decode cX11_acts 90 = .ok (.invokevirtual 286, 3) := by decide +kernel
theorem dX11_acts_93 : decode cX11_acts 93 = .ok (.goto 11, 3) := by decide +kernel
theorem dX11_acts_96 : decode cX11_acts 96 = .ok (.aload_n 0, 1) := by decide +kernel
theorem dX11_acts_97 : decode cX11_acts 97 = .ok (.getfield 13, 3) := by decide +kernel
theorem dX11_acts_100 : decode cX11_acts 100 = .ok (.bipush 82, 2) := by decide +kernel
theorem dX11_acts_102 : decode cX11_acts 102 = .ok (.iload_n 2, 1) := by decide +kernel
theorem dX11_acts_103 : decode cX11_acts 103 = .ok (.iastore, 1) := by decide +kernel
theorem dX11_acts_104 : decode cX11_acts 104 = .ok (.return_, 1) := by decide +kernel
theorem dX11_tells_0 : decode cX11_tells 0 = .ok (.aload_n 0, 1) := by decide +kernel
theorem dX11_tells_1 : decode cX11_tells 1 = .ok (.iconst 0, 1) := by decide +kernel
theorem dX11_tells_2 : decode cX11_tells 2 = .ok (.putfield 325, 3) := by decide +kernel
theorem dX11_tells_5 : decode cX11_tells 5 = .ok (.iconst 0, 1) := by decide +kernel
theorem dX11_tells_6 : decode cX11_tells 6 = .ok (.istore_n 2, 1) := by decide +kernel
theorem dX11_tells_7 : decode cX11_tells 7 = .ok (.iload_n 2, 1) := by decide +kernel
theorem dX11_tells_8 : decode cX11_tells 8 = .ok (.aload_n 0, 1) := by decide +kernel
theorem dX11_tells_9 : decode cX11_tells 9 = .ok (.getfield 78, 3) := by decide +kernel
theorem dX11_tells_12 : decode cX11_tells 12 = .ok (.iload_n 1, 1) := by decide +kernel
theorem dX11_tells_13 : decode cX11_tells 13 = .ok (.iaload, 1) := by decide +kernel
theorem dX11_tells_14 : decode cX11_tells 14 = .ok (.if_icmp .ge 53, 3) := by decide +kernel
theorem dX11_tells_17 : decode cX11_tells 17 = .ok (.aload_n 0, 1) := by decide +kernel
theorem dX11_tells_18 : decode cX11_tells 18 = .ok (.aload_n 0, 1) := by decide +kernel
theorem dX11_tells_19 : decode cX11_tells 19 = .ok (.aload_n 0, 1) := by decide +kernel
theorem dX11_tells_20 : decode cX11_tells 20 = .ok (.getfield 81, 3) := by decide +kernel
theorem dX11_tells_23 : decode cX11_tells 23 = .ok (.bipush 40, 2) := by decide +kernel
theorem dX11_tells_25 : decode cX11_tells 25 = .ok (.iload_n 1, 1) := by decide +kernel
theorem dX11_tells_26 : decode cX11_tells 26 = .ok (.imul, 1) := by decide +kernel
theorem dX11_tells_27 : decode cX11_tells 27 = .ok (.iload_n 2, 1) := by decide +kernel
theorem dX11_tells_28 : decode cX11_tells 28 = .ok (.iadd, 1) := by decide +kernel
theorem dX11_tells_29 : decode cX11_tells 29 = .ok (.laload, 1) := by decide +kernel
theorem dX11_tells_30 : decode cX11_tells 30 = .ok (.invokevirtual 328, 3) := by decide +kernel
theorem dX11_tells_33 : decode cX11_tells 33 = .ok (.putfield 325, 3) := by decide +kernel
theorem dX11_tells_36 : decode cX11_tells 36 = .ok (.aload_n 0, 1) := by decide +kernel
theorem dX11_tells_37 : decode cX11_tells 37 = .ok (.getfield 325, 3) := by decide +kernel
theorem dX11_tells_40 : decode cX11_tells 40 = .ok (.ifCond .eq 5, 3) := by decide +kernel
theorem dX11_tells_43 : decode cX11_tells 43 = .ok (.iload_n 2, 1) := by decide +kernel
theorem dX11_tells_44 : decode cX11_tells 44 = .ok (.ireturn, 1) := by decide +kernel
theorem dX11_tells_45 : decode cX11_tells 45 = .ok (.aload_n 0, 1) := by decide +kernel
theorem dX11_tells_46 : decode cX11_tells 46 = .ok (.aload_n 0, 1) := by decide +kernel
theorem dX11_tells_47 : decode cX11_tells 47 = .ok (.getfield 81, 3) := by decide +kernel
theorem dX11_tells_50 : decode cX11_tells 50 = .ok (.bipush 40, 2) := by decide +kernel
theorem dX11_tells_52 : decode cX11_tells 52 = .ok (.iload_n 1, 1) := by decide +kernel
theorem dX11_tells_53 : decode cX11_tells 53 = .ok (.imul, 1) := by decide +kernel
theorem dX11_tells_54 : decode cX11_tells 54 = .ok (.iload_n 2, 1) := by decide +kernel
theorem dX11_tells_55 : decode cX11_tells 55 = .ok (.iadd, 1) := by decide +kernel
theorem dX11_tells_56 : decode cX11_tells 56 = .ok (.laload, 1) := by decide +kernel
theorem dX11_tells_57 : decode cX11_tells 57 = .ok (.l2i, 1) := by decide +kernel
theorem dX11_tells_58 : decode cX11_tells 58 = .ok (.invokevirtual 331, 3) := by decide +kernel
theorem dX11_tells_61 : decode cX11_tells 61 = .ok (.iinc 2 1, 3) := by decide +kernel
theorem dX11_tells_64 : decode cX11_tells 64 = .ok (.goto (-57), 3) := by decide +kernel
theorem dX11_tells_67 : decode cX11_tells 67 = .ok (.aload_n 0, 1) := by decide +kernel
theorem dX11_tells_68 : decode cX11_tells 68 = .ok (.getfield 78, 3) := by decide +kernel
theorem dX11_tells_71 : decode cX11_tells 71 = .ok (.iload_n 1, 1) := by decide +kernel
theorem dX11_tells_72 : decode cX11_tells 72 = .ok (.iaload, 1) := by decide +kernel
theorem dX11_tells_73 : decode cX11_tells 73 = .ok (.ireturn, 1) := by decide +kernel
theorem dX11_noTray_0 : decode cX11_noTray 0 = .ok (.iload_n 1, 1) := by decide +kernel
theorem dX11_noTray_1 : decode cX11_noTray 1 = .ok (.i2l, 1) := by decide +kernel
theorem dX11_noTray_2 : decode cX11_noTray 2 = .ok (.lconst 0, 1) := by decide +kernel
theorem dX11_noTray_3 : decode cX11_noTray 3 = .ok (.ldc2_w 334, 3) := by decide +kernel
theorem dX11_noTray_6 : decode cX11_noTray 6 = .ok (.invokestatic 150, 3) := by decide +kernel
theorem dX11_noTray_9 : decode cX11_noTray 9 = .ok (.ifCond .ne 8, 3) := by decide +kernel
theorem dX11_noTray_12 : decode cX11_noTray 12 = .ok (.bipush (-2), 2) := by decide +kernel
theorem dX11_noTray_14 : decode cX11_noTray 14 = .ok (.goto 19, 3) := by decide +kernel
theorem dX11_noTray_17 : decode cX11_noTray 17 = .ok (.aload_n 0, 1) := by decide +kernel
theorem dX11_noTray_18 : decode cX11_noTray 18 = .ok (.getfield 75, 3) := by decide +kernel
theorem dX11_noTray_21 : decode cX11_noTray 21 = .ok (.iload_n 1, 1) := by decide +kernel
theorem dX11_noTray_22 : decode cX11_noTray 22 = .ok (.iaload, 1) := by decide +kernel
theorem dX11_noTray_23 : decode cX11_noTray 23 = .ok (.iconst (-1), 1) := by decide +kernel
theorem dX11_noTray_24 : decode cX11_noTray 24 = .ok (.if_icmp .ne 8, 3) := by decide +kernel
theorem dX11_noTray_27 : decode cX11_noTray 27 = .ok (.bipush (-6), 2) := by decide +kernel
theorem dX11_noTray_29 : decode cX11_noTray 29 = .ok (.goto 4, 3) := by decide +kernel
theorem dX11_noTray_32 : decode cX11_noTray 32 = .ok (.iconst 0, 1) := by decide +kernel
theorem dX11_noTray_33 : decode cX11_noTray 33 = .ok (.ireturn, 1) := by decide +kernel
theorem dX11_judge_0 : decode cX11_judge 0 = .ok (.aload_n 0, 1) := by decide +kernel
theorem dX11_judge_1 : decode cX11_judge 1 = .ok (.iconst 0, 1) := by decide +kernel
theorem dX11_judge_2 : decode cX11_judge 2 = .ok (.putfield 1, 3) := by decide +kernel
theorem dX11_judge_5 : decode cX11_judge 5 = .ok (.iload_n 2, 1) := by decide +kernel
theorem dX11_judge_6 : decode cX11_judge 6 = .ok (.i2l, 1) := by decide +kernel
theorem dX11_judge_7 : decode cX11_judge 7 = .ok (.lconst 0, 1) := by decide +kernel
theorem dX11_judge_8 : decode cX11_judge 8 = .ok (.ldc2_w 334, 3) := by decide +kernel
theorem dX11_judge_11 : decode cX11_judge 11 = .ok (.invokestatic 150, 3) := by decide +kernel
theorem dX11_judge_14 : decode cX11_judge 14 = .ok (.ifCond .ne 6, 3) := by decide +kernel
theorem dX11_judge_17 : decode cX11_judge 17 = .ok (.bipush (-2), 2) := by decide +kernel
theorem dX11_judge_19 : decode cX11_judge 19 = .ok (.ireturn, 1) := by decide +kernel
theorem dX11_judge_20 : decode cX11_judge 20 = .ok (.aload_n 0, 1) := by decide +kernel
theorem dX11_judge_21 : decode cX11_judge 21 = .ok (.iload_n 1, 1) := by decide +kernel
theorem dX11_judge_22 : decode cX11_judge 22 = .ok (.invokevirtual 336, 3) := by decide +kernel
theorem dX11_judge_25 : decode cX11_judge 25 = .ok (.istore_n 3, 1) := by decide +kernel
theorem dX11_judge_26 : decode cX11_judge 26 = .ok (.iload_n 3, 1) := by decide +kernel
theorem dX11_judge_27 : decode cX11_judge 27 = .ok (.ifCond .eq 5, 3) := by decide +kernel
theorem dX11_judge_30 : decode cX11_judge 30 = .ok (.iload_n 3, 1) := by decide +kernel
theorem dX11_judge_31 : decode cX11_judge 31 = .ok (.ireturn, 1) := by decide +kernel
theorem dX11_judge_32 : decode cX11_judge 32 = .ok (.aload_n 0, 1) := by decide +kernel
theorem dX11_judge_33 : decode cX11_judge 33 = .ok (.invokevirtual 280, 3) := by decide +kernel
theorem dX11_judge_36 : decode cX11_judge 36 = .ok (.aload_n 0, 1) := by decide +kernel
theorem dX11_judge_37 : decode cX11_judge 37 = .ok (.iload_n 1, 1) := by decide +kernel
theorem dX11_judge_38 : decode cX11_judge 38 = .ok (.invokevirtual 339, 3) := by decide +kernel
theorem dX11_judge_41 : decode cX11_judge 41 = .ok (.istore 4, 2) := by decide +kernel
theorem dX11_judge_43 : decode cX11_judge 43 = .ok (.aload_n 0, 1) := by decide +kernel
theorem dX11_judge_44 : decode cX11_judge 44 = .ok (.invokevirtual 270, 3) := by decide +kernel
theorem dX11_judge_47 : decode cX11_judge 47 = .ok (.istore 5, 2) := by decide +kernel
theorem dX11_judge_49 : decode cX11_judge 49 = .ok (.aload_n 0, 1) := by decide +kernel
theorem dX11_judge_50 : decode cX11_judge 50 = .ok (.invokevirtual 342, 3) := by decide +kernel
theorem dX11_judge_53 : decode cX11_judge 53 = .ok (.iload_n 2, 1) := by decide +kernel
theorem dX11_judge_54 : decode cX11_judge 54 = .ok (.ifCond .ne 19, 3) := by decide +kernel
theorem dX11_judge_57 : decode cX11_judge 57 = .ok (.aload_n 0, 1) := by decide +kernel
theorem dX11_judge_58 : decode cX11_judge 58 = .ok (.getfield 325, 3) := by decide +kernel
theorem dX11_judge_61 : decode cX11_judge 61 = .ok (.ifCond .ne 7, 3) := by decide +kernel
theorem dX11_judge_64 : decode cX11_judge 64 = .ok (.iconst (-1), 1) := by decide +kernel
theorem dX11_judge_65 : decode cX11_judge 65 = .ok (.goto 40, 3) := by decide +kernel
theorem dX11_judge_68 : decode cX11_judge 68 = .ok (.iload 4, 2) := by decide +kernel
theorem dX11_judge_70 : decode cX11_judge 70 = .ok (.goto 35, 3) := by decide +kernel
theorem dX11_judge_73 : decode cX11_judge 73 = .ok (.iload_n 2, 1) := by decide +kernel
theorem dX11_judge_74 : decode cX11_judge 74 = .ok (.iconst 1, 1) := by decide +kernel
theorem dX11_judge_75 : decode cX11_judge 75 = .ok (.if_icmp .ne 10, 3) := by decide +kernel
theorem dX11_judge_78 : decode cX11_judge 78 = .ok (.aload_n 0, 1) := by decide +kernel
theorem dX11_judge_79 : decode cX11_judge 79 = .ok (.getfield 325, 3) := by decide +kernel
theorem dX11_judge_82 : decode cX11_judge 82 = .ok (.goto 23, 3) := by decide +kernel
theorem dX11_judge_85 : decode cX11_judge 85 = .ok (.iload_n 2, 1) := by decide +kernel
theorem dX11_judge_86 : decode cX11_judge 86 = .ok (.iconst 2, 1) := by decide +kernel
theorem dX11_judge_87 : decode cX11_judge 87 = .ok (.if_icmp .ne 12, 3) := by decide +kernel
theorem dX11_judge_90 : decode cX11_judge 90 = .ok (.aload_n 0, 1) := by decide +kernel
theorem dX11_judge_91 : decode cX11_judge 91 = .ok (.iload 5, 2) := by decide +kernel
theorem dX11_judge_93 : decode cX11_judge 93 = .ok (.invokevirtual 245, 3) := by decide +kernel
theorem dX11_judge_96 : decode cX11_judge 96 = .ok (.goto 9, 3) := by decide +kernel
theorem dX11_judge_99 : decode cX11_judge 99 = .ok (.aload_n 0, 1) := by decide +kernel
theorem dX11_judge_100 : decode cX11_judge 100 = .ok (.iload 5, 2) := by decide +kernel
theorem dX11_judge_102 : decode cX11_judge 102 = .ok (.invokevirtual 225, 3) := by decide +kernel
theorem dX11_judge_105 : decode cX11_judge 105 = .ok (.ireturn, 1) := by decide +kernel
theorem dX11_perform_0 : decode cX11_perform 0 = .ok (.aload_n 0, 1) := by decide +kernel
theorem dX11_perform_1 : decode cX11_perform 1 = .ok (.iconst 0, 1) := by decide +kernel
theorem dX11_perform_2 : decode cX11_perform 2 = .ok (.putfield 1, 3) := by decide +kernel
theorem dX11_perform_5 : decode cX11_perform 5 = .ok (.aload_n 0, 1) := by decide +kernel
theorem dX11_perform_6 : decode cX11_perform 6 = .ok (.iload_n 1, 1) := by decide +kernel
theorem dX11_perform_7 : decode cX11_perform 7 = .ok (.invokevirtual 336, 3) := by decide +kernel
theorem dX11_perform_10 : decode cX11_perform 10 = .ok (.istore_n 2, 1) := by decide +kernel
theorem dX11_perform_11 : decode cX11_perform 11 = .ok (.iload_n 2, 1) := by decide +kernel
theorem dX11_perform_12 : decode cX11_perform 12 = .ok (.ifCond .eq 5, 3) := by decide +kernel
theorem dX11_perform_15 : decode cX11_perform 15 = .ok (.iload_n 2, 1) := by decide +kernel
theorem dX11_perform_16 : decode cX11_perform 16 = .ok (.ireturn, 1) := by decide +kernel
theorem dX11_perform_17 : decode cX11_perform 17 = .ok (.aload_n 0, 1) := by decide +kernel
theorem dX11_perform_18 : decode cX11_perform 18 = .ok (.invokevirtual 280, 3) := by decide +kernel
theorem dX11_perform_21 : decode cX11_perform 21 = .ok (.aload_n 0, 1) := by decide +kernel
theorem dX11_perform_22 : decode cX11_perform 22 = .ok (.iload_n 1, 1) := by decide +kernel
theorem dX11_perform_23 : decode cX11_perform 23 = .ok (.invokevirtual 339, 3) := by decide +kernel
theorem dX11_perform_26 : decode cX11_perform 26 = .ok (.istore_n 3, 1) := by decide +kernel
theorem dX11_perform_27 : decode cX11_perform 27 = .ok (.iload_n 3, 1) := by decide +kernel
theorem dX11_perform_28 : decode cX11_perform 28 = .ok (.ifCond .le 7, 3) := by decide +kernel
theorem dX11_perform_31 : decode cX11_perform 31 = .ok (.aload_n 0, 1) := by decide +kernel
theorem dX11_perform_32 : decode cX11_perform 32 = .ok (.invokevirtual 289, 3) := by decide +kernel
theorem dX11_perform_35 : decode cX11_perform 35 = .ok (.iload_n 3, 1) := by decide +kernel
theorem dX11_perform_36 : decode cX11_perform 36 = .ok (.ireturn, 1) := by decide +kernel
theorem dX11_draw_0 : decode cX11_draw 0 = .ok (.aload_n 0, 1) := by decide +kernel
theorem dX11_draw_1 : decode cX11_draw 1 = .ok (.ldc_w 345, 3) := by decide +kernel
theorem dX11_draw_4 : decode cX11_draw 4 = .ok (.aload_n 0, 1) := by decide +kernel
theorem dX11_draw_5 : decode cX11_draw 5 = .ok (.getfield 346, 3) := by decide +kernel
theorem dX11_draw_8 : decode cX11_draw 8 = .ok (.imul, 1) := by decide +kernel
theorem dX11_draw_9 : decode cX11_draw 9 = .ok (.sipush 12345, 3) := by decide +kernel
theorem dX11_draw_12 : decode cX11_draw 12 = .ok (.iadd, 1) := by decide +kernel
theorem dX11_draw_13 : decode cX11_draw 13 = .ok (.putfield 346, 3) := by decide +kernel
theorem dX11_draw_16 : decode cX11_draw 16 = .ok (.aload_n 0, 1) := by decide +kernel
theorem dX11_draw_17 : decode cX11_draw 17 = .ok (.getfield 346, 3) := by decide +kernel
theorem dX11_draw_20 : decode cX11_draw 20 = .ok (.bipush 16, 2) := by decide +kernel
theorem dX11_draw_22 : decode cX11_draw 22 = .ok (.iushr, 1) := by decide +kernel
theorem dX11_draw_23 : decode cX11_draw 23 = .ok (.iload_n 1, 1) := by decide +kernel
theorem dX11_draw_24 : decode cX11_draw 24 = .ok (.irem, 1) := by decide +kernel
theorem dX11_draw_25 : decode cX11_draw 25 = .ok (.ireturn, 1) := by decide +kernel
theorem dX11_drawn_0 : decode cX11_drawn 0 = .ok (.aload_n 0, 1) := by decide +kernel
theorem dX11_drawn_1 : decode cX11_drawn 1 = .ok (.bipush 8, 2) := by decide +kernel
theorem dX11_drawn_3 : decode cX11_drawn 3 = .ok (.invokevirtual 349, 3) := by decide +kernel
theorem dX11_drawn_6 : decode cX11_drawn 6 = .ok (.istore_n 1, 1) := by decide +kernel
theorem dX11_drawn_7 : decode cX11_drawn 7 = .ok (.aload_n 0, 1) := by decide +kernel
theorem dX11_drawn_8 : decode cX11_drawn 8 = .ok (.bipush 8, 2) := by decide +kernel
theorem dX11_drawn_10 : decode cX11_drawn 10 = .ok (.invokevirtual 349, 3) := by decide +kernel
theorem dX11_drawn_13 : decode cX11_drawn 13 = .ok (.istore_n 2, 1) := by decide +kernel
theorem dX11_drawn_14 : decode cX11_drawn 14 = .ok (.iload_n 1, 1) := by decide +kernel
theorem dX11_drawn_15 : decode cX11_drawn 15 = .ok (.iconst 4, 1) := by decide +kernel
theorem dX11_drawn_16 : decode cX11_drawn 16 = .ok (.if_icmp .ge 7, 3) := by decide +kernel
theorem dX11_drawn_19 : decode cX11_drawn 19 = .ok (.iload_n 2, 1) := by decide +kernel
theorem dX11_drawn_20 : decode cX11_drawn 20 = .ok (.goto 31, 3) := by decide +kernel
theorem dX11_drawn_23 : decode cX11_drawn 23 = .ok (.iload_n 1, 1) := by decide +kernel
theorem dX11_drawn_24 : decode cX11_drawn 24 = .ok (.iconst 4, 1) := by decide +kernel
theorem dX11_drawn_25 : decode cX11_drawn 25 = .ok (.if_icmp .ne 10, 3) := by decide +kernel
theorem dX11_drawn_28 : decode cX11_drawn 28 = .ok (.bipush 10, 2) := by decide +kernel
theorem dX11_drawn_30 : decode cX11_drawn 30 = .ok (.iload_n 2, 1) := by decide +kernel
theorem dX11_drawn_31 : decode cX11_drawn 31 = .ok (.iadd, 1) := by decide +kernel
theorem dX11_drawn_32 : decode cX11_drawn 32 = .ok (.goto 19, 3) := by decide +kernel
theorem dX11_drawn_35 : decode cX11_drawn 35 = .ok (.iload_n 1, 1) := by decide +kernel
theorem dX11_drawn_36 : decode cX11_drawn 36 = .ok (.iconst 5, 1) := by decide +kernel
theorem dX11_drawn_37 : decode cX11_drawn 37 = .ok (.if_icmp .ne 10, 3) := by decide +kernel
theorem dX11_drawn_40 : decode cX11_drawn 40 = .ok (.bipush 20, 2) := by decide +kernel
theorem dX11_drawn_42 : decode cX11_drawn 42 = .ok (.iload_n 2, 1) := by decide +kernel
theorem dX11_drawn_43 : decode cX11_drawn 43 = .ok (.iadd, 1) := by decide +kernel
theorem dX11_drawn_44 : decode cX11_drawn 44 = .ok (.goto 7, 3) := by decide +kernel
theorem dX11_drawn_47 : decode cX11_drawn 47 = .ok (.bipush 30, 2) := by decide +kernel
theorem dX11_drawn_49 : decode cX11_drawn 49 = .ok (.iload_n 2, 1) := by decide +kernel
theorem dX11_drawn_50 : decode cX11_drawn 50 = .ok (.iadd, 1) := by decide +kernel
theorem dX11_drawn_51 : decode cX11_drawn 51 = .ok (.ireturn, 1) := by decide +kernel
theorem dX11_year_0 : decode cX11_year 0 = .ok (.aload_n 0, 1) := by decide +kernel
theorem dX11_year_1 : decode cX11_year 1 = .ok (.iconst 0, 1) := by decide +kernel
theorem dX11_year_2 : decode cX11_year 2 = .ok (.putfield 1, 3) := by decide +kernel
theorem dX11_year_5 : decode cX11_year 5 = .ok (.iload_n 2, 1) := by decide +kernel
theorem dX11_year_6 : decode cX11_year 6 = .ok (.i2l, 1) := by decide +kernel
theorem dX11_year_7 : decode cX11_year 7 = .ok (.lconst 1, 1) := by decide +kernel
theorem dX11_year_8 : decode cX11_year 8 = .ok (.ldc2_w 321, 3) := by decide +kernel
theorem dX11_year_11 : decode cX11_year 11 = .ok (.invokestatic 150, 3) := by decide +kernel
theorem dX11_year_14 : decode cX11_year 14 = .ok (.ifCond .ne 6, 3) := by decide +kernel
theorem dX11_year_17 : decode cX11_year 17 = .ok (.bipush (-3), 2) := by decide +kernel
theorem dX11_year_19 : decode cX11_year 19 = .ok (.ireturn, 1) := by decide +kernel
theorem dX11_year_20 : decode cX11_year 20 = .ok (.aload_n 0, 1) := by decide +kernel
theorem dX11_year_21 : decode cX11_year 21 = .ok (.invokevirtual 280, 3) := by decide +kernel
theorem dX11_year_24 : decode cX11_year 24 = .ok (.aload_n 0, 1) := by decide +kernel
theorem dX11_year_25 : decode cX11_year 25 = .ok (.iload_n 1, 1) := by decide +kernel
theorem dX11_year_26 : decode cX11_year 26 = .ok (.putfield 346, 3) := by decide +kernel
theorem dX11_year_29 : decode cX11_year 29 = .ok (.iconst 0, 1) := by decide +kernel
theorem dX11_year_30 : decode cX11_year 30 = .ok (.istore_n 3, 1) := by decide +kernel
theorem dX11_year_31 : decode cX11_year 31 = .ok (.iconst 0, 1) := by decide +kernel
theorem dX11_year_32 : decode cX11_year 32 = .ok (.istore 4, 2) := by decide +kernel
theorem dX11_year_34 : decode cX11_year 34 = .ok (.iload 4, 2) := by decide +kernel
theorem dX11_year_36 : decode cX11_year 36 = .ok (.iload_n 2, 1) := by decide +kernel
theorem dX11_year_37 : decode cX11_year 37 = .ok (.if_icmp .ge 37, 3) := by decide +kernel
theorem dX11_year_40 : decode cX11_year 40 = .ok (.aload_n 0, 1) := by decide +kernel
theorem dX11_year_41 : decode cX11_year 41 = .ok (.invokevirtual 352, 3) := by decide +kernel
theorem dX11_year_44 : decode cX11_year 44 = .ok (.istore 5, 2) := by decide +kernel
theorem dX11_year_46 : decode cX11_year 46 = .ok (.aload_n 0, 1) := by decide +kernel
theorem dX11_year_47 : decode cX11_year 47 = .ok (.iload 5, 2) := by decide +kernel
theorem dX11_year_49 : decode cX11_year 49 = .ok (.i2l, 1) := by decide +kernel
theorem dX11_year_50 : decode cX11_year 50 = .ok (.invokevirtual 328, 3) := by decide +kernel
theorem dX11_year_53 : decode cX11_year 53 = .ok (.ifCond .eq 6, 3) := by decide +kernel
theorem dX11_year_56 : decode cX11_year 56 = .ok (.goto 12, 3) := by decide +kernel
theorem dX11_year_59 : decode cX11_year 59 = .ok (.aload_n 0, 1) := by decide +kernel
theorem dX11_year_60 : decode cX11_year 60 = .ok (.iload 5, 2) := by decide +kernel
theorem dX11_year_62 : decode cX11_year 62 = .ok (.invokevirtual 331, 3) := by decide +kernel
theorem dX11_year_65 : decode cX11_year 65 = .ok (.iinc 3 1, 3) := by decide +kernel
theorem dX11_year_68 : decode cX11_year 68 = .ok (.iinc 4 1, 3) := by decide +kernel
theorem dX11_year_71 : decode cX11_year 71 = .ok (.goto (-37), 3) := by decide +kernel
theorem dX11_year_74 : decode cX11_year 74 = .ok (.iload_n 3, 1) := by decide +kernel
theorem dX11_year_75 : decode cX11_year 75 = .ok (.ifCond .le 7, 3) := by decide +kernel
theorem dX11_year_78 : decode cX11_year 78 = .ok (.aload_n 0, 1) := by decide +kernel
theorem dX11_year_79 : decode cX11_year 79 = .ok (.invokevirtual 289, 3) := by decide +kernel
theorem dX11_year_82 : decode cX11_year 82 = .ok (.iload_n 3, 1) := by decide +kernel
theorem dX11_year_83 : decode cX11_year 83 = .ok (.ireturn, 1) := by decide +kernel
theorem dX11_adds_0 : decode cX11_adds 0 = .ok (.aload_n 0, 1) := by decide +kernel
theorem dX11_adds_1 : decode cX11_adds 1 = .ok (.getfield 50, 3) := by decide +kernel
theorem dX11_adds_4 : decode cX11_adds 4 = .ok (.iload_n 1, 1) := by decide +kernel
theorem dX11_adds_5 : decode cX11_adds 5 = .ok (.baload, 1) := by decide +kernel
theorem dX11_adds_6 : decode cX11_adds 6 = .ok (.ifCond .eq 4, 3) := by decide +kernel
theorem dX11_adds_9 : decode cX11_adds 9 = .ok (.return_, 1) := by decide +kernel
theorem dX11_adds_10 : decode cX11_adds 10 = .ok (.aload_n 0, 1) := by decide +kernel
theorem dX11_adds_11 : decode cX11_adds 11 = .ok (.getfield 50, 3) := by decide +kernel
theorem dX11_adds_14 : decode cX11_adds 14 = .ok (.iload_n 1, 1) := by decide +kernel
theorem dX11_adds_15 : decode cX11_adds 15 = .ok (.iconst 1, 1) := by decide +kernel
theorem dX11_adds_16 : decode cX11_adds 16 = .ok (.bastore, 1) := by decide +kernel
theorem dX11_adds_17 : decode cX11_adds 17 = .ok (.aload_n 0, 1) := by decide +kernel
theorem dX11_adds_18 : decode cX11_adds 18 = .ok (.getfield 40, 3) := by decide +kernel
theorem dX11_adds_21 : decode cX11_adds 21 = .ok (.aload_n 0, 1) := by decide +kernel
theorem dX11_adds_22 : decode cX11_adds 22 = .ok (.getfield 355, 3) := by decide +kernel
theorem dX11_adds_25 : decode cX11_adds 25 = .ok (.iload_n 1, 1) := by decide +kernel
theorem dX11_adds_26 : decode cX11_adds 26 = .ok (.iastore, 1) := by decide +kernel
theorem dX11_adds_27 : decode cX11_adds 27 = .ok (.aload_n 0, 1) := by decide +kernel
theorem dX11_adds_28 : decode cX11_adds 28 = .ok (.dup, 1) := by decide +kernel
theorem dX11_adds_29 : decode cX11_adds 29 = .ok (.getfield 355, 3) := by decide +kernel
theorem dX11_adds_32 : decode cX11_adds 32 = .ok (.iconst 1, 1) := by decide +kernel
theorem dX11_adds_33 : decode cX11_adds 33 = .ok (.iadd, 1) := by decide +kernel
theorem dX11_adds_34 : decode cX11_adds 34 = .ok (.putfield 355, 3) := by decide +kernel
theorem dX11_adds_37 : decode cX11_adds 37 = .ok (.return_, 1) := by decide +kernel
theorem dX11_movedTo_0 : decode cX11_movedTo 0 = .ok (.iload_n 2, 1) := by decide +kernel
theorem dX11_movedTo_1 : decode cX11_movedTo 1 = .ok (.bipush 8, 2) := by decide +kernel
theorem dX11_movedTo_3 : decode cX11_movedTo 3 = .ok (.irem, 1) := by decide +kernel
theorem dX11_movedTo_4 : decode cX11_movedTo 4 = .ok (.istore_n 3, 1) := by decide +kernel
theorem dX11_movedTo_5 : decode cX11_movedTo 5 = .ok (.iload_n 3, 1) := by decide +kernel
theorem dX11_movedTo_6 : decode cX11_movedTo 6 = .ok (.aload_n 0, 1) := by decide +kernel
theorem dX11_movedTo_7 : decode cX11_movedTo 7 = .ok (.getfield 13, 3) := by decide +kernel
theorem dX11_movedTo_10 : decode cX11_movedTo 10 = .ok (.iconst 1, 1) := by decide +kernel
theorem dX11_movedTo_11 : decode cX11_movedTo 11 = .ok (.iaload, 1) := by decide +kernel
theorem dX11_movedTo_12 : decode cX11_movedTo 12 = .ok (.if_icmp .lt 5, 3) := by decide +kernel
theorem dX11_movedTo_15 : decode cX11_movedTo 15 = .ok (.iconst (-1), 1) := by decide +kernel
theorem dX11_movedTo_16 : decode cX11_movedTo 16 = .ok (.ireturn, 1) := by decide +kernel
theorem dX11_movedTo_17 : decode cX11_movedTo 17 = .ok (.iload_n 2, 1) := by decide +kernel
theorem dX11_movedTo_18 : decode cX11_movedTo 18 = .ok (.bipush 8, 2) := by decide +kernel
theorem dX11_movedTo_20 : decode cX11_movedTo 20 = .ok (.if_icmp .lt 31, 3) := by decide +kernel
theorem dX11_movedTo_23 : decode cX11_movedTo 23 = .ok (.iload_n 1, 1) := by decide +kernel
theorem dX11_movedTo_24 : decode cX11_movedTo 24 = .ok (.iload_n 3, 1) := by decide +kernel
theorem dX11_movedTo_25 : decode cX11_movedTo 25 = .ok (.invokestatic 215, 3) := by decide +kernel
theorem dX11_movedTo_28 : decode cX11_movedTo 28 = .ok (.iconst 1, 1) := by decide +kernel
theorem dX11_movedTo_29 : decode cX11_movedTo 29 = .ok (.if_icmp .eq 12, 3) := by decide +kernel
theorem dX11_movedTo_32 : decode cX11_movedTo 32 = .ok (.iload_n 1, 1) := by decide +kernel
theorem dX11_movedTo_33 : decode cX11_movedTo 33 = .ok (.iload_n 3, 1) := by decide +kernel
theorem dX11_movedTo_34 : decode cX11_movedTo 34 = .ok (.invokestatic 215, 3) := by decide +kernel
theorem dX11_movedTo_37 : decode cX11_movedTo 37 = .ok (.iconst 3, 1) := by decide +kernel
theorem dX11_movedTo_38 : decode cX11_movedTo 38 = .ok (.if_icmp .ne 11, 3) := by decide +kernel
theorem dX11_movedTo_41 : decode cX11_movedTo 41 = .ok (.iload_n 1, 1) := by decide +kernel
theorem dX11_movedTo_42 : decode cX11_movedTo 42 = .ok (.iload_n 3, 1) := by decide +kernel
theorem dX11_movedTo_43 : decode cX11_movedTo 43 = .ok (.invokestatic 295, 3) := by decide +kernel
theorem dX11_movedTo_46 : decode cX11_movedTo 46 = .ok (.goto 4, 3) := by decide +kernel
theorem dX11_movedTo_49 : decode cX11_movedTo 49 = .ok (.iconst (-1), 1) := by decide +kernel
theorem dX11_movedTo_50 : decode cX11_movedTo 50 = .ok (.ireturn, 1) := by decide +kernel
theorem dX11_movedTo_51 : decode cX11_movedTo 51 = .ok (.iload_n 1, 1) := by decide +kernel
theorem dX11_movedTo_52 : decode cX11_movedTo 52 = .ok (.iload_n 3, 1) := by decide +kernel
theorem dX11_movedTo_53 : decode cX11_movedTo 53 = .ok (.invokestatic 255, 3) := by decide +kernel
theorem dX11_movedTo_56 : decode cX11_movedTo 56 = .ok (.ifCond .ne 21, 3) := by decide +kernel
theorem dX11_movedTo_59 : decode cX11_movedTo 59 = .ok (.aload_n 0, 1) := by decide +kernel
theorem dX11_movedTo_60 : decode cX11_movedTo 60 = .ok (.iload_n 1, 1) := by decide +kernel
theorem dX11_movedTo_61 : decode cX11_movedTo 61 = .ok (.iload_n 3, 1) := by decide +kernel
theorem dX11_movedTo_62 : decode cX11_movedTo 62 = .ok (.invokevirtual 273, 3) := by decide +kernel
theorem dX11_movedTo_65 : decode cX11_movedTo 65 = .ok (.ifCond .eq 12, 3) := by decide +kernel
theorem dX11_movedTo_68 : decode cX11_movedTo 68 = .ok (.aload_n 0, 1) := by decide +kernel
theorem dX11_movedTo_69 : decode cX11_movedTo 69 = .ok (.iload_n 1, 1) := by decide +kernel
theorem dX11_movedTo_70 : decode cX11_movedTo 70 = .ok (.iload_n 3, 1) := by decide +kernel
theorem dX11_movedTo_71 : decode cX11_movedTo 71 = .ok (.invokevirtual 283, 3) := by decide +kernel
theorem dX11_movedTo_74 : decode cX11_movedTo 74 = .ok (.goto 4, 3) := by decide +kernel
theorem dX11_movedTo_77 : decode cX11_movedTo 77 = .ok (.iconst (-1), 1) := by decide +kernel
theorem dX11_movedTo_78 : decode cX11_movedTo 78 = .ok (.ireturn, 1) := by decide +kernel
theorem dX11_toldMove_0 : decode cX11_toldMove 0 = .ok (.iload_n 0, 1) := by decide +kernel
theorem dX11_toldMove_1 : decode cX11_toldMove 1 = .ok (.bipush 8, 2) := by decide +kernel
theorem dX11_toldMove_3 : decode cX11_toldMove 3 = .ok (.if_icmp .ge 7, 3) := by decide +kernel
theorem dX11_toldMove_6 : decode cX11_toldMove 6 = .ok (.iload_n 0, 1) := by decide +kernel
theorem dX11_toldMove_7 : decode cX11_toldMove 7 = .ok (.goto 6, 3) := by decide +kernel
theorem dX11_toldMove_10 : decode cX11_toldMove 10 = .ok (.iconst 2, 1) := by decide +kernel
theorem dX11_toldMove_11 : decode cX11_toldMove 11 = .ok (.iload_n 0, 1) := by decide +kernel
theorem dX11_toldMove_12 : decode cX11_toldMove 12 = .ok (.iadd, 1) := by decide +kernel
theorem dX11_toldMove_13 : decode cX11_toldMove 13 = .ok (.ireturn, 1) := by decide +kernel
theorem dX11_laysStands_0 : decode cX11_laysStands 0 = .ok (.iconst 0, 1) := by decide +kernel
theorem dX11_laysStands_1 : decode cX11_laysStands 1 = .ok (.istore_n 1, 1) := by decide +kernel
theorem dX11_laysStands_2 : decode cX11_laysStands 2 = .ok (.iload_n 1, 1) := by decide +kernel
theorem dX11_laysStands_3 : decode cX11_laysStands 3 = .ok (.ldc 39, 2) := by decide +kernel
theorem dX11_laysStands_5 : decode cX11_laysStands 5 = .ok (.if_icmp .ge 16, 3) := by decide +kernel
theorem dX11_laysStands_8 : decode cX11_laysStands 8 = .ok (.aload_n 0, 1) := by decide +kernel
theorem dX11_laysStands_9 : decode cX11_laysStands 9 = .ok (.getfield 50, 3) := by decide +kernel
theorem dX11_laysStands_12 : decode cX11_laysStands 12 = .ok (.iload_n 1, 1) := by decide +kernel
theorem dX11_laysStands_13 : decode cX11_laysStands 13 = .ok (.iconst 0, 1) := by decide +kernel
theorem dX11_laysStands_14 : decode cX11_laysStands 14 = .ok (.bastore, 1) := by decide +kernel
theorem dX11_laysStands_15 : decode cX11_laysStands 15 = .ok (.iinc 1 1, 3) := by decide +kernel
theorem dX11_laysStands_18 : decode cX11_laysStands 18 = .ok (.goto (-16), 3) := by decide +kernel
theorem dX11_laysStands_21 : decode cX11_laysStands 21 = .ok (.aload_n 0, 1) := by decide +kernel
theorem dX11_laysStands_22 : decode cX11_laysStands 22 = .ok (.iconst 0, 1) := by decide +kernel
theorem dX11_laysStands_23 : decode cX11_laysStands 23 = .ok (.putfield 355, 3) := by decide +kernel
theorem dX11_laysStands_26 : decode cX11_laysStands 26 = .ok (.aload_n 0, 1) := by decide +kernel
theorem dX11_laysStands_27 : decode cX11_laysStands 27 = .ok (.aload_n 0, 1) := by decide +kernel
theorem dX11_laysStands_28 : decode cX11_laysStands 28 = .ok (.invokevirtual 270, 3) := by decide +kernel
theorem dX11_laysStands_31 : decode cX11_laysStands 31 = .ok (.invokevirtual 358, 3) := by decide +kernel
theorem dX11_laysStands_34 : decode cX11_laysStands 34 = .ok (.iconst 0, 1) := by decide +kernel
theorem dX11_laysStands_35 : decode cX11_laysStands 35 = .ok (.istore_n 1, 1) := by decide +kernel
theorem dX11_laysStands_36 : decode cX11_laysStands 36 = .ok (.iload_n 1, 1) := by decide +kernel
theorem dX11_laysStands_37 : decode cX11_laysStands 37 = .ok (.aload_n 0, 1) := by decide +kernel
theorem dX11_laysStands_38 : decode cX11_laysStands 38 = .ok (.getfield 355, 3) := by decide +kernel
theorem dX11_laysStands_41 : decode cX11_laysStands 41 = .ok (.if_icmp .ge 62, 3) := by decide +kernel
theorem dX11_laysStands_44 : decode cX11_laysStands 44 = .ok (.iconst 0, 1) := by decide +kernel
theorem dX11_laysStands_45 : decode cX11_laysStands 45 = .ok (.istore_n 2, 1) := by decide +kernel
theorem dX11_laysStands_46 : decode cX11_laysStands 46 = .ok (.iload_n 2, 1) := by decide +kernel
theorem dX11_laysStands_47 : decode cX11_laysStands 47 = .ok (.bipush 16, 2) := by decide +kernel
theorem dX11_laysStands_49 : decode cX11_laysStands 49 = .ok (.if_icmp .ge 48, 3) := by decide +kernel
theorem dX11_laysStands_52 : decode cX11_laysStands 52 = .ok (.aload_n 0, 1) := by decide +kernel
theorem dX11_laysStands_53 : decode cX11_laysStands 53 = .ok (.aload_n 0, 1) := by decide +kernel
theorem dX11_laysStands_54 : decode cX11_laysStands 54 = .ok (.getfield 40, 3) := by decide +kernel
theorem dX11_laysStands_57 : decode cX11_laysStands 57 = .ok (.iload_n 1, 1) := by decide +kernel
theorem dX11_laysStands_58 : decode cX11_laysStands 58 = .ok (.iaload, 1) := by decide +kernel
theorem dX11_laysStands_59 : decode cX11_laysStands 59 = .ok (.iload_n 2, 1) := by decide +kernel
theorem dX11_laysStands_60 : decode cX11_laysStands 60 = .ok (.invokevirtual 361, 3) := by decide +kernel
theorem dX11_laysStands_63 : decode cX11_laysStands 63 = .ok (.istore_n 3, 1) := by decide +kernel
theorem dX11_laysStands_64 : decode cX11_laysStands 64 = .ok (.aload_n 0, 1) := by decide +kernel
theorem dX11_laysStands_65 : decode cX11_laysStands 65 = .ok (.getfield 44, 3) := by decide +kernel
theorem dX11_laysStands_68 : decode cX11_laysStands 68 = .ok (.bipush 16, 2) := by decide +kernel
theorem dX11_laysStands_70 : decode cX11_laysStands 70 = .ok (.aload_n 0, 1) := by decide +kernel
theorem dX11_laysStands_71 : decode cX11_laysStands 71 = .ok (.getfield 40, 3) := by decide +kernel
theorem dX11_laysStands_74 : decode cX11_laysStands 74 = .ok (.iload_n 1, 1) := by decide +kernel
theorem dX11_laysStands_75 : decode cX11_laysStands 75 = .ok (.iaload, 1) := by decide +kernel
theorem dX11_laysStands_76 : decode cX11_laysStands 76 = .ok (.imul, 1) := by decide +kernel
