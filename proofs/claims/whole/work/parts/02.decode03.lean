theorem dX9_goRound_35 : decode cX9_goRound 35 = .ok (.if_icmp .ne 13, 3) := by decide +kernel
theorem dX9_goRound_38 : decode cX9_goRound 38 = .ok (.iload 5, 2) := by decide +kernel
theorem dX9_goRound_40 : decode cX9_goRound 40 = .ok (.aload_n 0, 1) := by decide +kernel
theorem dX9_goRound_41 : decode cX9_goRound 41 = .ok (.getfield 329, 3) := by decide +kernel
theorem dX9_goRound_44 : decode cX9_goRound 44 = .ok (.if_icmp .le 4, 3) := by decide +kernel
theorem dX9_goRound_47 : decode cX9_goRound 47 = .ok (.return_, 1) := by decide +kernel
theorem dX9_goRound_48 : decode cX9_goRound 48 = .ok (.aload_n 0, 1) := by decide +kernel
theorem dX9_goRound_49 : decode cX9_goRound 49 = .ok (.iload 6, 2) := by decide +kernel
theorem dX9_goRound_51 : decode cX9_goRound 51 = .ok (.putfield 326, 3) := by decide +kernel
theorem dX9_goRound_54 : decode cX9_goRound 54 = .ok (.aload_n 0, 1) := by decide +kernel
theorem dX9_goRound_55 : decode cX9_goRound 55 = .ok (.iload 5, 2) := by decide +kernel
theorem dX9_goRound_57 : decode cX9_goRound 57 = .ok (.putfield 329, 3) := by decide +kernel
theorem dX9_goRound_60 : decode cX9_goRound 60 = .ok (.return_, 1) := by decide +kernel
theorem dX9_goRound_61 : decode cX9_goRound 61 = .ok (.iconst 0, 1) := by decide +kernel
theorem dX9_goRound_62 : decode cX9_goRound 62 = .ok (.istore 6, 2) := by decide +kernel
theorem dX9_goRound_64 : decode cX9_goRound 64 = .ok (.iload 6, 2) := by decide +kernel
theorem dX9_goRound_66 : decode cX9_goRound 66 = .ok (.iload_n 1, 1) := by decide +kernel
theorem dX9_goRound_67 : decode cX9_goRound 67 = .ok (.if_icmp .ge 70, 3) := by decide +kernel
theorem dX9_goRound_70 : decode cX9_goRound 70 = .ok (.iload_n 2, 1) := by decide +kernel
theorem dX9_goRound_71 : decode cX9_goRound 71 = .ok (.iload 6, 2) := by decide +kernel
theorem dX9_goRound_73 : decode cX9_goRound 73 = .ok (.ishr, 1) := by decide +kernel
theorem dX9_goRound_74 : decode cX9_goRound 74 = .ok (.iconst 1, 1) := by decide +kernel
theorem dX9_goRound_75 : decode cX9_goRound 75 = .ok (.iand, 1) := by decide +kernel
theorem dX9_goRound_76 : decode cX9_goRound 76 = .ok (.ifCond .ne 55, 3) := by decide +kernel
theorem dX9_goRound_79 : decode cX9_goRound 79 = .ok (.aload_n 0, 1) := by decide +kernel
theorem dX9_goRound_80 : decode cX9_goRound 80 = .ok (.iload_n 1, 1) := by decide +kernel
theorem dX9_goRound_81 : decode cX9_goRound 81 = .ok (.iload_n 2, 1) := by decide +kernel
theorem dX9_goRound_82 : decode cX9_goRound 82 = .ok (.iconst 1, 1) := by decide +kernel
theorem dX9_goRound_83 : decode cX9_goRound 83 = .ok (.iload 6, 2) := by decide +kernel
theorem dX9_goRound_85 : decode cX9_goRound 85 = .ok (.ishl, 1) := by decide +kernel
theorem dX9_goRound_86 : decode cX9_goRound 86 = .ok (.ior, 1) := by decide +kernel
theorem dX9_goRound_87 : decode cX9_goRound 87 = .ok (.iload 6, 2) := by decide +kernel
theorem dX9_goRound_89 : decode cX9_goRound 89 = .ok (.iload 4, 2) := by decide +kernel
theorem dX9_goRound_91 : decode cX9_goRound 91 = .ok (.aload_n 0, 1) := by decide +kernel
theorem dX9_goRound_92 : decode cX9_goRound 92 = .ok (.getfield 88, 3) := by decide +kernel
theorem dX9_goRound_95 : decode cX9_goRound 95 = .ok (.iconst 5, 1) := by decide +kernel
theorem dX9_goRound_96 : decode cX9_goRound 96 = .ok (.iload_n 3, 1) := by decide +kernel
theorem dX9_goRound_97 : decode cX9_goRound 97 = .ok (.ifCond .ge 7, 3) := by decide +kernel
theorem dX9_goRound_100 : decode cX9_goRound 100 = .ok (.iconst 5, 1) := by decide +kernel
theorem dX9_goRound_101 : decode cX9_goRound 101 = .ok (.goto 4, 3) := by decide +kernel
theorem dX9_goRound_104 : decode cX9_goRound 104 = .ok (.iload_n 3, 1) := by decide +kernel
theorem dX9_goRound_105 : decode cX9_goRound 105 = .ok (.imul, 1) := by decide +kernel
theorem dX9_goRound_106 : decode cX9_goRound 106 = .ok (.iload 6, 2) := by decide +kernel
theorem dX9_goRound_108 : decode cX9_goRound 108 = .ok (.iadd, 1) := by decide +kernel
theorem dX9_goRound_109 : decode cX9_goRound 109 = .ok (.iaload, 1) := by decide +kernel
theorem dX9_goRound_110 : decode cX9_goRound 110 = .ok (.iadd, 1) := by decide +kernel
theorem dX9_goRound_111 : decode cX9_goRound 111 = .ok (.iload 5, 2) := by decide +kernel
theorem dX9_goRound_113 : decode cX9_goRound 113 = .ok (.ifCond .ge 13, 3) := by decide +kernel
theorem dX9_goRound_116 : decode cX9_goRound 116 = .ok (.aload_n 0, 1) := by decide +kernel
theorem dX9_goRound_117 : decode cX9_goRound 117 = .ok (.getfield 85, 3) := by decide +kernel
theorem dX9_goRound_120 : decode cX9_goRound 120 = .ok (.iload 6, 2) := by decide +kernel
theorem dX9_goRound_122 : decode cX9_goRound 122 = .ok (.iaload, 1) := by decide +kernel
theorem dX9_goRound_123 : decode cX9_goRound 123 = .ok (.goto 5, 3) := by decide +kernel
theorem dX9_goRound_126 : decode cX9_goRound 126 = .ok (.iload 5, 2) := by decide +kernel
theorem dX9_goRound_128 : decode cX9_goRound 128 = .ok (.invokevirtual 332, 3) := by decide +kernel
theorem dX9_goRound_131 : decode cX9_goRound 131 = .ok (.iinc 6 1, 3) := by decide +kernel
theorem dX9_goRound_134 : decode cX9_goRound 134 = .ok (.goto (-70), 3) := by decide +kernel
theorem dX9_goRound_137 : decode cX9_goRound 137 = .ok (.return_, 1) := by decide +kernel
theorem dX9_round_0 : decode cX9_round 0 = .ok (.iload_n 1, 1) := by decide +kernel
theorem dX9_round_1 : decode cX9_round 1 = .ok (.iconst 0, 1) := by decide +kernel
theorem dX9_round_2 : decode cX9_round 2 = .ok (.iconst 1, 1) := by decide +kernel
theorem dX9_round_3 : decode cX9_round 3 = .ok (.invokestatic 116, 3) := by decide +kernel
theorem dX9_round_6 : decode cX9_round 6 = .ok (.ifCond .ne 5, 3) := by decide +kernel
theorem dX9_round_9 : decode cX9_round 9 = .ok (.iconst (-1), 1) := by decide +kernel
theorem dX9_round_10 : decode cX9_round 10 = .ok (.ireturn, 1) := by decide +kernel
theorem dX9_round_11 : decode cX9_round 11 = .ok (.iconst 0, 1) := by decide +kernel
theorem dX9_round_12 : decode cX9_round 12 = .ok (.istore_n 2, 1) := by decide +kernel
theorem dX9_round_13 : decode cX9_round 13 = .ok (.iconst 0, 1) := by decide +kernel
theorem dX9_round_14 : decode cX9_round 14 = .ok (.istore_n 3, 1) := by decide +kernel
theorem dX9_round_15 : decode cX9_round 15 = .ok (.iload_n 3, 1) := by decide +kernel
theorem dX9_round_16 : decode cX9_round 16 = .ok (.bipush 36, 2) := by decide +kernel
theorem dX9_round_18 : decode cX9_round 18 = .ok (.if_icmp .ge 47, 3) := by decide +kernel
theorem dX9_round_21 : decode cX9_round 21 = .ok (.aload_n 0, 1) := by decide +kernel
theorem dX9_round_22 : decode cX9_round 22 = .ok (.getfield 13, 3) := by decide +kernel
theorem dX9_round_25 : decode cX9_round 25 = .ok (.iload_n 3, 1) := by decide +kernel
theorem dX9_round_26 : decode cX9_round 26 = .ok (.iaload, 1) := by decide +kernel
theorem dX9_round_27 : decode cX9_round 27 = .ok (.ifCond .eq 32, 3) := by decide +kernel
theorem dX9_round_30 : decode cX9_round 30 = .ok (.aload_n 0, 1) := by decide +kernel
theorem dX9_round_31 : decode cX9_round 31 = .ok (.iload_n 3, 1) := by decide +kernel
theorem dX9_round_32 : decode cX9_round 32 = .ok (.invokevirtual 163, 3) := by decide +kernel
theorem dX9_round_35 : decode cX9_round 35 = .ok (.ifCond .eq 6, 3) := by decide +kernel
theorem dX9_round_38 : decode cX9_round 38 = .ok (.goto 21, 3) := by decide +kernel
theorem dX9_round_41 : decode cX9_round 41 = .ok (.iload_n 2, 1) := by decide +kernel
theorem dX9_round_42 : decode cX9_round 42 = .ok (.iconst 5, 1) := by decide +kernel
theorem dX9_round_43 : decode cX9_round 43 = .ok (.if_icmp .ne 6, 3) := by decide +kernel
theorem dX9_round_46 : decode cX9_round 46 = .ok (.bipush (-5), 2) := by decide +kernel
theorem dX9_round_48 : decode cX9_round 48 = .ok (.ireturn, 1) := by decide +kernel
theorem dX9_round_49 : decode cX9_round 49 = .ok (.aload_n 0, 1) := by decide +kernel
theorem dX9_round_50 : decode cX9_round 50 = .ok (.getfield 85, 3) := by decide +kernel
theorem dX9_round_53 : decode cX9_round 53 = .ok (.iload_n 2, 1) := by decide +kernel
theorem dX9_round_54 : decode cX9_round 54 = .ok (.iload_n 3, 1) := by decide +kernel
theorem dX9_round_55 : decode cX9_round 55 = .ok (.iastore, 1) := by decide +kernel
theorem dX9_round_56 : decode cX9_round 56 = .ok (.iinc 2 1, 3) := by decide +kernel
theorem dX9_round_59 : decode cX9_round 59 = .ok (.iinc 3 1, 3) := by decide +kernel
theorem dX9_round_62 : decode cX9_round 62 = .ok (.goto (-47), 3) := by decide +kernel
theorem dX9_round_65 : decode cX9_round 65 = .ok (.iload_n 2, 1) := by decide +kernel
theorem dX9_round_66 : decode cX9_round 66 = .ok (.ifCond .ne 21, 3) := by decide +kernel
theorem dX9_round_69 : decode cX9_round 69 = .ok (.iload_n 1, 1) := by decide +kernel
theorem dX9_round_70 : decode cX9_round 70 = .ok (.ifCond .ne 14, 3) := by decide +kernel
theorem dX9_round_73 : decode cX9_round 73 = .ok (.aload_n 0, 1) := by decide +kernel
theorem dX9_round_74 : decode cX9_round 74 = .ok (.aload_n 0, 1) := by decide +kernel
theorem dX9_round_75 : decode cX9_round 75 = .ok (.getfield 169, 3) := by decide +kernel
theorem dX9_round_78 : decode cX9_round 78 = .ok (.invokevirtual 336, 3) := by decide +kernel
theorem dX9_round_81 : decode cX9_round 81 = .ok (.goto 5, 3) := by decide +kernel
theorem dX9_round_84 : decode cX9_round 84 = .ok (.bipush (-2), 2) := by decide +kernel
theorem dX9_round_86 : decode cX9_round 86 = .ok (.ireturn, 1) := by decide +kernel
theorem dX9_round_87 : decode cX9_round 87 = .ok (.iconst 0, 1) := by decide +kernel
theorem dX9_round_88 : decode cX9_round 88 = .ok (.istore_n 3, 1) := by decide +kernel
theorem dX9_round_89 : decode cX9_round 89 = .ok (.iload_n 3, 1) := by decide +kernel
theorem dX9_round_90 : decode cX9_round 90 = .ok (.iload_n 2, 1) := by decide +kernel
theorem dX9_round_91 : decode cX9_round 91 = .ok (.if_icmp .ge 75, 3) := by decide +kernel
theorem dX9_round_94 : decode cX9_round 94 = .ok (.aload_n 0, 1) := by decide +kernel
theorem dX9_round_95 : decode cX9_round 95 = .ok (.aload_n 0, 1) := by decide +kernel
theorem dX9_round_96 : decode cX9_round 96 = .ok (.getfield 85, 3) := by decide +kernel
theorem dX9_round_99 : decode cX9_round 99 = .ok (.iload_n 3, 1) := by decide +kernel
theorem dX9_round_100 : decode cX9_round 100 = .ok (.iaload, 1) := by decide +kernel
theorem dX9_round_101 : decode cX9_round 101 = .ok (.invokevirtual 312, 3) := by decide +kernel
theorem dX9_round_104 : decode cX9_round 104 = .ok (.iconst 0, 1) := by decide +kernel
theorem dX9_round_105 : decode cX9_round 105 = .ok (.istore 4, 2) := by decide +kernel
theorem dX9_round_107 : decode cX9_round 107 = .ok (.iload 4, 2) := by decide +kernel
theorem dX9_round_109 : decode cX9_round 109 = .ok (.iload_n 2, 1) := by decide +kernel
theorem dX9_round_110 : decode cX9_round 110 = .ok (.if_icmp .ge 32, 3) := by decide +kernel
theorem dX9_round_113 : decode cX9_round 113 = .ok (.aload_n 0, 1) := by decide +kernel
theorem dX9_round_114 : decode cX9_round 114 = .ok (.getfield 88, 3) := by decide +kernel
theorem dX9_round_117 : decode cX9_round 117 = .ok (.iconst 5, 1) := by decide +kernel
theorem dX9_round_118 : decode cX9_round 118 = .ok (.iload 4, 2) := by decide +kernel
theorem dX9_round_120 : decode cX9_round 120 = .ok (.imul, 1) := by decide +kernel
theorem dX9_round_121 : decode cX9_round 121 = .ok (.iload_n 3, 1) := by decide +kernel
theorem dX9_round_122 : decode cX9_round 122 = .ok (.iadd, 1) := by decide +kernel
theorem dX9_round_123 : decode cX9_round 123 = .ok (.aload_n 0, 1) := by decide +kernel
theorem dX9_round_124 : decode cX9_round 124 = .ok (.getfield 76, 3) := by decide +kernel
theorem dX9_round_127 : decode cX9_round 127 = .ok (.aload_n 0, 1) := by decide +kernel
theorem dX9_round_128 : decode cX9_round 128 = .ok (.getfield 85, 3) := by decide +kernel
theorem dX9_round_131 : decode cX9_round 131 = .ok (.iload 4, 2) := by decide +kernel
theorem dX9_round_133 : decode cX9_round 133 = .ok (.iaload, 1) := by decide +kernel
theorem dX9_round_134 : decode cX9_round 134 = .ok (.iaload, 1) := by decide +kernel
theorem dX9_round_135 : decode cX9_round 135 = .ok (.iastore, 1) := by decide +kernel
theorem dX9_round_136 : decode cX9_round 136 = .ok (.iinc 4 1, 3) := by decide +kernel
theorem dX9_round_139 : decode cX9_round 139 = .ok (.goto (-32), 3) := by decide +kernel
theorem dX9_round_142 : decode cX9_round 142 = .ok (.aload_n 0, 1) := by decide +kernel
theorem dX9_round_143 : decode cX9_round 143 = .ok (.getfield 88, 3) := by decide +kernel
theorem dX9_round_146 : decode cX9_round 146 = .ok (.bipush 25, 2) := by decide +kernel
theorem dX9_round_148 : decode cX9_round 148 = .ok (.iload_n 3, 1) := by decide +kernel
theorem dX9_round_149 : decode cX9_round 149 = .ok (.iadd, 1) := by decide +kernel
theorem dX9_round_150 : decode cX9_round 150 = .ok (.aload_n 0, 1) := by decide +kernel
theorem dX9_round_151 : decode cX9_round 151 = .ok (.getfield 76, 3) := by decide +kernel
theorem dX9_round_154 : decode cX9_round 154 = .ok (.aload_n 0, 1) := by decide +kernel
theorem dX9_round_155 : decode cX9_round 155 = .ok (.getfield 169, 3) := by decide +kernel
theorem dX9_round_158 : decode cX9_round 158 = .ok (.iaload, 1) := by decide +kernel
theorem dX9_round_159 : decode cX9_round 159 = .ok (.iastore, 1) := by decide +kernel
theorem dX9_round_160 : decode cX9_round 160 = .ok (.iinc 3 1, 3) := by decide +kernel
theorem dX9_round_163 : decode cX9_round 163 = .ok (.goto (-74), 3) := by decide +kernel
theorem dX9_round_166 : decode cX9_round 166 = .ok (.iconst 0, 1) := by decide +kernel
theorem dX9_round_167 : decode cX9_round 167 = .ok (.istore_n 3, 1) := by decide +kernel
theorem dX9_round_168 : decode cX9_round 168 = .ok (.iload_n 3, 1) := by decide +kernel
theorem dX9_round_169 : decode cX9_round 169 = .ok (.iload_n 2, 1) := by decide +kernel
theorem dX9_round_170 : decode cX9_round 170 = .ok (.if_icmp .ge 25, 3) := by decide +kernel
theorem dX9_round_173 : decode cX9_round 173 = .ok (.aload_n 0, 1) := by decide +kernel
theorem dX9_round_174 : decode cX9_round 174 = .ok (.getfield 91, 3) := by decide +kernel
theorem dX9_round_177 : decode cX9_round 177 = .ok (.iload_n 3, 1) := by decide +kernel
theorem dX9_round_178 : decode cX9_round 178 = .ok (.aload_n 0, 1) := by decide +kernel
theorem dX9_round_179 : decode cX9_round 179 = .ok (.aload_n 0, 1) := by decide +kernel
theorem dX9_round_180 : decode cX9_round 180 = .ok (.getfield 85, 3) := by decide +kernel
theorem dX9_round_183 : decode cX9_round 183 = .ok (.iload_n 3, 1) := by decide +kernel
theorem dX9_round_184 : decode cX9_round 184 = .ok (.iaload, 1) := by decide +kernel
theorem dX9_round_185 : decode cX9_round 185 = .ok (.invokevirtual 336, 3) := by decide +kernel
theorem dX9_round_188 : decode cX9_round 188 = .ok (.iastore, 1) := by decide +kernel
theorem dX9_round_189 : decode cX9_round 189 = .ok (.iinc 3 1, 3) := by decide +kernel
theorem dX9_round_192 : decode cX9_round 192 = .ok (.goto (-24), 3) := by decide +kernel
theorem dX9_round_195 : decode cX9_round 195 = .ok (.aload_n 0, 1) := by decide +kernel
theorem dX9_round_196 : decode cX9_round 196 = .ok (.ldc_w 311, 3) := by decide +kernel
theorem dX9_round_199 : decode cX9_round 199 = .ok (.putfield 326, 3) := by decide +kernel
theorem dX9_round_202 : decode cX9_round 202 = .ok (.aload_n 0, 1) := by decide +kernel
theorem dX9_round_203 : decode cX9_round 203 = .ok (.bipush 36, 2) := by decide +kernel
theorem dX9_round_205 : decode cX9_round 205 = .ok (.putfield 329, 3) := by decide +kernel
theorem dX9_round_208 : decode cX9_round 208 = .ok (.aload_n 0, 1) := by decide +kernel
theorem dX9_round_209 : decode cX9_round 209 = .ok (.iload_n 2, 1) := by decide +kernel
theorem dX9_round_210 : decode cX9_round 210 = .ok (.iconst 0, 1) := by decide +kernel
theorem dX9_round_211 : decode cX9_round 211 = .ok (.iconst (-1), 1) := by decide +kernel
theorem dX9_round_212 : decode cX9_round 212 = .ok (.iconst 0, 1) := by decide +kernel
theorem dX9_round_213 : decode cX9_round 213 = .ok (.iconst (-1), 1) := by decide +kernel
theorem dX9_round_214 : decode cX9_round 214 = .ok (.invokevirtual 332, 3) := by decide +kernel
theorem dX9_round_217 : decode cX9_round 217 = .ok (.iload_n 1, 1) := by decide +kernel
theorem dX9_round_218 : decode cX9_round 218 = .ok (.ifCond .ne 10, 3) := by decide +kernel
theorem dX9_round_221 : decode cX9_round 221 = .ok (.aload_n 0, 1) := by decide +kernel
theorem dX9_round_222 : decode cX9_round 222 = .ok (.getfield 326, 3) := by decide +kernel
theorem dX9_round_225 : decode cX9_round 225 = .ok (.goto 7, 3) := by decide +kernel
theorem dX9_round_228 : decode cX9_round 228 = .ok (.aload_n 0, 1) := by decide +kernel
theorem dX9_round_229 : decode cX9_round 229 = .ok (.getfield 329, 3) := by decide +kernel
theorem dX9_round_232 : decode cX9_round 232 = .ok (.ireturn, 1) := by decide +kernel
theorem dX9_lasts_0 : decode cX9_lasts 0 = .ok (.iload_n 1, 1) := by decide +kernel
theorem dX9_lasts_1 : decode cX9_lasts 1 = .ok (.iconst 0, 1) := by decide +kernel
theorem dX9_lasts_2 : decode cX9_lasts 2 = .ok (.bipush 20, 2) := by decide +kernel
theorem dX9_lasts_4 : decode cX9_lasts 4 = .ok (.invokestatic 116, 3) := by decide +kernel
theorem dX9_lasts_7 : decode cX9_lasts 7 = .ok (.ifCond .ne 5, 3) := by decide +kernel
theorem dX9_lasts_10 : decode cX9_lasts 10 = .ok (.iconst (-1), 1) := by decide +kernel
theorem dX9_lasts_11 : decode cX9_lasts 11 = .ok (.ireturn, 1) := by decide +kernel
theorem dX9_lasts_12 : decode cX9_lasts 12 = .ok (.aload_n 0, 1) := by decide +kernel
theorem dX9_lasts_13 : decode cX9_lasts 13 = .ok (.invokevirtual 302, 3) := by decide +kernel
theorem dX9_lasts_16 : decode cX9_lasts 16 = .ok (.bipush (-2), 2) := by decide +kernel
theorem dX9_lasts_18 : decode cX9_lasts 18 = .ok (.istore_n 2, 1) := by decide +kernel
theorem dX9_lasts_19 : decode cX9_lasts 19 = .ok (.aload_n 0, 1) := by decide +kernel
theorem dX9_lasts_20 : decode cX9_lasts 20 = .ok (.getfield 166, 3) := by decide +kernel
theorem dX9_lasts_23 : decode cX9_lasts 23 = .ok (.istore_n 3, 1) := by decide +kernel
theorem dX9_lasts_24 : decode cX9_lasts 24 = .ok (.iload_n 3, 1) := by decide +kernel
theorem dX9_lasts_25 : decode cX9_lasts 25 = .ok (.bipush 60, 2) := by decide +kernel
theorem dX9_lasts_27 : decode cX9_lasts 27 = .ok (.if_icmp .ge 57, 3) := by decide +kernel
theorem dX9_lasts_30 : decode cX9_lasts 30 = .ok (.iload_n 2, 1) := by decide +kernel
theorem dX9_lasts_31 : decode cX9_lasts 31 = .ok (.ifCond .ge 53, 3) := by decide +kernel
theorem dX9_lasts_34 : decode cX9_lasts 34 = .ok (.aload_n 0, 1) := by decide +kernel
theorem dX9_lasts_35 : decode cX9_lasts 35 = .ok (.iconst 0, 1) := by decide +kernel
theorem dX9_lasts_36 : decode cX9_lasts 36 = .ok (.iload_n 3, 1) := by decide +kernel
theorem dX9_lasts_37 : decode cX9_lasts 37 = .ok (.aload_n 0, 1) := by decide +kernel
theorem dX9_lasts_38 : decode cX9_lasts 38 = .ok (.getfield 16, 3) := by decide +kernel
theorem dX9_lasts_41 : decode cX9_lasts 41 = .ok (.iload_n 3, 1) := by decide +kernel
theorem dX9_lasts_42 : decode cX9_lasts 42 = .ok (.iaload, 1) := by decide +kernel
theorem dX9_lasts_43 : decode cX9_lasts 43 = .ok (.iload_n 1, 1) := by decide +kernel
theorem dX9_lasts_44 : decode cX9_lasts 44 = .ok (.if_icmp .le 14, 3) := by decide +kernel
theorem dX9_lasts_47 : decode cX9_lasts 47 = .ok (.aload_n 0, 1) := by decide +kernel
theorem dX9_lasts_48 : decode cX9_lasts 48 = .ok (.getfield 16, 3) := by decide +kernel
theorem dX9_lasts_51 : decode cX9_lasts 51 = .ok (.iload_n 3, 1) := by decide +kernel
theorem dX9_lasts_52 : decode cX9_lasts 52 = .ok (.iaload, 1) := by decide +kernel
theorem dX9_lasts_53 : decode cX9_lasts 53 = .ok (.iload_n 1, 1) := by decide +kernel
theorem dX9_lasts_54 : decode cX9_lasts 54 = .ok (.isub, 1) := by decide +kernel
theorem dX9_lasts_55 : decode cX9_lasts 55 = .ok (.goto 4, 3) := by decide +kernel
theorem dX9_lasts_58 : decode cX9_lasts 58 = .ok (.iconst 0, 1) := by decide +kernel
theorem dX9_lasts_59 : decode cX9_lasts 59 = .ok (.aload_n 0, 1) := by decide +kernel
theorem dX9_lasts_60 : decode cX9_lasts 60 = .ok (.getfield 19, 3) := by decide +kernel
theorem dX9_lasts_63 : decode cX9_lasts 63 = .ok (.iload_n 3, 1) := by decide +kernel
theorem dX9_lasts_64 : decode cX9_lasts 64 = .ok (.iaload, 1) := by decide +kernel
theorem dX9_lasts_65 : decode cX9_lasts 65 = .ok (.invokevirtual 283, 3) := by decide +kernel
theorem dX9_lasts_68 : decode cX9_lasts 68 = .ok (.pop, 1) := by decide +kernel
theorem dX9_lasts_69 : decode cX9_lasts 69 = .ok (.aload_n 0, 1) := by decide +kernel
theorem dX9_lasts_70 : decode cX9_lasts 70 = .ok (.getfield 29, 3) := by decide +kernel
theorem dX9_lasts_73 : decode cX9_lasts 73 = .ok (.ifCond .ne 5, 3) := by decide +kernel
theorem dX9_lasts_76 : decode cX9_lasts 76 = .ok (.iload_n 3, 1) := by decide +kernel
theorem dX9_lasts_77 : decode cX9_lasts 77 = .ok (.istore_n 2, 1) := by decide +kernel
theorem dX9_lasts_78 : decode cX9_lasts 78 = .ok (.iinc 3 1, 3) := by decide +kernel
theorem dX9_lasts_81 : decode cX9_lasts 81 = .ok (.goto (-57), 3) := by decide +kernel
theorem dX9_lasts_84 : decode cX9_lasts 84 = .ok (.aload_n 0, 1) := by decide +kernel
theorem dX9_lasts_85 : decode cX9_lasts 85 = .ok (.invokevirtual 296, 3) := by decide +kernel
theorem dX9_lasts_88 : decode cX9_lasts 88 = .ok (.iload_n 2, 1) := by decide +kernel
theorem dX9_lasts_89 : decode cX9_lasts 89 = .ok (.ireturn, 1) := by decide +kernel
theorem dX9_power_0 : decode cX9_power 0 = .ok (.lconst 1, 1) := by decide +kernel
theorem dX9_power_1 : decode cX9_power 1 = .ok (.lstore_n 2, 1) := by decide +kernel
theorem dX9_power_2 : decode cX9_power 2 = .ok (.iconst 0, 1) := by decide +kernel
theorem dX9_power_3 : decode cX9_power 3 = .ok (.istore 4, 2) := by decide +kernel
theorem dX9_power_5 : decode cX9_power 5 = .ok (.iload 4, 2) := by decide +kernel
theorem dX9_power_7 : decode cX9_power 7 = .ok (.iload_n 1, 1) := by decide +kernel
theorem dX9_power_8 : decode cX9_power 8 = .ok (.if_icmp .ge 14, 3) := by decide +kernel
theorem dX9_power_11 : decode cX9_power 11 = .ok (.lload_n 2, 1) := by decide +kernel
theorem dX9_power_12 : decode cX9_power 12 = .ok (.iload_n 0, 1) := by decide +kernel
theorem dX9_power_13 : decode cX9_power 13 = .ok (.i2l, 1) := by decide +kernel
theorem dX9_power_14 : decode cX9_power 14 = .ok (.lmul, 1) := by decide +kernel
theorem dX9_power_15 : decode cX9_power 15 = .ok (.lstore_n 2, 1) := by decide +kernel
theorem dX9_power_16 : decode cX9_power 16 = .ok (.iinc 4 1, 3) := by decide +kernel
theorem dX9_power_19 : decode cX9_power 19 = .ok (.goto (-14), 3) := by decide +kernel
theorem dX9_power_22 : decode cX9_power 22 = .ok (.lload_n 2, 1) := by decide +kernel
theorem dX9_power_23 : decode cX9_power 23 = .ok (.lreturn, 1) := by decide +kernel
theorem dX9_part_0 : decode cX9_part 0 = .ok (.lload_n 0, 1) := by decide +kernel
theorem dX9_part_1 : decode cX9_part 1 = .ok (.lstore 5, 2) := by decide +kernel
theorem dX9_part_3 : decode cX9_part 3 = .ok (.lload_n 2, 1) := by decide +kernel
theorem dX9_part_4 : decode cX9_part 4 = .ok (.lstore 7, 2) := by decide +kernel
theorem dX9_part_6 : decode cX9_part 6 = .ok (.lload 7, 2) := by decide +kernel
theorem dX9_part_8 : decode cX9_part 8 = .ok (.lconst 0, 1) := by decide +kernel
theorem dX9_part_9 : decode cX9_part 9 = .ok (.lcmp, 1) := by decide +kernel
theorem dX9_part_10 : decode cX9_part 10 = .ok (.ifCond .eq 21, 3) := by decide +kernel
theorem dX9_part_13 : decode cX9_part 13 = .ok (.lload 5, 2) := by decide +kernel
theorem dX9_part_15 : decode cX9_part 15 = .ok (.lload 7, 2) := by decide +kernel
theorem dX9_part_17 : decode cX9_part 17 = .ok (.lrem, 1) := by decide +kernel
theorem dX9_part_18 : decode cX9_part 18 = .ok (.lstore 9, 2) := by decide +kernel
theorem dX9_part_20 : decode cX9_part 20 = .ok (.lload 7, 2) := by decide +kernel
theorem dX9_part_22 : decode cX9_part 22 = .ok (.lstore 5, 2) := by decide +kernel
theorem dX9_part_24 : decode cX9_part 24 = .ok (.lload 9, 2) := by decide +kernel
theorem dX9_part_26 : decode cX9_part 26 = .ok (.lstore 7, 2) := by decide +kernel
theorem dX9_part_28 : decode cX9_part 28 = .ok (.goto (-22), 3) := by decide +kernel
theorem dX9_part_31 : decode cX9_part 31 = .ok (.iload 4, 2) := by decide +kernel
theorem dX9_part_33 : decode cX9_part 33 = .ok (.ifCond .ne 10, 3) := by decide +kernel
theorem dX9_part_36 : decode cX9_part 36 = .ok (.lload_n 0, 1) := by decide +kernel
theorem dX9_part_37 : decode cX9_part 37 = .ok (.lload 5, 2) := by decide +kernel
theorem dX9_part_39 : decode cX9_part 39 = .ok (.ldiv, 1) := by decide +kernel
theorem dX9_part_40 : decode cX9_part 40 = .ok (.goto 7, 3) := by decide +kernel
theorem dX9_part_43 : decode cX9_part 43 = .ok (.lload_n 2, 1) := by decide +kernel
theorem dX9_part_44 : decode cX9_part 44 = .ok (.lload 5, 2) := by decide +kernel
theorem dX9_part_46 : decode cX9_part 46 = .ok (.ldiv, 1) := by decide +kernel
theorem dX9_part_47 : decode cX9_part 47 = .ok (.lreturn, 1) := by decide +kernel
theorem dX9_clean_0 : decode cX9_clean 0 = .ok (.iload_n 1, 1) := by decide +kernel
theorem dX9_clean_1 : decode cX9_clean 1 = .ok (.iconst 0, 1) := by decide +kernel
theorem dX9_clean_2 : decode cX9_clean 2 = .ok (.bipush 8, 2) := by decide +kernel
theorem dX9_clean_4 : decode cX9_clean 4 = .ok (.invokestatic 116, 3) := by decide +kernel
theorem dX9_clean_7 : decode cX9_clean 7 = .ok (.ifCond .eq 21, 3) := by decide +kernel
theorem dX9_clean_10 : decode cX9_clean 10 = .ok (.iload_n 2, 1) := by decide +kernel
theorem dX9_clean_11 : decode cX9_clean 11 = .ok (.iconst 0, 1) := by decide +kernel
theorem dX9_clean_12 : decode cX9_clean 12 = .ok (.iconst 1, 1) := by decide +kernel
theorem dX9_clean_13 : decode cX9_clean 13 = .ok (.invokestatic 116, 3) := by decide +kernel
theorem dX9_clean_16 : decode cX9_clean 16 = .ok (.ifCond .eq 12, 3) := by decide +kernel
theorem dX9_clean_19 : decode cX9_clean 19 = .ok (.iload_n 3, 1) := by decide +kernel
theorem dX9_clean_20 : decode cX9_clean 20 = .ok (.iconst 0, 1) := by decide +kernel
theorem dX9_clean_21 : decode cX9_clean 21 = .ok (.iconst 1, 1) := by decide +kernel
theorem dX9_clean_22 : decode cX9_clean 22 = .ok (.invokestatic 116, 3) := by decide +kernel
theorem dX9_clean_25 : decode cX9_clean 25 = .ok (.ifCond .ne 7, 3) := by decide +kernel
theorem dX9_clean_28 : decode cX9_clean 28 = .ok (.ldc2_w 341, 3) := by decide +kernel
theorem dX9_clean_31 : decode cX9_clean 31 = .ok (.lreturn, 1) := by decide +kernel
theorem dX9_clean_32 : decode cX9_clean 32 = .ok (.bipush 12, 2) := by decide +kernel
theorem dX9_clean_34 : decode cX9_clean 34 = .ok (.iload_n 1, 1) := by decide +kernel
theorem dX9_clean_35 : decode cX9_clean 35 = .ok (.invokestatic 343, 3) := by decide +kernel
theorem dX9_clean_38 : decode cX9_clean 38 = .ok (.lstore 4, 2) := by decide +kernel
theorem dX9_clean_40 : decode cX9_clean 40 = .ok (.iload_n 2, 1) := by decide +kernel
theorem dX9_clean_41 : decode cX9_clean 41 = .ok (.ifCond .ne 24, 3) := by decide +kernel
theorem dX9_clean_44 : decode cX9_clean 44 = .ok (.lload 4, 2) := by decide +kernel
theorem dX9_clean_46 : decode cX9_clean 46 = .ok (.bipush 12, 2) := by decide +kernel
theorem dX9_clean_48 : decode cX9_clean 48 = .ok (.aload_n 0, 1) := by decide +kernel
theorem dX9_clean_49 : decode cX9_clean 49 = .ok (.getfield 26, 3) := by decide +kernel
theorem dX9_clean_52 : decode cX9_clean 52 = .ok (.isub, 1) := by decide +kernel
theorem dX9_clean_53 : decode cX9_clean 53 = .ok (.iload_n 1, 1) := by decide +kernel
theorem dX9_clean_54 : decode cX9_clean 54 = .ok (.invokestatic 343, 3) := by decide +kernel
theorem dX9_clean_57 : decode cX9_clean 57 = .ok (.lsub, 1) := by decide +kernel
theorem dX9_clean_58 : decode cX9_clean 58 = .ok (.lload 4, 2) := by decide +kernel
theorem dX9_clean_60 : decode cX9_clean 60 = .ok (.iload_n 3, 1) := by decide +kernel
theorem dX9_clean_61 : decode cX9_clean 61 = .ok (.invokestatic 347, 3) := by decide +kernel
theorem dX9_clean_64 : decode cX9_clean 64 = .ok (.lreturn, 1) := by decide +kernel
theorem dX9_clean_65 : decode cX9_clean 65 = .ok (.lconst 0, 1) := by decide +kernel
theorem dX9_clean_66 : decode cX9_clean 66 = .ok (.lstore 6, 2) := by decide +kernel
theorem dX9_clean_68 : decode cX9_clean 68 = .ok (.iconst 0, 1) := by decide +kernel
theorem dX9_clean_69 : decode cX9_clean 69 = .ok (.istore 8, 2) := by decide +kernel
theorem dX9_clean_71 : decode cX9_clean 71 = .ok (.iload 8, 2) := by decide +kernel
theorem dX9_clean_73 : decode cX9_clean 73 = .ok (.iload_n 1, 1) := by decide +kernel
theorem dX9_clean_74 : decode cX9_clean 74 = .ok (.if_icmp .ge 36, 3) := by decide +kernel
theorem dX9_clean_77 : decode cX9_clean 77 = .ok (.lload 6, 2) := by decide +kernel
theorem dX9_clean_79 : decode cX9_clean 79 = .ok (.bipush 12, 2) := by decide +kernel
theorem dX9_clean_81 : decode cX9_clean 81 = .ok (.aload_n 0, 1) := by decide +kernel
theorem dX9_clean_82 : decode cX9_clean 82 = .ok (.getfield 26, 3) := by decide +kernel
theorem dX9_clean_85 : decode cX9_clean 85 = .ok (.isub, 1) := by decide +kernel
theorem dX9_clean_86 : decode cX9_clean 86 = .ok (.iload 8, 2) := by decide +kernel
theorem dX9_clean_88 : decode cX9_clean 88 = .ok (.invokestatic 343, 3) := by decide +kernel
theorem dX9_clean_91 : decode cX9_clean 91 = .ok (.bipush 12, 2) := by decide +kernel
theorem dX9_clean_93 : decode cX9_clean 93 = .ok (.iload_n 1, 1) := by decide +kernel
theorem dX9_clean_94 : decode cX9_clean 94 = .ok (.iload 8, 2) := by decide +kernel
theorem dX9_clean_96 : decode cX9_clean 96 = .ok (.isub, 1) := by decide +kernel
theorem dX9_clean_97 : decode cX9_clean 97 = .ok (.invokestatic 343, 3) := by decide +kernel
theorem dX9_clean_100 : decode cX9_clean 100 = .ok (.lmul, 1) := by decide +kernel
theorem dX9_clean_101 : decode cX9_clean 101 = .ok (.ladd, 1) := by decide +kernel
theorem dX9_clean_102 : decode cX9_clean 102 = .ok (.lstore 6, 2) := by decide +kernel
theorem dX9_clean_104 : decode cX9_clean 104 = .ok (.iinc 8 1, 3) := by decide +kernel
theorem dX9_clean_107 : decode cX9_clean 107 = .ok (.goto (-36), 3) := by decide +kernel
theorem dX9_clean_110 : decode cX9_clean 110 = .ok (.lload 6, 2) := by decide +kernel
theorem dX9_clean_112 : decode cX9_clean 112 = .ok (.lload 4, 2) := by decide +kernel
theorem dX9_clean_114 : decode cX9_clean 114 = .ok (.iload_n 3, 1) := by decide +kernel
theorem dX9_clean_115 : decode cX9_clean 115 = .ok (.invokestatic 347, 3) := by decide +kernel
theorem dX9_clean_118 : decode cX9_clean 118 = .ok (.lreturn, 1) := by decide +kernel
theorem dX9_endOf_0 : decode cX9_endOf 0 = .ok (.iload_n 2, 1) := by decide +kernel
theorem dX9_endOf_1 : decode cX9_endOf 1 = .ok (.istore_n 3, 1) := by decide +kernel
theorem dX9_endOf_2 : decode cX9_endOf 2 = .ok (.iconst 0, 1) := by decide +kernel
theorem dX9_endOf_3 : decode cX9_endOf 3 = .ok (.istore 4, 2) := by decide +kernel
theorem dX9_endOf_5 : decode cX9_endOf 5 = .ok (.iload 4, 2) := by decide +kernel
theorem dX9_endOf_7 : decode cX9_endOf 7 = .ok (.aload_n 0, 1) := by decide +kernel
theorem dX9_endOf_8 : decode cX9_endOf 8 = .ok (.getfield 103, 3) := by decide +kernel
theorem dX9_endOf_11 : decode cX9_endOf 11 = .ok (.iload_n 1, 1) := by decide +kernel
theorem dX9_endOf_12 : decode cX9_endOf 12 = .ok (.iaload, 1) := by decide +kernel
theorem dX9_endOf_13 : decode cX9_endOf 13 = .ok (.if_icmp .ge 44, 3) := by decide +kernel
theorem dX9_endOf_16 : decode cX9_endOf 16 = .ok (.iload_n 3, 1) := by decide +kernel
theorem dX9_endOf_17 : decode cX9_endOf 17 = .ok (.ifCond .lt 40, 3) := by decide +kernel
theorem dX9_endOf_20 : decode cX9_endOf 20 = .ok (.aload_n 0, 1) := by decide +kernel
theorem dX9_endOf_21 : decode cX9_endOf 21 = .ok (.iload_n 1, 1) := by decide +kernel
theorem dX9_endOf_22 : decode cX9_endOf 22 = .ok (.iload 4, 2) := by decide +kernel
theorem dX9_endOf_24 : decode cX9_endOf 24 = .ok (.invokevirtual 293, 3) := by decide +kernel
theorem dX9_endOf_27 : decode cX9_endOf 27 = .ok (.iconst 1, 1) := by decide +kernel
theorem dX9_endOf_28 : decode cX9_endOf 28 = .ok (.iconst 4, 1) := by decide +kernel
theorem dX9_endOf_29 : decode cX9_endOf 29 = .ok (.invokestatic 116, 3) := by decide +kernel
theorem dX9_endOf_32 : decode cX9_endOf 32 = .ok (.ifCond .eq 17, 3) := by decide +kernel
theorem dX9_endOf_35 : decode cX9_endOf 35 = .ok (.iload_n 3, 1) := by decide +kernel
theorem dX9_endOf_36 : decode cX9_endOf 36 = .ok (.aload_n 0, 1) := by decide +kernel
theorem dX9_endOf_37 : decode cX9_endOf 37 = .ok (.iload_n 1, 1) := by decide +kernel
theorem dX9_endOf_38 : decode cX9_endOf 38 = .ok (.iload 4, 2) := by decide +kernel
theorem dX9_endOf_40 : decode cX9_endOf 40 = .ok (.invokevirtual 293, 3) := by decide +kernel
theorem dX9_endOf_43 : decode cX9_endOf 43 = .ok (.invokestatic 120, 3) := by decide +kernel
theorem dX9_endOf_46 : decode cX9_endOf 46 = .ok (.goto 4, 3) := by decide +kernel
theorem dX9_endOf_49 : decode cX9_endOf 49 = .ok (.iconst (-1), 1) := by decide +kernel
theorem dX9_endOf_50 : decode cX9_endOf 50 = .ok (.istore_n 3, 1) := by decide +kernel
theorem dX9_endOf_51 : decode cX9_endOf 51 = .ok (.iinc 4 1, 3) := by decide +kernel
theorem dX9_endOf_54 : decode cX9_endOf 54 = .ok (.goto (-49), 3) := by decide +kernel
theorem dX9_endOf_57 : decode cX9_endOf 57 = .ok (.iload_n 3, 1) := by decide +kernel
theorem dX9_endOf_58 : decode cX9_endOf 58 = .ok (.ireturn, 1) := by decide +kernel
theorem dX9_line_0 : decode cX9_line 0 = .ok (.iload_n 1, 1) := by decide +kernel
theorem dX9_line_1 : decode cX9_line 1 = .ok (.invokestatic 179, 3) := by decide +kernel
theorem dX9_line_4 : decode cX9_line 4 = .ok (.ifCond .eq 20, 3) := by decide +kernel
theorem dX9_line_7 : decode cX9_line 7 = .ok (.iload_n 2, 1) := by decide +kernel
theorem dX9_line_8 : decode cX9_line 8 = .ok (.iconst 0, 1) := by decide +kernel
theorem dX9_line_9 : decode cX9_line 9 = .ok (.iconst 1, 1) := by decide +kernel
theorem dX9_line_10 : decode cX9_line 10 = .ok (.invokestatic 116, 3) := by decide +kernel
theorem dX9_line_13 : decode cX9_line 13 = .ok (.ifCond .eq 11, 3) := by decide +kernel
theorem dX9_line_16 : decode cX9_line 16 = .ok (.aload_n 0, 1) := by decide +kernel
theorem dX9_line_17 : decode cX9_line 17 = .ok (.iload_n 1, 1) := by decide +kernel
theorem dX9_line_18 : decode cX9_line 18 = .ok (.invokevirtual 299, 3) := by decide +kernel
theorem dX9_line_21 : decode cX9_line 21 = .ok (.ifCond .ge 7, 3) := by decide +kernel
theorem dX9_line_24 : decode cX9_line 24 = .ok (.ldc2_w 341, 3) := by decide +kernel
theorem dX9_line_27 : decode cX9_line 27 = .ok (.lreturn, 1) := by decide +kernel
theorem dX9_line_28 : decode cX9_line 28 = .ok (.lconst 0, 1) := by decide +kernel
theorem dX9_line_29 : decode cX9_line 29 = .ok (.lstore_n 3, 1) := by decide +kernel
theorem dX9_line_30 : decode cX9_line 30 = .ok (.iconst 0, 1) := by decide +kernel
theorem dX9_line_31 : decode cX9_line 31 = .ok (.istore 5, 2) := by decide +kernel
theorem dX9_line_33 : decode cX9_line 33 = .ok (.iload 5, 2) := by decide +kernel
theorem dX9_line_35 : decode cX9_line 35 = .ok (.bipush 36, 2) := by decide +kernel
theorem dX9_line_37 : decode cX9_line 37 = .ok (.if_icmp .ge 40, 3) := by decide +kernel
theorem dX9_line_40 : decode cX9_line 40 = .ok (.aload_n 0, 1) := by decide +kernel
theorem dX9_line_41 : decode cX9_line 41 = .ok (.iload_n 1, 1) := by decide +kernel
theorem dX9_line_42 : decode cX9_line 42 = .ok (.iload 5, 2) := by decide +kernel
theorem dX9_line_44 : decode cX9_line 44 = .ok (.invokevirtual 351, 3) := by decide +kernel
theorem dX9_line_47 : decode cX9_line 47 = .ok (.ifCond .lt 24, 3) := by decide +kernel
theorem dX9_line_50 : decode cX9_line 50 = .ok (.lload_n 3, 1) := by decide +kernel
theorem dX9_line_51 : decode cX9_line 51 = .ok (.lconst 1, 1) := by decide +kernel
theorem dX9_line_52 : decode cX9_line 52 = .ok (.iload_n 2, 1) := by decide +kernel
theorem dX9_line_53 : decode cX9_line 53 = .ok (.ifCond .ne 8, 3) := by decide +kernel
theorem dX9_line_56 : decode cX9_line 56 = .ok (.iload 5, 2) := by decide +kernel
theorem dX9_line_58 : decode cX9_line 58 = .ok (.goto 10, 3) := by decide +kernel
theorem dX9_line_61 : decode cX9_line 61 = .ok (.aload_n 0, 1) := by decide +kernel
theorem dX9_line_62 : decode cX9_line 62 = .ok (.iload_n 1, 1) := by decide +kernel
theorem dX9_line_63 : decode cX9_line 63 = .ok (.iload 5, 2) := by decide +kernel
theorem dX9_line_65 : decode cX9_line 65 = .ok (.invokevirtual 351, 3) := by decide +kernel
theorem dX9_line_68 : decode cX9_line 68 = .ok (.lshl, 1) := by decide +kernel
theorem dX9_line_69 : decode cX9_line 69 = .ok (.lor, 1) := by decide +kernel
theorem dX9_line_70 : decode cX9_line 70 = .ok (.lstore_n 3, 1) := by decide +kernel
theorem dX9_line_71 : decode cX9_line 71 = .ok (.iinc 5 1, 3) := by decide +kernel
theorem dX9_line_74 : decode cX9_line 74 = .ok (.goto (-41), 3) := by decide +kernel
theorem dX9_line_77 : decode cX9_line 77 = .ok (.lload_n 3, 1) := by decide +kernel
theorem dX9_line_78 : decode cX9_line 78 = .ok (.lreturn, 1) := by decide +kernel
theorem dX9_drawn_0 : decode cX9_drawn 0 = .ok (.iload_n 2, 1) := by decide +kernel
theorem dX9_drawn_1 : decode cX9_drawn 1 = .ok (.iconst 1, 1) := by decide +kernel
theorem dX9_drawn_2 : decode cX9_drawn 2 = .ok (.bipush 30, 2) := by decide +kernel
theorem dX9_drawn_4 : decode cX9_drawn 4 = .ok (.invokestatic 116, 3) := by decide +kernel
theorem dX9_drawn_7 : decode cX9_drawn 7 = .ok (.ifCond .eq 12, 3) := by decide +kernel
theorem dX9_drawn_10 : decode cX9_drawn 10 = .ok (.iload_n 3, 1) := by decide +kernel
theorem dX9_drawn_11 : decode cX9_drawn 11 = .ok (.iconst 0, 1) := by decide +kernel
theorem dX9_drawn_12 : decode cX9_drawn 12 = .ok (.iconst 1, 1) := by decide +kernel
theorem dX9_drawn_13 : decode cX9_drawn 13 = .ok (.invokestatic 116, 3) := by decide +kernel
theorem dX9_drawn_16 : decode cX9_drawn 16 = .ok (.ifCond .ne 5, 3) := by decide +kernel
theorem dX9_drawn_19 : decode cX9_drawn 19 = .ok (.iconst (-1), 1) := by decide +kernel
theorem dX9_drawn_20 : decode cX9_drawn 20 = .ok (.ireturn, 1) := by decide +kernel
theorem dX9_drawn_21 : decode cX9_drawn 21 = .ok (.iload_n 1, 1) := by decide +kernel
theorem dX9_drawn_22 : decode cX9_drawn 22 = .ok (.istore 4, 2) := by decide +kernel
theorem dX9_drawn_24 : decode cX9_drawn 24 = .ok (.iconst 0, 1) := by decide +kernel
theorem dX9_drawn_25 : decode cX9_drawn 25 = .ok (.istore 5, 2) := by decide +kernel
theorem dX9_drawn_27 : decode cX9_drawn 27 = .ok (.iconst 0, 1) := by decide +kernel
theorem dX9_drawn_28 : decode cX9_drawn 28 = .ok (.istore 6, 2) := by decide +kernel
theorem dX9_drawn_30 : decode cX9_drawn 30 = .ok (.aload_n 0, 1) := by decide +kernel
theorem dX9_drawn_31 : decode cX9_drawn 31 = .ok (.invokevirtual 302, 3) := by decide +kernel
theorem dX9_drawn_34 : decode cX9_drawn 34 = .ok (.iconst 0, 1) := by decide +kernel
theorem dX9_drawn_35 : decode cX9_drawn 35 = .ok (.istore 7, 2) := by decide +kernel
theorem dX9_drawn_37 : decode cX9_drawn 37 = .ok (.iload 7, 2) := by decide +kernel
theorem dX9_drawn_39 : decode cX9_drawn 39 = .ok (.iload_n 2, 1) := by decide +kernel
theorem dX9_drawn_40 : decode cX9_drawn 40 = .ok (.if_icmp .ge 119, 3) := by decide +kernel
theorem dX9_drawn_43 : decode cX9_drawn 43 = .ok (.iconst 0, 1) := by decide +kernel
theorem dX9_drawn_44 : decode cX9_drawn 44 = .ok (.istore 8, 2) := by decide +kernel
theorem dX9_drawn_46 : decode cX9_drawn 46 = .ok (.aload_n 0, 1) := by decide +kernel
theorem dX9_drawn_47 : decode cX9_drawn 47 = .ok (.getfield 166, 3) := by decide +kernel
theorem dX9_drawn_50 : decode cX9_drawn 50 = .ok (.istore 9, 2) := by decide +kernel
theorem dX9_drawn_52 : decode cX9_drawn 52 = .ok (.iload 9, 2) := by decide +kernel
theorem dX9_drawn_54 : decode cX9_drawn 54 = .ok (.bipush 60, 2) := by decide +kernel
theorem dX9_drawn_56 : decode cX9_drawn 56 = .ok (.if_icmp .ge 76, 3) := by decide +kernel
theorem dX9_drawn_59 : decode cX9_drawn 59 = .ok (.iload 4, 2) := by decide +kernel
theorem dX9_drawn_61 : decode cX9_drawn 61 = .ok (.ldc_w 354, 3) := by decide +kernel
theorem dX9_drawn_64 : decode cX9_drawn 64 = .ok (.imul, 1) := by decide +kernel
theorem dX9_drawn_65 : decode cX9_drawn 65 = .ok (.sipush 12345, 3) := by decide +kernel
theorem dX9_drawn_68 : decode cX9_drawn 68 = .ok (.iadd, 1) := by decide +kernel
theorem dX9_drawn_69 : decode cX9_drawn 69 = .ok (.istore 4, 2) := by decide +kernel
theorem dX9_drawn_71 : decode cX9_drawn 71 = .ok (.aload_n 0, 1) := by decide +kernel
theorem dX9_drawn_72 : decode cX9_drawn 72 = .ok (.iconst 0, 1) := by decide +kernel
theorem dX9_drawn_73 : decode cX9_drawn 73 = .ok (.iload 9, 2) := by decide +kernel
theorem dX9_drawn_75 : decode cX9_drawn 75 = .ok (.aload_n 0, 1) := by decide +kernel
theorem dX9_drawn_76 : decode cX9_drawn 76 = .ok (.getfield 16, 3) := by decide +kernel
theorem dX9_drawn_79 : decode cX9_drawn 79 = .ok (.iload 9, 2) := by decide +kernel
theorem dX9_drawn_81 : decode cX9_drawn 81 = .ok (.iaload, 1) := by decide +kernel
theorem dX9_drawn_82 : decode cX9_drawn 82 = .ok (.iload 4, 2) := by decide +kernel
theorem dX9_drawn_84 : decode cX9_drawn 84 = .ok (.bipush 8, 2) := by decide +kernel
theorem dX9_drawn_86 : decode cX9_drawn 86 = .ok (.iushr, 1) := by decide +kernel
theorem dX9_drawn_87 : decode cX9_drawn 87 = .ok (.bipush 12, 2) := by decide +kernel
theorem dX9_drawn_89 : decode cX9_drawn 89 = .ok (.irem, 1) := by decide +kernel
theorem dX9_drawn_90 : decode cX9_drawn 90 = .ok (.aload_n 0, 1) := by decide +kernel
theorem dX9_drawn_91 : decode cX9_drawn 91 = .ok (.getfield 26, 3) := by decide +kernel
theorem dX9_drawn_94 : decode cX9_drawn 94 = .ok (.if_icmp .ge 8, 3) := by decide +kernel
theorem dX9_drawn_97 : decode cX9_drawn 97 = .ok (.bipush 9, 2) := by decide +kernel
theorem dX9_drawn_99 : decode cX9_drawn 99 = .ok (.goto 4, 3) := by decide +kernel
theorem dX9_drawn_102 : decode cX9_drawn 102 = .ok (.iconst 0, 1) := by decide +kernel
theorem dX9_drawn_103 : decode cX9_drawn 103 = .ok (.invokevirtual 283, 3) := by decide +kernel
theorem dX9_drawn_106 : decode cX9_drawn 106 = .ok (.pop, 1) := by decide +kernel
theorem dX9_drawn_107 : decode cX9_drawn 107 = .ok (.iload 8, 2) := by decide +kernel
theorem dX9_drawn_109 : decode cX9_drawn 109 = .ok (.ifCond .ne 10, 3) := by decide +kernel
theorem dX9_drawn_112 : decode cX9_drawn 112 = .ok (.aload_n 0, 1) := by decide +kernel
theorem dX9_drawn_113 : decode cX9_drawn 113 = .ok (.getfield 29, 3) := by decide +kernel
theorem dX9_drawn_116 : decode cX9_drawn 116 = .ok (.ifCond .ne 7, 3) := by decide +kernel
theorem dX9_drawn_119 : decode cX9_drawn 119 = .ok (.iconst 1, 1) := by decide +kernel
theorem dX9_drawn_120 : decode cX9_drawn 120 = .ok (.goto 4, 3) := by decide +kernel
theorem dX9_drawn_123 : decode cX9_drawn 123 = .ok (.iconst 0, 1) := by decide +kernel
theorem dX9_drawn_124 : decode cX9_drawn 124 = .ok (.istore 8, 2) := by decide +kernel
theorem dX9_drawn_126 : decode cX9_drawn 126 = .ok (.iinc 9 1, 3) := by decide +kernel
theorem dX9_drawn_129 : decode cX9_drawn 129 = .ok (.goto (-77), 3) := by decide +kernel
theorem dX9_drawn_132 : decode cX9_drawn 132 = .ok (.iload 8, 2) := by decide +kernel
theorem dX9_drawn_134 : decode cX9_drawn 134 = .ok (.ifCond .eq 6, 3) := by decide +kernel
theorem dX9_drawn_137 : decode cX9_drawn 137 = .ok (.iinc 5 1, 3) := by decide +kernel
theorem dX9_drawn_140 : decode cX9_drawn 140 = .ok (.iload 6, 2) := by decide +kernel
theorem dX9_drawn_142 : decode cX9_drawn 142 = .ok (.aload_n 0, 1) := by decide +kernel
theorem dX9_drawn_143 : decode cX9_drawn 143 = .ok (.getfield 29, 3) := by decide +kernel
theorem dX9_drawn_146 : decode cX9_drawn 146 = .ok (.iadd, 1) := by decide +kernel
theorem dX9_drawn_147 : decode cX9_drawn 147 = .ok (.istore 6, 2) := by decide +kernel
theorem dX9_drawn_149 : decode cX9_drawn 149 = .ok (.aload_n 0, 1) := by decide +kernel
theorem dX9_drawn_150 : decode cX9_drawn 150 = .ok (.invokevirtual 296, 3) := by decide +kernel
theorem dX9_drawn_153 : decode cX9_drawn 153 = .ok (.iinc 7 1, 3) := by decide +kernel
theorem dX9_drawn_156 : decode cX9_drawn 156 = .ok (.goto (-119), 3) := by decide +kernel
theorem dX9_drawn_159 : decode cX9_drawn 159 = .ok (.iload_n 3, 1) := by decide +kernel
theorem dX9_drawn_160 : decode cX9_drawn 160 = .ok (.ifCond .ne 8, 3) := by decide +kernel
theorem dX9_drawn_163 : decode cX9_drawn 163 = .ok (.iload 5, 2) := by decide +kernel
theorem dX9_drawn_165 : decode cX9_drawn 165 = .ok (.goto 5, 3) := by decide +kernel
theorem dX9_drawn_168 : decode cX9_drawn 168 = .ok (.iload 6, 2) := by decide +kernel
theorem dX9_drawn_170 : decode cX9_drawn 170 = .ok (.ireturn, 1) := by decide +kernel
theorem dX9_judge_0 : decode cX9_judge 0 = .ok (.iload_n 1, 1) := by decide +kernel
theorem dX9_judge_1 : decode cX9_judge 1 = .ok (.invokestatic 179, 3) := by decide +kernel
theorem dX9_judge_4 : decode cX9_judge 4 = .ok (.ifCond .ne 5, 3) := by decide +kernel
theorem dX9_judge_7 : decode cX9_judge 7 = .ok (.iconst (-1), 1) := by decide +kernel
theorem dX9_judge_8 : decode cX9_judge 8 = .ok (.ireturn, 1) := by decide +kernel
theorem dX9_judge_9 : decode cX9_judge 9 = .ok (.aload_n 0, 1) := by decide +kernel
theorem dX9_judge_10 : decode cX9_judge 10 = .ok (.iload_n 1, 1) := by decide +kernel
theorem dX9_judge_11 : decode cX9_judge 11 = .ok (.invokevirtual 299, 3) := by decide +kernel
theorem dX9_judge_14 : decode cX9_judge 14 = .ok (.ifCond .ge 9, 3) := by decide +kernel
theorem dX9_judge_17 : decode cX9_judge 17 = .ok (.aload_n 0, 1) := by decide +kernel
theorem dX9_judge_18 : decode cX9_judge 18 = .ok (.iload_n 1, 1) := by decide +kernel
theorem dX9_judge_19 : decode cX9_judge 19 = .ok (.invokevirtual 299, 3) := by decide +kernel
theorem dX9_judge_22 : decode cX9_judge 22 = .ok (.ireturn, 1) := by decide +kernel
theorem dX9_judge_23 : decode cX9_judge 23 = .ok (.aload_n 0, 1) := by decide +kernel
theorem dX9_judge_24 : decode cX9_judge 24 = .ok (.invokevirtual 302, 3) := by decide +kernel
theorem dX9_judge_27 : decode cX9_judge 27 = .ok (.bipush (-2), 2) := by decide +kernel
theorem dX9_judge_29 : decode cX9_judge 29 = .ok (.istore_n 2, 1) := by decide +kernel
theorem dX9_judge_30 : decode cX9_judge 30 = .ok (.iconst 0, 1) := by decide +kernel
theorem dX9_judge_31 : decode cX9_judge 31 = .ok (.istore_n 3, 1) := by decide +kernel
theorem dX9_judge_32 : decode cX9_judge 32 = .ok (.iload_n 3, 1) := by decide +kernel
theorem dX9_judge_33 : decode cX9_judge 33 = .ok (.aload_n 0, 1) := by decide +kernel
theorem dX9_judge_34 : decode cX9_judge 34 = .ok (.getfield 103, 3) := by decide +kernel
theorem dX9_judge_37 : decode cX9_judge 37 = .ok (.iload_n 1, 1) := by decide +kernel
theorem dX9_judge_38 : decode cX9_judge 38 = .ok (.iaload, 1) := by decide +kernel
theorem dX9_judge_39 : decode cX9_judge 39 = .ok (.if_icmp .ge 51, 3) := by decide +kernel
theorem dX9_judge_42 : decode cX9_judge 42 = .ok (.aload_n 0, 1) := by decide +kernel
theorem dX9_judge_43 : decode cX9_judge 43 = .ok (.getfield 166, 3) := by decide +kernel
theorem dX9_judge_46 : decode cX9_judge 46 = .ok (.iload_n 3, 1) := by decide +kernel
theorem dX9_judge_47 : decode cX9_judge 47 = .ok (.iadd, 1) := by decide +kernel
theorem dX9_judge_48 : decode cX9_judge 48 = .ok (.bipush 60, 2) := by decide +kernel
theorem dX9_judge_50 : decode cX9_judge 50 = .ok (.if_icmp .ge 40, 3) := by decide +kernel
theorem dX9_judge_53 : decode cX9_judge 53 = .ok (.iload_n 2, 1) := by decide +kernel
theorem dX9_judge_54 : decode cX9_judge 54 = .ok (.ifCond .ge 36, 3) := by decide +kernel
theorem dX9_judge_57 : decode cX9_judge 57 = .ok (.aload_n 0, 1) := by decide +kernel
theorem dX9_judge_58 : decode cX9_judge 58 = .ok (.iconst 0, 1) := by decide +kernel
theorem dX9_judge_59 : decode cX9_judge 59 = .ok (.aload_n 0, 1) := by decide +kernel
theorem dX9_judge_60 : decode cX9_judge 60 = .ok (.getfield 166, 3) := by decide +kernel
theorem dX9_judge_63 : decode cX9_judge 63 = .ok (.iload_n 3, 1) := by decide +kernel
theorem dX9_judge_64 : decode cX9_judge 64 = .ok (.iadd, 1) := by decide +kernel
theorem dX9_judge_65 : decode cX9_judge 65 = .ok (.invokevirtual 287, 3) := by decide +kernel
theorem dX9_judge_68 : decode cX9_judge 68 = .ok (.pop, 1) := by decide +kernel
theorem dX9_judge_69 : decode cX9_judge 69 = .ok (.aload_n 0, 1) := by decide +kernel
theorem dX9_judge_70 : decode cX9_judge 70 = .ok (.iload_n 1, 1) := by decide +kernel
theorem dX9_judge_71 : decode cX9_judge 71 = .ok (.iload_n 3, 1) := by decide +kernel
theorem dX9_judge_72 : decode cX9_judge 72 = .ok (.invokevirtual 293, 3) := by decide +kernel
theorem dX9_judge_75 : decode cX9_judge 75 = .ok (.aload_n 0, 1) := by decide +kernel
theorem dX9_judge_76 : decode cX9_judge 76 = .ok (.getfield 29, 3) := by decide +kernel
theorem dX9_judge_79 : decode cX9_judge 79 = .ok (.if_icmp .eq 5, 3) := by decide +kernel
theorem dX9_judge_82 : decode cX9_judge 82 = .ok (.iload_n 3, 1) := by decide +kernel
theorem dX9_judge_83 : decode cX9_judge 83 = .ok (.istore_n 2, 1) := by decide +kernel
theorem dX9_judge_84 : decode cX9_judge 84 = .ok (.iinc 3 1, 3) := by decide +kernel
theorem dX9_judge_87 : decode cX9_judge 87 = .ok (.goto (-55), 3) := by decide +kernel
theorem dX9_judge_90 : decode cX9_judge 90 = .ok (.aload_n 0, 1) := by decide +kernel
theorem dX9_judge_91 : decode cX9_judge 91 = .ok (.invokevirtual 296, 3) := by decide +kernel
theorem dX9_judge_94 : decode cX9_judge 94 = .ok (.iload_n 2, 1) := by decide +kernel
theorem dX9_judge_95 : decode cX9_judge 95 = .ok (.ireturn, 1) := by decide +kernel
theorem dX9_image_0 : decode cX9_image 0 = .ok (.aload_n 0, 1) := by decide +kernel
theorem dX9_image_1 : decode cX9_image 1 = .ok (.iconst 1, 1) := by decide +kernel
theorem dX9_image_2 : decode cX9_image 2 = .ok (.putfield 355, 3) := by decide +kernel
theorem dX9_image_5 : decode cX9_image 5 = .ok (.aload_n 0, 1) := by decide +kernel
theorem dX9_image_6 : decode cX9_image 6 = .ok (.aload_n 0, 1) := by decide +kernel
theorem dX9_image_7 : decode cX9_image 7 = .ok (.getfield 166, 3) := by decide +kernel
theorem dX9_image_10 : decode cX9_image 10 = .ok (.putfield 358, 3) := by decide +kernel
theorem dX9_image_13 : decode cX9_image 13 = .ok (.aload_n 0, 1) := by decide +kernel
theorem dX9_image_14 : decode cX9_image 14 = .ok (.aload_n 0, 1) := by decide +kernel
theorem dX9_image_15 : decode cX9_image 15 = .ok (.getfield 169, 3) := by decide +kernel
theorem dX9_image_18 : decode cX9_image 18 = .ok (.putfield 361, 3) := by decide +kernel
theorem dX9_image_21 : decode cX9_image 21 = .ok (.aload_n 0, 1) := by decide +kernel
theorem dX9_image_22 : decode cX9_image 22 = .ok (.aload_n 0, 1) := by decide +kernel
theorem dX9_image_23 : decode cX9_image 23 = .ok (.getfield 29, 3) := by decide +kernel
theorem dX9_image_26 : decode cX9_image 26 = .ok (.putfield 364, 3) := by decide +kernel
theorem dX9_image_29 : decode cX9_image 29 = .ok (.aload_n 0, 1) := by decide +kernel
theorem dX9_image_30 : decode cX9_image 30 = .ok (.aload_n 0, 1) := by decide +kernel
theorem dX9_image_31 : decode cX9_image 31 = .ok (.getfield 172, 3) := by decide +kernel
theorem dX9_image_34 : decode cX9_image 34 = .ok (.putfield 367, 3) := by decide +kernel
theorem dX9_image_37 : decode cX9_image 37 = .ok (.aload_n 0, 1) := by decide +kernel
theorem dX9_image_38 : decode cX9_image 38 = .ok (.aload_n 0, 1) := by decide +kernel
theorem dX9_image_39 : decode cX9_image 39 = .ok (.getfield 124, 3) := by decide +kernel
theorem dX9_image_42 : decode cX9_image 42 = .ok (.putfield 370, 3) := by decide +kernel
theorem dX9_image_45 : decode cX9_image 45 = .ok (.aload_n 0, 1) := by decide +kernel
theorem dX9_image_46 : decode cX9_image 46 = .ok (.getfield 166, 3) := by decide +kernel
theorem dX9_image_49 : decode cX9_image 49 = .ok (.ireturn, 1) := by decide +kernel
theorem dX9_back_0 : decode cX9_back 0 = .ok (.aload_n 0, 1) := by decide +kernel
theorem dX9_back_1 : decode cX9_back 1 = .ok (.getfield 355, 3) := by decide +kernel
theorem dX9_back_4 : decode cX9_back 4 = .ok (.ifCond .ne 6, 3) := by decide +kernel
theorem dX9_back_7 : decode cX9_back 7 = .ok (.bipush (-5), 2) := by decide +kernel
theorem dX9_back_9 : decode cX9_back 9 = .ok (.ireturn, 1) := by decide +kernel
theorem dX9_back_10 : decode cX9_back 10 = .ok (.aload_n 0, 1) := by decide +kernel
theorem dX9_back_11 : decode cX9_back 11 = .ok (.aload_n 0, 1) := by decide +kernel
theorem dX9_back_12 : decode cX9_back 12 = .ok (.getfield 358, 3) := by decide +kernel
theorem dX9_back_15 : decode cX9_back 15 = .ok (.putfield 166, 3) := by decide +kernel
theorem dX9_back_18 : decode cX9_back 18 = .ok (.aload_n 0, 1) := by decide +kernel
theorem dX9_back_19 : decode cX9_back 19 = .ok (.aload_n 0, 1) := by decide +kernel
theorem dX9_back_20 : decode cX9_back 20 = .ok (.getfield 361, 3) := by decide +kernel
theorem dX9_back_23 : decode cX9_back 23 = .ok (.putfield 169, 3) := by decide +kernel
theorem dX9_back_26 : decode cX9_back 26 = .ok (.aload_n 0, 1) := by decide +kernel
theorem dX9_back_27 : decode cX9_back 27 = .ok (.aload_n 0, 1) := by decide +kernel
theorem dX9_back_28 : decode cX9_back 28 = .ok (.getfield 364, 3) := by decide +kernel
theorem dX9_back_31 : decode cX9_back 31 = .ok (.putfield 29, 3) := by decide +kernel
theorem dX9_back_34 : decode cX9_back 34 = .ok (.aload_n 0, 1) := by decide +kernel
theorem dX9_back_35 : decode cX9_back 35 = .ok (.aload_n 0, 1) := by decide +kernel
theorem dX9_back_36 : decode cX9_back 36 = .ok (.getfield 367, 3) := by decide +kernel
theorem dX9_back_39 : decode cX9_back 39 = .ok (.putfield 172, 3) := by decide +kernel
theorem dX9_back_42 : decode cX9_back 42 = .ok (.aload_n 0, 1) := by decide +kernel
theorem dX9_back_43 : decode cX9_back 43 = .ok (.aload_n 0, 1) := by decide +kernel
theorem dX9_back_44 : decode cX9_back 44 = .ok (.getfield 370, 3) := by decide +kernel
theorem dX9_back_47 : decode cX9_back 47 = .ok (.putfield 124, 3) := by decide +kernel
theorem dX9_back_50 : decode cX9_back 50 = .ok (.aload_n 0, 1) := by decide +kernel
theorem dX9_back_51 : decode cX9_back 51 = .ok (.getfield 166, 3) := by decide +kernel
theorem dX9_back_54 : decode cX9_back 54 = .ok (.ireturn, 1) := by decide +kernel
theorem dX9_stones_0 : decode cX9_stones 0 = .ok (.iconst 0, 1) := by decide +kernel
theorem dX9_stones_1 : decode cX9_stones 1 = .ok (.istore_n 1, 1) := by decide +kernel
theorem dX9_stones_2 : decode cX9_stones 2 = .ok (.iconst 0, 1) := by decide +kernel
theorem dX9_stones_3 : decode cX9_stones 3 = .ok (.istore_n 2, 1) := by decide +kernel
theorem dX9_stones_4 : decode cX9_stones 4 = .ok (.iload_n 2, 1) := by decide +kernel
theorem dX9_stones_5 : decode cX9_stones 5 = .ok (.bipush 36, 2) := by decide +kernel
theorem dX9_stones_7 : decode cX9_stones 7 = .ok (.if_icmp .ge 18, 3) := by decide +kernel
theorem dX9_stones_10 : decode cX9_stones 10 = .ok (.iload_n 1, 1) := by decide +kernel
theorem dX9_stones_11 : decode cX9_stones 11 = .ok (.aload_n 0, 1) := by decide +kernel
theorem dX9_stones_12 : decode cX9_stones 12 = .ok (.getfield 13, 3) := by decide +kernel
theorem dX9_stones_15 : decode cX9_stones 15 = .ok (.iload_n 2, 1) := by decide +kernel
theorem dX9_stones_16 : decode cX9_stones 16 = .ok (.iaload, 1) := by decide +kernel
theorem dX9_stones_17 : decode cX9_stones 17 = .ok (.iadd, 1) := by decide +kernel
theorem dX9_stones_18 : decode cX9_stones 18 = .ok (.istore_n 1, 1) := by decide +kernel
theorem dX9_stones_19 : decode cX9_stones 19 = .ok (.iinc 2 1, 3) := by decide +kernel
theorem dX9_stones_22 : decode cX9_stones 22 = .ok (.goto (-18), 3) := by decide +kernel
theorem dX9_stones_25 : decode cX9_stones 25 = .ok (.iload_n 1, 1) := by decide +kernel
theorem dX9_stones_26 : decode cX9_stones 26 = .ok (.ireturn, 1) := by decide +kernel
theorem dX9_hollows_0 : decode cX9_hollows 0 = .ok (.iconst 0, 1) := by decide +kernel
theorem dX9_hollows_1 : decode cX9_hollows 1 = .ok (.istore_n 1, 1) := by decide +kernel
theorem dX9_hollows_2 : decode cX9_hollows 2 = .ok (.iconst 0, 1) := by decide +kernel
theorem dX9_hollows_3 : decode cX9_hollows 3 = .ok (.istore_n 2, 1) := by decide +kernel
theorem dX9_hollows_4 : decode cX9_hollows 4 = .ok (.iload_n 2, 1) := by decide +kernel
theorem dX9_hollows_5 : decode cX9_hollows 5 = .ok (.bipush 36, 2) := by decide +kernel
theorem dX9_hollows_7 : decode cX9_hollows 7 = .ok (.if_icmp .ge 20, 3) := by decide +kernel
theorem dX9_hollows_10 : decode cX9_hollows 10 = .ok (.aload_n 0, 1) := by decide +kernel
theorem dX9_hollows_11 : decode cX9_hollows 11 = .ok (.iload_n 2, 1) := by decide +kernel
theorem dX9_hollows_12 : decode cX9_hollows 12 = .ok (.invokevirtual 160, 3) := by decide +kernel
theorem dX9_hollows_15 : decode cX9_hollows 15 = .ok (.ifCond .eq 6, 3) := by decide +kernel
theorem dX9_hollows_18 : decode cX9_hollows 18 = .ok (.iinc 1 1, 3) := by decide +kernel
theorem dX9_hollows_21 : decode cX9_hollows 21 = .ok (.iinc 2 1, 3) := by decide +kernel
theorem dX9_hollows_24 : decode cX9_hollows 24 = .ok (.goto (-20), 3) := by decide +kernel
theorem dX9_hollows_27 : decode cX9_hollows 27 = .ok (.iload_n 1, 1) := by decide +kernel
theorem dX9_hollows_28 : decode cX9_hollows 28 = .ok (.ireturn, 1) := by decide +kernel
theorem dX9_isBody_0 : decode cX9_isBody 0 = .ok (.iload_n 1, 1) := by decide +kernel
theorem dX9_isBody_1 : decode cX9_isBody 1 = .ok (.iconst 0, 1) := by decide +kernel
theorem dX9_isBody_2 : decode cX9_isBody 2 = .ok (.aload_n 0, 1) := by decide +kernel
theorem dX9_isBody_3 : decode cX9_isBody 3 = .ok (.getfield 373, 3) := by decide +kernel
theorem dX9_isBody_6 : decode cX9_isBody 6 = .ok (.iconst 1, 1) := by decide +kernel
theorem dX9_isBody_7 : decode cX9_isBody 7 = .ok (.isub, 1) := by decide +kernel
theorem dX9_isBody_8 : decode cX9_isBody 8 = .ok (.invokestatic 116, 3) := by decide +kernel
theorem dX9_isBody_11 : decode cX9_isBody 11 = .ok (.ireturn, 1) := by decide +kernel
theorem dX9_ran_0 : decode cX9_ran 0 = .ok (.aload_n 0, 1) := by decide +kernel
theorem dX9_ran_1 : decode cX9_ran 1 = .ok (.getfield 376, 3) := by decide +kernel
theorem dX9_ran_4 : decode cX9_ran 4 = .ok (.bipush 24, 2) := by decide +kernel
theorem dX9_ran_6 : decode cX9_ran 6 = .ok (.if_icmp .ge 13, 3) := by decide +kernel
theorem dX9_ran_9 : decode cX9_ran 9 = .ok (.aload_n 0, 1) := by decide +kernel
theorem dX9_ran_10 : decode cX9_ran 10 = .ok (.getfield 97, 3) := by decide +kernel
theorem dX9_ran_13 : decode cX9_ran 13 = .ok (.aload_n 0, 1) := by decide +kernel
theorem dX9_ran_14 : decode cX9_ran 14 = .ok (.getfield 376, 3) := by decide +kernel
theorem dX9_ran_17 : decode cX9_ran 17 = .ok (.iload_n 1, 1) := by decide +kernel
theorem dX9_ran_18 : decode cX9_ran 18 = .ok (.iastore, 1) := by decide +kernel
theorem dX9_ran_19 : decode cX9_ran 19 = .ok (.aload_n 0, 1) := by decide +kernel
theorem dX9_ran_20 : decode cX9_ran 20 = .ok (.dup, 1) := by decide +kernel
theorem dX9_ran_21 : decode cX9_ran 21 = .ok (.getfield 376, 3) := by decide +kernel
theorem dX9_ran_24 : decode cX9_ran 24 = .ok (.iconst 1, 1) := by decide +kernel
theorem dX9_ran_25 : decode cX9_ran 25 = .ok (.iadd, 1) := by decide +kernel
theorem dX9_ran_26 : decode cX9_ran 26 = .ok (.putfield 376, 3) := by decide +kernel
theorem dX9_ran_29 : decode cX9_ran 29 = .ok (.return_, 1) := by decide +kernel
theorem dX9_trace_0 : decode cX9_trace 0 = .ok (.iload_n 1, 1) := by decide +kernel
theorem dX9_trace_1 : decode cX9_trace 1 = .ok (.ifCond .lt 26, 3) := by decide +kernel
theorem dX9_trace_4 : decode cX9_trace 4 = .ok (.iload_n 1, 1) := by decide +kernel
theorem dX9_trace_5 : decode cX9_trace 5 = .ok (.aload_n 0, 1) := by decide +kernel
theorem dX9_trace_6 : decode cX9_trace 6 = .ok (.getfield 376, 3) := by decide +kernel
theorem dX9_trace_9 : decode cX9_trace 9 = .ok (.if_icmp .ge 18, 3) := by decide +kernel
theorem dX9_trace_12 : decode cX9_trace 12 = .ok (.iload_n 1, 1) := by decide +kernel
theorem dX9_trace_13 : decode cX9_trace 13 = .ok (.bipush 24, 2) := by decide +kernel
theorem dX9_trace_15 : decode cX9_trace 15 = .ok (.if_icmp .ge 12, 3) := by decide +kernel
theorem dX9_trace_18 : decode cX9_trace 18 = .ok (.aload_n 0, 1) := by decide +kernel
theorem dX9_trace_19 : decode cX9_trace 19 = .ok (.getfield 97, 3) := by decide +kernel
theorem dX9_trace_22 : decode cX9_trace 22 = .ok (.iload_n 1, 1) := by decide +kernel
theorem dX9_trace_23 : decode cX9_trace 23 = .ok (.iaload, 1) := by decide +kernel
theorem dX9_trace_24 : decode cX9_trace 24 = .ok (.goto 4, 3) := by decide +kernel
theorem dX9_trace_27 : decode cX9_trace 27 = .ok (.iconst (-1), 1) := by decide +kernel
theorem dX9_trace_28 : decode cX9_trace 28 = .ok (.ireturn, 1) := by decide +kernel
theorem dX9_body_0 : decode cX9_body 0 = .ok (.iload_n 1, 1) := by decide +kernel
theorem dX9_body_1 : decode cX9_body 1 = .ok (.iconst 0, 1) := by decide +kernel
theorem dX9_body_2 : decode cX9_body 2 = .ok (.bipush 7, 2) := by decide +kernel
theorem dX9_body_4 : decode cX9_body 4 = .ok (.invokestatic 116, 3) := by decide +kernel
theorem dX9_body_7 : decode cX9_body 7 = .ok (.ifCond .ne 5, 3) := by decide +kernel
theorem dX9_body_10 : decode cX9_body 10 = .ok (.iconst (-1), 1) := by decide +kernel
theorem dX9_body_11 : decode cX9_body 11 = .ok (.ireturn, 1) := by decide +kernel
theorem dX9_body_12 : decode cX9_body 12 = .ok (.aload_n 0, 1) := by decide +kernel
theorem dX9_body_13 : decode cX9_body 13 = .ok (.getfield 373, 3) := by decide +kernel
theorem dX9_body_16 : decode cX9_body 16 = .ok (.bipush 50, 2) := by decide +kernel
theorem dX9_body_18 : decode cX9_body 18 = .ok (.if_icmp .ne 6, 3) := by decide +kernel
theorem dX9_body_21 : decode cX9_body 21 = .ok (.bipush (-3), 2) := by decide +kernel
theorem dX9_body_23 : decode cX9_body 23 = .ok (.ireturn, 1) := by decide +kernel
theorem dX9_body_24 : decode cX9_body 24 = .ok (.aload_n 0, 1) := by decide +kernel
theorem dX9_body_25 : decode cX9_body 25 = .ok (.getfield 94, 3) := by decide +kernel
theorem dX9_body_28 : decode cX9_body 28 = .ok (.aload_n 0, 1) := by decide +kernel
theorem dX9_body_29 : decode cX9_body 29 = .ok (.getfield 373, 3) := by decide +kernel
theorem dX9_body_32 : decode cX9_body 32 = .ok (.iload_n 1, 1) := by decide +kernel
theorem dX9_body_33 : decode cX9_body 33 = .ok (.iastore, 1) := by decide +kernel
theorem dX9_body_34 : decode cX9_body 34 = .ok (.aload_n 0, 1) := by decide +kernel
theorem dX9_body_35 : decode cX9_body 35 = .ok (.dup, 1) := by decide +kernel
theorem dX9_body_36 : decode cX9_body 36 = .ok (.getfield 373, 3) := by decide +kernel
theorem dX9_body_39 : decode cX9_body 39 = .ok (.iconst 1, 1) := by decide +kernel
theorem dX9_body_40 : decode cX9_body 40 = .ok (.iadd, 1) := by decide +kernel
theorem dX9_body_41 : decode cX9_body 41 = .ok (.putfield 373, 3) := by decide +kernel
theorem dX9_body_44 : decode cX9_body 44 = .ok (.aload_n 0, 1) := by decide +kernel
theorem dX9_body_45 : decode cX9_body 45 = .ok (.getfield 373, 3) := by decide +kernel
theorem dX9_body_48 : decode cX9_body 48 = .ok (.iconst 1, 1) := by decide +kernel
theorem dX9_body_49 : decode cX9_body 49 = .ok (.isub, 1) := by decide +kernel
theorem dX9_body_50 : decode cX9_body 50 = .ok (.ireturn, 1) := by decide +kernel
theorem dX9_isUnder_0 : decode cX9_isUnder 0 = .ok (.iload_n 1, 1) := by decide +kernel
theorem dX9_isUnder_1 : decode cX9_isUnder 1 = .ok (.ifCond .eq 55, 3) := by decide +kernel
theorem dX9_isUnder_4 : decode cX9_isUnder 4 = .ok (.iload_n 0, 1) := by decide +kernel
theorem dX9_isUnder_5 : decode cX9_isUnder 5 = .ok (.iload_n 1, 1) := by decide +kernel
theorem dX9_isUnder_6 : decode cX9_isUnder 6 = .ok (.if_icmp .eq 50, 3) := by decide +kernel
theorem dX9_isUnder_9 : decode cX9_isUnder 9 = .ok (.iload_n 1, 1) := by decide +kernel
theorem dX9_isUnder_10 : decode cX9_isUnder 10 = .ok (.iconst 1, 1) := by decide +kernel
theorem dX9_isUnder_11 : decode cX9_isUnder 11 = .ok (.if_icmp .ne 8, 3) := by decide +kernel
theorem dX9_isUnder_14 : decode cX9_isUnder 14 = .ok (.iload_n 0, 1) := by decide +kernel
theorem dX9_isUnder_15 : decode cX9_isUnder 15 = .ok (.iconst 4, 1) := by decide +kernel
theorem dX9_isUnder_16 : decode cX9_isUnder 16 = .ok (.if_icmp .eq 40, 3) := by decide +kernel
theorem dX9_isUnder_19 : decode cX9_isUnder 19 = .ok (.iload_n 1, 1) := by decide +kernel
theorem dX9_isUnder_20 : decode cX9_isUnder 20 = .ok (.iconst 2, 1) := by decide +kernel
theorem dX9_isUnder_21 : decode cX9_isUnder 21 = .ok (.if_icmp .ne 13, 3) := by decide +kernel
theorem dX9_isUnder_24 : decode cX9_isUnder 24 = .ok (.iload_n 0, 1) := by decide +kernel
theorem dX9_isUnder_25 : decode cX9_isUnder 25 = .ok (.iconst 3, 1) := by decide +kernel
theorem dX9_isUnder_26 : decode cX9_isUnder 26 = .ok (.if_icmp .eq 30, 3) := by decide +kernel
theorem dX9_isUnder_29 : decode cX9_isUnder 29 = .ok (.iload_n 0, 1) := by decide +kernel
theorem dX9_isUnder_30 : decode cX9_isUnder 30 = .ok (.iconst 5, 1) := by decide +kernel
theorem dX9_isUnder_31 : decode cX9_isUnder 31 = .ok (.if_icmp .eq 25, 3) := by decide +kernel
theorem dX9_isUnder_34 : decode cX9_isUnder 34 = .ok (.iload_n 1, 1) := by decide +kernel
theorem dX9_isUnder_35 : decode cX9_isUnder 35 = .ok (.iconst 3, 1) := by decide +kernel
theorem dX9_isUnder_36 : decode cX9_isUnder 36 = .ok (.if_icmp .ne 8, 3) := by decide +kernel
theorem dX9_isUnder_39 : decode cX9_isUnder 39 = .ok (.iload_n 0, 1) := by decide +kernel
theorem dX9_isUnder_40 : decode cX9_isUnder 40 = .ok (.iconst 5, 1) := by decide +kernel
theorem dX9_isUnder_41 : decode cX9_isUnder 41 = .ok (.if_icmp .eq 15, 3) := by decide +kernel
theorem dX9_isUnder_44 : decode cX9_isUnder 44 = .ok (.iload_n 1, 1) := by decide +kernel
theorem dX9_isUnder_45 : decode cX9_isUnder 45 = .ok (.bipush 6, 2) := by decide +kernel
theorem dX9_isUnder_47 : decode cX9_isUnder 47 = .ok (.if_icmp .ne 13, 3) := by decide +kernel
theorem dX9_isUnder_50 : decode cX9_isUnder 50 = .ok (.iload_n 0, 1) := by decide +kernel
theorem dX9_isUnder_51 : decode cX9_isUnder 51 = .ok (.bipush 7, 2) := by decide +kernel
theorem dX9_isUnder_53 : decode cX9_isUnder 53 = .ok (.if_icmp .ne 7, 3) := by decide +kernel
theorem dX9_isUnder_56 : decode cX9_isUnder 56 = .ok (.iconst 1, 1) := by decide +kernel
theorem dX9_isUnder_57 : decode cX9_isUnder 57 = .ok (.goto 4, 3) := by decide +kernel
theorem dX9_isUnder_60 : decode cX9_isUnder 60 = .ok (.iconst 0, 1) := by decide +kernel
theorem dX9_isUnder_61 : decode cX9_isUnder 61 = .ok (.ireturn, 1) := by decide +kernel
theorem dX9_plainTurns_0 : decode cX9_plainTurns 0 = .ok (.aload_n 0, 1) := by decide +kernel
theorem dX9_plainTurns_1 : decode cX9_plainTurns 1 = .ok (.iconst 1, 1) := by decide +kernel
theorem dX9_plainTurns_2 : decode cX9_plainTurns 2 = .ok (.invokevirtual 379, 3) := by decide +kernel
theorem dX9_plainTurns_5 : decode cX9_plainTurns 5 = .ok (.iload_n 2, 1) := by decide +kernel
theorem dX9_plainTurns_6 : decode cX9_plainTurns 6 = .ok (.iload_n 1, 1) := by decide +kernel
theorem dX9_plainTurns_7 : decode cX9_plainTurns 7 = .ok (.iadd, 1) := by decide +kernel
theorem dX9_plainTurns_8 : decode cX9_plainTurns 8 = .ok (.ireturn, 1) := by decide +kernel
theorem dX9_northTurns_0 : decode cX9_northTurns 0 = .ok (.aload_n 0, 1) := by decide +kernel
theorem dX9_northTurns_1 : decode cX9_northTurns 1 = .ok (.bipush 70, 2) := by decide +kernel
theorem dX9_northTurns_3 : decode cX9_northTurns 3 = .ok (.invokevirtual 379, 3) := by decide +kernel
theorem dX9_northTurns_6 : decode cX9_northTurns 6 = .ok (.aload_n 0, 1) := by decide +kernel
theorem dX9_northTurns_7 : decode cX9_northTurns 7 = .ok (.iload_n 1, 1) := by decide +kernel
theorem dX9_northTurns_8 : decode cX9_northTurns 8 = .ok (.iload_n 2, 1) := by decide +kernel
theorem dX9_northTurns_9 : decode cX9_northTurns 9 = .ok (.invokevirtual 382, 3) := by decide +kernel
theorem dX9_northTurns_12 : decode cX9_northTurns 12 = .ok (.iconst 2, 1) := by decide +kernel
theorem dX9_northTurns_13 : decode cX9_northTurns 13 = .ok (.imul, 1) := by decide +kernel
theorem dX9_northTurns_14 : decode cX9_northTurns 14 = .ok (.ireturn, 1) := by decide +kernel
theorem dX9_turning_0 : decode cX9_turning 0 = .ok (.aload_n 0, 1) := by decide +kernel
theorem dX9_turning_1 : decode cX9_turning 1 = .ok (.getfield 94, 3) := by decide +kernel
theorem dX9_turning_4 : decode cX9_turning 4 = .ok (.iload_n 1, 1) := by decide +kernel
theorem dX9_turning_5 : decode cX9_turning 5 = .ok (.iaload, 1) := by decide +kernel
theorem dX9_turning_6 : decode cX9_turning 6 = .ok (.iconst 1, 1) := by decide +kernel
theorem dX9_turning_7 : decode cX9_turning 7 = .ok (.invokestatic 385, 3) := by decide +kernel
theorem dX9_turning_10 : decode cX9_turning 10 = .ok (.ifCond .eq 18, 3) := by decide +kernel
theorem dX9_turning_13 : decode cX9_turning 13 = .ok (.aload_n 0, 1) := by decide +kernel
theorem dX9_turning_14 : decode cX9_turning 14 = .ok (.bipush 20, 2) := by decide +kernel
theorem dX9_turning_16 : decode cX9_turning 16 = .ok (.invokevirtual 379, 3) := by decide +kernel
theorem dX9_turning_19 : decode cX9_turning 19 = .ok (.aload_n 0, 1) := by decide +kernel
theorem dX9_turning_20 : decode cX9_turning 20 = .ok (.iload_n 1, 1) := by decide +kernel
theorem dX9_turning_21 : decode cX9_turning 21 = .ok (.iload_n 2, 1) := by decide +kernel
theorem dX9_turning_22 : decode cX9_turning 22 = .ok (.invokevirtual 382, 3) := by decide +kernel
theorem dX9_turning_25 : decode cX9_turning 25 = .ok (.iconst 3, 1) := by decide +kernel
theorem dX9_turning_26 : decode cX9_turning 26 = .ok (.iadd, 1) := by decide +kernel
theorem dX9_turning_27 : decode cX9_turning 27 = .ok (.ireturn, 1) := by decide +kernel
theorem dX9_turning_28 : decode cX9_turning 28 = .ok (.aload_n 0, 1) := by decide +kernel
theorem dX9_turning_29 : decode cX9_turning 29 = .ok (.getfield 94, 3) := by decide +kernel
theorem dX9_turning_32 : decode cX9_turning 32 = .ok (.iload_n 1, 1) := by decide +kernel
theorem dX9_turning_33 : decode cX9_turning 33 = .ok (.iaload, 1) := by decide +kernel
theorem dX9_turning_34 : decode cX9_turning 34 = .ok (.bipush 7, 2) := by decide +kernel
theorem dX9_turning_36 : decode cX9_turning 36 = .ok (.if_icmp .ne 18, 3) := by decide +kernel
theorem dX9_turning_39 : decode cX9_turning 39 = .ok (.aload_n 0, 1) := by decide +kernel
theorem dX9_turning_40 : decode cX9_turning 40 = .ok (.bipush 81, 2) := by decide +kernel
theorem dX9_turning_42 : decode cX9_turning 42 = .ok (.invokevirtual 379, 3) := by decide +kernel
theorem dX9_turning_45 : decode cX9_turning 45 = .ok (.aload_n 0, 1) := by decide +kernel
theorem dX9_turning_46 : decode cX9_turning 46 = .ok (.iload_n 1, 1) := by decide +kernel
theorem dX9_turning_47 : decode cX9_turning 47 = .ok (.iload_n 2, 1) := by decide +kernel
theorem dX9_turning_48 : decode cX9_turning 48 = .ok (.invokevirtual 388, 3) := by decide +kernel
theorem dX9_turning_51 : decode cX9_turning 51 = .ok (.iconst 1, 1) := by decide +kernel
theorem dX9_turning_52 : decode cX9_turning 52 = .ok (.isub, 1) := by decide +kernel
theorem dX9_turning_53 : decode cX9_turning 53 = .ok (.ireturn, 1) := by decide +kernel
theorem dX9_turning_54 : decode cX9_turning 54 = .ok (.aload_n 0, 1) := by decide +kernel
theorem dX9_turning_55 : decode cX9_turning 55 = .ok (.getfield 94, 3) := by decide +kernel
theorem dX9_turning_58 : decode cX9_turning 58 = .ok (.iload_n 1, 1) := by decide +kernel
theorem dX9_turning_59 : decode cX9_turning 59 = .ok (.iaload, 1) := by decide +kernel
theorem dX9_turning_60 : decode cX9_turning 60 = .ok (.bipush 6, 2) := by decide +kernel
theorem dX9_turning_62 : decode cX9_turning 62 = .ok (.if_icmp .ne 12, 3) := by decide +kernel
theorem dX9_turning_65 : decode cX9_turning 65 = .ok (.aload_n 0, 1) := by decide +kernel
theorem dX9_turning_66 : decode cX9_turning 66 = .ok (.iload_n 1, 1) := by decide +kernel
theorem dX9_turning_67 : decode cX9_turning 67 = .ok (.iload_n 2, 1) := by decide +kernel
theorem dX9_turning_68 : decode cX9_turning 68 = .ok (.invokevirtual 388, 3) := by decide +kernel
theorem dX9_turning_71 : decode cX9_turning 71 = .ok (.goto 9, 3) := by decide +kernel
theorem dX9_turning_74 : decode cX9_turning 74 = .ok (.aload_n 0, 1) := by decide +kernel
theorem dX9_turning_75 : decode cX9_turning 75 = .ok (.iload_n 1, 1) := by decide +kernel
theorem dX9_turning_76 : decode cX9_turning 76 = .ok (.iload_n 2, 1) := by decide +kernel
theorem dX9_turning_77 : decode cX9_turning 77 = .ok (.invokevirtual 382, 3) := by decide +kernel
theorem dX9_turning_80 : decode cX9_turning 80 = .ok (.ireturn, 1) := by decide +kernel
theorem dX9_plainMoves_0 : decode cX9_plainMoves 0 = .ok (.aload_n 0, 1) := by decide +kernel
theorem dX9_plainMoves_1 : decode cX9_plainMoves 1 = .ok (.bipush 10, 2) := by decide +kernel
theorem dX9_plainMoves_3 : decode cX9_plainMoves 3 = .ok (.invokevirtual 379, 3) := by decide +kernel
theorem dX9_plainMoves_6 : decode cX9_plainMoves 6 = .ok (.aload_n 0, 1) := by decide +kernel
theorem dX9_plainMoves_7 : decode cX9_plainMoves 7 = .ok (.iload_n 1, 1) := by decide +kernel
theorem dX9_plainMoves_8 : decode cX9_plainMoves 8 = .ok (.iload_n 2, 1) := by decide +kernel
theorem dX9_plainMoves_9 : decode cX9_plainMoves 9 = .ok (.invokevirtual 391, 3) := by decide +kernel
theorem dX9_plainMoves_12 : decode cX9_plainMoves 12 = .ok (.iconst 2, 1) := by decide +kernel
theorem dX9_plainMoves_13 : decode cX9_plainMoves 13 = .ok (.imul, 1) := by decide +kernel
theorem dX9_plainMoves_14 : decode cX9_plainMoves 14 = .ok (.ireturn, 1) := by decide +kernel
theorem dX9_dustyMoves_0 : decode cX9_dustyMoves 0 = .ok (.aload_n 0, 1) := by decide +kernel
theorem dX9_dustyMoves_1 : decode cX9_dustyMoves 1 = .ok (.bipush 30, 2) := by decide +kernel
theorem dX9_dustyMoves_3 : decode cX9_dustyMoves 3 = .ok (.invokevirtual 379, 3) := by decide +kernel
theorem dX9_dustyMoves_6 : decode cX9_dustyMoves 6 = .ok (.aload_n 0, 1) := by decide +kernel
theorem dX9_dustyMoves_7 : decode cX9_dustyMoves 7 = .ok (.iload_n 1, 1) := by decide +kernel
theorem dX9_dustyMoves_8 : decode cX9_dustyMoves 8 = .ok (.iload_n 2, 1) := by decide +kernel
theorem dX9_dustyMoves_9 : decode cX9_dustyMoves 9 = .ok (.invokevirtual 394, 3) := by decide +kernel
theorem dX9_dustyMoves_12 : decode cX9_dustyMoves 12 = .ok (.ineg, 1) := by decide +kernel
theorem dX9_dustyMoves_13 : decode cX9_dustyMoves 13 = .ok (.ireturn, 1) := by decide +kernel
theorem dX9_moving_0 : decode cX9_moving 0 = .ok (.aload_n 0, 1) := by decide +kernel
theorem dX9_moving_1 : decode cX9_moving 1 = .ok (.getfield 94, 3) := by decide +kernel
theorem dX9_moving_4 : decode cX9_moving 4 = .ok (.iload_n 1, 1) := by decide +kernel
theorem dX9_moving_5 : decode cX9_moving 5 = .ok (.iaload, 1) := by decide +kernel
theorem dX9_moving_6 : decode cX9_moving 6 = .ok (.iconst 3, 1) := by decide +kernel
theorem dX9_moving_7 : decode cX9_moving 7 = .ok (.invokestatic 385, 3) := by decide +kernel
theorem dX9_moving_10 : decode cX9_moving 10 = .ok (.ifCond .eq 18, 3) := by decide +kernel
theorem dX9_moving_13 : decode cX9_moving 13 = .ok (.aload_n 0, 1) := by decide +kernel
theorem dX9_moving_14 : decode cX9_moving 14 = .ok (.bipush 41, 2) := by decide +kernel
theorem dX9_moving_16 : decode cX9_moving 16 = .ok (.invokevirtual 379, 3) := by decide +kernel
theorem dX9_moving_19 : decode cX9_moving 19 = .ok (.aload_n 0, 1) := by decide +kernel
theorem dX9_moving_20 : decode cX9_moving 20 = .ok (.iload_n 1, 1) := by decide +kernel
theorem dX9_moving_21 : decode cX9_moving 21 = .ok (.iload_n 2, 1) := by decide +kernel
theorem dX9_moving_22 : decode cX9_moving 22 = .ok (.iconst 1, 1) := by decide +kernel
theorem dX9_moving_23 : decode cX9_moving 23 = .ok (.iadd, 1) := by decide +kernel
theorem dX9_moving_24 : decode cX9_moving 24 = .ok (.invokevirtual 397, 3) := by decide +kernel
theorem dX9_moving_27 : decode cX9_moving 27 = .ok (.ireturn, 1) := by decide +kernel
theorem dX9_moving_28 : decode cX9_moving 28 = .ok (.aload_n 0, 1) := by decide +kernel
theorem dX9_moving_29 : decode cX9_moving 29 = .ok (.getfield 94, 3) := by decide +kernel
theorem dX9_moving_32 : decode cX9_moving 32 = .ok (.iload_n 1, 1) := by decide +kernel
theorem dX9_moving_33 : decode cX9_moving 33 = .ok (.iaload, 1) := by decide +kernel
theorem dX9_moving_34 : decode cX9_moving 34 = .ok (.bipush 7, 2) := by decide +kernel
theorem dX9_moving_36 : decode cX9_moving 36 = .ok (.if_icmp .ne 25, 3) := by decide +kernel
theorem dX9_moving_39 : decode cX9_moving 39 = .ok (.aload_n 0, 1) := by decide +kernel
theorem dX9_moving_40 : decode cX9_moving 40 = .ok (.bipush 80, 2) := by decide +kernel
theorem dX9_moving_42 : decode cX9_moving 42 = .ok (.invokevirtual 379, 3) := by decide +kernel
theorem dX9_moving_45 : decode cX9_moving 45 = .ok (.aload_n 0, 1) := by decide +kernel
theorem dX9_moving_46 : decode cX9_moving 46 = .ok (.iload_n 1, 1) := by decide +kernel
theorem dX9_moving_47 : decode cX9_moving 47 = .ok (.iload_n 2, 1) := by decide +kernel
theorem dX9_moving_48 : decode cX9_moving 48 = .ok (.invokevirtual 394, 3) := by decide +kernel
theorem dX9_moving_51 : decode cX9_moving 51 = .ok (.istore_n 3, 1) := by decide +kernel
theorem dX9_moving_52 : decode cX9_moving 52 = .ok (.iload_n 3, 1) := by decide +kernel
theorem dX9_moving_53 : decode cX9_moving 53 = .ok (.aload_n 0, 1) := by decide +kernel
theorem dX9_moving_54 : decode cX9_moving 54 = .ok (.iload_n 1, 1) := by decide +kernel
theorem dX9_moving_55 : decode cX9_moving 55 = .ok (.iconst 2, 1) := by decide +kernel
theorem dX9_moving_56 : decode cX9_moving 56 = .ok (.invokevirtual 400, 3) := by decide +kernel
theorem dX9_moving_59 : decode cX9_moving 59 = .ok (.iadd, 1) := by decide +kernel
theorem dX9_moving_60 : decode cX9_moving 60 = .ok (.ireturn, 1) := by decide +kernel
theorem dX9_moving_61 : decode cX9_moving 61 = .ok (.aload_n 0, 1) := by decide +kernel
theorem dX9_moving_62 : decode cX9_moving 62 = .ok (.getfield 94, 3) := by decide +kernel
theorem dX9_moving_65 : decode cX9_moving 65 = .ok (.iload_n 1, 1) := by decide +kernel
theorem dX9_moving_66 : decode cX9_moving 66 = .ok (.iaload, 1) := by decide +kernel
theorem dX9_moving_67 : decode cX9_moving 67 = .ok (.iconst 2, 1) := by decide +kernel
theorem dX9_moving_68 : decode cX9_moving 68 = .ok (.if_icmp .ne 12, 3) := by decide +kernel
theorem dX9_moving_71 : decode cX9_moving 71 = .ok (.aload_n 0, 1) := by decide +kernel
theorem dX9_moving_72 : decode cX9_moving 72 = .ok (.iload_n 1, 1) := by decide +kernel
theorem dX9_moving_73 : decode cX9_moving 73 = .ok (.iload_n 2, 1) := by decide +kernel
theorem dX9_moving_74 : decode cX9_moving 74 = .ok (.invokevirtual 397, 3) := by decide +kernel
theorem dX9_moving_77 : decode cX9_moving 77 = .ok (.goto 9, 3) := by decide +kernel
theorem dX9_moving_80 : decode cX9_moving 80 = .ok (.aload_n 0, 1) := by decide +kernel
theorem dX9_moving_81 : decode cX9_moving 81 = .ok (.iload_n 1, 1) := by decide +kernel
theorem dX9_moving_82 : decode cX9_moving 82 = .ok (.iload_n 2, 1) := by decide +kernel
theorem dX9_moving_83 : decode cX9_moving 83 = .ok (.invokevirtual 394, 3) := by decide +kernel
theorem dX9_moving_86 : decode cX9_moving 86 = .ok (.ireturn, 1) := by decide +kernel
theorem dX9_plainLooks_0 : decode cX9_plainLooks 0 = .ok (.aload_n 0, 1) := by decide +kernel
theorem dX9_plainLooks_1 : decode cX9_plainLooks 1 = .ok (.bipush 11, 2) := by decide +kernel
theorem dX9_plainLooks_3 : decode cX9_plainLooks 3 = .ok (.invokevirtual 379, 3) := by decide +kernel
theorem dX9_plainLooks_6 : decode cX9_plainLooks 6 = .ok (.iload_n 2, 1) := by decide +kernel
theorem dX9_plainLooks_7 : decode cX9_plainLooks 7 = .ok (.iload_n 1, 1) := by decide +kernel
theorem dX9_plainLooks_8 : decode cX9_plainLooks 8 = .ok (.ixor, 1) := by decide +kernel
theorem dX9_plainLooks_9 : decode cX9_plainLooks 9 = .ok (.ireturn, 1) := by decide +kernel
theorem dX9_cleanLooks_0 : decode cX9_cleanLooks 0 = .ok (.aload_n 0, 1) := by decide +kernel
theorem dX9_cleanLooks_1 : decode cX9_cleanLooks 1 = .ok (.bipush 40, 2) := by decide +kernel
theorem dX9_cleanLooks_3 : decode cX9_cleanLooks 3 = .ok (.invokevirtual 379, 3) := by decide +kernel
theorem dX9_cleanLooks_6 : decode cX9_cleanLooks 6 = .ok (.aload_n 0, 1) := by decide +kernel
theorem dX9_cleanLooks_7 : decode cX9_cleanLooks 7 = .ok (.iload_n 1, 1) := by decide +kernel
theorem dX9_cleanLooks_8 : decode cX9_cleanLooks 8 = .ok (.iload_n 2, 1) := by decide +kernel
theorem dX9_cleanLooks_9 : decode cX9_cleanLooks 9 = .ok (.invokevirtual 403, 3) := by decide +kernel
theorem dX9_cleanLooks_12 : decode cX9_cleanLooks 12 = .ok (.iconst 3, 1) := by decide +kernel
theorem dX9_cleanLooks_13 : decode cX9_cleanLooks 13 = .ok (.imul, 1) := by decide +kernel
theorem dX9_cleanLooks_14 : decode cX9_cleanLooks 14 = .ok (.ireturn, 1) := by decide +kernel
theorem dX9_looking_0 : decode cX9_looking 0 = .ok (.aload_n 0, 1) := by decide +kernel
theorem dX9_looking_1 : decode cX9_looking 1 = .ok (.getfield 94, 3) := by decide +kernel
theorem dX9_looking_4 : decode cX9_looking 4 = .ok (.iload_n 1, 1) := by decide +kernel
theorem dX9_looking_5 : decode cX9_looking 5 = .ok (.iaload, 1) := by decide +kernel
theorem dX9_looking_6 : decode cX9_looking 6 = .ok (.iconst 5, 1) := by decide +kernel
theorem dX9_looking_7 : decode cX9_looking 7 = .ok (.if_icmp .ne 25, 3) := by decide +kernel
theorem dX9_looking_10 : decode cX9_looking 10 = .ok (.aload_n 0, 1) := by decide +kernel
theorem dX9_looking_11 : decode cX9_looking 11 = .ok (.bipush 60, 2) := by decide +kernel
theorem dX9_looking_13 : decode cX9_looking 13 = .ok (.invokevirtual 379, 3) := by decide +kernel
theorem dX9_looking_16 : decode cX9_looking 16 = .ok (.aload_n 0, 1) := by decide +kernel
theorem dX9_looking_17 : decode cX9_looking 17 = .ok (.iload_n 1, 1) := by decide +kernel
theorem dX9_looking_18 : decode cX9_looking 18 = .ok (.iload_n 2, 1) := by decide +kernel
theorem dX9_looking_19 : decode cX9_looking 19 = .ok (.invokevirtual 406, 3) := by decide +kernel
theorem dX9_looking_22 : decode cX9_looking 22 = .ok (.istore_n 3, 1) := by decide +kernel
theorem dX9_looking_23 : decode cX9_looking 23 = .ok (.iload_n 3, 1) := by decide +kernel
theorem dX9_looking_24 : decode cX9_looking 24 = .ok (.aload_n 0, 1) := by decide +kernel
theorem dX9_looking_25 : decode cX9_looking 25 = .ok (.iload_n 1, 1) := by decide +kernel
theorem dX9_looking_26 : decode cX9_looking 26 = .ok (.iconst 2, 1) := by decide +kernel
theorem dX9_looking_27 : decode cX9_looking 27 = .ok (.invokevirtual 391, 3) := by decide +kernel
theorem dX9_looking_30 : decode cX9_looking 30 = .ok (.isub, 1) := by decide +kernel
theorem dX9_looking_31 : decode cX9_looking 31 = .ok (.ireturn, 1) := by decide +kernel
theorem dX9_looking_32 : decode cX9_looking 32 = .ok (.aload_n 0, 1) := by decide +kernel
theorem dX9_looking_33 : decode cX9_looking 33 = .ok (.getfield 94, 3) := by decide +kernel
theorem dX9_looking_36 : decode cX9_looking 36 = .ok (.iload_n 1, 1) := by decide +kernel
theorem dX9_looking_37 : decode cX9_looking 37 = .ok (.iaload, 1) := by decide +kernel
theorem dX9_looking_38 : decode cX9_looking 38 = .ok (.iconst 3, 1) := by decide +kernel
theorem dX9_looking_39 : decode cX9_looking 39 = .ok (.if_icmp .ne 12, 3) := by decide +kernel
theorem dX9_looking_42 : decode cX9_looking 42 = .ok (.aload_n 0, 1) := by decide +kernel
theorem dX9_looking_43 : decode cX9_looking 43 = .ok (.iload_n 1, 1) := by decide +kernel
theorem dX9_looking_44 : decode cX9_looking 44 = .ok (.iload_n 2, 1) := by decide +kernel
theorem dX9_looking_45 : decode cX9_looking 45 = .ok (.invokevirtual 406, 3) := by decide +kernel
theorem dX9_looking_48 : decode cX9_looking 48 = .ok (.goto 9, 3) := by decide +kernel
theorem dX9_looking_51 : decode cX9_looking 51 = .ok (.aload_n 0, 1) := by decide +kernel
theorem dX9_looking_52 : decode cX9_looking 52 = .ok (.iload_n 1, 1) := by decide +kernel
theorem dX9_looking_53 : decode cX9_looking 53 = .ok (.iload_n 2, 1) := by decide +kernel
theorem dX9_looking_54 : decode cX9_looking 54 = .ok (.invokevirtual 403, 3) := by decide +kernel
theorem dX9_looking_57 : decode cX9_looking 57 = .ok (.ireturn, 1) := by decide +kernel
theorem dX9_plainTells_0 : decode cX9_plainTells 0 = .ok (.aload_n 0, 1) := by decide +kernel
theorem dX9_plainTells_1 : decode cX9_plainTells 1 = .ok (.iconst 2, 1) := by decide +kernel
theorem dX9_plainTells_2 : decode cX9_plainTells 2 = .ok (.invokevirtual 379, 3) := by decide +kernel
theorem dX9_plainTells_5 : decode cX9_plainTells 5 = .ok (.aload_n 0, 1) := by decide +kernel
theorem dX9_plainTells_6 : decode cX9_plainTells 6 = .ok (.iload_n 1, 1) := by decide +kernel
theorem dX9_plainTells_7 : decode cX9_plainTells 7 = .ok (.iload_n 2, 1) := by decide +kernel
theorem dX9_plainTells_8 : decode cX9_plainTells 8 = .ok (.invokevirtual 409, 3) := by decide +kernel
theorem dX9_plainTells_11 : decode cX9_plainTells 11 = .ok (.istore_n 3, 1) := by decide +kernel
theorem dX9_plainTells_12 : decode cX9_plainTells 12 = .ok (.iload_n 3, 1) := by decide +kernel
theorem dX9_plainTells_13 : decode cX9_plainTells 13 = .ok (.aload_n 0, 1) := by decide +kernel
theorem dX9_plainTells_14 : decode cX9_plainTells 14 = .ok (.iload_n 1, 1) := by decide +kernel
theorem dX9_plainTells_15 : decode cX9_plainTells 15 = .ok (.iconst 1, 1) := by decide +kernel
theorem dX9_plainTells_16 : decode cX9_plainTells 16 = .ok (.invokevirtual 400, 3) := by decide +kernel
theorem dX9_plainTells_19 : decode cX9_plainTells 19 = .ok (.isub, 1) := by decide +kernel
theorem dX9_plainTells_20 : decode cX9_plainTells 20 = .ok (.ireturn, 1) := by decide +kernel
theorem dX9_telling_0 : decode cX9_telling 0 = .ok (.aload_n 0, 1) := by decide +kernel
theorem dX9_telling_1 : decode cX9_telling 1 = .ok (.getfield 94, 3) := by decide +kernel
theorem dX9_telling_4 : decode cX9_telling 4 = .ok (.iload_n 1, 1) := by decide +kernel
theorem dX9_telling_5 : decode cX9_telling 5 = .ok (.iaload, 1) := by decide +kernel
theorem dX9_telling_6 : decode cX9_telling 6 = .ok (.iconst 4, 1) := by decide +kernel
theorem dX9_telling_7 : decode cX9_telling 7 = .ok (.if_icmp .ne 18, 3) := by decide +kernel
theorem dX9_telling_10 : decode cX9_telling 10 = .ok (.aload_n 0, 1) := by decide +kernel
theorem dX9_telling_11 : decode cX9_telling 11 = .ok (.bipush 50, 2) := by decide +kernel
theorem dX9_telling_13 : decode cX9_telling 13 = .ok (.invokevirtual 379, 3) := by decide +kernel
theorem dX9_telling_16 : decode cX9_telling 16 = .ok (.aload_n 0, 1) := by decide +kernel
theorem dX9_telling_17 : decode cX9_telling 17 = .ok (.iload_n 1, 1) := by decide +kernel
theorem dX9_telling_18 : decode cX9_telling 18 = .ok (.iload_n 2, 1) := by decide +kernel
theorem dX9_telling_19 : decode cX9_telling 19 = .ok (.invokevirtual 412, 3) := by decide +kernel
theorem dX9_telling_22 : decode cX9_telling 22 = .ok (.iconst 5, 1) := by decide +kernel
theorem dX9_telling_23 : decode cX9_telling 23 = .ok (.ixor, 1) := by decide +kernel
theorem dX9_telling_24 : decode cX9_telling 24 = .ok (.ireturn, 1) := by decide +kernel
theorem dX9_telling_25 : decode cX9_telling 25 = .ok (.aload_n 0, 1) := by decide +kernel
theorem dX9_telling_26 : decode cX9_telling 26 = .ok (.getfield 94, 3) := by decide +kernel
theorem dX9_telling_29 : decode cX9_telling 29 = .ok (.iload_n 1, 1) := by decide +kernel
theorem dX9_telling_30 : decode cX9_telling 30 = .ok (.iaload, 1) := by decide +kernel
theorem dX9_telling_31 : decode cX9_telling 31 = .ok (.iconst 5, 1) := by decide +kernel
theorem dX9_telling_32 : decode cX9_telling 32 = .ok (.if_icmp .ne 18, 3) := by decide +kernel
theorem dX9_telling_35 : decode cX9_telling 35 = .ok (.aload_n 0, 1) := by decide +kernel
theorem dX9_telling_36 : decode cX9_telling 36 = .ok (.bipush 61, 2) := by decide +kernel
theorem dX9_telling_38 : decode cX9_telling 38 = .ok (.invokevirtual 379, 3) := by decide +kernel
theorem dX9_telling_41 : decode cX9_telling 41 = .ok (.aload_n 0, 1) := by decide +kernel
theorem dX9_telling_42 : decode cX9_telling 42 = .ok (.iload_n 1, 1) := by decide +kernel
theorem dX9_telling_43 : decode cX9_telling 43 = .ok (.iload_n 2, 1) := by decide +kernel
theorem dX9_telling_44 : decode cX9_telling 44 = .ok (.invokevirtual 412, 3) := by decide +kernel
theorem dX9_telling_47 : decode cX9_telling 47 = .ok (.iconst 1, 1) := by decide +kernel
theorem dX9_telling_48 : decode cX9_telling 48 = .ok (.iadd, 1) := by decide +kernel
theorem dX9_telling_49 : decode cX9_telling 49 = .ok (.ireturn, 1) := by decide +kernel
theorem dX9_telling_50 : decode cX9_telling 50 = .ok (.aload_n 0, 1) := by decide +kernel
theorem dX9_telling_51 : decode cX9_telling 51 = .ok (.iload_n 1, 1) := by decide +kernel
theorem dX9_telling_52 : decode cX9_telling 52 = .ok (.iload_n 2, 1) := by decide +kernel
theorem dX9_telling_53 : decode cX9_telling 53 = .ok (.invokevirtual 412, 3) := by decide +kernel
theorem dX9_telling_56 : decode cX9_telling 56 = .ok (.ireturn, 1) := by decide +kernel
theorem dX9_act_0 : decode cX9_act 0 = .ok (.aload_n 0, 1) := by decide +kernel
theorem dX9_act_1 : decode cX9_act 1 = .ok (.iconst 0, 1) := by decide +kernel
theorem dX9_act_2 : decode cX9_act 2 = .ok (.putfield 376, 3) := by decide +kernel
theorem dX9_act_5 : decode cX9_act 5 = .ok (.aload_n 0, 1) := by decide +kernel
theorem dX9_act_6 : decode cX9_act 6 = .ok (.iload_n 1, 1) := by decide +kernel
theorem dX9_act_7 : decode cX9_act 7 = .ok (.invokevirtual 415, 3) := by decide +kernel
theorem dX9_act_10 : decode cX9_act 10 = .ok (.ifCond .eq 12, 3) := by decide +kernel
theorem dX9_act_13 : decode cX9_act 13 = .ok (.iload_n 2, 1) := by decide +kernel
theorem dX9_act_14 : decode cX9_act 14 = .ok (.iconst 0, 1) := by decide +kernel
theorem dX9_act_15 : decode cX9_act 15 = .ok (.iconst 3, 1) := by decide +kernel
theorem dX9_act_16 : decode cX9_act 16 = .ok (.invokestatic 116, 3) := by decide +kernel
theorem dX9_act_19 : decode cX9_act 19 = .ok (.ifCond .ne 5, 3) := by decide +kernel
theorem dX9_act_22 : decode cX9_act 22 = .ok (.iconst 0, 1) := by decide +kernel
theorem dX9_act_23 : decode cX9_act 23 = .ok (.ireturn, 1) := by decide +kernel
theorem dX9_act_24 : decode cX9_act 24 = .ok (.iload_n 2, 1) := by decide +kernel
theorem dX9_act_25 : decode cX9_act 25 = .ok (.ifCond .ne 12, 3) := by decide +kernel
theorem dX9_act_28 : decode cX9_act 28 = .ok (.aload_n 0, 1) := by decide +kernel
theorem dX9_act_29 : decode cX9_act 29 = .ok (.iload_n 1, 1) := by decide +kernel
theorem dX9_act_30 : decode cX9_act 30 = .ok (.iload_n 3, 1) := by decide +kernel
theorem dX9_act_31 : decode cX9_act 31 = .ok (.invokevirtual 391, 3) := by decide +kernel
theorem dX9_act_34 : decode cX9_act 34 = .ok (.goto 37, 3) := by decide +kernel
theorem dX9_act_37 : decode cX9_act 37 = .ok (.iload_n 2, 1) := by decide +kernel
theorem dX9_act_38 : decode cX9_act 38 = .ok (.iconst 1, 1) := by decide +kernel
theorem dX9_act_39 : decode cX9_act 39 = .ok (.if_icmp .ne 12, 3) := by decide +kernel
theorem dX9_act_42 : decode cX9_act 42 = .ok (.aload_n 0, 1) := by decide +kernel
theorem dX9_act_43 : decode cX9_act 43 = .ok (.iload_n 1, 1) := by decide +kernel
theorem dX9_act_44 : decode cX9_act 44 = .ok (.iload_n 3, 1) := by decide +kernel
theorem dX9_act_45 : decode cX9_act 45 = .ok (.invokevirtual 409, 3) := by decide +kernel
theorem dX9_act_48 : decode cX9_act 48 = .ok (.goto 23, 3) := by decide +kernel
theorem dX9_act_51 : decode cX9_act 51 = .ok (.iload_n 2, 1) := by decide +kernel
theorem dX9_act_52 : decode cX9_act 52 = .ok (.iconst 2, 1) := by decide +kernel
theorem dX9_act_53 : decode cX9_act 53 = .ok (.if_icmp .ne 12, 3) := by decide +kernel
theorem dX9_act_56 : decode cX9_act 56 = .ok (.aload_n 0, 1) := by decide +kernel
theorem dX9_act_57 : decode cX9_act 57 = .ok (.iload_n 1, 1) := by decide +kernel
theorem dX9_act_58 : decode cX9_act 58 = .ok (.iload_n 3, 1) := by decide +kernel
theorem dX9_act_59 : decode cX9_act 59 = .ok (.invokevirtual 400, 3) := by decide +kernel
theorem dX9_act_62 : decode cX9_act 62 = .ok (.goto 9, 3) := by decide +kernel
theorem dX9_act_65 : decode cX9_act 65 = .ok (.aload_n 0, 1) := by decide +kernel
theorem dX9_act_66 : decode cX9_act 66 = .ok (.iload_n 1, 1) := by decide +kernel
theorem dX9_act_67 : decode cX9_act 67 = .ok (.iload_n 3, 1) := by decide +kernel
theorem dX9_act_68 : decode cX9_act 68 = .ok (.invokevirtual 418, 3) := by decide +kernel
theorem dX9_act_71 : decode cX9_act 71 = .ok (.ireturn, 1) := by decide +kernel
theorem dX9_count_0 : decode cX9_count 0 = .ok (.iload_n 1, 1) := by decide +kernel
theorem dX9_count_1 : decode cX9_count 1 = .ok (.tableswitch 69 0 5 #[39, 44, 49, 54, 59, 64], 39) := by decide +kernel
theorem dX9_count_40 : decode cX9_count 40 = .ok (.aload_n 0, 1) := by decide +kernel
theorem dX9_count_41 : decode cX9_count 41 = .ok (.invokevirtual 421, 3) := by decide +kernel
theorem dX9_count_44 : decode cX9_count 44 = .ok (.ireturn, 1) := by decide +kernel
theorem dX9_count_45 : decode cX9_count 45 = .ok (.aload_n 0, 1) := by decide +kernel
theorem dX9_count_46 : decode cX9_count 46 = .ok (.invokevirtual 424, 3) := by decide +kernel
theorem dX9_count_49 : decode cX9_count 49 = .ok (.ireturn, 1) := by decide +kernel
theorem dX9_count_50 : decode cX9_count 50 = .ok (.aload_n 0, 1) := by decide +kernel
theorem dX9_count_51 : decode cX9_count 51 = .ok (.getfield 182, 3) := by decide +kernel
theorem dX9_count_54 : decode cX9_count 54 = .ok (.ireturn, 1) := by decide +kernel
theorem dX9_count_55 : decode cX9_count 55 = .ok (.aload_n 0, 1) := by decide +kernel
theorem dX9_count_56 : decode cX9_count 56 = .ok (.getfield 134, 3) := by decide +kernel
theorem dX9_count_59 : decode cX9_count 59 = .ok (.ireturn, 1) := by decide +kernel
theorem dX9_count_60 : decode cX9_count 60 = .ok (.aload_n 0, 1) := by decide +kernel
theorem dX9_count_61 : decode cX9_count 61 = .ok (.getfield 373, 3) := by decide +kernel
theorem dX9_count_64 : decode cX9_count 64 = .ok (.ireturn, 1) := by decide +kernel
theorem dX9_count_65 : decode cX9_count 65 = .ok (.aload_n 0, 1) := by decide +kernel
theorem dX9_count_66 : decode cX9_count 66 = .ok (.getfield 376, 3) := by decide +kernel
theorem dX9_count_69 : decode cX9_count 69 = .ok (.ireturn, 1) := by decide +kernel
theorem dX9_count_70 : decode cX9_count 70 = .ok (.iconst (-1), 1) := by decide +kernel
theorem dX9_count_71 : decode cX9_count 71 = .ok (.ireturn, 1) := by decide +kernel
theorem dX9_isShelf_0 : decode cX9_isShelf 0 = .ok (.iload_n 0, 1) := by decide +kernel
theorem dX9_isShelf_1 : decode cX9_isShelf 1 = .ok (.iconst 0, 1) := by decide +kernel
theorem dX9_isShelf_2 : decode cX9_isShelf 2 = .ok (.iconst 5, 1) := by decide +kernel
theorem dX9_isShelf_3 : decode cX9_isShelf 3 = .ok (.invokestatic 116, 3) := by decide +kernel
theorem dX9_isShelf_6 : decode cX9_isShelf 6 = .ok (.ireturn, 1) := by decide +kernel
theorem dX9_keep_0 : decode cX9_keep 0 = .ok (.iload_n 1, 1) := by decide +kernel
theorem dX9_keep_1 : decode cX9_keep 1 = .ok (.invokestatic 179, 3) := by decide +kernel
theorem dX9_keep_4 : decode cX9_keep 4 = .ok (.ifCond .eq 16, 3) := by decide +kernel
theorem dX9_keep_7 : decode cX9_keep 7 = .ok (.iload_n 2, 1) := by decide +kernel
theorem dX9_keep_8 : decode cX9_keep 8 = .ok (.iconst (-1), 1) := by decide +kernel
theorem dX9_keep_9 : decode cX9_keep 9 = .ok (.if_icmp .eq 13, 3) := by decide +kernel
theorem dX9_keep_12 : decode cX9_keep 12 = .ok (.aload_n 0, 1) := by decide +kernel
theorem dX9_keep_13 : decode cX9_keep 13 = .ok (.iload_n 2, 1) := by decide +kernel
theorem dX9_keep_14 : decode cX9_keep 14 = .ok (.invokevirtual 415, 3) := by decide +kernel
theorem dX9_keep_17 : decode cX9_keep 17 = .ok (.ifCond .ne 5, 3) := by decide +kernel
theorem dX9_keep_20 : decode cX9_keep 20 = .ok (.iconst (-1), 1) := by decide +kernel
theorem dX9_keep_21 : decode cX9_keep 21 = .ok (.ireturn, 1) := by decide +kernel
theorem dX9_keep_22 : decode cX9_keep 22 = .ok (.aload_n 0, 1) := by decide +kernel
theorem dX9_keep_23 : decode cX9_keep 23 = .ok (.getfield 100, 3) := by decide +kernel
theorem dX9_keep_26 : decode cX9_keep 26 = .ok (.iload_n 1, 1) := by decide +kernel
theorem dX9_keep_27 : decode cX9_keep 27 = .ok (.iload_n 2, 1) := by decide +kernel
theorem dX9_keep_28 : decode cX9_keep 28 = .ok (.iastore, 1) := by decide +kernel
theorem dX9_keep_29 : decode cX9_keep 29 = .ok (.iconst 1, 1) := by decide +kernel
theorem dX9_keep_30 : decode cX9_keep 30 = .ok (.ireturn, 1) := by decide +kernel
theorem dX9_row_0 : decode cX9_row 0 = .ok (.iload_n 1, 1) := by decide +kernel
theorem dX9_row_1 : decode cX9_row 1 = .ok (.invokestatic 179, 3) := by decide +kernel
theorem dX9_row_4 : decode cX9_row 4 = .ok (.ifCond .eq 18, 3) := by decide +kernel
theorem dX9_row_7 : decode cX9_row 7 = .ok (.iload_n 2, 1) := by decide +kernel
theorem dX9_row_8 : decode cX9_row 8 = .ok (.iconst 0, 1) := by decide +kernel
theorem dX9_row_9 : decode cX9_row 9 = .ok (.iconst 4, 1) := by decide +kernel
theorem dX9_row_10 : decode cX9_row 10 = .ok (.invokestatic 116, 3) := by decide +kernel
theorem dX9_row_13 : decode cX9_row 13 = .ok (.ifCond .eq 9, 3) := by decide +kernel
theorem dX9_row_16 : decode cX9_row 16 = .ok (.iload_n 3, 1) := by decide +kernel
theorem dX9_row_17 : decode cX9_row 17 = .ok (.bipush 60, 2) := by decide +kernel
theorem dX9_row_19 : decode cX9_row 19 = .ok (.if_icmp .le 5, 3) := by decide +kernel
theorem dX9_row_22 : decode cX9_row 22 = .ok (.iconst (-1), 1) := by decide +kernel
theorem dX9_row_23 : decode cX9_row 23 = .ok (.ireturn, 1) := by decide +kernel
theorem dX9_row_24 : decode cX9_row 24 = .ok (.iload_n 3, 1) := by decide +kernel
theorem dX9_row_25 : decode cX9_row 25 = .ok (.ifCond .ge 6, 3) := by decide +kernel
theorem dX9_row_28 : decode cX9_row 28 = .ok (.bipush (-14), 2) := by decide +kernel
theorem dX9_row_30 : decode cX9_row 30 = .ok (.ireturn, 1) := by decide +kernel
theorem dX9_row_31 : decode cX9_row 31 = .ok (.aload_n 0, 1) := by decide +kernel
theorem dX9_row_32 : decode cX9_row 32 = .ok (.getfield 100, 3) := by decide +kernel
theorem dX9_row_35 : decode cX9_row 35 = .ok (.iload_n 1, 1) := by decide +kernel
theorem dX9_row_36 : decode cX9_row 36 = .ok (.bipush (-2), 2) := by decide +kernel
theorem dX9_row_38 : decode cX9_row 38 = .ok (.iload_n 2, 1) := by decide +kernel
theorem dX9_row_39 : decode cX9_row 39 = .ok (.isub, 1) := by decide +kernel
theorem dX9_row_40 : decode cX9_row 40 = .ok (.iastore, 1) := by decide +kernel
theorem dX9_row_41 : decode cX9_row 41 = .ok (.aload_n 0, 1) := by decide +kernel
theorem dX9_row_42 : decode cX9_row 42 = .ok (.getfield 103, 3) := by decide +kernel
theorem dX9_row_45 : decode cX9_row 45 = .ok (.iload_n 1, 1) := by decide +kernel
theorem dX9_row_46 : decode cX9_row 46 = .ok (.iload_n 3, 1) := by decide +kernel
theorem dX9_row_47 : decode cX9_row 47 = .ok (.iastore, 1) := by decide +kernel
theorem dX9_row_48 : decode cX9_row 48 = .ok (.bipush 60, 2) := by decide +kernel
theorem dX9_row_50 : decode cX9_row 50 = .ok (.iload_n 1, 1) := by decide +kernel
theorem dX9_row_51 : decode cX9_row 51 = .ok (.imul, 1) := by decide +kernel
theorem dX9_row_52 : decode cX9_row 52 = .ok (.istore 4, 2) := by decide +kernel
theorem dX9_row_54 : decode cX9_row 54 = .ok (.iload 4, 2) := by decide +kernel
theorem dX9_row_56 : decode cX9_row 56 = .ok (.bipush 60, 2) := by decide +kernel
theorem dX9_row_58 : decode cX9_row 58 = .ok (.iload_n 1, 1) := by decide +kernel
theorem dX9_row_59 : decode cX9_row 59 = .ok (.imul, 1) := by decide +kernel
theorem dX9_row_60 : decode cX9_row 60 = .ok (.bipush 60, 2) := by decide +kernel
theorem dX9_row_62 : decode cX9_row 62 = .ok (.iadd, 1) := by decide +kernel
theorem dX9_row_63 : decode cX9_row 63 = .ok (.if_icmp .ge 17, 3) := by decide +kernel
theorem dX9_row_66 : decode cX9_row 66 = .ok (.aload_n 0, 1) := by decide +kernel
theorem dX9_row_67 : decode cX9_row 67 = .ok (.getfield 106, 3) := by decide +kernel
theorem dX9_row_70 : decode cX9_row 70 = .ok (.iload 4, 2) := by decide +kernel
theorem dX9_row_72 : decode cX9_row 72 = .ok (.lconst 0, 1) := by decide +kernel
theorem dX9_row_73 : decode cX9_row 73 = .ok (.lastore, 1) := by decide +kernel
theorem dX9_row_74 : decode cX9_row 74 = .ok (.iinc 4 1, 3) := by decide +kernel
theorem dX9_row_77 : decode cX9_row 77 = .ok (.goto (-23), 3) := by decide +kernel
theorem dX9_row_80 : decode cX9_row 80 = .ok (.iconst 1, 1) := by decide +kernel
theorem dX9_row_81 : decode cX9_row 81 = .ok (.ireturn, 1) := by decide +kernel
theorem dX9_whyNoPlace_0 : decode cX9_whyNoPlace 0 = .ok (.iload_n 1, 1) := by decide +kernel
theorem dX9_whyNoPlace_1 : decode cX9_whyNoPlace 1 = .ok (.invokestatic 179, 3) := by decide +kernel
theorem dX9_whyNoPlace_4 : decode cX9_whyNoPlace 4 = .ok (.ifCond .ne 5, 3) := by decide +kernel
theorem dX9_whyNoPlace_7 : decode cX9_whyNoPlace 7 = .ok (.iconst (-1), 1) := by decide +kernel
theorem dX9_whyNoPlace_8 : decode cX9_whyNoPlace 8 = .ok (.ireturn, 1) := by decide +kernel
theorem dX9_whyNoPlace_9 : decode cX9_whyNoPlace 9 = .ok (.aload_n 0, 1) := by decide +kernel
theorem dX9_whyNoPlace_10 : decode cX9_whyNoPlace 10 = .ok (.getfield 100, 3) := by decide +kernel
theorem dX9_whyNoPlace_13 : decode cX9_whyNoPlace 13 = .ok (.iload_n 1, 1) := by decide +kernel
theorem dX9_whyNoPlace_14 : decode cX9_whyNoPlace 14 = .ok (.iaload, 1) := by decide +kernel
theorem dX9_whyNoPlace_15 : decode cX9_whyNoPlace 15 = .ok (.iconst (-1), 1) := by decide +kernel
theorem dX9_whyNoPlace_16 : decode cX9_whyNoPlace 16 = .ok (.if_icmp .ne 6, 3) := by decide +kernel
theorem dX9_whyNoPlace_19 : decode cX9_whyNoPlace 19 = .ok (.bipush (-11), 2) := by decide +kernel
theorem dX9_whyNoPlace_21 : decode cX9_whyNoPlace 21 = .ok (.ireturn, 1) := by decide +kernel
theorem dX9_whyNoPlace_22 : decode cX9_whyNoPlace 22 = .ok (.aload_n 0, 1) := by decide +kernel
theorem dX9_whyNoPlace_23 : decode cX9_whyNoPlace 23 = .ok (.getfield 100, 3) := by decide +kernel
theorem dX9_whyNoPlace_26 : decode cX9_whyNoPlace 26 = .ok (.iload_n 1, 1) := by decide +kernel
theorem dX9_whyNoPlace_27 : decode cX9_whyNoPlace 27 = .ok (.iaload, 1) := by decide +kernel
theorem dX9_whyNoPlace_28 : decode cX9_whyNoPlace 28 = .ok (.ifCond .lt 6, 3) := by decide +kernel
theorem dX9_whyNoPlace_31 : decode cX9_whyNoPlace 31 = .ok (.bipush (-12), 2) := by decide +kernel
theorem dX9_whyNoPlace_33 : decode cX9_whyNoPlace 33 = .ok (.ireturn, 1) := by decide +kernel
theorem dX9_whyNoPlace_34 : decode cX9_whyNoPlace 34 = .ok (.iload_n 2, 1) := by decide +kernel
theorem dX9_whyNoPlace_35 : decode cX9_whyNoPlace 35 = .ok (.iconst 0, 1) := by decide +kernel
theorem dX9_whyNoPlace_36 : decode cX9_whyNoPlace 36 = .ok (.aload_n 0, 1) := by decide +kernel
theorem dX9_whyNoPlace_37 : decode cX9_whyNoPlace 37 = .ok (.getfield 103, 3) := by decide +kernel
theorem dX9_whyNoPlace_40 : decode cX9_whyNoPlace 40 = .ok (.iload_n 1, 1) := by decide +kernel
theorem dX9_whyNoPlace_41 : decode cX9_whyNoPlace 41 = .ok (.iaload, 1) := by decide +kernel
theorem dX9_whyNoPlace_42 : decode cX9_whyNoPlace 42 = .ok (.iconst 1, 1) := by decide +kernel
theorem dX9_whyNoPlace_43 : decode cX9_whyNoPlace 43 = .ok (.isub, 1) := by decide +kernel
theorem dX9_whyNoPlace_44 : decode cX9_whyNoPlace 44 = .ok (.invokestatic 116, 3) := by decide +kernel
theorem dX9_whyNoPlace_47 : decode cX9_whyNoPlace 47 = .ok (.ifCond .eq 7, 3) := by decide +kernel
theorem dX9_whyNoPlace_50 : decode cX9_whyNoPlace 50 = .ok (.iconst 0, 1) := by decide +kernel
theorem dX9_whyNoPlace_51 : decode cX9_whyNoPlace 51 = .ok (.goto 5, 3) := by decide +kernel
theorem dX9_whyNoPlace_54 : decode cX9_whyNoPlace 54 = .ok (.bipush (-13), 2) := by decide +kernel
theorem dX9_whyNoPlace_56 : decode cX9_whyNoPlace 56 = .ok (.ireturn, 1) := by decide +kernel
theorem dX9_put_0 : decode cX9_put 0 = .ok (.aload_n 0, 1) := by decide +kernel
theorem dX9_put_1 : decode cX9_put 1 = .ok (.iload_n 1, 1) := by decide +kernel
theorem dX9_put_2 : decode cX9_put 2 = .ok (.iload_n 2, 1) := by decide +kernel
theorem dX9_put_3 : decode cX9_put 3 = .ok (.invokevirtual 427, 3) := by decide +kernel
theorem dX9_put_6 : decode cX9_put 6 = .ok (.istore 5, 2) := by decide +kernel
theorem dX9_put_8 : decode cX9_put 8 = .ok (.iload 5, 2) := by decide +kernel
theorem dX9_put_10 : decode cX9_put 10 = .ok (.ifCond .ge 6, 3) := by decide +kernel
theorem dX9_put_13 : decode cX9_put 13 = .ok (.iload 5, 2) := by decide +kernel
theorem dX9_put_15 : decode cX9_put 15 = .ok (.ireturn, 1) := by decide +kernel
theorem dX9_put_16 : decode cX9_put 16 = .ok (.bipush (-2), 2) := by decide +kernel
theorem dX9_put_18 : decode cX9_put 18 = .ok (.aload_n 0, 1) := by decide +kernel
theorem dX9_put_19 : decode cX9_put 19 = .ok (.getfield 100, 3) := by decide +kernel
theorem dX9_put_22 : decode cX9_put 22 = .ok (.iload_n 1, 1) := by decide +kernel
theorem dX9_put_23 : decode cX9_put 23 = .ok (.iaload, 1) := by decide +kernel
theorem dX9_put_24 : decode cX9_put 24 = .ok (.isub, 1) := by decide +kernel
theorem dX9_put_25 : decode cX9_put 25 = .ok (.istore 6, 2) := by decide +kernel
theorem dX9_put_27 : decode cX9_put 27 = .ok (.aload_n 0, 1) := by decide +kernel
theorem dX9_put_28 : decode cX9_put 28 = .ok (.getfield 106, 3) := by decide +kernel
theorem dX9_put_31 : decode cX9_put 31 = .ok (.bipush 60, 2) := by decide +kernel
theorem dX9_put_33 : decode cX9_put 33 = .ok (.iload_n 1, 1) := by decide +kernel
theorem dX9_put_34 : decode cX9_put 34 = .ok (.imul, 1) := by decide +kernel
theorem dX9_put_35 : decode cX9_put 35 = .ok (.iload_n 2, 1) := by decide +kernel
theorem dX9_put_36 : decode cX9_put 36 = .ok (.iadd, 1) := by decide +kernel
theorem dX9_put_37 : decode cX9_put 37 = .ok (.iload 6, 2) := by decide +kernel
theorem dX9_put_39 : decode cX9_put 39 = .ok (.ifCond .ne 10, 3) := by decide +kernel
theorem dX9_put_42 : decode cX9_put 42 = .ok (.lload_n 3, 1) := by decide +kernel
theorem dX9_put_43 : decode cX9_put 43 = .ok (.l2i, 1) := by decide +kernel
theorem dX9_put_44 : decode cX9_put 44 = .ok (.i2b, 1) := by decide +kernel
theorem dX9_put_45 : decode cX9_put 45 = .ok (.i2l, 1) := by decide +kernel
theorem dX9_put_46 : decode cX9_put 46 = .ok (.goto 49, 3) := by decide +kernel
theorem dX9_put_49 : decode cX9_put 49 = .ok (.iload 6, 2) := by decide +kernel
theorem dX9_put_51 : decode cX9_put 51 = .ok (.iconst 1, 1) := by decide +kernel
theorem dX9_put_52 : decode cX9_put 52 = .ok (.if_icmp .ne 10, 3) := by decide +kernel
theorem dX9_put_55 : decode cX9_put 55 = .ok (.lload_n 3, 1) := by decide +kernel
theorem dX9_put_56 : decode cX9_put 56 = .ok (.l2i, 1) := by decide +kernel
theorem dX9_put_57 : decode cX9_put 57 = .ok (.i2s, 1) := by decide +kernel
theorem dX9_put_58 : decode cX9_put 58 = .ok (.i2l, 1) := by decide +kernel
theorem dX9_put_59 : decode cX9_put 59 = .ok (.goto 36, 3) := by decide +kernel
theorem dX9_put_62 : decode cX9_put 62 = .ok (.iload 6, 2) := by decide +kernel
theorem dX9_put_64 : decode cX9_put 64 = .ok (.iconst 2, 1) := by decide +kernel
theorem dX9_put_65 : decode cX9_put 65 = .ok (.if_icmp .ne 9, 3) := by decide +kernel
theorem dX9_put_68 : decode cX9_put 68 = .ok (.lload_n 3, 1) := by decide +kernel
theorem dX9_put_69 : decode cX9_put 69 = .ok (.l2i, 1) := by decide +kernel
theorem dX9_put_70 : decode cX9_put 70 = .ok (.i2l, 1) := by decide +kernel
theorem dX9_put_71 : decode cX9_put 71 = .ok (.goto 24, 3) := by decide +kernel
theorem dX9_put_74 : decode cX9_put 74 = .ok (.iload 6, 2) := by decide +kernel
theorem dX9_put_76 : decode cX9_put 76 = .ok (.iconst 3, 1) := by decide +kernel
theorem dX9_put_77 : decode cX9_put 77 = .ok (.if_icmp .ne 7, 3) := by decide +kernel
theorem dX9_put_80 : decode cX9_put 80 = .ok (.lload_n 3, 1) := by decide +kernel
theorem dX9_put_81 : decode cX9_put 81 = .ok (.goto 14, 3) := by decide +kernel
theorem dX9_put_84 : decode cX9_put 84 = .ok (.lload_n 3, 1) := by decide +kernel
theorem dX9_put_85 : decode cX9_put 85 = .ok (.lconst 0, 1) := by decide +kernel
theorem dX9_put_86 : decode cX9_put 86 = .ok (.lcmp, 1) := by decide +kernel
theorem dX9_put_87 : decode cX9_put 87 = .ok (.ifCond .eq 7, 3) := by decide +kernel
theorem dX9_put_90 : decode cX9_put 90 = .ok (.lconst 1, 1) := by decide +kernel
theorem dX9_put_91 : decode cX9_put 91 = .ok (.goto 4, 3) := by decide +kernel
theorem dX9_put_94 : decode cX9_put 94 = .ok (.lconst 0, 1) := by decide +kernel
theorem dX9_put_95 : decode cX9_put 95 = .ok (.lastore, 1) := by decide +kernel
theorem dX9_put_96 : decode cX9_put 96 = .ok (.iconst 1, 1) := by decide +kernel
theorem dX9_put_97 : decode cX9_put 97 = .ok (.ireturn, 1) := by decide +kernel
theorem dX9_element_0 : decode cX9_element 0 = .ok (.aload_n 0, 1) := by decide +kernel
theorem dX9_element_1 : decode cX9_element 1 = .ok (.iload_n 1, 1) := by decide +kernel
theorem dX9_element_2 : decode cX9_element 2 = .ok (.iload_n 2, 1) := by decide +kernel
theorem dX9_element_3 : decode cX9_element 3 = .ok (.invokevirtual 427, 3) := by decide +kernel
theorem dX9_element_6 : decode cX9_element 6 = .ok (.ifCond .ge 9, 3) := by decide +kernel
theorem dX9_element_9 : decode cX9_element 9 = .ok (.ldc2_w 341, 3) := by decide +kernel
theorem dX9_element_12 : decode cX9_element 12 = .ok (.goto 14, 3) := by decide +kernel
theorem dX9_element_15 : decode cX9_element 15 = .ok (.aload_n 0, 1) := by decide +kernel
theorem dX9_element_16 : decode cX9_element 16 = .ok (.getfield 106, 3) := by decide +kernel
theorem dX9_element_19 : decode cX9_element 19 = .ok (.bipush 60, 2) := by decide +kernel
theorem dX9_element_21 : decode cX9_element 21 = .ok (.iload_n 1, 1) := by decide +kernel
theorem dX9_element_22 : decode cX9_element 22 = .ok (.imul, 1) := by decide +kernel
theorem dX9_element_23 : decode cX9_element 23 = .ok (.iload_n 2, 1) := by decide +kernel
theorem dX9_element_24 : decode cX9_element 24 = .ok (.iadd, 1) := by decide +kernel
theorem dX9_element_25 : decode cX9_element 25 = .ok (.laload, 1) := by decide +kernel
theorem dX9_element_26 : decode cX9_element 26 = .ok (.lreturn, 1) := by decide +kernel
theorem dX9_shift_0 : decode cX9_shift 0 = .ok (.iload_n 1, 1) := by decide +kernel
theorem dX9_shift_1 : decode cX9_shift 1 = .ok (.invokestatic 179, 3) := by decide +kernel
theorem dX9_shift_4 : decode cX9_shift 4 = .ok (.ifCond .eq 10, 3) := by decide +kernel
theorem dX9_shift_7 : decode cX9_shift 7 = .ok (.iload_n 3, 1) := by decide +kernel
theorem dX9_shift_8 : decode cX9_shift 8 = .ok (.invokestatic 179, 3) := by decide +kernel
theorem dX9_shift_11 : decode cX9_shift 11 = .ok (.ifCond .ne 5, 3) := by decide +kernel
theorem dX9_shift_14 : decode cX9_shift 14 = .ok (.iconst (-1), 1) := by decide +kernel
theorem dX9_shift_15 : decode cX9_shift 15 = .ok (.ireturn, 1) := by decide +kernel
theorem dX9_shift_16 : decode cX9_shift 16 = .ok (.aload_n 0, 1) := by decide +kernel
theorem dX9_shift_17 : decode cX9_shift 17 = .ok (.getfield 100, 3) := by decide +kernel
theorem dX9_shift_20 : decode cX9_shift 20 = .ok (.iload_n 1, 1) := by decide +kernel
theorem dX9_shift_21 : decode cX9_shift 21 = .ok (.iaload, 1) := by decide +kernel
theorem dX9_shift_22 : decode cX9_shift 22 = .ok (.iconst (-1), 1) := by decide +kernel
theorem dX9_shift_23 : decode cX9_shift 23 = .ok (.if_icmp .eq 13, 3) := by decide +kernel
theorem dX9_shift_26 : decode cX9_shift 26 = .ok (.aload_n 0, 1) := by decide +kernel
theorem dX9_shift_27 : decode cX9_shift 27 = .ok (.getfield 100, 3) := by decide +kernel
theorem dX9_shift_30 : decode cX9_shift 30 = .ok (.iload_n 3, 1) := by decide +kernel
theorem dX9_shift_31 : decode cX9_shift 31 = .ok (.iaload, 1) := by decide +kernel
theorem dX9_shift_32 : decode cX9_shift 32 = .ok (.iconst (-1), 1) := by decide +kernel
theorem dX9_shift_33 : decode cX9_shift 33 = .ok (.if_icmp .ne 6, 3) := by decide +kernel
theorem dX9_shift_36 : decode cX9_shift 36 = .ok (.bipush (-11), 2) := by decide +kernel
theorem dX9_shift_38 : decode cX9_shift 38 = .ok (.ireturn, 1) := by decide +kernel
theorem dX9_shift_39 : decode cX9_shift 39 = .ok (.aload_n 0, 1) := by decide +kernel
theorem dX9_shift_40 : decode cX9_shift 40 = .ok (.getfield 100, 3) := by decide +kernel
theorem dX9_shift_43 : decode cX9_shift 43 = .ok (.iload_n 1, 1) := by decide +kernel
theorem dX9_shift_44 : decode cX9_shift 44 = .ok (.iaload, 1) := by decide +kernel
theorem dX9_shift_45 : decode cX9_shift 45 = .ok (.ifCond .ge 18, 3) := by decide +kernel
theorem dX9_shift_48 : decode cX9_shift 48 = .ok (.aload_n 0, 1) := by decide +kernel
theorem dX9_shift_49 : decode cX9_shift 49 = .ok (.getfield 100, 3) := by decide +kernel
theorem dX9_shift_52 : decode cX9_shift 52 = .ok (.iload_n 1, 1) := by decide +kernel
theorem dX9_shift_53 : decode cX9_shift 53 = .ok (.iaload, 1) := by decide +kernel
theorem dX9_shift_54 : decode cX9_shift 54 = .ok (.aload_n 0, 1) := by decide +kernel
theorem dX9_shift_55 : decode cX9_shift 55 = .ok (.getfield 100, 3) := by decide +kernel
theorem dX9_shift_58 : decode cX9_shift 58 = .ok (.iload_n 3, 1) := by decide +kernel
theorem dX9_shift_59 : decode cX9_shift 59 = .ok (.iaload, 1) := by decide +kernel
theorem dX9_shift_60 : decode cX9_shift 60 = .ok (.if_icmp .eq 6, 3) := by decide +kernel
theorem dX9_shift_63 : decode cX9_shift 63 = .ok (.bipush (-12), 2) := by decide +kernel
theorem dX9_shift_65 : decode cX9_shift 65 = .ok (.ireturn, 1) := by decide +kernel
theorem dX9_shift_66 : decode cX9_shift 66 = .ok (.iload 5, 2) := by decide +kernel
theorem dX9_shift_68 : decode cX9_shift 68 = .ok (.ifCond .lt 39, 3) := by decide +kernel
theorem dX9_shift_71 : decode cX9_shift 71 = .ok (.iload_n 2, 1) := by decide +kernel
theorem dX9_shift_72 : decode cX9_shift 72 = .ok (.ifCond .lt 35, 3) := by decide +kernel
theorem dX9_shift_75 : decode cX9_shift 75 = .ok (.iload 4, 2) := by decide +kernel
theorem dX9_shift_77 : decode cX9_shift 77 = .ok (.ifCond .lt 30, 3) := by decide +kernel
theorem dX9_shift_80 : decode cX9_shift 80 = .ok (.iload_n 2, 1) := by decide +kernel
theorem dX9_shift_81 : decode cX9_shift 81 = .ok (.aload_n 0, 1) := by decide +kernel
theorem dX9_shift_82 : decode cX9_shift 82 = .ok (.getfield 103, 3) := by decide +kernel
theorem dX9_shift_85 : decode cX9_shift 85 = .ok (.iload_n 1, 1) := by decide +kernel
theorem dX9_shift_86 : decode cX9_shift 86 = .ok (.iaload, 1) := by decide +kernel
theorem dX9_shift_87 : decode cX9_shift 87 = .ok (.iload 5, 2) := by decide +kernel
theorem dX9_shift_89 : decode cX9_shift 89 = .ok (.isub, 1) := by decide +kernel
theorem dX9_shift_90 : decode cX9_shift 90 = .ok (.if_icmp .gt 17, 3) := by decide +kernel
theorem dX9_shift_93 : decode cX9_shift 93 = .ok (.iload 4, 2) := by decide +kernel
theorem dX9_shift_95 : decode cX9_shift 95 = .ok (.aload_n 0, 1) := by decide +kernel
theorem dX9_shift_96 : decode cX9_shift 96 = .ok (.getfield 103, 3) := by decide +kernel
theorem dX9_shift_99 : decode cX9_shift 99 = .ok (.iload_n 3, 1) := by decide +kernel
theorem dX9_shift_100 : decode cX9_shift 100 = .ok (.iaload, 1) := by decide +kernel
theorem dX9_shift_101 : decode cX9_shift 101 = .ok (.iload 5, 2) := by decide +kernel
theorem dX9_shift_103 : decode cX9_shift 103 = .ok (.isub, 1) := by decide +kernel
theorem dX9_shift_104 : decode cX9_shift 104 = .ok (.if_icmp .le 6, 3) := by decide +kernel
theorem dX9_shift_107 : decode cX9_shift 107 = .ok (.bipush (-13), 2) := by decide +kernel
theorem dX9_shift_109 : decode cX9_shift 109 = .ok (.ireturn, 1) := by decide +kernel
theorem dX9_shift_110 : decode cX9_shift 110 = .ok (.iconst 0, 1) := by decide +kernel
theorem dX9_shift_111 : decode cX9_shift 111 = .ok (.istore 6, 2) := by decide +kernel
theorem dX9_shift_113 : decode cX9_shift 113 = .ok (.iload 6, 2) := by decide +kernel
theorem dX9_shift_115 : decode cX9_shift 115 = .ok (.iload 5, 2) := by decide +kernel
theorem dX9_shift_117 : decode cX9_shift 117 = .ok (.if_icmp .ge 30, 3) := by decide +kernel
theorem dX9_shift_120 : decode cX9_shift 120 = .ok (.aload_n 0, 1) := by decide +kernel
theorem dX9_shift_121 : decode cX9_shift 121 = .ok (.getfield 110, 3) := by decide +kernel
theorem dX9_shift_124 : decode cX9_shift 124 = .ok (.iload 6, 2) := by decide +kernel
theorem dX9_shift_126 : decode cX9_shift 126 = .ok (.aload_n 0, 1) := by decide +kernel
theorem dX9_shift_127 : decode cX9_shift 127 = .ok (.getfield 106, 3) := by decide +kernel
theorem dX9_shift_130 : decode cX9_shift 130 = .ok (.bipush 60, 2) := by decide +kernel
theorem dX9_shift_132 : decode cX9_shift 132 = .ok (.iload_n 1, 1) := by decide +kernel
theorem dX9_shift_133 : decode cX9_shift 133 = .ok (.imul, 1) := by decide +kernel
theorem dX9_shift_134 : decode cX9_shift 134 = .ok (.iload_n 2, 1) := by decide +kernel
theorem dX9_shift_135 : decode cX9_shift 135 = .ok (.iadd, 1) := by decide +kernel
theorem dX9_shift_136 : decode cX9_shift 136 = .ok (.iload 6, 2) := by decide +kernel
theorem dX9_shift_138 : decode cX9_shift 138 = .ok (.iadd, 1) := by decide +kernel
theorem dX9_shift_139 : decode cX9_shift 139 = .ok (.laload, 1) := by decide +kernel
theorem dX9_shift_140 : decode cX9_shift 140 = .ok (.lastore, 1) := by decide +kernel
theorem dX9_shift_141 : decode cX9_shift 141 = .ok (.iinc 6 1, 3) := by decide +kernel
theorem dX9_shift_144 : decode cX9_shift 144 = .ok (.goto (-31), 3) := by decide +kernel
theorem dX9_shift_147 : decode cX9_shift 147 = .ok (.iconst 0, 1) := by decide +kernel
theorem dX9_shift_148 : decode cX9_shift 148 = .ok (.istore 6, 2) := by decide +kernel
theorem dX9_shift_150 : decode cX9_shift 150 = .ok (.iload 6, 2) := by decide +kernel
theorem dX9_shift_152 : decode cX9_shift 152 = .ok (.iload 5, 2) := by decide +kernel
theorem dX9_shift_154 : decode cX9_shift 154 = .ok (.if_icmp .ge 31, 3) := by decide +kernel
theorem dX9_shift_157 : decode cX9_shift 157 = .ok (.aload_n 0, 1) := by decide +kernel
theorem dX9_shift_158 : decode cX9_shift 158 = .ok (.getfield 106, 3) := by decide +kernel
theorem dX9_shift_161 : decode cX9_shift 161 = .ok (.bipush 60, 2) := by decide +kernel
theorem dX9_shift_163 : decode cX9_shift 163 = .ok (.iload_n 3, 1) := by decide +kernel
theorem dX9_shift_164 : decode cX9_shift 164 = .ok (.imul, 1) := by decide +kernel
theorem dX9_shift_165 : decode cX9_shift 165 = .ok (.iload 4, 2) := by decide +kernel
theorem dX9_shift_167 : decode cX9_shift 167 = .ok (.iadd, 1) := by decide +kernel
theorem dX9_shift_168 : decode cX9_shift 168 = .ok (.iload 6, 2) := by decide +kernel
theorem dX9_shift_170 : decode cX9_shift 170 = .ok (.iadd, 1) := by decide +kernel
theorem dX9_shift_171 : decode cX9_shift 171 = .ok (.aload_n 0, 1) := by decide +kernel
theorem dX9_shift_172 : decode cX9_shift 172 = .ok (.getfield 110, 3) := by decide +kernel
theorem dX9_shift_175 : decode cX9_shift 175 = .ok (.iload 6, 2) := by decide +kernel
theorem dX9_shift_177 : decode cX9_shift 177 = .ok (.laload, 1) := by decide +kernel
theorem dX9_shift_178 : decode cX9_shift 178 = .ok (.lastore, 1) := by decide +kernel
theorem dX9_shift_179 : decode cX9_shift 179 = .ok (.iinc 6 1, 3) := by decide +kernel
theorem dX9_shift_182 : decode cX9_shift 182 = .ok (.goto (-32), 3) := by decide +kernel
theorem dX9_shift_185 : decode cX9_shift 185 = .ok (.iload 5, 2) := by decide +kernel
theorem dX9_shift_187 : decode cX9_shift 187 = .ok (.ireturn, 1) := by decide +kernel
theorem dX9_taken_0 : decode cX9_taken 0 = .ok (.iload_n 1, 1) := by decide +kernel
theorem dX9_taken_1 : decode cX9_taken 1 = .ok (.invokestatic 179, 3) := by decide +kernel
theorem dX9_taken_4 : decode cX9_taken 4 = .ok (.ifCond .eq 13, 3) := by decide +kernel
theorem dX9_taken_7 : decode cX9_taken 7 = .ok (.iload_n 2, 1) := by decide +kernel
theorem dX9_taken_8 : decode cX9_taken 8 = .ok (.iconst 0, 1) := by decide +kernel
theorem dX9_taken_9 : decode cX9_taken 9 = .ok (.bipush 7, 2) := by decide +kernel
theorem dX9_taken_11 : decode cX9_taken 11 = .ok (.invokestatic 116, 3) := by decide +kernel
theorem dX9_taken_14 : decode cX9_taken 14 = .ok (.ifCond .ne 5, 3) := by decide +kernel
theorem dX9_taken_17 : decode cX9_taken 17 = .ok (.iconst (-1), 1) := by decide +kernel
theorem dX9_taken_18 : decode cX9_taken 18 = .ok (.ireturn, 1) := by decide +kernel
theorem dX9_taken_19 : decode cX9_taken 19 = .ok (.aload_n 0, 1) := by decide +kernel
theorem dX9_taken_20 : decode cX9_taken 20 = .ok (.getfield 100, 3) := by decide +kernel
theorem dX9_taken_23 : decode cX9_taken 23 = .ok (.iload_n 1, 1) := by decide +kernel
theorem dX9_taken_24 : decode cX9_taken 24 = .ok (.iaload, 1) := by decide +kernel
theorem dX9_taken_25 : decode cX9_taken 25 = .ok (.iconst (-1), 1) := by decide +kernel
theorem dX9_taken_26 : decode cX9_taken 26 = .ok (.if_icmp .ne 6, 3) := by decide +kernel
theorem dX9_taken_29 : decode cX9_taken 29 = .ok (.bipush (-11), 2) := by decide +kernel
theorem dX9_taken_31 : decode cX9_taken 31 = .ok (.ireturn, 1) := by decide +kernel
theorem dX9_taken_32 : decode cX9_taken 32 = .ok (.aload_n 0, 1) := by decide +kernel
theorem dX9_taken_33 : decode cX9_taken 33 = .ok (.getfield 100, 3) := by decide +kernel
theorem dX9_taken_36 : decode cX9_taken 36 = .ok (.iload_n 1, 1) := by decide +kernel
theorem dX9_taken_37 : decode cX9_taken 37 = .ok (.iaload, 1) := by decide +kernel
theorem dX9_taken_38 : decode cX9_taken 38 = .ok (.ifCond .lt 35, 3) := by decide +kernel
theorem dX9_taken_41 : decode cX9_taken 41 = .ok (.aload_n 0, 1) := by decide +kernel
theorem dX9_taken_42 : decode cX9_taken 42 = .ok (.getfield 94, 3) := by decide +kernel
theorem dX9_taken_45 : decode cX9_taken 45 = .ok (.aload_n 0, 1) := by decide +kernel
theorem dX9_taken_46 : decode cX9_taken 46 = .ok (.getfield 100, 3) := by decide +kernel
theorem dX9_taken_49 : decode cX9_taken 49 = .ok (.iload_n 1, 1) := by decide +kernel
theorem dX9_taken_50 : decode cX9_taken 50 = .ok (.iaload, 1) := by decide +kernel
theorem dX9_taken_51 : decode cX9_taken 51 = .ok (.iaload, 1) := by decide +kernel
theorem dX9_taken_52 : decode cX9_taken 52 = .ok (.iload_n 2, 1) := by decide +kernel
theorem dX9_taken_53 : decode cX9_taken 53 = .ok (.invokestatic 385, 3) := by decide +kernel
theorem dX9_taken_56 : decode cX9_taken 56 = .ok (.ifCond .eq 17, 3) := by decide +kernel
theorem dX9_taken_59 : decode cX9_taken 59 = .ok (.aload_n 0, 1) := by decide +kernel
theorem dX9_taken_60 : decode cX9_taken 60 = .ok (.getfield 94, 3) := by decide +kernel
theorem dX9_taken_63 : decode cX9_taken 63 = .ok (.aload_n 0, 1) := by decide +kernel
theorem dX9_taken_64 : decode cX9_taken 64 = .ok (.getfield 100, 3) := by decide +kernel
theorem dX9_taken_67 : decode cX9_taken 67 = .ok (.iload_n 1, 1) := by decide +kernel
theorem dX9_taken_68 : decode cX9_taken 68 = .ok (.iaload, 1) := by decide +kernel
theorem dX9_taken_69 : decode cX9_taken 69 = .ok (.iaload, 1) := by decide +kernel
theorem dX9_taken_70 : decode cX9_taken 70 = .ok (.goto 5, 3) := by decide +kernel
theorem dX9_taken_73 : decode cX9_taken 73 = .ok (.bipush (-12), 2) := by decide +kernel
theorem dX9_taken_75 : decode cX9_taken 75 = .ok (.ireturn, 1) := by decide +kernel
theorem dJ13_bitCount_95d88_0 : decode cJ13_bitCount_95d88 0 = .ok (.lload_n 0, 1) := by decide +kernel
theorem dJ13_bitCount_95d88_1 : decode cJ13_bitCount_95d88 1 = .ok (.lload_n 0, 1) := by decide +kernel
theorem dJ13_bitCount_95d88_2 : decode cJ13_bitCount_95d88 2 = .ok (.iconst 1, 1) := by decide +kernel
theorem dJ13_bitCount_95d88_3 : decode cJ13_bitCount_95d88 3 = .ok (.lushr, 1) := by decide +kernel
theorem dJ13_bitCount_95d88_4 : decode cJ13_bitCount_95d88 4 = .ok (.ldc2_w 314, 3) := by decide +kernel
theorem dJ13_bitCount_95d88_7 : decode cJ13_bitCount_95d88 7 = .ok (.land, 1) := by decide +kernel
theorem dJ13_bitCount_95d88_8 : decode cJ13_bitCount_95d88 8 = .ok (.lsub, 1) := by decide +kernel
theorem dJ13_bitCount_95d88_9 : decode cJ13_bitCount_95d88 9 = .ok (.lstore_n 0, 1) := by decide +kernel
theorem dJ13_bitCount_95d88_10 : decode cJ13_bitCount_95d88 10 = .ok (.lload_n 0, 1) := by decide +kernel
theorem dJ13_bitCount_95d88_11 : decode cJ13_bitCount_95d88 11 = .ok (.ldc2_w 316, 3) := by decide +kernel
theorem dJ13_bitCount_95d88_14 : decode cJ13_bitCount_95d88 14 = .ok (.land, 1) := by decide +kernel
theorem dJ13_bitCount_95d88_15 : decode cJ13_bitCount_95d88 15 = .ok (.lload_n 0, 1) := by decide +kernel
theorem dJ13_bitCount_95d88_16 : decode cJ13_bitCount_95d88 16 = .ok (.iconst 2, 1) := by decide +kernel
theorem dJ13_bitCount_95d88_17 : decode cJ13_bitCount_95d88 17 = .ok (.lushr, 1) := by decide +kernel
theorem dJ13_bitCount_95d88_18 : decode cJ13_bitCount_95d88 18 = .ok (.ldc2_w 316, 3) := by decide +kernel
theorem dJ13_bitCount_95d88_21 : decode cJ13_bitCount_95d88 21 = .ok (.land, 1) := by decide +kernel
theorem dJ13_bitCount_95d88_22 : decode cJ13_bitCount_95d88 22 = .ok (.ladd, 1) := by decide +kernel
theorem dJ13_bitCount_95d88_23 : decode cJ13_bitCount_95d88 23 = .ok (.lstore_n 0, 1) := by decide +kernel
theorem dJ13_bitCount_95d88_24 : decode cJ13_bitCount_95d88 24 = .ok (.lload_n 0, 1) := by decide +kernel
theorem dJ13_bitCount_95d88_25 : decode cJ13_bitCount_95d88 25 = .ok (.lload_n 0, 1) := by decide +kernel
theorem dJ13_bitCount_95d88_26 : decode cJ13_bitCount_95d88 26 = .ok (.iconst 4, 1) := by decide +kernel
theorem dJ13_bitCount_95d88_27 : decode cJ13_bitCount_95d88 27 = .ok (.lushr, 1) := by decide +kernel
theorem dJ13_bitCount_95d88_28 : decode cJ13_bitCount_95d88 28 = .ok (.ladd, 1) := by decide +kernel
theorem dJ13_bitCount_95d88_29 : decode cJ13_bitCount_95d88 29 = .ok (.ldc2_w 318, 3) := by decide +kernel
theorem dJ13_bitCount_95d88_32 : decode cJ13_bitCount_95d88 32 = .ok (.land, 1) := by decide +kernel
theorem dJ13_bitCount_95d88_33 : decode cJ13_bitCount_95d88 33 = .ok (.lstore_n 0, 1) := by decide +kernel
theorem dJ13_bitCount_95d88_34 : decode cJ13_bitCount_95d88 34 = .ok (.lload_n 0, 1) := by decide +kernel
theorem dJ13_bitCount_95d88_35 : decode cJ13_bitCount_95d88 35 = .ok (.lload_n 0, 1) := by decide +kernel
theorem dJ13_bitCount_95d88_36 : decode cJ13_bitCount_95d88 36 = .ok (.bipush 8, 2) := by decide +kernel
theorem dJ13_bitCount_95d88_38 : decode cJ13_bitCount_95d88 38 = .ok (.lushr, 1) := by decide +kernel
theorem dJ13_bitCount_95d88_39 : decode cJ13_bitCount_95d88 39 = .ok (.ladd, 1) := by decide +kernel
theorem dJ13_bitCount_95d88_40 : decode cJ13_bitCount_95d88 40 = .ok (.lstore_n 0, 1) := by decide +kernel
theorem dJ13_bitCount_95d88_41 : decode cJ13_bitCount_95d88 41 = .ok (.lload_n 0, 1) := by decide +kernel
theorem dJ13_bitCount_95d88_42 : decode cJ13_bitCount_95d88 42 = .ok (.lload_n 0, 1) := by decide +kernel
theorem dJ13_bitCount_95d88_43 : decode cJ13_bitCount_95d88 43 = .ok (.bipush 16, 2) := by decide +kernel
theorem dJ13_bitCount_95d88_45 : decode cJ13_bitCount_95d88 45 = .ok (.lushr, 1) := by decide +kernel
theorem dJ13_bitCount_95d88_46 : decode cJ13_bitCount_95d88 46 = .ok (.ladd, 1) := by decide +kernel
theorem dJ13_bitCount_95d88_47 : decode cJ13_bitCount_95d88 47 = .ok (.lstore_n 0, 1) := by decide +kernel
theorem dJ13_bitCount_95d88_48 : decode cJ13_bitCount_95d88 48 = .ok (.lload_n 0, 1) := by decide +kernel
theorem dJ13_bitCount_95d88_49 : decode cJ13_bitCount_95d88 49 = .ok (.lload_n 0, 1) := by decide +kernel
theorem dJ13_bitCount_95d88_50 : decode cJ13_bitCount_95d88 50 = .ok (.bipush 32, 2) := by decide +kernel
theorem dJ13_bitCount_95d88_52 : decode cJ13_bitCount_95d88 52 = .ok (.lushr, 1) := by decide +kernel
theorem dJ13_bitCount_95d88_53 : decode cJ13_bitCount_95d88 53 = .ok (.ladd, 1) := by decide +kernel
theorem dJ13_bitCount_95d88_54 : decode cJ13_bitCount_95d88 54 = .ok (.lstore_n 0, 1) := by decide +kernel
theorem dJ13_bitCount_95d88_55 : decode cJ13_bitCount_95d88 55 = .ok (.lload_n 0, 1) := by decide +kernel
theorem dJ13_bitCount_95d88_56 : decode cJ13_bitCount_95d88 56 = .ok (.l2i, 1) := by decide +kernel
theorem dJ13_bitCount_95d88_57 : decode cJ13_bitCount_95d88 57 = .ok (.bipush 127, 2) := by decide +kernel
theorem dJ13_bitCount_95d88_59 : decode cJ13_bitCount_95d88 59 = .ok (.iand, 1) := by decide +kernel
theorem dJ13_bitCount_95d88_60 : decode cJ13_bitCount_95d88 60 = .ok (.ireturn, 1) := by decide +kernel
theorem dJ9_max_7cf53_0 : decode cJ9_max_7cf53 0 = .ok (.iload_n 0, 1) := by decide +kernel
theorem dJ9_max_7cf53_1 : decode cJ9_max_7cf53 1 = .ok (.iload_n 1, 1) := by decide +kernel
theorem dJ9_max_7cf53_2 : decode cJ9_max_7cf53 2 = .ok (.if_icmp .lt 7, 3) := by decide +kernel
theorem dJ9_max_7cf53_5 : decode cJ9_max_7cf53 5 = .ok (.iload_n 0, 1) := by decide +kernel
theorem dJ9_max_7cf53_6 : decode cJ9_max_7cf53 6 = .ok (.goto 4, 3) := by decide +kernel
theorem dJ9_max_7cf53_9 : decode cJ9_max_7cf53 9 = .ok (.iload_n 1, 1) := by decide +kernel
theorem dJ9_max_7cf53_10 : decode cJ9_max_7cf53 10 = .ok (.ireturn, 1) := by decide +kernel
theorem dJ9_min_7cf53_0 : decode cJ9_min_7cf53 0 = .ok (.iload_n 0, 1) := by decide +kernel
theorem dJ9_min_7cf53_1 : decode cJ9_min_7cf53 1 = .ok (.iload_n 1, 1) := by decide +kernel
theorem dJ9_min_7cf53_2 : decode cJ9_min_7cf53 2 = .ok (.if_icmp .gt 7, 3) := by decide +kernel
theorem dJ9_min_7cf53_5 : decode cJ9_min_7cf53 5 = .ok (.iload_n 0, 1) := by decide +kernel
theorem dJ9_min_7cf53_6 : decode cJ9_min_7cf53 6 = .ok (.goto 4, 3) := by decide +kernel
theorem dJ9_min_7cf53_9 : decode cJ9_min_7cf53 9 = .ok (.iload_n 1, 1) := by decide +kernel
theorem dJ9_min_7cf53_10 : decode cJ9_min_7cf53 10 = .ok (.ireturn, 1) := by decide +kernel
theorem dJ7_fill_d0a16_0 : decode cJ7_fill_d0a16 0 = .ok (.iconst 0, 1) := by decide +kernel
theorem dJ7_fill_d0a16_1 : decode cJ7_fill_d0a16 1 = .ok (.istore_n 3, 1) := by decide +kernel
theorem dJ7_fill_d0a16_2 : decode cJ7_fill_d0a16 2 = .ok (.aload_n 0, 1) := by decide +kernel
theorem dJ7_fill_d0a16_3 : decode cJ7_fill_d0a16 3 = .ok (.arraylength, 1) := by decide +kernel
theorem dJ7_fill_d0a16_4 : decode cJ7_fill_d0a16 4 = .ok (.istore 4, 2) := by decide +kernel
theorem dJ7_fill_d0a16_6 : decode cJ7_fill_d0a16 6 = .ok (.iload_n 3, 1) := by decide +kernel
theorem dJ7_fill_d0a16_7 : decode cJ7_fill_d0a16 7 = .ok (.iload 4, 2) := by decide +kernel
theorem dJ7_fill_d0a16_9 : decode cJ7_fill_d0a16 9 = .ok (.if_icmp .ge 13, 3) := by decide +kernel
theorem dJ7_fill_d0a16_12 : decode cJ7_fill_d0a16 12 = .ok (.aload_n 0, 1) := by decide +kernel
theorem dJ7_fill_d0a16_13 : decode cJ7_fill_d0a16 13 = .ok (.iload_n 3, 1) := by decide +kernel
theorem dJ7_fill_d0a16_14 : decode cJ7_fill_d0a16 14 = .ok (.lload_n 1, 1) := by decide +kernel
theorem dJ7_fill_d0a16_15 : decode cJ7_fill_d0a16 15 = .ok (.lastore, 1) := by decide +kernel
theorem dJ7_fill_d0a16_16 : decode cJ7_fill_d0a16 16 = .ok (.iinc 3 1, 3) := by decide +kernel
theorem dJ7_fill_d0a16_19 : decode cJ7_fill_d0a16 19 = .ok (.goto (-13), 3) := by decide +kernel
theorem dJ7_fill_d0a16_22 : decode cJ7_fill_d0a16 22 = .ok (.return_, 1) := by decide +kernel
theorem dJ7_fill_53178_0 : decode cJ7_fill_53178 0 = .ok (.iconst 0, 1) := by decide +kernel
theorem dJ7_fill_53178_1 : decode cJ7_fill_53178 1 = .ok (.istore_n 2, 1) := by decide +kernel
theorem dJ7_fill_53178_2 : decode cJ7_fill_53178 2 = .ok (.aload_n 0, 1) := by decide +kernel
theorem dJ7_fill_53178_3 : decode cJ7_fill_53178 3 = .ok (.arraylength, 1) := by decide +kernel
theorem dJ7_fill_53178_4 : decode cJ7_fill_53178 4 = .ok (.istore_n 3, 1) := by decide +kernel
theorem dJ7_fill_53178_5 : decode cJ7_fill_53178 5 = .ok (.iload_n 2, 1) := by decide +kernel
theorem dJ7_fill_53178_6 : decode cJ7_fill_53178 6 = .ok (.iload_n 3, 1) := by decide +kernel
theorem dJ7_fill_53178_7 : decode cJ7_fill_53178 7 = .ok (.if_icmp .ge 13, 3) := by decide +kernel
theorem dJ7_fill_53178_10 : decode cJ7_fill_53178 10 = .ok (.aload_n 0, 1) := by decide +kernel
theorem dJ7_fill_53178_11 : decode cJ7_fill_53178 11 = .ok (.iload_n 2, 1) := by decide +kernel
theorem dJ7_fill_53178_12 : decode cJ7_fill_53178 12 = .ok (.iload_n 1, 1) := by decide +kernel
theorem dJ7_fill_53178_13 : decode cJ7_fill_53178 13 = .ok (.iastore, 1) := by decide +kernel
theorem dJ7_fill_53178_14 : decode cJ7_fill_53178 14 = .ok (.iinc 2 1, 3) := by decide +kernel
theorem dJ7_fill_53178_17 : decode cJ7_fill_53178 17 = .ok (.goto (-12), 3) := by decide +kernel
theorem dJ7_fill_53178_20 : decode cJ7_fill_53178 20 = .ok (.return_, 1) := by decide +kernel
theorem dL_law_0 : decode cL_law 0 = .ok (.new 7, 3) := by decide +kernel
theorem dL_law_3 : decode cL_law 3 = .ok (.dup, 1) := by decide +kernel
theorem dL_law_4 : decode cL_law 4 = .ok (.invokespecial 9, 3) := by decide +kernel
theorem dL_law_7 : decode cL_law 7 = .ok (.astore_n 1, 1) := by decide +kernel
theorem dL_law_8 : decode cL_law 8 = .ok (.new 10, 3) := by decide +kernel
theorem dL_law_11 : decode cL_law 11 = .ok (.dup, 1) := by decide +kernel
theorem dL_law_12 : decode cL_law 12 = .ok (.invokespecial 12, 3) := by decide +kernel
theorem dL_law_15 : decode cL_law 15 = .ok (.astore_n 2, 1) := by decide +kernel
theorem dL_law_16 : decode cL_law 16 = .ok (.iconst 0, 1) := by decide +kernel
theorem dL_law_17 : decode cL_law 17 = .ok (.istore_n 3, 1) := by decide +kernel
theorem dL_law_18 : decode cL_law 18 = .ok (.iload_n 3, 1) := by decide +kernel
theorem dL_law_19 : decode cL_law 19 = .ok (.aload_n 0, 1) := by decide +kernel
theorem dL_law_20 : decode cL_law 20 = .ok (.arraylength, 1) := by decide +kernel
theorem dL_law_21 : decode cL_law 21 = .ok (.bipush 6, 2) := by decide +kernel
theorem dL_law_23 : decode cL_law 23 = .ok (.isub, 1) := by decide +kernel
theorem dL_law_24 : decode cL_law 24 = .ok (.if_icmp .gt 1248, 3) := by decide +kernel
theorem dL_law_27 : decode cL_law 27 = .ok (.aload_n 0, 1) := by decide +kernel
theorem dL_law_28 : decode cL_law 28 = .ok (.iload_n 3, 1) := by decide +kernel
theorem dL_law_29 : decode cL_law 29 = .ok (.iaload, 1) := by decide +kernel
theorem dL_law_30 : decode cL_law 30 = .ok (.bipush 63, 2) := by decide +kernel
theorem dL_law_32 : decode cL_law 32 = .ok (.iand, 1) := by decide +kernel
theorem dL_law_33 : decode cL_law 33 = .ok (.tableswitch 1233 0 34 #[155, 198, 231, 274, 297, 310, 343, 356, 379, 402, 435, 478, 501, 534, 567, 600, 623, 646, 690, 724, 767, 790, 803, 816, 829, 842, 865, 908, 931, 964, 1007, 1080, 1114, 1177, 1210], 155) := by decide +kernel
theorem dL_law_188 : decode cL_law 188 = .ok (.aload_n 1, 1) := by decide +kernel
theorem dL_law_189 : decode cL_law 189 = .ok (.aload_n 0, 1) := by decide +kernel
theorem dL_law_190 : decode cL_law 190 = .ok (.iload_n 3, 1) := by decide +kernel
theorem dL_law_191 : decode cL_law 191 = .ok (.iconst 1, 1) := by decide +kernel
theorem dL_law_192 : decode cL_law 192 = .ok (.iadd, 1) := by decide +kernel
theorem dL_law_193 : decode cL_law 193 = .ok (.iaload, 1) := by decide +kernel
theorem dL_law_194 : decode cL_law 194 = .ok (.aload_n 0, 1) := by decide +kernel
theorem dL_law_195 : decode cL_law 195 = .ok (.iload_n 3, 1) := by decide +kernel
theorem dL_law_196 : decode cL_law 196 = .ok (.iconst 2, 1) := by decide +kernel
theorem dL_law_197 : decode cL_law 197 = .ok (.iadd, 1) := by decide +kernel
theorem dL_law_198 : decode cL_law 198 = .ok (.iaload, 1) := by decide +kernel
theorem dL_law_199 : decode cL_law 199 = .ok (.aload_n 0, 1) := by decide +kernel
theorem dL_law_200 : decode cL_law 200 = .ok (.iload_n 3, 1) := by decide +kernel
theorem dL_law_201 : decode cL_law 201 = .ok (.iconst 3, 1) := by decide +kernel
theorem dL_law_202 : decode cL_law 202 = .ok (.iadd, 1) := by decide +kernel
theorem dL_law_203 : decode cL_law 203 = .ok (.iaload, 1) := by decide +kernel
theorem dL_law_204 : decode cL_law 204 = .ok (.invokevirtual 13, 3) := by decide +kernel
theorem dL_law_207 : decode cL_law 207 = .ok (.aload_n 2, 1) := by decide +kernel
theorem dL_law_208 : decode cL_law 208 = .ok (.aload_n 0, 1) := by decide +kernel
theorem dL_law_209 : decode cL_law 209 = .ok (.iload_n 3, 1) := by decide +kernel
theorem dL_law_210 : decode cL_law 210 = .ok (.iconst 1, 1) := by decide +kernel
theorem dL_law_211 : decode cL_law 211 = .ok (.iadd, 1) := by decide +kernel
theorem dL_law_212 : decode cL_law 212 = .ok (.iaload, 1) := by decide +kernel
theorem dL_law_213 : decode cL_law 213 = .ok (.aload_n 0, 1) := by decide +kernel
theorem dL_law_214 : decode cL_law 214 = .ok (.iload_n 3, 1) := by decide +kernel
theorem dL_law_215 : decode cL_law 215 = .ok (.iconst 2, 1) := by decide +kernel
theorem dL_law_216 : decode cL_law 216 = .ok (.iadd, 1) := by decide +kernel
theorem dL_law_217 : decode cL_law 217 = .ok (.iaload, 1) := by decide +kernel
theorem dL_law_218 : decode cL_law 218 = .ok (.aload_n 0, 1) := by decide +kernel
theorem dL_law_219 : decode cL_law 219 = .ok (.iload_n 3, 1) := by decide +kernel
theorem dL_law_220 : decode cL_law 220 = .ok (.iconst 3, 1) := by decide +kernel
theorem dL_law_221 : decode cL_law 221 = .ok (.iadd, 1) := by decide +kernel
theorem dL_law_222 : decode cL_law 222 = .ok (.iaload, 1) := by decide +kernel
theorem dL_law_223 : decode cL_law 223 = .ok (.invokevirtual 17, 3) := by decide +kernel
theorem dL_law_226 : decode cL_law 226 = .ok (.if_icmp .eq 1040, 3) := by decide +kernel
theorem dL_law_229 : decode cL_law 229 = .ok (.iconst 0, 1) := by decide +kernel
theorem dL_law_230 : decode cL_law 230 = .ok (.ireturn, 1) := by decide +kernel
theorem dL_law_231 : decode cL_law 231 = .ok (.aload_n 1, 1) := by decide +kernel
theorem dL_law_232 : decode cL_law 232 = .ok (.aload_n 0, 1) := by decide +kernel
theorem dL_law_233 : decode cL_law 233 = .ok (.iload_n 3, 1) := by decide +kernel
theorem dL_law_234 : decode cL_law 234 = .ok (.iconst 1, 1) := by decide +kernel
theorem dL_law_235 : decode cL_law 235 = .ok (.iadd, 1) := by decide +kernel
theorem dL_law_236 : decode cL_law 236 = .ok (.iaload, 1) := by decide +kernel
theorem dL_law_237 : decode cL_law 237 = .ok (.aload_n 0, 1) := by decide +kernel
theorem dL_law_238 : decode cL_law 238 = .ok (.iload_n 3, 1) := by decide +kernel
theorem dL_law_239 : decode cL_law 239 = .ok (.iconst 2, 1) := by decide +kernel
theorem dL_law_240 : decode cL_law 240 = .ok (.iadd, 1) := by decide +kernel
theorem dL_law_241 : decode cL_law 241 = .ok (.iaload, 1) := by decide +kernel
theorem dL_law_242 : decode cL_law 242 = .ok (.invokevirtual 18, 3) := by decide +kernel
theorem dL_law_245 : decode cL_law 245 = .ok (.aload_n 2, 1) := by decide +kernel
theorem dL_law_246 : decode cL_law 246 = .ok (.aload_n 0, 1) := by decide +kernel
theorem dL_law_247 : decode cL_law 247 = .ok (.iload_n 3, 1) := by decide +kernel
theorem dL_law_248 : decode cL_law 248 = .ok (.iconst 1, 1) := by decide +kernel
theorem dL_law_249 : decode cL_law 249 = .ok (.iadd, 1) := by decide +kernel
theorem dL_law_250 : decode cL_law 250 = .ok (.iaload, 1) := by decide +kernel
theorem dL_law_251 : decode cL_law 251 = .ok (.aload_n 0, 1) := by decide +kernel
theorem dL_law_252 : decode cL_law 252 = .ok (.iload_n 3, 1) := by decide +kernel
theorem dL_law_253 : decode cL_law 253 = .ok (.iconst 2, 1) := by decide +kernel
theorem dL_law_254 : decode cL_law 254 = .ok (.iadd, 1) := by decide +kernel
theorem dL_law_255 : decode cL_law 255 = .ok (.iaload, 1) := by decide +kernel
theorem dL_law_256 : decode cL_law 256 = .ok (.invokevirtual 22, 3) := by decide +kernel
theorem dL_law_259 : decode cL_law 259 = .ok (.if_icmp .eq 1007, 3) := by decide +kernel
theorem dL_law_262 : decode cL_law 262 = .ok (.iconst 0, 1) := by decide +kernel
theorem dL_law_263 : decode cL_law 263 = .ok (.ireturn, 1) := by decide +kernel
theorem dL_law_264 : decode cL_law 264 = .ok (.aload_n 1, 1) := by decide +kernel
theorem dL_law_265 : decode cL_law 265 = .ok (.aload_n 0, 1) := by decide +kernel
theorem dL_law_266 : decode cL_law 266 = .ok (.iload_n 3, 1) := by decide +kernel
theorem dL_law_267 : decode cL_law 267 = .ok (.iconst 1, 1) := by decide +kernel
theorem dL_law_268 : decode cL_law 268 = .ok (.iadd, 1) := by decide +kernel
theorem dL_law_269 : decode cL_law 269 = .ok (.iaload, 1) := by decide +kernel
theorem dL_law_270 : decode cL_law 270 = .ok (.aload_n 0, 1) := by decide +kernel
theorem dL_law_271 : decode cL_law 271 = .ok (.iload_n 3, 1) := by decide +kernel
theorem dL_law_272 : decode cL_law 272 = .ok (.iconst 2, 1) := by decide +kernel
theorem dL_law_273 : decode cL_law 273 = .ok (.iadd, 1) := by decide +kernel
theorem dL_law_274 : decode cL_law 274 = .ok (.iaload, 1) := by decide +kernel
theorem dL_law_275 : decode cL_law 275 = .ok (.aload_n 0, 1) := by decide +kernel
theorem dL_law_276 : decode cL_law 276 = .ok (.iload_n 3, 1) := by decide +kernel
theorem dL_law_277 : decode cL_law 277 = .ok (.iconst 3, 1) := by decide +kernel
theorem dL_law_278 : decode cL_law 278 = .ok (.iadd, 1) := by decide +kernel
theorem dL_law_279 : decode cL_law 279 = .ok (.iaload, 1) := by decide +kernel
theorem dL_law_280 : decode cL_law 280 = .ok (.invokevirtual 23, 3) := by decide +kernel
theorem dL_law_283 : decode cL_law 283 = .ok (.aload_n 2, 1) := by decide +kernel
theorem dL_law_284 : decode cL_law 284 = .ok (.aload_n 0, 1) := by decide +kernel
theorem dL_law_285 : decode cL_law 285 = .ok (.iload_n 3, 1) := by decide +kernel
theorem dL_law_286 : decode cL_law 286 = .ok (.iconst 1, 1) := by decide +kernel
theorem dL_law_287 : decode cL_law 287 = .ok (.iadd, 1) := by decide +kernel
theorem dL_law_288 : decode cL_law 288 = .ok (.iaload, 1) := by decide +kernel
theorem dL_law_289 : decode cL_law 289 = .ok (.aload_n 0, 1) := by decide +kernel
theorem dL_law_290 : decode cL_law 290 = .ok (.iload_n 3, 1) := by decide +kernel
theorem dL_law_291 : decode cL_law 291 = .ok (.iconst 2, 1) := by decide +kernel
theorem dL_law_292 : decode cL_law 292 = .ok (.iadd, 1) := by decide +kernel
theorem dL_law_293 : decode cL_law 293 = .ok (.iaload, 1) := by decide +kernel
theorem dL_law_294 : decode cL_law 294 = .ok (.aload_n 0, 1) := by decide +kernel
theorem dL_law_295 : decode cL_law 295 = .ok (.iload_n 3, 1) := by decide +kernel
theorem dL_law_296 : decode cL_law 296 = .ok (.iconst 3, 1) := by decide +kernel
theorem dL_law_297 : decode cL_law 297 = .ok (.iadd, 1) := by decide +kernel
theorem dL_law_298 : decode cL_law 298 = .ok (.iaload, 1) := by decide +kernel
theorem dL_law_299 : decode cL_law 299 = .ok (.invokevirtual 26, 3) := by decide +kernel
theorem dL_law_302 : decode cL_law 302 = .ok (.if_icmp .eq 964, 3) := by decide +kernel
theorem dL_law_305 : decode cL_law 305 = .ok (.iconst 0, 1) := by decide +kernel
theorem dL_law_306 : decode cL_law 306 = .ok (.ireturn, 1) := by decide +kernel
theorem dL_law_307 : decode cL_law 307 = .ok (.aload_n 1, 1) := by decide +kernel
theorem dL_law_308 : decode cL_law 308 = .ok (.aload_n 0, 1) := by decide +kernel
theorem dL_law_309 : decode cL_law 309 = .ok (.iload_n 3, 1) := by decide +kernel
theorem dL_law_310 : decode cL_law 310 = .ok (.iconst 1, 1) := by decide +kernel
theorem dL_law_311 : decode cL_law 311 = .ok (.iadd, 1) := by decide +kernel
theorem dL_law_312 : decode cL_law 312 = .ok (.iaload, 1) := by decide +kernel
theorem dL_law_313 : decode cL_law 313 = .ok (.invokevirtual 27, 3) := by decide +kernel
theorem dL_law_316 : decode cL_law 316 = .ok (.aload_n 2, 1) := by decide +kernel
theorem dL_law_317 : decode cL_law 317 = .ok (.aload_n 0, 1) := by decide +kernel
theorem dL_law_318 : decode cL_law 318 = .ok (.iload_n 3, 1) := by decide +kernel
theorem dL_law_319 : decode cL_law 319 = .ok (.iconst 1, 1) := by decide +kernel
theorem dL_law_320 : decode cL_law 320 = .ok (.iadd, 1) := by decide +kernel
theorem dL_law_321 : decode cL_law 321 = .ok (.iaload, 1) := by decide +kernel
theorem dL_law_322 : decode cL_law 322 = .ok (.invokevirtual 31, 3) := by decide +kernel
theorem dL_law_325 : decode cL_law 325 = .ok (.if_icmp .eq 941, 3) := by decide +kernel
theorem dL_law_328 : decode cL_law 328 = .ok (.iconst 0, 1) := by decide +kernel
theorem dL_law_329 : decode cL_law 329 = .ok (.ireturn, 1) := by decide +kernel
theorem dL_law_330 : decode cL_law 330 = .ok (.aload_n 1, 1) := by decide +kernel
theorem dL_law_331 : decode cL_law 331 = .ok (.invokevirtual 32, 3) := by decide +kernel
theorem dL_law_334 : decode cL_law 334 = .ok (.aload_n 2, 1) := by decide +kernel
theorem dL_law_335 : decode cL_law 335 = .ok (.invokevirtual 36, 3) := by decide +kernel
theorem dL_law_338 : decode cL_law 338 = .ok (.if_icmp .eq 928, 3) := by decide +kernel
theorem dL_law_341 : decode cL_law 341 = .ok (.iconst 0, 1) := by decide +kernel
theorem dL_law_342 : decode cL_law 342 = .ok (.ireturn, 1) := by decide +kernel
theorem dL_law_343 : decode cL_law 343 = .ok (.aload_n 1, 1) := by decide +kernel
theorem dL_law_344 : decode cL_law 344 = .ok (.aload_n 0, 1) := by decide +kernel
theorem dL_law_345 : decode cL_law 345 = .ok (.iload_n 3, 1) := by decide +kernel
theorem dL_law_346 : decode cL_law 346 = .ok (.iconst 1, 1) := by decide +kernel
theorem dL_law_347 : decode cL_law 347 = .ok (.iadd, 1) := by decide +kernel
theorem dL_law_348 : decode cL_law 348 = .ok (.iaload, 1) := by decide +kernel
theorem dL_law_349 : decode cL_law 349 = .ok (.aload_n 0, 1) := by decide +kernel
theorem dL_law_350 : decode cL_law 350 = .ok (.iload_n 3, 1) := by decide +kernel
theorem dL_law_351 : decode cL_law 351 = .ok (.iconst 2, 1) := by decide +kernel
theorem dL_law_352 : decode cL_law 352 = .ok (.iadd, 1) := by decide +kernel
theorem dL_law_353 : decode cL_law 353 = .ok (.iaload, 1) := by decide +kernel
theorem dL_law_354 : decode cL_law 354 = .ok (.invokevirtual 37, 3) := by decide +kernel
theorem dL_law_357 : decode cL_law 357 = .ok (.aload_n 2, 1) := by decide +kernel
theorem dL_law_358 : decode cL_law 358 = .ok (.aload_n 0, 1) := by decide +kernel
theorem dL_law_359 : decode cL_law 359 = .ok (.iload_n 3, 1) := by decide +kernel
theorem dL_law_360 : decode cL_law 360 = .ok (.iconst 1, 1) := by decide +kernel
theorem dL_law_361 : decode cL_law 361 = .ok (.iadd, 1) := by decide +kernel
theorem dL_law_362 : decode cL_law 362 = .ok (.iaload, 1) := by decide +kernel
theorem dL_law_363 : decode cL_law 363 = .ok (.aload_n 0, 1) := by decide +kernel
theorem dL_law_364 : decode cL_law 364 = .ok (.iload_n 3, 1) := by decide +kernel
theorem dL_law_365 : decode cL_law 365 = .ok (.iconst 2, 1) := by decide +kernel
theorem dL_law_366 : decode cL_law 366 = .ok (.iadd, 1) := by decide +kernel
theorem dL_law_367 : decode cL_law 367 = .ok (.iaload, 1) := by decide +kernel
theorem dL_law_368 : decode cL_law 368 = .ok (.invokevirtual 40, 3) := by decide +kernel
theorem dL_law_371 : decode cL_law 371 = .ok (.if_icmp .eq 895, 3) := by decide +kernel
theorem dL_law_374 : decode cL_law 374 = .ok (.iconst 0, 1) := by decide +kernel
theorem dL_law_375 : decode cL_law 375 = .ok (.ireturn, 1) := by decide +kernel
theorem dL_law_376 : decode cL_law 376 = .ok (.aload_n 1, 1) := by decide +kernel
theorem dL_law_377 : decode cL_law 377 = .ok (.invokevirtual 41, 3) := by decide +kernel
theorem dL_law_380 : decode cL_law 380 = .ok (.aload_n 2, 1) := by decide +kernel
theorem dL_law_381 : decode cL_law 381 = .ok (.invokevirtual 44, 3) := by decide +kernel
theorem dL_law_384 : decode cL_law 384 = .ok (.if_icmp .eq 882, 3) := by decide +kernel
theorem dL_law_387 : decode cL_law 387 = .ok (.iconst 0, 1) := by decide +kernel
theorem dL_law_388 : decode cL_law 388 = .ok (.ireturn, 1) := by decide +kernel
theorem dL_law_389 : decode cL_law 389 = .ok (.aload_n 1, 1) := by decide +kernel
theorem dL_law_390 : decode cL_law 390 = .ok (.aload_n 0, 1) := by decide +kernel
theorem dL_law_391 : decode cL_law 391 = .ok (.iload_n 3, 1) := by decide +kernel
theorem dL_law_392 : decode cL_law 392 = .ok (.iconst 1, 1) := by decide +kernel
theorem dL_law_393 : decode cL_law 393 = .ok (.iadd, 1) := by decide +kernel
theorem dL_law_394 : decode cL_law 394 = .ok (.iaload, 1) := by decide +kernel
theorem dL_law_395 : decode cL_law 395 = .ok (.invokevirtual 45, 3) := by decide +kernel
theorem dL_law_398 : decode cL_law 398 = .ok (.aload_n 2, 1) := by decide +kernel
theorem dL_law_399 : decode cL_law 399 = .ok (.aload_n 0, 1) := by decide +kernel
theorem dL_law_400 : decode cL_law 400 = .ok (.iload_n 3, 1) := by decide +kernel
theorem dL_law_401 : decode cL_law 401 = .ok (.iconst 1, 1) := by decide +kernel
theorem dL_law_402 : decode cL_law 402 = .ok (.iadd, 1) := by decide +kernel
theorem dL_law_403 : decode cL_law 403 = .ok (.iaload, 1) := by decide +kernel
theorem dL_law_404 : decode cL_law 404 = .ok (.invokevirtual 48, 3) := by decide +kernel
theorem dL_law_407 : decode cL_law 407 = .ok (.if_icmp .eq 859, 3) := by decide +kernel
theorem dL_law_410 : decode cL_law 410 = .ok (.iconst 0, 1) := by decide +kernel
theorem dL_law_411 : decode cL_law 411 = .ok (.ireturn, 1) := by decide +kernel
theorem dL_law_412 : decode cL_law 412 = .ok (.aload_n 1, 1) := by decide +kernel
theorem dL_law_413 : decode cL_law 413 = .ok (.aload_n 0, 1) := by decide +kernel
theorem dL_law_414 : decode cL_law 414 = .ok (.iload_n 3, 1) := by decide +kernel
theorem dL_law_415 : decode cL_law 415 = .ok (.iconst 1, 1) := by decide +kernel
theorem dL_law_416 : decode cL_law 416 = .ok (.iadd, 1) := by decide +kernel
theorem dL_law_417 : decode cL_law 417 = .ok (.iaload, 1) := by decide +kernel
theorem dL_law_418 : decode cL_law 418 = .ok (.invokevirtual 49, 3) := by decide +kernel
theorem dL_law_421 : decode cL_law 421 = .ok (.aload_n 2, 1) := by decide +kernel
theorem dL_law_422 : decode cL_law 422 = .ok (.aload_n 0, 1) := by decide +kernel
theorem dL_law_423 : decode cL_law 423 = .ok (.iload_n 3, 1) := by decide +kernel
theorem dL_law_424 : decode cL_law 424 = .ok (.iconst 1, 1) := by decide +kernel
theorem dL_law_425 : decode cL_law 425 = .ok (.iadd, 1) := by decide +kernel
theorem dL_law_426 : decode cL_law 426 = .ok (.iaload, 1) := by decide +kernel
theorem dL_law_427 : decode cL_law 427 = .ok (.invokevirtual 52, 3) := by decide +kernel
theorem dL_law_430 : decode cL_law 430 = .ok (.if_icmp .eq 836, 3) := by decide +kernel
theorem dL_law_433 : decode cL_law 433 = .ok (.iconst 0, 1) := by decide +kernel
theorem dL_law_434 : decode cL_law 434 = .ok (.ireturn, 1) := by decide +kernel
theorem dL_law_435 : decode cL_law 435 = .ok (.aload_n 1, 1) := by decide +kernel
theorem dL_law_436 : decode cL_law 436 = .ok (.aload_n 0, 1) := by decide +kernel
theorem dL_law_437 : decode cL_law 437 = .ok (.iload_n 3, 1) := by decide +kernel
theorem dL_law_438 : decode cL_law 438 = .ok (.iconst 1, 1) := by decide +kernel
theorem dL_law_439 : decode cL_law 439 = .ok (.iadd, 1) := by decide +kernel
theorem dL_law_440 : decode cL_law 440 = .ok (.iaload, 1) := by decide +kernel
theorem dL_law_441 : decode cL_law 441 = .ok (.aload_n 0, 1) := by decide +kernel
theorem dL_law_442 : decode cL_law 442 = .ok (.iload_n 3, 1) := by decide +kernel
theorem dL_law_443 : decode cL_law 443 = .ok (.iconst 2, 1) := by decide +kernel
theorem dL_law_444 : decode cL_law 444 = .ok (.iadd, 1) := by decide +kernel
theorem dL_law_445 : decode cL_law 445 = .ok (.iaload, 1) := by decide +kernel
theorem dL_law_446 : decode cL_law 446 = .ok (.invokevirtual 53, 3) := by decide +kernel
theorem dL_law_449 : decode cL_law 449 = .ok (.aload_n 2, 1) := by decide +kernel
theorem dL_law_450 : decode cL_law 450 = .ok (.aload_n 0, 1) := by decide +kernel
theorem dL_law_451 : decode cL_law 451 = .ok (.iload_n 3, 1) := by decide +kernel
theorem dL_law_452 : decode cL_law 452 = .ok (.iconst 1, 1) := by decide +kernel
theorem dL_law_453 : decode cL_law 453 = .ok (.iadd, 1) := by decide +kernel
theorem dL_law_454 : decode cL_law 454 = .ok (.iaload, 1) := by decide +kernel
theorem dL_law_455 : decode cL_law 455 = .ok (.aload_n 0, 1) := by decide +kernel
theorem dL_law_456 : decode cL_law 456 = .ok (.iload_n 3, 1) := by decide +kernel
theorem dL_law_457 : decode cL_law 457 = .ok (.iconst 2, 1) := by decide +kernel
theorem dL_law_458 : decode cL_law 458 = .ok (.iadd, 1) := by decide +kernel
theorem dL_law_459 : decode cL_law 459 = .ok (.iaload, 1) := by decide +kernel
theorem dL_law_460 : decode cL_law 460 = .ok (.invokevirtual 56, 3) := by decide +kernel
theorem dL_law_463 : decode cL_law 463 = .ok (.if_icmp .eq 803, 3) := by decide +kernel
theorem dL_law_466 : decode cL_law 466 = .ok (.iconst 0, 1) := by decide +kernel
theorem dL_law_467 : decode cL_law 467 = .ok (.ireturn, 1) := by decide +kernel
theorem dL_law_468 : decode cL_law 468 = .ok (.aload_n 1, 1) := by decide +kernel
theorem dL_law_469 : decode cL_law 469 = .ok (.aload_n 0, 1) := by decide +kernel
theorem dL_law_470 : decode cL_law 470 = .ok (.iload_n 3, 1) := by decide +kernel
theorem dL_law_471 : decode cL_law 471 = .ok (.iconst 1, 1) := by decide +kernel
theorem dL_law_472 : decode cL_law 472 = .ok (.iadd, 1) := by decide +kernel
theorem dL_law_473 : decode cL_law 473 = .ok (.iaload, 1) := by decide +kernel
theorem dL_law_474 : decode cL_law 474 = .ok (.aload_n 0, 1) := by decide +kernel
theorem dL_law_475 : decode cL_law 475 = .ok (.iload_n 3, 1) := by decide +kernel
theorem dL_law_476 : decode cL_law 476 = .ok (.iconst 2, 1) := by decide +kernel
theorem dL_law_477 : decode cL_law 477 = .ok (.iadd, 1) := by decide +kernel
theorem dL_law_478 : decode cL_law 478 = .ok (.iaload, 1) := by decide +kernel
theorem dL_law_479 : decode cL_law 479 = .ok (.aload_n 0, 1) := by decide +kernel
theorem dL_law_480 : decode cL_law 480 = .ok (.iload_n 3, 1) := by decide +kernel
theorem dL_law_481 : decode cL_law 481 = .ok (.iconst 3, 1) := by decide +kernel
theorem dL_law_482 : decode cL_law 482 = .ok (.iadd, 1) := by decide +kernel
theorem dL_law_483 : decode cL_law 483 = .ok (.iaload, 1) := by decide +kernel
theorem dL_law_484 : decode cL_law 484 = .ok (.invokevirtual 57, 3) := by decide +kernel
theorem dL_law_487 : decode cL_law 487 = .ok (.aload_n 2, 1) := by decide +kernel
theorem dL_law_488 : decode cL_law 488 = .ok (.aload_n 0, 1) := by decide +kernel
theorem dL_law_489 : decode cL_law 489 = .ok (.iload_n 3, 1) := by decide +kernel
theorem dL_law_490 : decode cL_law 490 = .ok (.iconst 1, 1) := by decide +kernel
theorem dL_law_491 : decode cL_law 491 = .ok (.iadd, 1) := by decide +kernel
theorem dL_law_492 : decode cL_law 492 = .ok (.iaload, 1) := by decide +kernel
theorem dL_law_493 : decode cL_law 493 = .ok (.aload_n 0, 1) := by decide +kernel
theorem dL_law_494 : decode cL_law 494 = .ok (.iload_n 3, 1) := by decide +kernel
theorem dL_law_495 : decode cL_law 495 = .ok (.iconst 2, 1) := by decide +kernel
theorem dL_law_496 : decode cL_law 496 = .ok (.iadd, 1) := by decide +kernel
theorem dL_law_497 : decode cL_law 497 = .ok (.iaload, 1) := by decide +kernel
theorem dL_law_498 : decode cL_law 498 = .ok (.aload_n 0, 1) := by decide +kernel
theorem dL_law_499 : decode cL_law 499 = .ok (.iload_n 3, 1) := by decide +kernel
theorem dL_law_500 : decode cL_law 500 = .ok (.iconst 3, 1) := by decide +kernel
theorem dL_law_501 : decode cL_law 501 = .ok (.iadd, 1) := by decide +kernel
theorem dL_law_502 : decode cL_law 502 = .ok (.iaload, 1) := by decide +kernel
theorem dL_law_503 : decode cL_law 503 = .ok (.invokevirtual 60, 3) := by decide +kernel
theorem dL_law_506 : decode cL_law 506 = .ok (.if_icmp .eq 760, 3) := by decide +kernel
theorem dL_law_509 : decode cL_law 509 = .ok (.iconst 0, 1) := by decide +kernel
theorem dL_law_510 : decode cL_law 510 = .ok (.ireturn, 1) := by decide +kernel
theorem dL_law_511 : decode cL_law 511 = .ok (.aload_n 1, 1) := by decide +kernel
theorem dL_law_512 : decode cL_law 512 = .ok (.aload_n 0, 1) := by decide +kernel
theorem dL_law_513 : decode cL_law 513 = .ok (.iload_n 3, 1) := by decide +kernel
theorem dL_law_514 : decode cL_law 514 = .ok (.iconst 1, 1) := by decide +kernel
theorem dL_law_515 : decode cL_law 515 = .ok (.iadd, 1) := by decide +kernel
theorem dL_law_516 : decode cL_law 516 = .ok (.iaload, 1) := by decide +kernel
theorem dL_law_517 : decode cL_law 517 = .ok (.invokevirtual 61, 3) := by decide +kernel
theorem dL_law_520 : decode cL_law 520 = .ok (.aload_n 2, 1) := by decide +kernel
theorem dL_law_521 : decode cL_law 521 = .ok (.aload_n 0, 1) := by decide +kernel
theorem dL_law_522 : decode cL_law 522 = .ok (.iload_n 3, 1) := by decide +kernel
theorem dL_law_523 : decode cL_law 523 = .ok (.iconst 1, 1) := by decide +kernel
theorem dL_law_524 : decode cL_law 524 = .ok (.iadd, 1) := by decide +kernel
theorem dL_law_525 : decode cL_law 525 = .ok (.iaload, 1) := by decide +kernel
theorem dL_law_526 : decode cL_law 526 = .ok (.invokevirtual 64, 3) := by decide +kernel
theorem dL_law_529 : decode cL_law 529 = .ok (.if_icmp .eq 737, 3) := by decide +kernel
theorem dL_law_532 : decode cL_law 532 = .ok (.iconst 0, 1) := by decide +kernel
theorem dL_law_533 : decode cL_law 533 = .ok (.ireturn, 1) := by decide +kernel
theorem dL_law_534 : decode cL_law 534 = .ok (.aload_n 1, 1) := by decide +kernel
theorem dL_law_535 : decode cL_law 535 = .ok (.aload_n 0, 1) := by decide +kernel
theorem dL_law_536 : decode cL_law 536 = .ok (.iload_n 3, 1) := by decide +kernel
theorem dL_law_537 : decode cL_law 537 = .ok (.iconst 1, 1) := by decide +kernel
theorem dL_law_538 : decode cL_law 538 = .ok (.iadd, 1) := by decide +kernel
theorem dL_law_539 : decode cL_law 539 = .ok (.iaload, 1) := by decide +kernel
theorem dL_law_540 : decode cL_law 540 = .ok (.aload_n 0, 1) := by decide +kernel
theorem dL_law_541 : decode cL_law 541 = .ok (.iload_n 3, 1) := by decide +kernel
theorem dL_law_542 : decode cL_law 542 = .ok (.iconst 2, 1) := by decide +kernel
theorem dL_law_543 : decode cL_law 543 = .ok (.iadd, 1) := by decide +kernel
theorem dL_law_544 : decode cL_law 544 = .ok (.iaload, 1) := by decide +kernel
theorem dL_law_545 : decode cL_law 545 = .ok (.invokevirtual 65, 3) := by decide +kernel
theorem dL_law_548 : decode cL_law 548 = .ok (.aload_n 2, 1) := by decide +kernel
theorem dL_law_549 : decode cL_law 549 = .ok (.aload_n 0, 1) := by decide +kernel
theorem dL_law_550 : decode cL_law 550 = .ok (.iload_n 3, 1) := by decide +kernel
theorem dL_law_551 : decode cL_law 551 = .ok (.iconst 1, 1) := by decide +kernel
theorem dL_law_552 : decode cL_law 552 = .ok (.iadd, 1) := by decide +kernel
theorem dL_law_553 : decode cL_law 553 = .ok (.iaload, 1) := by decide +kernel
theorem dL_law_554 : decode cL_law 554 = .ok (.aload_n 0, 1) := by decide +kernel
theorem dL_law_555 : decode cL_law 555 = .ok (.iload_n 3, 1) := by decide +kernel
theorem dL_law_556 : decode cL_law 556 = .ok (.iconst 2, 1) := by decide +kernel
theorem dL_law_557 : decode cL_law 557 = .ok (.iadd, 1) := by decide +kernel
theorem dL_law_558 : decode cL_law 558 = .ok (.iaload, 1) := by decide +kernel
theorem dL_law_559 : decode cL_law 559 = .ok (.invokevirtual 68, 3) := by decide +kernel
theorem dL_law_562 : decode cL_law 562 = .ok (.if_icmp .eq 704, 3) := by decide +kernel
theorem dL_law_565 : decode cL_law 565 = .ok (.iconst 0, 1) := by decide +kernel
theorem dL_law_566 : decode cL_law 566 = .ok (.ireturn, 1) := by decide +kernel
theorem dL_law_567 : decode cL_law 567 = .ok (.aload_n 1, 1) := by decide +kernel
theorem dL_law_568 : decode cL_law 568 = .ok (.aload_n 0, 1) := by decide +kernel
theorem dL_law_569 : decode cL_law 569 = .ok (.iload_n 3, 1) := by decide +kernel
theorem dL_law_570 : decode cL_law 570 = .ok (.iconst 1, 1) := by decide +kernel
theorem dL_law_571 : decode cL_law 571 = .ok (.iadd, 1) := by decide +kernel
theorem dL_law_572 : decode cL_law 572 = .ok (.iaload, 1) := by decide +kernel
theorem dL_law_573 : decode cL_law 573 = .ok (.aload_n 0, 1) := by decide +kernel
theorem dL_law_574 : decode cL_law 574 = .ok (.iload_n 3, 1) := by decide +kernel
theorem dL_law_575 : decode cL_law 575 = .ok (.iconst 2, 1) := by decide +kernel
theorem dL_law_576 : decode cL_law 576 = .ok (.iadd, 1) := by decide +kernel
theorem dL_law_577 : decode cL_law 577 = .ok (.iaload, 1) := by decide +kernel
theorem dL_law_578 : decode cL_law 578 = .ok (.invokevirtual 69, 3) := by decide +kernel
theorem dL_law_581 : decode cL_law 581 = .ok (.aload_n 2, 1) := by decide +kernel
theorem dL_law_582 : decode cL_law 582 = .ok (.aload_n 0, 1) := by decide +kernel
theorem dL_law_583 : decode cL_law 583 = .ok (.iload_n 3, 1) := by decide +kernel
theorem dL_law_584 : decode cL_law 584 = .ok (.iconst 1, 1) := by decide +kernel
theorem dL_law_585 : decode cL_law 585 = .ok (.iadd, 1) := by decide +kernel
theorem dL_law_586 : decode cL_law 586 = .ok (.iaload, 1) := by decide +kernel
theorem dL_law_587 : decode cL_law 587 = .ok (.aload_n 0, 1) := by decide +kernel
theorem dL_law_588 : decode cL_law 588 = .ok (.iload_n 3, 1) := by decide +kernel
theorem dL_law_589 : decode cL_law 589 = .ok (.iconst 2, 1) := by decide +kernel
theorem dL_law_590 : decode cL_law 590 = .ok (.iadd, 1) := by decide +kernel
theorem dL_law_591 : decode cL_law 591 = .ok (.iaload, 1) := by decide +kernel
theorem dL_law_592 : decode cL_law 592 = .ok (.invokevirtual 72, 3) := by decide +kernel
theorem dL_law_595 : decode cL_law 595 = .ok (.if_icmp .eq 671, 3) := by decide +kernel
theorem dL_law_598 : decode cL_law 598 = .ok (.iconst 0, 1) := by decide +kernel
theorem dL_law_599 : decode cL_law 599 = .ok (.ireturn, 1) := by decide +kernel
theorem dL_law_600 : decode cL_law 600 = .ok (.aload_n 1, 1) := by decide +kernel
theorem dL_law_601 : decode cL_law 601 = .ok (.aload_n 0, 1) := by decide +kernel
theorem dL_law_602 : decode cL_law 602 = .ok (.iload_n 3, 1) := by decide +kernel
theorem dL_law_603 : decode cL_law 603 = .ok (.iconst 1, 1) := by decide +kernel
theorem dL_law_604 : decode cL_law 604 = .ok (.iadd, 1) := by decide +kernel
theorem dL_law_605 : decode cL_law 605 = .ok (.iaload, 1) := by decide +kernel
theorem dL_law_606 : decode cL_law 606 = .ok (.aload_n 0, 1) := by decide +kernel
theorem dL_law_607 : decode cL_law 607 = .ok (.iload_n 3, 1) := by decide +kernel
theorem dL_law_608 : decode cL_law 608 = .ok (.iconst 2, 1) := by decide +kernel
theorem dL_law_609 : decode cL_law 609 = .ok (.iadd, 1) := by decide +kernel
theorem dL_law_610 : decode cL_law 610 = .ok (.iaload, 1) := by decide +kernel
theorem dL_law_611 : decode cL_law 611 = .ok (.invokevirtual 73, 3) := by decide +kernel
theorem dL_law_614 : decode cL_law 614 = .ok (.aload_n 2, 1) := by decide +kernel
theorem dL_law_615 : decode cL_law 615 = .ok (.aload_n 0, 1) := by decide +kernel
theorem dL_law_616 : decode cL_law 616 = .ok (.iload_n 3, 1) := by decide +kernel
theorem dL_law_617 : decode cL_law 617 = .ok (.iconst 1, 1) := by decide +kernel
theorem dL_law_618 : decode cL_law 618 = .ok (.iadd, 1) := by decide +kernel
theorem dL_law_619 : decode cL_law 619 = .ok (.iaload, 1) := by decide +kernel
theorem dL_law_620 : decode cL_law 620 = .ok (.aload_n 0, 1) := by decide +kernel
theorem dL_law_621 : decode cL_law 621 = .ok (.iload_n 3, 1) := by decide +kernel
theorem dL_law_622 : decode cL_law 622 = .ok (.iconst 2, 1) := by decide +kernel
theorem dL_law_623 : decode cL_law 623 = .ok (.iadd, 1) := by decide +kernel
theorem dL_law_624 : decode cL_law 624 = .ok (.iaload, 1) := by decide +kernel
theorem dL_law_625 : decode cL_law 625 = .ok (.invokevirtual 76, 3) := by decide +kernel
theorem dL_law_628 : decode cL_law 628 = .ok (.if_icmp .eq 638, 3) := by decide +kernel
theorem dL_law_631 : decode cL_law 631 = .ok (.iconst 0, 1) := by decide +kernel
theorem dL_law_632 : decode cL_law 632 = .ok (.ireturn, 1) := by decide +kernel
theorem dL_law_633 : decode cL_law 633 = .ok (.aload_n 1, 1) := by decide +kernel
theorem dL_law_634 : decode cL_law 634 = .ok (.aload_n 0, 1) := by decide +kernel
theorem dL_law_635 : decode cL_law 635 = .ok (.iload_n 3, 1) := by decide +kernel
theorem dL_law_636 : decode cL_law 636 = .ok (.iconst 1, 1) := by decide +kernel
theorem dL_law_637 : decode cL_law 637 = .ok (.iadd, 1) := by decide +kernel
theorem dL_law_638 : decode cL_law 638 = .ok (.iaload, 1) := by decide +kernel
theorem dL_law_639 : decode cL_law 639 = .ok (.invokevirtual 77, 3) := by decide +kernel
theorem dL_law_642 : decode cL_law 642 = .ok (.aload_n 2, 1) := by decide +kernel
theorem dL_law_643 : decode cL_law 643 = .ok (.aload_n 0, 1) := by decide +kernel
theorem dL_law_644 : decode cL_law 644 = .ok (.iload_n 3, 1) := by decide +kernel
theorem dL_law_645 : decode cL_law 645 = .ok (.iconst 1, 1) := by decide +kernel
theorem dL_law_646 : decode cL_law 646 = .ok (.iadd, 1) := by decide +kernel
theorem dL_law_647 : decode cL_law 647 = .ok (.iaload, 1) := by decide +kernel
theorem dL_law_648 : decode cL_law 648 = .ok (.invokevirtual 80, 3) := by decide +kernel
theorem dL_law_651 : decode cL_law 651 = .ok (.if_icmp .eq 615, 3) := by decide +kernel
theorem dL_law_654 : decode cL_law 654 = .ok (.iconst 0, 1) := by decide +kernel
theorem dL_law_655 : decode cL_law 655 = .ok (.ireturn, 1) := by decide +kernel
theorem dL_law_656 : decode cL_law 656 = .ok (.aload_n 1, 1) := by decide +kernel
theorem dL_law_657 : decode cL_law 657 = .ok (.aload_n 0, 1) := by decide +kernel
theorem dL_law_658 : decode cL_law 658 = .ok (.iload_n 3, 1) := by decide +kernel
theorem dL_law_659 : decode cL_law 659 = .ok (.iconst 1, 1) := by decide +kernel
theorem dL_law_660 : decode cL_law 660 = .ok (.iadd, 1) := by decide +kernel
theorem dL_law_661 : decode cL_law 661 = .ok (.iaload, 1) := by decide +kernel
theorem dL_law_662 : decode cL_law 662 = .ok (.invokevirtual 81, 3) := by decide +kernel
theorem dL_law_665 : decode cL_law 665 = .ok (.aload_n 2, 1) := by decide +kernel
theorem dL_law_666 : decode cL_law 666 = .ok (.aload_n 0, 1) := by decide +kernel
theorem dL_law_667 : decode cL_law 667 = .ok (.iload_n 3, 1) := by decide +kernel
theorem dL_law_668 : decode cL_law 668 = .ok (.iconst 1, 1) := by decide +kernel
theorem dL_law_669 : decode cL_law 669 = .ok (.iadd, 1) := by decide +kernel
theorem dL_law_670 : decode cL_law 670 = .ok (.iaload, 1) := by decide +kernel
theorem dL_law_671 : decode cL_law 671 = .ok (.invokevirtual 84, 3) := by decide +kernel
theorem dL_law_674 : decode cL_law 674 = .ok (.if_icmp .eq 592, 3) := by decide +kernel
theorem dL_law_677 : decode cL_law 677 = .ok (.iconst 0, 1) := by decide +kernel
theorem dL_law_678 : decode cL_law 678 = .ok (.ireturn, 1) := by decide +kernel
theorem dL_law_679 : decode cL_law 679 = .ok (.aload_n 1, 1) := by decide +kernel
theorem dL_law_680 : decode cL_law 680 = .ok (.aload_n 0, 1) := by decide +kernel
theorem dL_law_681 : decode cL_law 681 = .ok (.iload_n 3, 1) := by decide +kernel
theorem dL_law_682 : decode cL_law 682 = .ok (.iconst 1, 1) := by decide +kernel
theorem dL_law_683 : decode cL_law 683 = .ok (.iadd, 1) := by decide +kernel
theorem dL_law_684 : decode cL_law 684 = .ok (.iaload, 1) := by decide +kernel
theorem dL_law_685 : decode cL_law 685 = .ok (.aload_n 0, 1) := by decide +kernel
theorem dL_law_686 : decode cL_law 686 = .ok (.iload_n 3, 1) := by decide +kernel
theorem dL_law_687 : decode cL_law 687 = .ok (.iconst 2, 1) := by decide +kernel
theorem dL_law_688 : decode cL_law 688 = .ok (.iadd, 1) := by decide +kernel
theorem dL_law_689 : decode cL_law 689 = .ok (.iaload, 1) := by decide +kernel
theorem dL_law_690 : decode cL_law 690 = .ok (.aload_n 0, 1) := by decide +kernel
theorem dL_law_691 : decode cL_law 691 = .ok (.iload_n 3, 1) := by decide +kernel
theorem dL_law_692 : decode cL_law 692 = .ok (.iconst 3, 1) := by decide +kernel
theorem dL_law_693 : decode cL_law 693 = .ok (.iadd, 1) := by decide +kernel
theorem dL_law_694 : decode cL_law 694 = .ok (.iaload, 1) := by decide +kernel
theorem dL_law_695 : decode cL_law 695 = .ok (.invokevirtual 85, 3) := by decide +kernel
theorem dL_law_698 : decode cL_law 698 = .ok (.aload_n 2, 1) := by decide +kernel
theorem dL_law_699 : decode cL_law 699 = .ok (.aload_n 0, 1) := by decide +kernel
theorem dL_law_700 : decode cL_law 700 = .ok (.iload_n 3, 1) := by decide +kernel
theorem dL_law_701 : decode cL_law 701 = .ok (.iconst 1, 1) := by decide +kernel
theorem dL_law_702 : decode cL_law 702 = .ok (.iadd, 1) := by decide +kernel
theorem dL_law_703 : decode cL_law 703 = .ok (.iaload, 1) := by decide +kernel
theorem dL_law_704 : decode cL_law 704 = .ok (.aload_n 0, 1) := by decide +kernel
theorem dL_law_705 : decode cL_law 705 = .ok (.iload_n 3, 1) := by decide +kernel
theorem dL_law_706 : decode cL_law 706 = .ok (.iconst 2, 1) := by decide +kernel
theorem dL_law_707 : decode cL_law 707 = .ok (.iadd, 1) := by decide +kernel
theorem dL_law_708 : decode cL_law 708 = .ok (.iaload, 1) := by decide +kernel
theorem dL_law_709 : decode cL_law 709 = .ok (.aload_n 0, 1) := by decide +kernel
theorem dL_law_710 : decode cL_law 710 = .ok (.iload_n 3, 1) := by decide +kernel
theorem dL_law_711 : decode cL_law 711 = .ok (.iconst 3, 1) := by decide +kernel
theorem dL_law_712 : decode cL_law 712 = .ok (.iadd, 1) := by decide +kernel
theorem dL_law_713 : decode cL_law 713 = .ok (.iaload, 1) := by decide +kernel
theorem dL_law_714 : decode cL_law 714 = .ok (.invokevirtual 89, 3) := by decide +kernel
theorem dL_law_717 : decode cL_law 717 = .ok (.lcmp, 1) := by decide +kernel
theorem dL_law_718 : decode cL_law 718 = .ok (.ifCond .eq 548, 3) := by decide +kernel
theorem dL_law_721 : decode cL_law 721 = .ok (.iconst 0, 1) := by decide +kernel
theorem dL_law_722 : decode cL_law 722 = .ok (.ireturn, 1) := by decide +kernel
theorem dL_law_723 : decode cL_law 723 = .ok (.aload_n 1, 1) := by decide +kernel
theorem dL_law_724 : decode cL_law 724 = .ok (.aload_n 0, 1) := by decide +kernel
theorem dL_law_725 : decode cL_law 725 = .ok (.iload_n 3, 1) := by decide +kernel
theorem dL_law_726 : decode cL_law 726 = .ok (.iconst 1, 1) := by decide +kernel
theorem dL_law_727 : decode cL_law 727 = .ok (.iadd, 1) := by decide +kernel
theorem dL_law_728 : decode cL_law 728 = .ok (.iaload, 1) := by decide +kernel
theorem dL_law_729 : decode cL_law 729 = .ok (.aload_n 0, 1) := by decide +kernel
theorem dL_law_730 : decode cL_law 730 = .ok (.iload_n 3, 1) := by decide +kernel
theorem dL_law_731 : decode cL_law 731 = .ok (.iconst 2, 1) := by decide +kernel
theorem dL_law_732 : decode cL_law 732 = .ok (.iadd, 1) := by decide +kernel
theorem dL_law_733 : decode cL_law 733 = .ok (.iaload, 1) := by decide +kernel
theorem dL_law_734 : decode cL_law 734 = .ok (.invokevirtual 90, 3) := by decide +kernel
theorem dL_law_737 : decode cL_law 737 = .ok (.aload_n 2, 1) := by decide +kernel
theorem dL_law_738 : decode cL_law 738 = .ok (.aload_n 0, 1) := by decide +kernel
theorem dL_law_739 : decode cL_law 739 = .ok (.iload_n 3, 1) := by decide +kernel
theorem dL_law_740 : decode cL_law 740 = .ok (.iconst 1, 1) := by decide +kernel
theorem dL_law_741 : decode cL_law 741 = .ok (.iadd, 1) := by decide +kernel
theorem dL_law_742 : decode cL_law 742 = .ok (.iaload, 1) := by decide +kernel
theorem dL_law_743 : decode cL_law 743 = .ok (.aload_n 0, 1) := by decide +kernel
theorem dL_law_744 : decode cL_law 744 = .ok (.iload_n 3, 1) := by decide +kernel
theorem dL_law_745 : decode cL_law 745 = .ok (.iconst 2, 1) := by decide +kernel
theorem dL_law_746 : decode cL_law 746 = .ok (.iadd, 1) := by decide +kernel
theorem dL_law_747 : decode cL_law 747 = .ok (.iaload, 1) := by decide +kernel
theorem dL_law_748 : decode cL_law 748 = .ok (.invokevirtual 94, 3) := by decide +kernel
theorem dL_law_751 : decode cL_law 751 = .ok (.lcmp, 1) := by decide +kernel
theorem dL_law_752 : decode cL_law 752 = .ok (.ifCond .eq 514, 3) := by decide +kernel
theorem dL_law_755 : decode cL_law 755 = .ok (.iconst 0, 1) := by decide +kernel
theorem dL_law_756 : decode cL_law 756 = .ok (.ireturn, 1) := by decide +kernel
theorem dL_law_757 : decode cL_law 757 = .ok (.aload_n 1, 1) := by decide +kernel
theorem dL_law_758 : decode cL_law 758 = .ok (.aload_n 0, 1) := by decide +kernel
theorem dL_law_759 : decode cL_law 759 = .ok (.iload_n 3, 1) := by decide +kernel
theorem dL_law_760 : decode cL_law 760 = .ok (.iconst 1, 1) := by decide +kernel
theorem dL_law_761 : decode cL_law 761 = .ok (.iadd, 1) := by decide +kernel
theorem dL_law_762 : decode cL_law 762 = .ok (.iaload, 1) := by decide +kernel
theorem dL_law_763 : decode cL_law 763 = .ok (.aload_n 0, 1) := by decide +kernel
theorem dL_law_764 : decode cL_law 764 = .ok (.iload_n 3, 1) := by decide +kernel
theorem dL_law_765 : decode cL_law 765 = .ok (.iconst 2, 1) := by decide +kernel
theorem dL_law_766 : decode cL_law 766 = .ok (.iadd, 1) := by decide +kernel
theorem dL_law_767 : decode cL_law 767 = .ok (.iaload, 1) := by decide +kernel
theorem dL_law_768 : decode cL_law 768 = .ok (.aload_n 0, 1) := by decide +kernel
theorem dL_law_769 : decode cL_law 769 = .ok (.iload_n 3, 1) := by decide +kernel
theorem dL_law_770 : decode cL_law 770 = .ok (.iconst 3, 1) := by decide +kernel
theorem dL_law_771 : decode cL_law 771 = .ok (.iadd, 1) := by decide +kernel
theorem dL_law_772 : decode cL_law 772 = .ok (.iaload, 1) := by decide +kernel
theorem dL_law_773 : decode cL_law 773 = .ok (.invokevirtual 95, 3) := by decide +kernel
theorem dL_law_776 : decode cL_law 776 = .ok (.aload_n 2, 1) := by decide +kernel
theorem dL_law_777 : decode cL_law 777 = .ok (.aload_n 0, 1) := by decide +kernel
theorem dL_law_778 : decode cL_law 778 = .ok (.iload_n 3, 1) := by decide +kernel
theorem dL_law_779 : decode cL_law 779 = .ok (.iconst 1, 1) := by decide +kernel
theorem dL_law_780 : decode cL_law 780 = .ok (.iadd, 1) := by decide +kernel
theorem dL_law_781 : decode cL_law 781 = .ok (.iaload, 1) := by decide +kernel
theorem dL_law_782 : decode cL_law 782 = .ok (.aload_n 0, 1) := by decide +kernel
theorem dL_law_783 : decode cL_law 783 = .ok (.iload_n 3, 1) := by decide +kernel
theorem dL_law_784 : decode cL_law 784 = .ok (.iconst 2, 1) := by decide +kernel
theorem dL_law_785 : decode cL_law 785 = .ok (.iadd, 1) := by decide +kernel
theorem dL_law_786 : decode cL_law 786 = .ok (.iaload, 1) := by decide +kernel
theorem dL_law_787 : decode cL_law 787 = .ok (.aload_n 0, 1) := by decide +kernel
theorem dL_law_788 : decode cL_law 788 = .ok (.iload_n 3, 1) := by decide +kernel
theorem dL_law_789 : decode cL_law 789 = .ok (.iconst 3, 1) := by decide +kernel
theorem dL_law_790 : decode cL_law 790 = .ok (.iadd, 1) := by decide +kernel
theorem dL_law_791 : decode cL_law 791 = .ok (.iaload, 1) := by decide +kernel
theorem dL_law_792 : decode cL_law 792 = .ok (.invokevirtual 98, 3) := by decide +kernel
theorem dL_law_795 : decode cL_law 795 = .ok (.if_icmp .eq 471, 3) := by decide +kernel
theorem dL_law_798 : decode cL_law 798 = .ok (.iconst 0, 1) := by decide +kernel
theorem dL_law_799 : decode cL_law 799 = .ok (.ireturn, 1) := by decide +kernel
theorem dL_law_800 : decode cL_law 800 = .ok (.aload_n 1, 1) := by decide +kernel
theorem dL_law_801 : decode cL_law 801 = .ok (.aload_n 0, 1) := by decide +kernel
theorem dL_law_802 : decode cL_law 802 = .ok (.iload_n 3, 1) := by decide +kernel
theorem dL_law_803 : decode cL_law 803 = .ok (.iconst 1, 1) := by decide +kernel
theorem dL_law_804 : decode cL_law 804 = .ok (.iadd, 1) := by decide +kernel
theorem dL_law_805 : decode cL_law 805 = .ok (.iaload, 1) := by decide +kernel
theorem dL_law_806 : decode cL_law 806 = .ok (.invokevirtual 99, 3) := by decide +kernel
theorem dL_law_809 : decode cL_law 809 = .ok (.aload_n 2, 1) := by decide +kernel
theorem dL_law_810 : decode cL_law 810 = .ok (.aload_n 0, 1) := by decide +kernel
theorem dL_law_811 : decode cL_law 811 = .ok (.iload_n 3, 1) := by decide +kernel
theorem dL_law_812 : decode cL_law 812 = .ok (.iconst 1, 1) := by decide +kernel
theorem dL_law_813 : decode cL_law 813 = .ok (.iadd, 1) := by decide +kernel
theorem dL_law_814 : decode cL_law 814 = .ok (.iaload, 1) := by decide +kernel
theorem dL_law_815 : decode cL_law 815 = .ok (.invokevirtual 102, 3) := by decide +kernel
theorem dL_law_818 : decode cL_law 818 = .ok (.if_icmp .eq 448, 3) := by decide +kernel
theorem dL_law_821 : decode cL_law 821 = .ok (.iconst 0, 1) := by decide +kernel
theorem dL_law_822 : decode cL_law 822 = .ok (.ireturn, 1) := by decide +kernel
theorem dL_law_823 : decode cL_law 823 = .ok (.aload_n 1, 1) := by decide +kernel
theorem dL_law_824 : decode cL_law 824 = .ok (.invokevirtual 103, 3) := by decide +kernel
theorem dL_law_827 : decode cL_law 827 = .ok (.aload_n 2, 1) := by decide +kernel
theorem dL_law_828 : decode cL_law 828 = .ok (.invokevirtual 106, 3) := by decide +kernel
theorem dL_law_831 : decode cL_law 831 = .ok (.if_icmp .eq 435, 3) := by decide +kernel
theorem dL_law_834 : decode cL_law 834 = .ok (.iconst 0, 1) := by decide +kernel
theorem dL_law_835 : decode cL_law 835 = .ok (.ireturn, 1) := by decide +kernel
theorem dL_law_836 : decode cL_law 836 = .ok (.aload_n 1, 1) := by decide +kernel
theorem dL_law_837 : decode cL_law 837 = .ok (.invokevirtual 107, 3) := by decide +kernel
theorem dL_law_840 : decode cL_law 840 = .ok (.aload_n 2, 1) := by decide +kernel
theorem dL_law_841 : decode cL_law 841 = .ok (.invokevirtual 110, 3) := by decide +kernel
theorem dL_law_844 : decode cL_law 844 = .ok (.if_icmp .eq 422, 3) := by decide +kernel
theorem dL_law_847 : decode cL_law 847 = .ok (.iconst 0, 1) := by decide +kernel
theorem dL_law_848 : decode cL_law 848 = .ok (.ireturn, 1) := by decide +kernel
theorem dL_law_849 : decode cL_law 849 = .ok (.aload_n 1, 1) := by decide +kernel
theorem dL_law_850 : decode cL_law 850 = .ok (.invokevirtual 111, 3) := by decide +kernel
theorem dL_law_853 : decode cL_law 853 = .ok (.aload_n 2, 1) := by decide +kernel
theorem dL_law_854 : decode cL_law 854 = .ok (.invokevirtual 114, 3) := by decide +kernel
theorem dL_law_857 : decode cL_law 857 = .ok (.if_icmp .eq 409, 3) := by decide +kernel
theorem dL_law_860 : decode cL_law 860 = .ok (.iconst 0, 1) := by decide +kernel
theorem dL_law_861 : decode cL_law 861 = .ok (.ireturn, 1) := by decide +kernel
theorem dL_law_862 : decode cL_law 862 = .ok (.aload_n 1, 1) := by decide +kernel
theorem dL_law_863 : decode cL_law 863 = .ok (.invokevirtual 115, 3) := by decide +kernel
theorem dL_law_866 : decode cL_law 866 = .ok (.aload_n 2, 1) := by decide +kernel
theorem dL_law_867 : decode cL_law 867 = .ok (.invokevirtual 118, 3) := by decide +kernel
theorem dL_law_870 : decode cL_law 870 = .ok (.if_icmp .eq 396, 3) := by decide +kernel
theorem dL_law_873 : decode cL_law 873 = .ok (.iconst 0, 1) := by decide +kernel
theorem dL_law_874 : decode cL_law 874 = .ok (.ireturn, 1) := by decide +kernel
theorem dL_law_875 : decode cL_law 875 = .ok (.aload_n 1, 1) := by decide +kernel
theorem dL_law_876 : decode cL_law 876 = .ok (.aload_n 0, 1) := by decide +kernel
theorem dL_law_877 : decode cL_law 877 = .ok (.iload_n 3, 1) := by decide +kernel
theorem dL_law_878 : decode cL_law 878 = .ok (.iconst 1, 1) := by decide +kernel
theorem dL_law_879 : decode cL_law 879 = .ok (.iadd, 1) := by decide +kernel
theorem dL_law_880 : decode cL_law 880 = .ok (.iaload, 1) := by decide +kernel
theorem dL_law_881 : decode cL_law 881 = .ok (.invokevirtual 119, 3) := by decide +kernel
theorem dL_law_884 : decode cL_law 884 = .ok (.aload_n 2, 1) := by decide +kernel
theorem dL_law_885 : decode cL_law 885 = .ok (.aload_n 0, 1) := by decide +kernel
theorem dL_law_886 : decode cL_law 886 = .ok (.iload_n 3, 1) := by decide +kernel
theorem dL_law_887 : decode cL_law 887 = .ok (.iconst 1, 1) := by decide +kernel
theorem dL_law_888 : decode cL_law 888 = .ok (.iadd, 1) := by decide +kernel
theorem dL_law_889 : decode cL_law 889 = .ok (.iaload, 1) := by decide +kernel
theorem dL_law_890 : decode cL_law 890 = .ok (.invokevirtual 122, 3) := by decide +kernel
theorem dL_law_893 : decode cL_law 893 = .ok (.if_icmp .eq 373, 3) := by decide +kernel
theorem dL_law_896 : decode cL_law 896 = .ok (.iconst 0, 1) := by decide +kernel
theorem dL_law_897 : decode cL_law 897 = .ok (.ireturn, 1) := by decide +kernel
theorem dL_law_898 : decode cL_law 898 = .ok (.aload_n 1, 1) := by decide +kernel
theorem dL_law_899 : decode cL_law 899 = .ok (.aload_n 0, 1) := by decide +kernel
theorem dL_law_900 : decode cL_law 900 = .ok (.iload_n 3, 1) := by decide +kernel
theorem dL_law_901 : decode cL_law 901 = .ok (.iconst 1, 1) := by decide +kernel
theorem dL_law_902 : decode cL_law 902 = .ok (.iadd, 1) := by decide +kernel
theorem dL_law_903 : decode cL_law 903 = .ok (.iaload, 1) := by decide +kernel
theorem dL_law_904 : decode cL_law 904 = .ok (.aload_n 0, 1) := by decide +kernel
theorem dL_law_905 : decode cL_law 905 = .ok (.iload_n 3, 1) := by decide +kernel
theorem dL_law_906 : decode cL_law 906 = .ok (.iconst 2, 1) := by decide +kernel
theorem dL_law_907 : decode cL_law 907 = .ok (.iadd, 1) := by decide +kernel
theorem dL_law_908 : decode cL_law 908 = .ok (.iaload, 1) := by decide +kernel
theorem dL_law_909 : decode cL_law 909 = .ok (.aload_n 0, 1) := by decide +kernel
theorem dL_law_910 : decode cL_law 910 = .ok (.iload_n 3, 1) := by decide +kernel
theorem dL_law_911 : decode cL_law 911 = .ok (.iconst 3, 1) := by decide +kernel
theorem dL_law_912 : decode cL_law 912 = .ok (.iadd, 1) := by decide +kernel
theorem dL_law_913 : decode cL_law 913 = .ok (.iaload, 1) := by decide +kernel
theorem dL_law_914 : decode cL_law 914 = .ok (.invokevirtual 123, 3) := by decide +kernel
theorem dL_law_917 : decode cL_law 917 = .ok (.aload_n 2, 1) := by decide +kernel
theorem dL_law_918 : decode cL_law 918 = .ok (.aload_n 0, 1) := by decide +kernel
theorem dL_law_919 : decode cL_law 919 = .ok (.iload_n 3, 1) := by decide +kernel
theorem dL_law_920 : decode cL_law 920 = .ok (.iconst 1, 1) := by decide +kernel
theorem dL_law_921 : decode cL_law 921 = .ok (.iadd, 1) := by decide +kernel
theorem dL_law_922 : decode cL_law 922 = .ok (.iaload, 1) := by decide +kernel
theorem dL_law_923 : decode cL_law 923 = .ok (.aload_n 0, 1) := by decide +kernel
theorem dL_law_924 : decode cL_law 924 = .ok (.iload_n 3, 1) := by decide +kernel
theorem dL_law_925 : decode cL_law 925 = .ok (.iconst 2, 1) := by decide +kernel
theorem dL_law_926 : decode cL_law 926 = .ok (.iadd, 1) := by decide +kernel
theorem dL_law_927 : decode cL_law 927 = .ok (.iaload, 1) := by decide +kernel
theorem dL_law_928 : decode cL_law 928 = .ok (.aload_n 0, 1) := by decide +kernel
theorem dL_law_929 : decode cL_law 929 = .ok (.iload_n 3, 1) := by decide +kernel
theorem dL_law_930 : decode cL_law 930 = .ok (.iconst 3, 1) := by decide +kernel
theorem dL_law_931 : decode cL_law 931 = .ok (.iadd, 1) := by decide +kernel
theorem dL_law_932 : decode cL_law 932 = .ok (.iaload, 1) := by decide +kernel
theorem dL_law_933 : decode cL_law 933 = .ok (.invokevirtual 126, 3) := by decide +kernel
theorem dL_law_936 : decode cL_law 936 = .ok (.if_icmp .eq 330, 3) := by decide +kernel
theorem dL_law_939 : decode cL_law 939 = .ok (.iconst 0, 1) := by decide +kernel
theorem dL_law_940 : decode cL_law 940 = .ok (.ireturn, 1) := by decide +kernel
theorem dL_law_941 : decode cL_law 941 = .ok (.aload_n 1, 1) := by decide +kernel
theorem dL_law_942 : decode cL_law 942 = .ok (.aload_n 0, 1) := by decide +kernel
theorem dL_law_943 : decode cL_law 943 = .ok (.iload_n 3, 1) := by decide +kernel
theorem dL_law_944 : decode cL_law 944 = .ok (.iconst 1, 1) := by decide +kernel
theorem dL_law_945 : decode cL_law 945 = .ok (.iadd, 1) := by decide +kernel
theorem dL_law_946 : decode cL_law 946 = .ok (.iaload, 1) := by decide +kernel
theorem dL_law_947 : decode cL_law 947 = .ok (.invokevirtual 127, 3) := by decide +kernel
theorem dL_law_950 : decode cL_law 950 = .ok (.aload_n 2, 1) := by decide +kernel
theorem dL_law_951 : decode cL_law 951 = .ok (.aload_n 0, 1) := by decide +kernel
theorem dL_law_952 : decode cL_law 952 = .ok (.iload_n 3, 1) := by decide +kernel
theorem dL_law_953 : decode cL_law 953 = .ok (.iconst 1, 1) := by decide +kernel
theorem dL_law_954 : decode cL_law 954 = .ok (.iadd, 1) := by decide +kernel
theorem dL_law_955 : decode cL_law 955 = .ok (.iaload, 1) := by decide +kernel
theorem dL_law_956 : decode cL_law 956 = .ok (.invokevirtual 130, 3) := by decide +kernel
theorem dL_law_959 : decode cL_law 959 = .ok (.if_icmp .eq 307, 3) := by decide +kernel
theorem dL_law_962 : decode cL_law 962 = .ok (.iconst 0, 1) := by decide +kernel
theorem dL_law_963 : decode cL_law 963 = .ok (.ireturn, 1) := by decide +kernel
theorem dL_law_964 : decode cL_law 964 = .ok (.aload_n 1, 1) := by decide +kernel
theorem dL_law_965 : decode cL_law 965 = .ok (.aload_n 0, 1) := by decide +kernel
theorem dL_law_966 : decode cL_law 966 = .ok (.iload_n 3, 1) := by decide +kernel
theorem dL_law_967 : decode cL_law 967 = .ok (.iconst 1, 1) := by decide +kernel
theorem dL_law_968 : decode cL_law 968 = .ok (.iadd, 1) := by decide +kernel
theorem dL_law_969 : decode cL_law 969 = .ok (.iaload, 1) := by decide +kernel
theorem dL_law_970 : decode cL_law 970 = .ok (.aload_n 0, 1) := by decide +kernel
theorem dL_law_971 : decode cL_law 971 = .ok (.iload_n 3, 1) := by decide +kernel
theorem dL_law_972 : decode cL_law 972 = .ok (.iconst 2, 1) := by decide +kernel
theorem dL_law_973 : decode cL_law 973 = .ok (.iadd, 1) := by decide +kernel
theorem dL_law_974 : decode cL_law 974 = .ok (.iaload, 1) := by decide +kernel
theorem dL_law_975 : decode cL_law 975 = .ok (.invokevirtual 131, 3) := by decide +kernel
theorem dL_law_978 : decode cL_law 978 = .ok (.aload_n 2, 1) := by decide +kernel
theorem dL_law_979 : decode cL_law 979 = .ok (.aload_n 0, 1) := by decide +kernel
theorem dL_law_980 : decode cL_law 980 = .ok (.iload_n 3, 1) := by decide +kernel
theorem dL_law_981 : decode cL_law 981 = .ok (.iconst 1, 1) := by decide +kernel
theorem dL_law_982 : decode cL_law 982 = .ok (.iadd, 1) := by decide +kernel
theorem dL_law_983 : decode cL_law 983 = .ok (.iaload, 1) := by decide +kernel
theorem dL_law_984 : decode cL_law 984 = .ok (.aload_n 0, 1) := by decide +kernel
theorem dL_law_985 : decode cL_law 985 = .ok (.iload_n 3, 1) := by decide +kernel
theorem dL_law_986 : decode cL_law 986 = .ok (.iconst 2, 1) := by decide +kernel
theorem dL_law_987 : decode cL_law 987 = .ok (.iadd, 1) := by decide +kernel
theorem dL_law_988 : decode cL_law 988 = .ok (.iaload, 1) := by decide +kernel
theorem dL_law_989 : decode cL_law 989 = .ok (.invokevirtual 134, 3) := by decide +kernel
theorem dL_law_992 : decode cL_law 992 = .ok (.if_icmp .eq 274, 3) := by decide +kernel
theorem dL_law_995 : decode cL_law 995 = .ok (.iconst 0, 1) := by decide +kernel
theorem dL_law_996 : decode cL_law 996 = .ok (.ireturn, 1) := by decide +kernel
theorem dL_law_997 : decode cL_law 997 = .ok (.aload_n 1, 1) := by decide +kernel
theorem dL_law_998 : decode cL_law 998 = .ok (.aload_n 0, 1) := by decide +kernel
theorem dL_law_999 : decode cL_law 999 = .ok (.iload_n 3, 1) := by decide +kernel
theorem dL_law_1000 : decode cL_law 1000 = .ok (.iconst 1, 1) := by decide +kernel
theorem dL_law_1001 : decode cL_law 1001 = .ok (.iadd, 1) := by decide +kernel
theorem dL_law_1002 : decode cL_law 1002 = .ok (.iaload, 1) := by decide +kernel
theorem dL_law_1003 : decode cL_law 1003 = .ok (.aload_n 0, 1) := by decide +kernel
theorem dL_law_1004 : decode cL_law 1004 = .ok (.iload_n 3, 1) := by decide +kernel
theorem dL_law_1005 : decode cL_law 1005 = .ok (.iconst 2, 1) := by decide +kernel
theorem dL_law_1006 : decode cL_law 1006 = .ok (.iadd, 1) := by decide +kernel
theorem dL_law_1007 : decode cL_law 1007 = .ok (.iaload, 1) := by decide +kernel
theorem dL_law_1008 : decode cL_law 1008 = .ok (.aload_n 0, 1) := by decide +kernel
theorem dL_law_1009 : decode cL_law 1009 = .ok (.iload_n 3, 1) := by decide +kernel
theorem dL_law_1010 : decode cL_law 1010 = .ok (.iconst 3, 1) := by decide +kernel
theorem dL_law_1011 : decode cL_law 1011 = .ok (.iadd, 1) := by decide +kernel
theorem dL_law_1012 : decode cL_law 1012 = .ok (.iaload, 1) := by decide +kernel
theorem dL_law_1013 : decode cL_law 1013 = .ok (.invokevirtual 135, 3) := by decide +kernel
theorem dL_law_1016 : decode cL_law 1016 = .ok (.aload_n 2, 1) := by decide +kernel
theorem dL_law_1017 : decode cL_law 1017 = .ok (.aload_n 0, 1) := by decide +kernel
theorem dL_law_1018 : decode cL_law 1018 = .ok (.iload_n 3, 1) := by decide +kernel
theorem dL_law_1019 : decode cL_law 1019 = .ok (.iconst 1, 1) := by decide +kernel
theorem dL_law_1020 : decode cL_law 1020 = .ok (.iadd, 1) := by decide +kernel
theorem dL_law_1021 : decode cL_law 1021 = .ok (.iaload, 1) := by decide +kernel
theorem dL_law_1022 : decode cL_law 1022 = .ok (.aload_n 0, 1) := by decide +kernel
theorem dL_law_1023 : decode cL_law 1023 = .ok (.iload_n 3, 1) := by decide +kernel
theorem dL_law_1024 : decode cL_law 1024 = .ok (.iconst 2, 1) := by decide +kernel
theorem dL_law_1025 : decode cL_law 1025 = .ok (.iadd, 1) := by decide +kernel
theorem dL_law_1026 : decode cL_law 1026 = .ok (.iaload, 1) := by decide +kernel
theorem dL_law_1027 : decode cL_law 1027 = .ok (.aload_n 0, 1) := by decide +kernel
theorem dL_law_1028 : decode cL_law 1028 = .ok (.iload_n 3, 1) := by decide +kernel
theorem dL_law_1029 : decode cL_law 1029 = .ok (.iconst 3, 1) := by decide +kernel
theorem dL_law_1030 : decode cL_law 1030 = .ok (.iadd, 1) := by decide +kernel
theorem dL_law_1031 : decode cL_law 1031 = .ok (.iaload, 1) := by decide +kernel
theorem dL_law_1032 : decode cL_law 1032 = .ok (.invokevirtual 138, 3) := by decide +kernel
theorem dL_law_1035 : decode cL_law 1035 = .ok (.if_icmp .eq 231, 3) := by decide +kernel
theorem dL_law_1038 : decode cL_law 1038 = .ok (.iconst 0, 1) := by decide +kernel
theorem dL_law_1039 : decode cL_law 1039 = .ok (.ireturn, 1) := by decide +kernel
theorem dL_law_1040 : decode cL_law 1040 = .ok (.aload_n 1, 1) := by decide +kernel
theorem dL_law_1041 : decode cL_law 1041 = .ok (.aload_n 0, 1) := by decide +kernel
theorem dL_law_1042 : decode cL_law 1042 = .ok (.iload_n 3, 1) := by decide +kernel
theorem dL_law_1043 : decode cL_law 1043 = .ok (.iconst 1, 1) := by decide +kernel
theorem dL_law_1044 : decode cL_law 1044 = .ok (.iadd, 1) := by decide +kernel
theorem dL_law_1045 : decode cL_law 1045 = .ok (.iaload, 1) := by decide +kernel
theorem dL_law_1046 : decode cL_law 1046 = .ok (.aload_n 0, 1) := by decide +kernel
theorem dL_law_1047 : decode cL_law 1047 = .ok (.iload_n 3, 1) := by decide +kernel
theorem dL_law_1048 : decode cL_law 1048 = .ok (.iconst 2, 1) := by decide +kernel
theorem dL_law_1049 : decode cL_law 1049 = .ok (.iadd, 1) := by decide +kernel
theorem dL_law_1050 : decode cL_law 1050 = .ok (.iaload, 1) := by decide +kernel
theorem dL_law_1051 : decode cL_law 1051 = .ok (.aload_n 0, 1) := by decide +kernel
theorem dL_law_1052 : decode cL_law 1052 = .ok (.iload_n 3, 1) := by decide +kernel
theorem dL_law_1053 : decode cL_law 1053 = .ok (.iconst 3, 1) := by decide +kernel
theorem dL_law_1054 : decode cL_law 1054 = .ok (.iadd, 1) := by decide +kernel
theorem dL_law_1055 : decode cL_law 1055 = .ok (.iaload, 1) := by decide +kernel
theorem dL_law_1056 : decode cL_law 1056 = .ok (.i2l, 1) := by decide +kernel
theorem dL_law_1057 : decode cL_law 1057 = .ok (.bipush 32, 2) := by decide +kernel
theorem dL_law_1059 : decode cL_law 1059 = .ok (.lshl, 1) := by decide +kernel
theorem dL_law_1060 : decode cL_law 1060 = .ok (.aload_n 0, 1) := by decide +kernel
theorem dL_law_1061 : decode cL_law 1061 = .ok (.iload_n 3, 1) := by decide +kernel
theorem dL_law_1062 : decode cL_law 1062 = .ok (.iconst 4, 1) := by decide +kernel
theorem dL_law_1063 : decode cL_law 1063 = .ok (.iadd, 1) := by decide +kernel
theorem dL_law_1064 : decode cL_law 1064 = .ok (.iaload, 1) := by decide +kernel
theorem dL_law_1065 : decode cL_law 1065 = .ok (.i2l, 1) := by decide +kernel
theorem dL_law_1066 : decode cL_law 1066 = .ok (.ldc2_w 139, 3) := by decide +kernel
theorem dL_law_1069 : decode cL_law 1069 = .ok (.land, 1) := by decide +kernel
theorem dL_law_1070 : decode cL_law 1070 = .ok (.lor, 1) := by decide +kernel
theorem dL_law_1071 : decode cL_law 1071 = .ok (.invokevirtual 141, 3) := by decide +kernel
theorem dL_law_1074 : decode cL_law 1074 = .ok (.aload_n 2, 1) := by decide +kernel
theorem dL_law_1075 : decode cL_law 1075 = .ok (.aload_n 0, 1) := by decide +kernel
theorem dL_law_1076 : decode cL_law 1076 = .ok (.iload_n 3, 1) := by decide +kernel
theorem dL_law_1077 : decode cL_law 1077 = .ok (.iconst 1, 1) := by decide +kernel
theorem dL_law_1078 : decode cL_law 1078 = .ok (.iadd, 1) := by decide +kernel
theorem dL_law_1079 : decode cL_law 1079 = .ok (.iaload, 1) := by decide +kernel
theorem dL_law_1080 : decode cL_law 1080 = .ok (.aload_n 0, 1) := by decide +kernel
theorem dL_law_1081 : decode cL_law 1081 = .ok (.iload_n 3, 1) := by decide +kernel
theorem dL_law_1082 : decode cL_law 1082 = .ok (.iconst 2, 1) := by decide +kernel
theorem dL_law_1083 : decode cL_law 1083 = .ok (.iadd, 1) := by decide +kernel
theorem dL_law_1084 : decode cL_law 1084 = .ok (.iaload, 1) := by decide +kernel
theorem dL_law_1085 : decode cL_law 1085 = .ok (.aload_n 0, 1) := by decide +kernel
theorem dL_law_1086 : decode cL_law 1086 = .ok (.iload_n 3, 1) := by decide +kernel
theorem dL_law_1087 : decode cL_law 1087 = .ok (.iconst 3, 1) := by decide +kernel
theorem dL_law_1088 : decode cL_law 1088 = .ok (.iadd, 1) := by decide +kernel
theorem dL_law_1089 : decode cL_law 1089 = .ok (.iaload, 1) := by decide +kernel
theorem dL_law_1090 : decode cL_law 1090 = .ok (.i2l, 1) := by decide +kernel
theorem dL_law_1091 : decode cL_law 1091 = .ok (.bipush 32, 2) := by decide +kernel
theorem dL_law_1093 : decode cL_law 1093 = .ok (.lshl, 1) := by decide +kernel
theorem dL_law_1094 : decode cL_law 1094 = .ok (.aload_n 0, 1) := by decide +kernel
theorem dL_law_1095 : decode cL_law 1095 = .ok (.iload_n 3, 1) := by decide +kernel
theorem dL_law_1096 : decode cL_law 1096 = .ok (.iconst 4, 1) := by decide +kernel
theorem dL_law_1097 : decode cL_law 1097 = .ok (.iadd, 1) := by decide +kernel
theorem dL_law_1098 : decode cL_law 1098 = .ok (.iaload, 1) := by decide +kernel
theorem dL_law_1099 : decode cL_law 1099 = .ok (.i2l, 1) := by decide +kernel
theorem dL_law_1100 : decode cL_law 1100 = .ok (.ldc2_w 139, 3) := by decide +kernel
theorem dL_law_1103 : decode cL_law 1103 = .ok (.land, 1) := by decide +kernel
theorem dL_law_1104 : decode cL_law 1104 = .ok (.lor, 1) := by decide +kernel
theorem dL_law_1105 : decode cL_law 1105 = .ok (.invokevirtual 145, 3) := by decide +kernel
theorem dL_law_1108 : decode cL_law 1108 = .ok (.if_icmp .eq 158, 3) := by decide +kernel
theorem dL_law_1111 : decode cL_law 1111 = .ok (.iconst 0, 1) := by decide +kernel
theorem dL_law_1112 : decode cL_law 1112 = .ok (.ireturn, 1) := by decide +kernel
theorem dL_law_1113 : decode cL_law 1113 = .ok (.aload_n 1, 1) := by decide +kernel
theorem dL_law_1114 : decode cL_law 1114 = .ok (.aload_n 0, 1) := by decide +kernel
theorem dL_law_1115 : decode cL_law 1115 = .ok (.iload_n 3, 1) := by decide +kernel
theorem dL_law_1116 : decode cL_law 1116 = .ok (.iconst 1, 1) := by decide +kernel
theorem dL_law_1117 : decode cL_law 1117 = .ok (.iadd, 1) := by decide +kernel
theorem dL_law_1118 : decode cL_law 1118 = .ok (.iaload, 1) := by decide +kernel
theorem dL_law_1119 : decode cL_law 1119 = .ok (.aload_n 0, 1) := by decide +kernel
theorem dL_law_1120 : decode cL_law 1120 = .ok (.iload_n 3, 1) := by decide +kernel
theorem dL_law_1121 : decode cL_law 1121 = .ok (.iconst 2, 1) := by decide +kernel
theorem dL_law_1122 : decode cL_law 1122 = .ok (.iadd, 1) := by decide +kernel
theorem dL_law_1123 : decode cL_law 1123 = .ok (.iaload, 1) := by decide +kernel
theorem dL_law_1124 : decode cL_law 1124 = .ok (.invokevirtual 146, 3) := by decide +kernel
theorem dL_law_1127 : decode cL_law 1127 = .ok (.aload_n 2, 1) := by decide +kernel
theorem dL_law_1128 : decode cL_law 1128 = .ok (.aload_n 0, 1) := by decide +kernel
theorem dL_law_1129 : decode cL_law 1129 = .ok (.iload_n 3, 1) := by decide +kernel
theorem dL_law_1130 : decode cL_law 1130 = .ok (.iconst 1, 1) := by decide +kernel
theorem dL_law_1131 : decode cL_law 1131 = .ok (.iadd, 1) := by decide +kernel
theorem dL_law_1132 : decode cL_law 1132 = .ok (.iaload, 1) := by decide +kernel
theorem dL_law_1133 : decode cL_law 1133 = .ok (.aload_n 0, 1) := by decide +kernel
theorem dL_law_1134 : decode cL_law 1134 = .ok (.iload_n 3, 1) := by decide +kernel
theorem dL_law_1135 : decode cL_law 1135 = .ok (.iconst 2, 1) := by decide +kernel
theorem dL_law_1136 : decode cL_law 1136 = .ok (.iadd, 1) := by decide +kernel
theorem dL_law_1137 : decode cL_law 1137 = .ok (.iaload, 1) := by decide +kernel
theorem dL_law_1138 : decode cL_law 1138 = .ok (.invokevirtual 149, 3) := by decide +kernel
theorem dL_law_1141 : decode cL_law 1141 = .ok (.lcmp, 1) := by decide +kernel
theorem dL_law_1142 : decode cL_law 1142 = .ok (.ifCond .eq 124, 3) := by decide +kernel
theorem dL_law_1145 : decode cL_law 1145 = .ok (.iconst 0, 1) := by decide +kernel
theorem dL_law_1146 : decode cL_law 1146 = .ok (.ireturn, 1) := by decide +kernel
theorem dL_law_1147 : decode cL_law 1147 = .ok (.aload_n 1, 1) := by decide +kernel
theorem dL_law_1148 : decode cL_law 1148 = .ok (.aload_n 0, 1) := by decide +kernel
theorem dL_law_1149 : decode cL_law 1149 = .ok (.iload_n 3, 1) := by decide +kernel
theorem dL_law_1150 : decode cL_law 1150 = .ok (.iconst 1, 1) := by decide +kernel
theorem dL_law_1151 : decode cL_law 1151 = .ok (.iadd, 1) := by decide +kernel
theorem dL_law_1152 : decode cL_law 1152 = .ok (.iaload, 1) := by decide +kernel
theorem dL_law_1153 : decode cL_law 1153 = .ok (.aload_n 0, 1) := by decide +kernel
theorem dL_law_1154 : decode cL_law 1154 = .ok (.iload_n 3, 1) := by decide +kernel
theorem dL_law_1155 : decode cL_law 1155 = .ok (.iconst 2, 1) := by decide +kernel
theorem dL_law_1156 : decode cL_law 1156 = .ok (.iadd, 1) := by decide +kernel
theorem dL_law_1157 : decode cL_law 1157 = .ok (.iaload, 1) := by decide +kernel
theorem dL_law_1158 : decode cL_law 1158 = .ok (.aload_n 0, 1) := by decide +kernel
theorem dL_law_1159 : decode cL_law 1159 = .ok (.iload_n 3, 1) := by decide +kernel
theorem dL_law_1160 : decode cL_law 1160 = .ok (.iconst 3, 1) := by decide +kernel
theorem dL_law_1161 : decode cL_law 1161 = .ok (.iadd, 1) := by decide +kernel
theorem dL_law_1162 : decode cL_law 1162 = .ok (.iaload, 1) := by decide +kernel
theorem dL_law_1163 : decode cL_law 1163 = .ok (.aload_n 0, 1) := by decide +kernel
theorem dL_law_1164 : decode cL_law 1164 = .ok (.iload_n 3, 1) := by decide +kernel
theorem dL_law_1165 : decode cL_law 1165 = .ok (.iconst 4, 1) := by decide +kernel
theorem dL_law_1166 : decode cL_law 1166 = .ok (.iadd, 1) := by decide +kernel
theorem dL_law_1167 : decode cL_law 1167 = .ok (.iaload, 1) := by decide +kernel
theorem dL_law_1168 : decode cL_law 1168 = .ok (.aload_n 0, 1) := by decide +kernel
theorem dL_law_1169 : decode cL_law 1169 = .ok (.iload_n 3, 1) := by decide +kernel
theorem dL_law_1170 : decode cL_law 1170 = .ok (.iconst 5, 1) := by decide +kernel
theorem dL_law_1171 : decode cL_law 1171 = .ok (.iadd, 1) := by decide +kernel
theorem dL_law_1172 : decode cL_law 1172 = .ok (.iaload, 1) := by decide +kernel
theorem dL_law_1173 : decode cL_law 1173 = .ok (.invokevirtual 150, 3) := by decide +kernel
theorem dL_law_1176 : decode cL_law 1176 = .ok (.aload_n 2, 1) := by decide +kernel
theorem dL_law_1177 : decode cL_law 1177 = .ok (.aload_n 0, 1) := by decide +kernel
theorem dL_law_1178 : decode cL_law 1178 = .ok (.iload_n 3, 1) := by decide +kernel
theorem dL_law_1179 : decode cL_law 1179 = .ok (.iconst 1, 1) := by decide +kernel
theorem dL_law_1180 : decode cL_law 1180 = .ok (.iadd, 1) := by decide +kernel
theorem dL_law_1181 : decode cL_law 1181 = .ok (.iaload, 1) := by decide +kernel
theorem dL_law_1182 : decode cL_law 1182 = .ok (.aload_n 0, 1) := by decide +kernel
theorem dL_law_1183 : decode cL_law 1183 = .ok (.iload_n 3, 1) := by decide +kernel
theorem dL_law_1184 : decode cL_law 1184 = .ok (.iconst 2, 1) := by decide +kernel
theorem dL_law_1185 : decode cL_law 1185 = .ok (.iadd, 1) := by decide +kernel
theorem dL_law_1186 : decode cL_law 1186 = .ok (.iaload, 1) := by decide +kernel
theorem dL_law_1187 : decode cL_law 1187 = .ok (.aload_n 0, 1) := by decide +kernel
theorem dL_law_1188 : decode cL_law 1188 = .ok (.iload_n 3, 1) := by decide +kernel
theorem dL_law_1189 : decode cL_law 1189 = .ok (.iconst 3, 1) := by decide +kernel
theorem dL_law_1190 : decode cL_law 1190 = .ok (.iadd, 1) := by decide +kernel
theorem dL_law_1191 : decode cL_law 1191 = .ok (.iaload, 1) := by decide +kernel
theorem dL_law_1192 : decode cL_law 1192 = .ok (.aload_n 0, 1) := by decide +kernel
theorem dL_law_1193 : decode cL_law 1193 = .ok (.iload_n 3, 1) := by decide +kernel
theorem dL_law_1194 : decode cL_law 1194 = .ok (.iconst 4, 1) := by decide +kernel
theorem dL_law_1195 : decode cL_law 1195 = .ok (.iadd, 1) := by decide +kernel
theorem dL_law_1196 : decode cL_law 1196 = .ok (.iaload, 1) := by decide +kernel
theorem dL_law_1197 : decode cL_law 1197 = .ok (.aload_n 0, 1) := by decide +kernel
theorem dL_law_1198 : decode cL_law 1198 = .ok (.iload_n 3, 1) := by decide +kernel
theorem dL_law_1199 : decode cL_law 1199 = .ok (.iconst 5, 1) := by decide +kernel
theorem dL_law_1200 : decode cL_law 1200 = .ok (.iadd, 1) := by decide +kernel
theorem dL_law_1201 : decode cL_law 1201 = .ok (.iaload, 1) := by decide +kernel
theorem dL_law_1202 : decode cL_law 1202 = .ok (.invokevirtual 154, 3) := by decide +kernel
theorem dL_law_1205 : decode cL_law 1205 = .ok (.if_icmp .eq 61, 3) := by decide +kernel
theorem dL_law_1208 : decode cL_law 1208 = .ok (.iconst 0, 1) := by decide +kernel
theorem dL_law_1209 : decode cL_law 1209 = .ok (.ireturn, 1) := by decide +kernel
theorem dL_law_1210 : decode cL_law 1210 = .ok (.aload_n 1, 1) := by decide +kernel
theorem dL_law_1211 : decode cL_law 1211 = .ok (.aload_n 0, 1) := by decide +kernel
theorem dL_law_1212 : decode cL_law 1212 = .ok (.iload_n 3, 1) := by decide +kernel
theorem dL_law_1213 : decode cL_law 1213 = .ok (.iconst 1, 1) := by decide +kernel
theorem dL_law_1214 : decode cL_law 1214 = .ok (.iadd, 1) := by decide +kernel
theorem dL_law_1215 : decode cL_law 1215 = .ok (.iaload, 1) := by decide +kernel
theorem dL_law_1216 : decode cL_law 1216 = .ok (.aload_n 0, 1) := by decide +kernel
theorem dL_law_1217 : decode cL_law 1217 = .ok (.iload_n 3, 1) := by decide +kernel
theorem dL_law_1218 : decode cL_law 1218 = .ok (.iconst 2, 1) := by decide +kernel
theorem dL_law_1219 : decode cL_law 1219 = .ok (.iadd, 1) := by decide +kernel
theorem dL_law_1220 : decode cL_law 1220 = .ok (.iaload, 1) := by decide +kernel
theorem dL_law_1221 : decode cL_law 1221 = .ok (.invokevirtual 155, 3) := by decide +kernel
theorem dL_law_1224 : decode cL_law 1224 = .ok (.aload_n 2, 1) := by decide +kernel
theorem dL_law_1225 : decode cL_law 1225 = .ok (.aload_n 0, 1) := by decide +kernel
theorem dL_law_1226 : decode cL_law 1226 = .ok (.iload_n 3, 1) := by decide +kernel
theorem dL_law_1227 : decode cL_law 1227 = .ok (.iconst 1, 1) := by decide +kernel
theorem dL_law_1228 : decode cL_law 1228 = .ok (.iadd, 1) := by decide +kernel
theorem dL_law_1229 : decode cL_law 1229 = .ok (.iaload, 1) := by decide +kernel
theorem dL_law_1230 : decode cL_law 1230 = .ok (.aload_n 0, 1) := by decide +kernel
theorem dL_law_1231 : decode cL_law 1231 = .ok (.iload_n 3, 1) := by decide +kernel
theorem dL_law_1232 : decode cL_law 1232 = .ok (.iconst 2, 1) := by decide +kernel
theorem dL_law_1233 : decode cL_law 1233 = .ok (.iadd, 1) := by decide +kernel
theorem dL_law_1234 : decode cL_law 1234 = .ok (.iaload, 1) := by decide +kernel
theorem dL_law_1235 : decode cL_law 1235 = .ok (.invokevirtual 158, 3) := by decide +kernel
theorem dL_law_1238 : decode cL_law 1238 = .ok (.if_icmp .eq 28, 3) := by decide +kernel
theorem dL_law_1241 : decode cL_law 1241 = .ok (.iconst 0, 1) := by decide +kernel
theorem dL_law_1242 : decode cL_law 1242 = .ok (.ireturn, 1) := by decide +kernel
theorem dL_law_1243 : decode cL_law 1243 = .ok (.aload_n 1, 1) := by decide +kernel
theorem dL_law_1244 : decode cL_law 1244 = .ok (.aload_n 0, 1) := by decide +kernel
theorem dL_law_1245 : decode cL_law 1245 = .ok (.iload_n 3, 1) := by decide +kernel
theorem dL_law_1246 : decode cL_law 1246 = .ok (.iconst 1, 1) := by decide +kernel
theorem dL_law_1247 : decode cL_law 1247 = .ok (.iadd, 1) := by decide +kernel
theorem dL_law_1248 : decode cL_law 1248 = .ok (.iaload, 1) := by decide +kernel
theorem dL_law_1249 : decode cL_law 1249 = .ok (.invokevirtual 159, 3) := by decide +kernel
theorem dL_law_1252 : decode cL_law 1252 = .ok (.aload_n 2, 1) := by decide +kernel
theorem dL_law_1253 : decode cL_law 1253 = .ok (.aload_n 0, 1) := by decide +kernel
theorem dL_law_1254 : decode cL_law 1254 = .ok (.iload_n 3, 1) := by decide +kernel
theorem dL_law_1255 : decode cL_law 1255 = .ok (.iconst 1, 1) := by decide +kernel
theorem dL_law_1256 : decode cL_law 1256 = .ok (.iadd, 1) := by decide +kernel
theorem dL_law_1257 : decode cL_law 1257 = .ok (.iaload, 1) := by decide +kernel
theorem dL_law_1258 : decode cL_law 1258 = .ok (.invokevirtual 162, 3) := by decide +kernel
theorem dL_law_1261 : decode cL_law 1261 = .ok (.if_icmp .eq 5, 3) := by decide +kernel
theorem dL_law_1264 : decode cL_law 1264 = .ok (.iconst 0, 1) := by decide +kernel
theorem dL_law_1265 : decode cL_law 1265 = .ok (.ireturn, 1) := by decide +kernel
theorem dL_law_1266 : decode cL_law 1266 = .ok (.iinc 3 6, 3) := by decide +kernel
theorem dL_law_1269 : decode cL_law 1269 = .ok (.goto (-1251), 3) := by decide +kernel
theorem dL_law_1272 : decode cL_law 1272 = .ok (.iconst 1, 1) := by decide +kernel
theorem dL_law_1273 : decode cL_law 1273 = .ok (.ireturn, 1) := by decide +kernel
