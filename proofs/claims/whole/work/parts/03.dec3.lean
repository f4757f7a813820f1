theorem dX12_endsBy_117 : decode cX12_endsBy 117 = .ok (.istore 4, 2) := by decide +kernel
theorem dX12_endsBy_119 : decode cX12_endsBy 119 = .ok (.aload_n 0, 1) := by decide +kernel
theorem dX12_endsBy_120 : decode cX12_endsBy 120 = .ok (.aload_n 0, 1) := by decide +kernel
theorem dX12_endsBy_121 : decode cX12_endsBy 121 = .ok (.getfield 34, 3) := by decide +kernel
theorem dX12_endsBy_124 : decode cX12_endsBy 124 = .ok (.iconst 2, 1) := by decide +kernel
theorem dX12_endsBy_125 : decode cX12_endsBy 125 = .ok (.iaload, 1) := by decide +kernel
theorem dX12_endsBy_126 : decode cX12_endsBy 126 = .ok (.invokevirtual 131, 3) := by decide +kernel
theorem dX12_endsBy_129 : decode cX12_endsBy 129 = .ok (.istore 5, 2) := by decide +kernel
theorem dX12_endsBy_131 : decode cX12_endsBy 131 = .ok (.iload 4, 2) := by decide +kernel
theorem dX12_endsBy_133 : decode cX12_endsBy 133 = .ok (.bipush (-9), 2) := by decide +kernel
theorem dX12_endsBy_135 : decode cX12_endsBy 135 = .ok (.if_icmp .eq 25, 3) := by decide +kernel
theorem dX12_endsBy_138 : decode cX12_endsBy 138 = .ok (.iload 5, 2) := by decide +kernel
theorem dX12_endsBy_140 : decode cX12_endsBy 140 = .ok (.bipush (-9), 2) := by decide +kernel
theorem dX12_endsBy_142 : decode cX12_endsBy 142 = .ok (.if_icmp .ne 7, 3) := by decide +kernel
theorem dX12_endsBy_145 : decode cX12_endsBy 145 = .ok (.iconst 0, 1) := by decide +kernel
theorem dX12_endsBy_146 : decode cX12_endsBy 146 = .ok (.goto 5, 3) := by decide +kernel
theorem dX12_endsBy_149 : decode cX12_endsBy 149 = .ok (.iload 5, 2) := by decide +kernel
theorem dX12_endsBy_151 : decode cX12_endsBy 151 = .ok (.iload_n 2, 1) := by decide +kernel
theorem dX12_endsBy_152 : decode cX12_endsBy 152 = .ok (.if_icmp .lt 8, 3) := by decide +kernel
theorem dX12_endsBy_155 : decode cX12_endsBy 155 = .ok (.iload 4, 2) := by decide +kernel
theorem dX12_endsBy_157 : decode cX12_endsBy 157 = .ok (.goto 5, 3) := by decide +kernel
theorem dX12_endsBy_160 : decode cX12_endsBy 160 = .ok (.bipush (-9), 2) := by decide +kernel
theorem dX12_endsBy_162 : decode cX12_endsBy 162 = .ok (.ireturn, 1) := by decide +kernel
theorem dX12_plan_0 : decode cX12_plan 0 = .ok (.aload_n 0, 1) := by decide +kernel
theorem dX12_plan_1 : decode cX12_plan 1 = .ok (.iconst 0, 1) := by decide +kernel
theorem dX12_plan_2 : decode cX12_plan 2 = .ok (.putfield 59, 3) := by decide +kernel
theorem dX12_plan_5 : decode cX12_plan 5 = .ok (.iload_n 1, 1) := by decide +kernel
theorem dX12_plan_6 : decode cX12_plan 6 = .ok (.iconst 1, 1) := by decide +kernel
theorem dX12_plan_7 : decode cX12_plan 7 = .ok (.iconst 3, 1) := by decide +kernel
theorem dX12_plan_8 : decode cX12_plan 8 = .ok (.invokestatic 63, 3) := by decide +kernel
theorem dX12_plan_11 : decode cX12_plan 11 = .ok (.ifCond .eq 22, 3) := by decide +kernel
theorem dX12_plan_14 : decode cX12_plan 14 = .ok (.iload_n 2, 1) := by decide +kernel
theorem dX12_plan_15 : decode cX12_plan 15 = .ok (.iconst 0, 1) := by decide +kernel
theorem dX12_plan_16 : decode cX12_plan 16 = .ok (.bipush 60, 2) := by decide +kernel
theorem dX12_plan_18 : decode cX12_plan 18 = .ok (.invokestatic 63, 3) := by decide +kernel
theorem dX12_plan_21 : decode cX12_plan 21 = .ok (.ifCond .eq 12, 3) := by decide +kernel
theorem dX12_plan_24 : decode cX12_plan 24 = .ok (.iload_n 3, 1) := by decide +kernel
theorem dX12_plan_25 : decode cX12_plan 25 = .ok (.iconst (-1), 1) := by decide +kernel
theorem dX12_plan_26 : decode cX12_plan 26 = .ok (.iconst 2, 1) := by decide +kernel
theorem dX12_plan_27 : decode cX12_plan 27 = .ok (.invokestatic 63, 3) := by decide +kernel
theorem dX12_plan_30 : decode cX12_plan 30 = .ok (.ifCond .ne 5, 3) := by decide +kernel
theorem dX12_plan_33 : decode cX12_plan 33 = .ok (.iconst (-1), 1) := by decide +kernel
theorem dX12_plan_34 : decode cX12_plan 34 = .ok (.ireturn, 1) := by decide +kernel
theorem dX12_plan_35 : decode cX12_plan 35 = .ok (.iconst 1, 1) := by decide +kernel
theorem dX12_plan_36 : decode cX12_plan 36 = .ok (.istore 4, 2) := by decide +kernel
theorem dX12_plan_38 : decode cX12_plan 38 = .ok (.iconst 0, 1) := by decide +kernel
theorem dX12_plan_39 : decode cX12_plan 39 = .ok (.istore 5, 2) := by decide +kernel
theorem dX12_plan_41 : decode cX12_plan 41 = .ok (.iload 5, 2) := by decide +kernel
theorem dX12_plan_43 : decode cX12_plan 43 = .ok (.iload_n 1, 1) := by decide +kernel
theorem dX12_plan_44 : decode cX12_plan 44 = .ok (.if_icmp .ge 22, 3) := by decide +kernel
theorem dX12_plan_47 : decode cX12_plan 47 = .ok (.iload 4, 2) := by decide +kernel
theorem dX12_plan_49 : decode cX12_plan 49 = .ok (.aload_n 0, 1) := by decide +kernel
theorem dX12_plan_50 : decode cX12_plan 50 = .ok (.getfield 13, 3) := by decide +kernel
theorem dX12_plan_53 : decode cX12_plan 53 = .ok (.iconst 0, 1) := by decide +kernel
theorem dX12_plan_54 : decode cX12_plan 54 = .ok (.iaload, 1) := by decide +kernel
theorem dX12_plan_55 : decode cX12_plan 55 = .ok (.iconst 1, 1) := by decide +kernel
theorem dX12_plan_56 : decode cX12_plan 56 = .ok (.iadd, 1) := by decide +kernel
theorem dX12_plan_57 : decode cX12_plan 57 = .ok (.imul, 1) := by decide +kernel
theorem dX12_plan_58 : decode cX12_plan 58 = .ok (.istore 4, 2) := by decide +kernel
theorem dX12_plan_60 : decode cX12_plan 60 = .ok (.iinc 5 1, 3) := by decide +kernel
theorem dX12_plan_63 : decode cX12_plan 63 = .ok (.goto (-22), 3) := by decide +kernel
theorem dX12_plan_66 : decode cX12_plan 66 = .ok (.bipush (-9), 2) := by decide +kernel
theorem dX12_plan_68 : decode cX12_plan 68 = .ok (.istore 5, 2) := by decide +kernel
theorem dX12_plan_70 : decode cX12_plan 70 = .ok (.iconst 0, 1) := by decide +kernel
theorem dX12_plan_71 : decode cX12_plan 71 = .ok (.istore 6, 2) := by decide +kernel
theorem dX12_plan_73 : decode cX12_plan 73 = .ok (.iload 6, 2) := by decide +kernel
theorem dX12_plan_75 : decode cX12_plan 75 = .ok (.iload 4, 2) := by decide +kernel
theorem dX12_plan_77 : decode cX12_plan 77 = .ok (.if_icmp .ge 122, 3) := by decide +kernel
theorem dX12_plan_80 : decode cX12_plan 80 = .ok (.iload 6, 2) := by decide +kernel
theorem dX12_plan_82 : decode cX12_plan 82 = .ok (.istore 7, 2) := by decide +kernel
theorem dX12_plan_84 : decode cX12_plan 84 = .ok (.iload_n 1, 1) := by decide +kernel
theorem dX12_plan_85 : decode cX12_plan 85 = .ok (.iconst 1, 1) := by decide +kernel
theorem dX12_plan_86 : decode cX12_plan 86 = .ok (.isub, 1) := by decide +kernel
theorem dX12_plan_87 : decode cX12_plan 87 = .ok (.istore 8, 2) := by decide +kernel
theorem dX12_plan_89 : decode cX12_plan 89 = .ok (.iload 8, 2) := by decide +kernel
theorem dX12_plan_91 : decode cX12_plan 91 = .ok (.ifCond .lt 40, 3) := by decide +kernel
theorem dX12_plan_94 : decode cX12_plan 94 = .ok (.aload_n 0, 1) := by decide +kernel
theorem dX12_plan_95 : decode cX12_plan 95 = .ok (.getfield 53, 3) := by decide +kernel
theorem dX12_plan_98 : decode cX12_plan 98 = .ok (.iload 8, 2) := by decide +kernel
theorem dX12_plan_100 : decode cX12_plan 100 = .ok (.iload 7, 2) := by decide +kernel
theorem dX12_plan_102 : decode cX12_plan 102 = .ok (.aload_n 0, 1) := by decide +kernel
theorem dX12_plan_103 : decode cX12_plan 103 = .ok (.getfield 13, 3) := by decide +kernel
theorem dX12_plan_106 : decode cX12_plan 106 = .ok (.iconst 0, 1) := by decide +kernel
theorem dX12_plan_107 : decode cX12_plan 107 = .ok (.iaload, 1) := by decide +kernel
theorem dX12_plan_108 : decode cX12_plan 108 = .ok (.iconst 1, 1) := by decide +kernel
theorem dX12_plan_109 : decode cX12_plan 109 = .ok (.iadd, 1) := by decide +kernel
theorem dX12_plan_110 : decode cX12_plan 110 = .ok (.irem, 1) := by decide +kernel
theorem dX12_plan_111 : decode cX12_plan 111 = .ok (.iastore, 1) := by decide +kernel
theorem dX12_plan_112 : decode cX12_plan 112 = .ok (.iload 7, 2) := by decide +kernel
theorem dX12_plan_114 : decode cX12_plan 114 = .ok (.aload_n 0, 1) := by decide +kernel
theorem dX12_plan_115 : decode cX12_plan 115 = .ok (.getfield 13, 3) := by decide +kernel
theorem dX12_plan_118 : decode cX12_plan 118 = .ok (.iconst 0, 1) := by decide +kernel
theorem dX12_plan_119 : decode cX12_plan 119 = .ok (.iaload, 1) := by decide +kernel
theorem dX12_plan_120 : decode cX12_plan 120 = .ok (.iconst 1, 1) := by decide +kernel
theorem dX12_plan_121 : decode cX12_plan 121 = .ok (.iadd, 1) := by decide +kernel
theorem dX12_plan_122 : decode cX12_plan 122 = .ok (.idiv, 1) := by decide +kernel
theorem dX12_plan_123 : decode cX12_plan 123 = .ok (.istore 7, 2) := by decide +kernel
theorem dX12_plan_125 : decode cX12_plan 125 = .ok (.iinc 8 (-1), 3) := by decide +kernel
theorem dX12_plan_128 : decode cX12_plan 128 = .ok (.goto (-39), 3) := by decide +kernel
theorem dX12_plan_131 : decode cX12_plan 131 = .ok (.aload_n 0, 1) := by decide +kernel
theorem dX12_plan_132 : decode cX12_plan 132 = .ok (.iload_n 1, 1) := by decide +kernel
theorem dX12_plan_133 : decode cX12_plan 133 = .ok (.iload_n 2, 1) := by decide +kernel
theorem dX12_plan_134 : decode cX12_plan 134 = .ok (.invokevirtual 162, 3) := by decide +kernel
theorem dX12_plan_137 : decode cX12_plan 137 = .ok (.istore 8, 2) := by decide +kernel
theorem dX12_plan_139 : decode cX12_plan 139 = .ok (.iload 8, 2) := by decide +kernel
theorem dX12_plan_141 : decode cX12_plan 141 = .ok (.bipush (-9), 2) := by decide +kernel
theorem dX12_plan_143 : decode cX12_plan 143 = .ok (.if_icmp .eq 50, 3) := by decide +kernel
theorem dX12_plan_146 : decode cX12_plan 146 = .ok (.iload 5, 2) := by decide +kernel
theorem dX12_plan_148 : decode cX12_plan 148 = .ok (.bipush (-9), 2) := by decide +kernel
theorem dX12_plan_150 : decode cX12_plan 150 = .ok (.if_icmp .eq 10, 3) := by decide +kernel
theorem dX12_plan_153 : decode cX12_plan 153 = .ok (.iload 8, 2) := by decide +kernel
theorem dX12_plan_155 : decode cX12_plan 155 = .ok (.iload 5, 2) := by decide +kernel
theorem dX12_plan_157 : decode cX12_plan 157 = .ok (.if_icmp .ge 36, 3) := by decide +kernel
theorem dX12_plan_160 : decode cX12_plan 160 = .ok (.iload 8, 2) := by decide +kernel
theorem dX12_plan_162 : decode cX12_plan 162 = .ok (.istore 5, 2) := by decide +kernel
theorem dX12_plan_164 : decode cX12_plan 164 = .ok (.iconst 0, 1) := by decide +kernel
theorem dX12_plan_165 : decode cX12_plan 165 = .ok (.istore 9, 2) := by decide +kernel
theorem dX12_plan_167 : decode cX12_plan 167 = .ok (.iload 9, 2) := by decide +kernel
theorem dX12_plan_169 : decode cX12_plan 169 = .ok (.iload_n 1, 1) := by decide +kernel
theorem dX12_plan_170 : decode cX12_plan 170 = .ok (.if_icmp .ge 23, 3) := by decide +kernel
theorem dX12_plan_173 : decode cX12_plan 173 = .ok (.aload_n 0, 1) := by decide +kernel
theorem dX12_plan_174 : decode cX12_plan 174 = .ok (.getfield 56, 3) := by decide +kernel
theorem dX12_plan_177 : decode cX12_plan 177 = .ok (.iload 9, 2) := by decide +kernel
theorem dX12_plan_179 : decode cX12_plan 179 = .ok (.aload_n 0, 1) := by decide +kernel
theorem dX12_plan_180 : decode cX12_plan 180 = .ok (.getfield 53, 3) := by decide +kernel
theorem dX12_plan_183 : decode cX12_plan 183 = .ok (.iload 9, 2) := by decide +kernel
theorem dX12_plan_185 : decode cX12_plan 185 = .ok (.iaload, 1) := by decide +kernel
theorem dX12_plan_186 : decode cX12_plan 186 = .ok (.iastore, 1) := by decide +kernel
theorem dX12_plan_187 : decode cX12_plan 187 = .ok (.iinc 9 1, 3) := by decide +kernel
theorem dX12_plan_190 : decode cX12_plan 190 = .ok (.goto (-23), 3) := by decide +kernel
theorem dX12_plan_193 : decode cX12_plan 193 = .ok (.iinc 6 1, 3) := by decide +kernel
theorem dX12_plan_196 : decode cX12_plan 196 = .ok (.goto (-123), 3) := by decide +kernel
theorem dX12_plan_199 : decode cX12_plan 199 = .ok (.iload_n 3, 1) := by decide +kernel
theorem dX12_plan_200 : decode cX12_plan 200 = .ok (.iconst (-1), 1) := by decide +kernel
theorem dX12_plan_201 : decode cX12_plan 201 = .ok (.if_icmp .eq 10, 3) := by decide +kernel
theorem dX12_plan_204 : decode cX12_plan 204 = .ok (.iload 5, 2) := by decide +kernel
theorem dX12_plan_206 : decode cX12_plan 206 = .ok (.bipush (-9), 2) := by decide +kernel
theorem dX12_plan_208 : decode cX12_plan 208 = .ok (.if_icmp .ne 6, 3) := by decide +kernel
theorem dX12_plan_211 : decode cX12_plan 211 = .ok (.iload 5, 2) := by decide +kernel
theorem dX12_plan_213 : decode cX12_plan 213 = .ok (.ireturn, 1) := by decide +kernel
theorem dX12_plan_214 : decode cX12_plan 214 = .ok (.iload_n 3, 1) := by decide +kernel
theorem dX12_plan_215 : decode cX12_plan 215 = .ok (.iload_n 1, 1) := by decide +kernel
theorem dX12_plan_216 : decode cX12_plan 216 = .ok (.if_icmp .lt 8, 3) := by decide +kernel
theorem dX12_plan_219 : decode cX12_plan 219 = .ok (.bipush (-9), 2) := by decide +kernel
theorem dX12_plan_221 : decode cX12_plan 221 = .ok (.goto 25, 3) := by decide +kernel
theorem dX12_plan_224 : decode cX12_plan 224 = .ok (.aload_n 0, 1) := by decide +kernel
theorem dX12_plan_225 : decode cX12_plan 225 = .ok (.getfield 56, 3) := by decide +kernel
theorem dX12_plan_228 : decode cX12_plan 228 = .ok (.iload_n 3, 1) := by decide +kernel
theorem dX12_plan_229 : decode cX12_plan 229 = .ok (.iaload, 1) := by decide +kernel
theorem dX12_plan_230 : decode cX12_plan 230 = .ok (.ifCond .ne 8, 3) := by decide +kernel
theorem dX12_plan_233 : decode cX12_plan 233 = .ok (.bipush (-5), 2) := by decide +kernel
theorem dX12_plan_235 : decode cX12_plan 235 = .ok (.goto 11, 3) := by decide +kernel
theorem dX12_plan_238 : decode cX12_plan 238 = .ok (.aload_n 0, 1) := by decide +kernel
theorem dX12_plan_239 : decode cX12_plan 239 = .ok (.getfield 56, 3) := by decide +kernel
theorem dX12_plan_242 : decode cX12_plan 242 = .ok (.iload_n 3, 1) := by decide +kernel
theorem dX12_plan_243 : decode cX12_plan 243 = .ok (.iaload, 1) := by decide +kernel
theorem dX12_plan_244 : decode cX12_plan 244 = .ok (.iconst 1, 1) := by decide +kernel
theorem dX12_plan_245 : decode cX12_plan 245 = .ok (.isub, 1) := by decide +kernel
theorem dX12_plan_246 : decode cX12_plan 246 = .ok (.ireturn, 1) := by decide +kernel
theorem dX12_best_0 : decode cX12_best 0 = .ok (.aload_n 0, 1) := by decide +kernel
theorem dX12_best_1 : decode cX12_best 1 = .ok (.iconst 0, 1) := by decide +kernel
theorem dX12_best_2 : decode cX12_best 2 = .ok (.putfield 59, 3) := by decide +kernel
theorem dX12_best_5 : decode cX12_best 5 = .ok (.bipush (-9), 2) := by decide +kernel
theorem dX12_best_7 : decode cX12_best 7 = .ok (.istore_n 1, 1) := by decide +kernel
theorem dX12_best_8 : decode cX12_best 8 = .ok (.bipush (-9), 2) := by decide +kernel
theorem dX12_best_10 : decode cX12_best 10 = .ok (.istore_n 2, 1) := by decide +kernel
theorem dX12_best_11 : decode cX12_best 11 = .ok (.iconst 0, 1) := by decide +kernel
theorem dX12_best_12 : decode cX12_best 12 = .ok (.istore_n 3, 1) := by decide +kernel
theorem dX12_best_13 : decode cX12_best 13 = .ok (.iload_n 3, 1) := by decide +kernel
theorem dX12_best_14 : decode cX12_best 14 = .ok (.aload_n 0, 1) := by decide +kernel
theorem dX12_best_15 : decode cX12_best 15 = .ok (.getfield 13, 3) := by decide +kernel
theorem dX12_best_18 : decode cX12_best 18 = .ok (.iconst 0, 1) := by decide +kernel
theorem dX12_best_19 : decode cX12_best 19 = .ok (.iaload, 1) := by decide +kernel
theorem dX12_best_20 : decode cX12_best 20 = .ok (.if_icmp .ge 66, 3) := by decide +kernel
theorem dX12_best_23 : decode cX12_best 23 = .ok (.aload_n 0, 1) := by decide +kernel
theorem dX12_best_24 : decode cX12_best 24 = .ok (.aload_n 0, 1) := by decide +kernel
theorem dX12_best_25 : decode cX12_best 25 = .ok (.getfield 31, 3) := by decide +kernel
theorem dX12_best_28 : decode cX12_best 28 = .ok (.invokevirtual 134, 3) := by decide +kernel
theorem dX12_best_31 : decode cX12_best 31 = .ok (.ifCond .ne 55, 3) := by decide +kernel
theorem dX12_best_34 : decode cX12_best 34 = .ok (.aload_n 0, 1) := by decide +kernel
theorem dX12_best_35 : decode cX12_best 35 = .ok (.invokevirtual 156, 3) := by decide +kernel
theorem dX12_best_38 : decode cX12_best 38 = .ok (.aload_n 0, 1) := by decide +kernel
theorem dX12_best_39 : decode cX12_best 39 = .ok (.aload_n 0, 1) := by decide +kernel
theorem dX12_best_40 : decode cX12_best 40 = .ok (.getfield 34, 3) := by decide +kernel
theorem dX12_best_43 : decode cX12_best 43 = .ok (.iconst 1, 1) := by decide +kernel
theorem dX12_best_44 : decode cX12_best 44 = .ok (.iload_n 3, 1) := by decide +kernel
theorem dX12_best_45 : decode cX12_best 45 = .ok (.ishl, 1) := by decide +kernel
theorem dX12_best_46 : decode cX12_best 46 = .ok (.invokevirtual 142, 3) := by decide +kernel
theorem dX12_best_49 : decode cX12_best 49 = .ok (.aload_n 0, 1) := by decide +kernel
theorem dX12_best_50 : decode cX12_best 50 = .ok (.iconst 0, 1) := by decide +kernel
theorem dX12_best_51 : decode cX12_best 51 = .ok (.invokevirtual 159, 3) := by decide +kernel
theorem dX12_best_54 : decode cX12_best 54 = .ok (.istore 4, 2) := by decide +kernel
theorem dX12_best_56 : decode cX12_best 56 = .ok (.iload 4, 2) := by decide +kernel
theorem dX12_best_58 : decode cX12_best 58 = .ok (.bipush (-9), 2) := by decide +kernel
theorem dX12_best_60 : decode cX12_best 60 = .ok (.if_icmp .eq 20, 3) := by decide +kernel
theorem dX12_best_63 : decode cX12_best 63 = .ok (.iload_n 2, 1) := by decide +kernel
theorem dX12_best_64 : decode cX12_best 64 = .ok (.bipush (-9), 2) := by decide +kernel
theorem dX12_best_66 : decode cX12_best 66 = .ok (.if_icmp .eq 9, 3) := by decide +kernel
theorem dX12_best_69 : decode cX12_best 69 = .ok (.iload 4, 2) := by decide +kernel
theorem dX12_best_71 : decode cX12_best 71 = .ok (.iload_n 2, 1) := by decide +kernel
theorem dX12_best_72 : decode cX12_best 72 = .ok (.if_icmp .ge 8, 3) := by decide +kernel
theorem dX12_best_75 : decode cX12_best 75 = .ok (.iload_n 3, 1) := by decide +kernel
theorem dX12_best_76 : decode cX12_best 76 = .ok (.istore_n 1, 1) := by decide +kernel
theorem dX12_best_77 : decode cX12_best 77 = .ok (.iload 4, 2) := by decide +kernel
theorem dX12_best_79 : decode cX12_best 79 = .ok (.istore_n 2, 1) := by decide +kernel
theorem dX12_best_80 : decode cX12_best 80 = .ok (.iinc 3 1, 3) := by decide +kernel
theorem dX12_best_83 : decode cX12_best 83 = .ok (.goto (-70), 3) := by decide +kernel
theorem dX12_best_86 : decode cX12_best 86 = .ok (.iload_n 1, 1) := by decide +kernel
theorem dX12_best_87 : decode cX12_best 87 = .ok (.ireturn, 1) := by decide +kernel
theorem dX12_mute_0 : decode cX12_mute 0 = .ok (.aload_n 0, 1) := by decide +kernel
theorem dX12_mute_1 : decode cX12_mute 1 = .ok (.iconst 0, 1) := by decide +kernel
theorem dX12_mute_2 : decode cX12_mute 2 = .ok (.putfield 59, 3) := by decide +kernel
theorem dX12_mute_5 : decode cX12_mute 5 = .ok (.iload_n 1, 1) := by decide +kernel
theorem dX12_mute_6 : decode cX12_mute 6 = .ok (.iconst 0, 1) := by decide +kernel
theorem dX12_mute_7 : decode cX12_mute 7 = .ok (.sipush 200, 3) := by decide +kernel
theorem dX12_mute_10 : decode cX12_mute 10 = .ok (.invokestatic 63, 3) := by decide +kernel
theorem dX12_mute_13 : decode cX12_mute 13 = .ok (.ifCond .ne 5, 3) := by decide +kernel
theorem dX12_mute_16 : decode cX12_mute 16 = .ok (.iconst (-1), 1) := by decide +kernel
theorem dX12_mute_17 : decode cX12_mute 17 = .ok (.ireturn, 1) := by decide +kernel
theorem dX12_mute_18 : decode cX12_mute 18 = .ok (.aload_n 0, 1) := by decide +kernel
theorem dX12_mute_19 : decode cX12_mute 19 = .ok (.invokevirtual 156, 3) := by decide +kernel
theorem dX12_mute_22 : decode cX12_mute 22 = .ok (.aload_n 0, 1) := by decide +kernel
theorem dX12_mute_23 : decode cX12_mute 23 = .ok (.getfield 34, 3) := by decide +kernel
theorem dX12_mute_26 : decode cX12_mute 26 = .ok (.iconst 2, 1) := by decide +kernel
theorem dX12_mute_27 : decode cX12_mute 27 = .ok (.iaload, 1) := by decide +kernel
theorem dX12_mute_28 : decode cX12_mute 28 = .ok (.istore_n 2, 1) := by decide +kernel
theorem dX12_mute_29 : decode cX12_mute 29 = .ok (.iconst 0, 1) := by decide +kernel
theorem dX12_mute_30 : decode cX12_mute 30 = .ok (.istore_n 3, 1) := by decide +kernel
theorem dX12_mute_31 : decode cX12_mute 31 = .ok (.iload_n 3, 1) := by decide +kernel
theorem dX12_mute_32 : decode cX12_mute 32 = .ok (.iload_n 1, 1) := by decide +kernel
theorem dX12_mute_33 : decode cX12_mute 33 = .ok (.if_icmp .ge 26, 3) := by decide +kernel
theorem dX12_mute_36 : decode cX12_mute 36 = .ok (.aload_n 0, 1) := by decide +kernel
theorem dX12_mute_37 : decode cX12_mute 37 = .ok (.aload_n 0, 1) := by decide +kernel
theorem dX12_mute_38 : decode cX12_mute 38 = .ok (.getfield 34, 3) := by decide +kernel
theorem dX12_mute_41 : decode cX12_mute 41 = .ok (.invokevirtual 153, 3) := by decide +kernel
theorem dX12_mute_44 : decode cX12_mute 44 = .ok (.iload_n 2, 1) := by decide +kernel
theorem dX12_mute_45 : decode cX12_mute 45 = .ok (.aload_n 0, 1) := by decide +kernel
theorem dX12_mute_46 : decode cX12_mute 46 = .ok (.getfield 34, 3) := by decide +kernel
theorem dX12_mute_49 : decode cX12_mute 49 = .ok (.iconst 2, 1) := by decide +kernel
theorem dX12_mute_50 : decode cX12_mute 50 = .ok (.iaload, 1) := by decide +kernel
theorem dX12_mute_51 : decode cX12_mute 51 = .ok (.ior, 1) := by decide +kernel
theorem dX12_mute_52 : decode cX12_mute 52 = .ok (.istore_n 2, 1) := by decide +kernel
theorem dX12_mute_53 : decode cX12_mute 53 = .ok (.iinc 3 1, 3) := by decide +kernel
theorem dX12_mute_56 : decode cX12_mute 56 = .ok (.goto (-25), 3) := by decide +kernel
theorem dX12_mute_59 : decode cX12_mute 59 = .ok (.iconst 1, 1) := by decide +kernel
theorem dX12_mute_60 : decode cX12_mute 60 = .ok (.aload_n 0, 1) := by decide +kernel
theorem dX12_mute_61 : decode cX12_mute 61 = .ok (.getfield 13, 3) := by decide +kernel
theorem dX12_mute_64 : decode cX12_mute 64 = .ok (.iconst 0, 1) := by decide +kernel
theorem dX12_mute_65 : decode cX12_mute 65 = .ok (.iaload, 1) := by decide +kernel
theorem dX12_mute_66 : decode cX12_mute 66 = .ok (.ishl, 1) := by decide +kernel
theorem dX12_mute_67 : decode cX12_mute 67 = .ok (.iconst 1, 1) := by decide +kernel
theorem dX12_mute_68 : decode cX12_mute 68 = .ok (.isub, 1) := by decide +kernel
theorem dX12_mute_69 : decode cX12_mute 69 = .ok (.iload_n 2, 1) := by decide +kernel
theorem dX12_mute_70 : decode cX12_mute 70 = .ok (.iconst (-1), 1) := by decide +kernel
theorem dX12_mute_71 : decode cX12_mute 71 = .ok (.ixor, 1) := by decide +kernel
theorem dX12_mute_72 : decode cX12_mute 72 = .ok (.iand, 1) := by decide +kernel
theorem dX12_mute_73 : decode cX12_mute 73 = .ok (.ireturn, 1) := by decide +kernel
theorem dX12_seen_0 : decode cX12_seen 0 = .ok (.aload_n 0, 1) := by decide +kernel
theorem dX12_seen_1 : decode cX12_seen 1 = .ok (.iconst 0, 1) := by decide +kernel
theorem dX12_seen_2 : decode cX12_seen 2 = .ok (.putfield 59, 3) := by decide +kernel
theorem dX12_seen_5 : decode cX12_seen 5 = .ok (.iload_n 1, 1) := by decide +kernel
theorem dX12_seen_6 : decode cX12_seen 6 = .ok (.iconst 0, 1) := by decide +kernel
theorem dX12_seen_7 : decode cX12_seen 7 = .ok (.bipush 60, 2) := by decide +kernel
theorem dX12_seen_9 : decode cX12_seen 9 = .ok (.invokestatic 63, 3) := by decide +kernel
theorem dX12_seen_12 : decode cX12_seen 12 = .ok (.ifCond .eq 21, 3) := by decide +kernel
theorem dX12_seen_15 : decode cX12_seen 15 = .ok (.iload_n 2, 1) := by decide +kernel
theorem dX12_seen_16 : decode cX12_seen 16 = .ok (.iconst 0, 1) := by decide +kernel
theorem dX12_seen_17 : decode cX12_seen 17 = .ok (.iconst 1, 1) := by decide +kernel
theorem dX12_seen_18 : decode cX12_seen 18 = .ok (.aload_n 0, 1) := by decide +kernel
theorem dX12_seen_19 : decode cX12_seen 19 = .ok (.getfield 13, 3) := by decide +kernel
theorem dX12_seen_22 : decode cX12_seen 22 = .ok (.iconst 0, 1) := by decide +kernel
theorem dX12_seen_23 : decode cX12_seen 23 = .ok (.iaload, 1) := by decide +kernel
theorem dX12_seen_24 : decode cX12_seen 24 = .ok (.ishl, 1) := by decide +kernel
theorem dX12_seen_25 : decode cX12_seen 25 = .ok (.iconst 1, 1) := by decide +kernel
theorem dX12_seen_26 : decode cX12_seen 26 = .ok (.isub, 1) := by decide +kernel
theorem dX12_seen_27 : decode cX12_seen 27 = .ok (.invokestatic 63, 3) := by decide +kernel
theorem dX12_seen_30 : decode cX12_seen 30 = .ok (.ifCond .ne 5, 3) := by decide +kernel
theorem dX12_seen_33 : decode cX12_seen 33 = .ok (.iconst (-1), 1) := by decide +kernel
theorem dX12_seen_34 : decode cX12_seen 34 = .ok (.ireturn, 1) := by decide +kernel
theorem dX12_seen_35 : decode cX12_seen 35 = .ok (.aload_n 0, 1) := by decide +kernel
theorem dX12_seen_36 : decode cX12_seen 36 = .ok (.getfield 118, 3) := by decide +kernel
theorem dX12_seen_39 : decode cX12_seen 39 = .ok (.iconst 5, 1) := by decide +kernel
theorem dX12_seen_40 : decode cX12_seen 40 = .ok (.if_icmp .ne 6, 3) := by decide +kernel
theorem dX12_seen_43 : decode cX12_seen 43 = .ok (.bipush (-3), 2) := by decide +kernel
theorem dX12_seen_45 : decode cX12_seen 45 = .ok (.ireturn, 1) := by decide +kernel
theorem dX12_seen_46 : decode cX12_seen 46 = .ok (.aload_n 0, 1) := by decide +kernel
theorem dX12_seen_47 : decode cX12_seen 47 = .ok (.getfield 47, 3) := by decide +kernel
theorem dX12_seen_50 : decode cX12_seen 50 = .ok (.aload_n 0, 1) := by decide +kernel
theorem dX12_seen_51 : decode cX12_seen 51 = .ok (.getfield 118, 3) := by decide +kernel
theorem dX12_seen_54 : decode cX12_seen 54 = .ok (.iload_n 1, 1) := by decide +kernel
theorem dX12_seen_55 : decode cX12_seen 55 = .ok (.iastore, 1) := by decide +kernel
theorem dX12_seen_56 : decode cX12_seen 56 = .ok (.aload_n 0, 1) := by decide +kernel
theorem dX12_seen_57 : decode cX12_seen 57 = .ok (.getfield 50, 3) := by decide +kernel
theorem dX12_seen_60 : decode cX12_seen 60 = .ok (.aload_n 0, 1) := by decide +kernel
theorem dX12_seen_61 : decode cX12_seen 61 = .ok (.getfield 118, 3) := by decide +kernel
theorem dX12_seen_64 : decode cX12_seen 64 = .ok (.iload_n 2, 1) := by decide +kernel
theorem dX12_seen_65 : decode cX12_seen 65 = .ok (.iastore, 1) := by decide +kernel
theorem dX12_seen_66 : decode cX12_seen 66 = .ok (.aload_n 0, 1) := by decide +kernel
theorem dX12_seen_67 : decode cX12_seen 67 = .ok (.dup, 1) := by decide +kernel
theorem dX12_seen_68 : decode cX12_seen 68 = .ok (.getfield 118, 3) := by decide +kernel
theorem dX12_seen_71 : decode cX12_seen 71 = .ok (.iconst 1, 1) := by decide +kernel
theorem dX12_seen_72 : decode cX12_seen 72 = .ok (.iadd, 1) := by decide +kernel
theorem dX12_seen_73 : decode cX12_seen 73 = .ok (.putfield 118, 3) := by decide +kernel
theorem dX12_seen_76 : decode cX12_seen 76 = .ok (.aload_n 0, 1) := by decide +kernel
theorem dX12_seen_77 : decode cX12_seen 77 = .ok (.getfield 118, 3) := by decide +kernel
theorem dX12_seen_80 : decode cX12_seen 80 = .ok (.ireturn, 1) := by decide +kernel
theorem dX12_forget_0 : decode cX12_forget 0 = .ok (.aload_n 0, 1) := by decide +kernel
theorem dX12_forget_1 : decode cX12_forget 1 = .ok (.iconst 0, 1) := by decide +kernel
theorem dX12_forget_2 : decode cX12_forget 2 = .ok (.putfield 59, 3) := by decide +kernel
theorem dX12_forget_5 : decode cX12_forget 5 = .ok (.aload_n 0, 1) := by decide +kernel
theorem dX12_forget_6 : decode cX12_forget 6 = .ok (.getfield 118, 3) := by decide +kernel
theorem dX12_forget_9 : decode cX12_forget 9 = .ok (.istore_n 1, 1) := by decide +kernel
theorem dX12_forget_10 : decode cX12_forget 10 = .ok (.aload_n 0, 1) := by decide +kernel
theorem dX12_forget_11 : decode cX12_forget 11 = .ok (.iconst 0, 1) := by decide +kernel
theorem dX12_forget_12 : decode cX12_forget 12 = .ok (.putfield 118, 3) := by decide +kernel
theorem dX12_forget_15 : decode cX12_forget 15 = .ok (.iload_n 1, 1) := by decide +kernel
theorem dX12_forget_16 : decode cX12_forget 16 = .ok (.ireturn, 1) := by decide +kernel
theorem dX12_isAsSeen_0 : decode cX12_isAsSeen 0 = .ok (.iconst 1, 1) := by decide +kernel
theorem dX12_isAsSeen_1 : decode cX12_isAsSeen 1 = .ok (.istore_n 1, 1) := by decide +kernel
theorem dX12_isAsSeen_2 : decode cX12_isAsSeen 2 = .ok (.iconst 0, 1) := by decide +kernel
theorem dX12_isAsSeen_3 : decode cX12_isAsSeen 3 = .ok (.istore_n 2, 1) := by decide +kernel
theorem dX12_isAsSeen_4 : decode cX12_isAsSeen 4 = .ok (.iload_n 2, 1) := by decide +kernel
theorem dX12_isAsSeen_5 : decode cX12_isAsSeen 5 = .ok (.bipush 60, 2) := by decide +kernel
theorem dX12_isAsSeen_7 : decode cX12_isAsSeen 7 = .ok (.if_icmp .gt 68, 3) := by decide +kernel
theorem dX12_isAsSeen_10 : decode cX12_isAsSeen 10 = .ok (.iconst 0, 1) := by decide +kernel
theorem dX12_isAsSeen_11 : decode cX12_isAsSeen 11 = .ok (.istore_n 3, 1) := by decide +kernel
theorem dX12_isAsSeen_12 : decode cX12_isAsSeen 12 = .ok (.iload_n 3, 1) := by decide +kernel
theorem dX12_isAsSeen_13 : decode cX12_isAsSeen 13 = .ok (.aload_n 0, 1) := by decide +kernel
theorem dX12_isAsSeen_14 : decode cX12_isAsSeen 14 = .ok (.getfield 118, 3) := by decide +kernel
theorem dX12_isAsSeen_17 : decode cX12_isAsSeen 17 = .ok (.if_icmp .ge 44, 3) := by decide +kernel
theorem dX12_isAsSeen_20 : decode cX12_isAsSeen 20 = .ok (.iload_n 1, 1) := by decide +kernel
theorem dX12_isAsSeen_21 : decode cX12_isAsSeen 21 = .ok (.ifCond .eq 32, 3) := by decide +kernel
theorem dX12_isAsSeen_24 : decode cX12_isAsSeen 24 = .ok (.aload_n 0, 1) := by decide +kernel
theorem dX12_isAsSeen_25 : decode cX12_isAsSeen 25 = .ok (.getfield 47, 3) := by decide +kernel
theorem dX12_isAsSeen_28 : decode cX12_isAsSeen 28 = .ok (.iload_n 3, 1) := by decide +kernel
theorem dX12_isAsSeen_29 : decode cX12_isAsSeen 29 = .ok (.iaload, 1) := by decide +kernel
theorem dX12_isAsSeen_30 : decode cX12_isAsSeen 30 = .ok (.iload_n 2, 1) := by decide +kernel
theorem dX12_isAsSeen_31 : decode cX12_isAsSeen 31 = .ok (.if_icmp .ne 18, 3) := by decide +kernel
theorem dX12_isAsSeen_34 : decode cX12_isAsSeen 34 = .ok (.aload_n 0, 1) := by decide +kernel
theorem dX12_isAsSeen_35 : decode cX12_isAsSeen 35 = .ok (.getfield 50, 3) := by decide +kernel
theorem dX12_isAsSeen_38 : decode cX12_isAsSeen 38 = .ok (.iload_n 3, 1) := by decide +kernel
theorem dX12_isAsSeen_39 : decode cX12_isAsSeen 39 = .ok (.iaload, 1) := by decide +kernel
theorem dX12_isAsSeen_40 : decode cX12_isAsSeen 40 = .ok (.aload_n 0, 1) := by decide +kernel
theorem dX12_isAsSeen_41 : decode cX12_isAsSeen 41 = .ok (.getfield 34, 3) := by decide +kernel
theorem dX12_isAsSeen_44 : decode cX12_isAsSeen 44 = .ok (.iconst 2, 1) := by decide +kernel
theorem dX12_isAsSeen_45 : decode cX12_isAsSeen 45 = .ok (.iaload, 1) := by decide +kernel
theorem dX12_isAsSeen_46 : decode cX12_isAsSeen 46 = .ok (.if_icmp .ne 7, 3) := by decide +kernel
theorem dX12_isAsSeen_49 : decode cX12_isAsSeen 49 = .ok (.iconst 1, 1) := by decide +kernel
theorem dX12_isAsSeen_50 : decode cX12_isAsSeen 50 = .ok (.goto 4, 3) := by decide +kernel
theorem dX12_isAsSeen_53 : decode cX12_isAsSeen 53 = .ok (.iconst 0, 1) := by decide +kernel
theorem dX12_isAsSeen_54 : decode cX12_isAsSeen 54 = .ok (.istore_n 1, 1) := by decide +kernel
theorem dX12_isAsSeen_55 : decode cX12_isAsSeen 55 = .ok (.iinc 3 1, 3) := by decide +kernel
theorem dX12_isAsSeen_58 : decode cX12_isAsSeen 58 = .ok (.goto (-46), 3) := by decide +kernel
theorem dX12_isAsSeen_61 : decode cX12_isAsSeen 61 = .ok (.aload_n 0, 1) := by decide +kernel
theorem dX12_isAsSeen_62 : decode cX12_isAsSeen 62 = .ok (.aload_n 0, 1) := by decide +kernel
theorem dX12_isAsSeen_63 : decode cX12_isAsSeen 63 = .ok (.getfield 34, 3) := by decide +kernel
theorem dX12_isAsSeen_66 : decode cX12_isAsSeen 66 = .ok (.invokevirtual 153, 3) := by decide +kernel
theorem dX12_isAsSeen_69 : decode cX12_isAsSeen 69 = .ok (.iinc 2 1, 3) := by decide +kernel
theorem dX12_isAsSeen_72 : decode cX12_isAsSeen 72 = .ok (.goto (-68), 3) := by decide +kernel
theorem dX12_isAsSeen_75 : decode cX12_isAsSeen 75 = .ok (.iload_n 1, 1) := by decide +kernel
theorem dX12_isAsSeen_76 : decode cX12_isAsSeen 76 = .ok (.ireturn, 1) := by decide +kernel
theorem dX12_who_0 : decode cX12_who 0 = .ok (.aload_n 0, 1) := by decide +kernel
theorem dX12_who_1 : decode cX12_who 1 = .ok (.iconst 0, 1) := by decide +kernel
theorem dX12_who_2 : decode cX12_who 2 = .ok (.putfield 59, 3) := by decide +kernel
theorem dX12_who_5 : decode cX12_who 5 = .ok (.aload_n 0, 1) := by decide +kernel
theorem dX12_who_6 : decode cX12_who 6 = .ok (.invokevirtual 156, 3) := by decide +kernel
theorem dX12_who_9 : decode cX12_who 9 = .ok (.aload_n 0, 1) := by decide +kernel
theorem dX12_who_10 : decode cX12_who 10 = .ok (.invokevirtual 165, 3) := by decide +kernel
theorem dX12_who_13 : decode cX12_who 13 = .ok (.ifCond .eq 8, 3) := by decide +kernel
theorem dX12_who_16 : decode cX12_who 16 = .ok (.bipush 64, 2) := by decide +kernel
theorem dX12_who_18 : decode cX12_who 18 = .ok (.goto 4, 3) := by decide +kernel
theorem dX12_who_21 : decode cX12_who 21 = .ok (.iconst 0, 1) := by decide +kernel
theorem dX12_who_22 : decode cX12_who 22 = .ok (.istore_n 1, 1) := by decide +kernel
theorem dX12_who_23 : decode cX12_who 23 = .ok (.iconst 0, 1) := by decide +kernel
theorem dX12_who_24 : decode cX12_who 24 = .ok (.istore_n 2, 1) := by decide +kernel
theorem dX12_who_25 : decode cX12_who 25 = .ok (.iload_n 2, 1) := by decide +kernel
theorem dX12_who_26 : decode cX12_who 26 = .ok (.aload_n 0, 1) := by decide +kernel
theorem dX12_who_27 : decode cX12_who 27 = .ok (.getfield 13, 3) := by decide +kernel
theorem dX12_who_30 : decode cX12_who 30 = .ok (.iconst 0, 1) := by decide +kernel
theorem dX12_who_31 : decode cX12_who 31 = .ok (.iaload, 1) := by decide +kernel
theorem dX12_who_32 : decode cX12_who 32 = .ok (.if_icmp .ge 52, 3) := by decide +kernel
theorem dX12_who_35 : decode cX12_who 35 = .ok (.aload_n 0, 1) := by decide +kernel
theorem dX12_who_36 : decode cX12_who 36 = .ok (.aload_n 0, 1) := by decide +kernel
theorem dX12_who_37 : decode cX12_who 37 = .ok (.getfield 31, 3) := by decide +kernel
theorem dX12_who_40 : decode cX12_who 40 = .ok (.invokevirtual 134, 3) := by decide +kernel
theorem dX12_who_43 : decode cX12_who 43 = .ok (.ifCond .ne 41, 3) := by decide +kernel
theorem dX12_who_46 : decode cX12_who 46 = .ok (.aload_n 0, 1) := by decide +kernel
theorem dX12_who_47 : decode cX12_who 47 = .ok (.invokevirtual 156, 3) := by decide +kernel
theorem dX12_who_50 : decode cX12_who 50 = .ok (.aload_n 0, 1) := by decide +kernel
theorem dX12_who_51 : decode cX12_who 51 = .ok (.aload_n 0, 1) := by decide +kernel
theorem dX12_who_52 : decode cX12_who 52 = .ok (.getfield 34, 3) := by decide +kernel
theorem dX12_who_55 : decode cX12_who 55 = .ok (.iconst 1, 1) := by decide +kernel
theorem dX12_who_56 : decode cX12_who 56 = .ok (.iload_n 2, 1) := by decide +kernel
theorem dX12_who_57 : decode cX12_who 57 = .ok (.ishl, 1) := by decide +kernel
theorem dX12_who_58 : decode cX12_who 58 = .ok (.invokevirtual 142, 3) := by decide +kernel
theorem dX12_who_61 : decode cX12_who 61 = .ok (.iload_n 1, 1) := by decide +kernel
theorem dX12_who_62 : decode cX12_who 62 = .ok (.aload_n 0, 1) := by decide +kernel
theorem dX12_who_63 : decode cX12_who 63 = .ok (.invokevirtual 165, 3) := by decide +kernel
theorem dX12_who_66 : decode cX12_who 66 = .ok (.ifCond .eq 9, 3) := by decide +kernel
theorem dX12_who_69 : decode cX12_who 69 = .ok (.iconst 1, 1) := by decide +kernel
theorem dX12_who_70 : decode cX12_who 70 = .ok (.iload_n 2, 1) := by decide +kernel
theorem dX12_who_71 : decode cX12_who 71 = .ok (.ishl, 1) := by decide +kernel
theorem dX12_who_72 : decode cX12_who 72 = .ok (.goto 4, 3) := by decide +kernel
theorem dX12_who_75 : decode cX12_who 75 = .ok (.iconst 0, 1) := by decide +kernel
theorem dX12_who_76 : decode cX12_who 76 = .ok (.ior, 1) := by decide +kernel
theorem dX12_who_77 : decode cX12_who 77 = .ok (.istore_n 1, 1) := by decide +kernel
theorem dX12_who_78 : decode cX12_who 78 = .ok (.iinc 2 1, 3) := by decide +kernel
theorem dX12_who_81 : decode cX12_who 81 = .ok (.goto (-56), 3) := by decide +kernel
theorem dX12_who_84 : decode cX12_who 84 = .ok (.iload_n 1, 1) := by decide +kernel
theorem dX12_who_85 : decode cX12_who 85 = .ok (.ireturn, 1) := by decide +kernel
theorem dX12_power_0 : decode cX12_power 0 = .ok (.iconst 1, 1) := by decide +kernel
theorem dX12_power_1 : decode cX12_power 1 = .ok (.istore_n 2, 1) := by decide +kernel
theorem dX12_power_2 : decode cX12_power 2 = .ok (.iconst 0, 1) := by decide +kernel
theorem dX12_power_3 : decode cX12_power 3 = .ok (.istore_n 3, 1) := by decide +kernel
theorem dX12_power_4 : decode cX12_power 4 = .ok (.iload_n 3, 1) := by decide +kernel
theorem dX12_power_5 : decode cX12_power 5 = .ok (.iload_n 1, 1) := by decide +kernel
theorem dX12_power_6 : decode cX12_power 6 = .ok (.if_icmp .ge 13, 3) := by decide +kernel
theorem dX12_power_9 : decode cX12_power 9 = .ok (.iload_n 2, 1) := by decide +kernel
theorem dX12_power_10 : decode cX12_power 10 = .ok (.iload_n 0, 1) := by decide +kernel
theorem dX12_power_11 : decode cX12_power 11 = .ok (.imul, 1) := by decide +kernel
theorem dX12_power_12 : decode cX12_power 12 = .ok (.istore_n 2, 1) := by decide +kernel
theorem dX12_power_13 : decode cX12_power 13 = .ok (.iinc 3 1, 3) := by decide +kernel
theorem dX12_power_16 : decode cX12_power 16 = .ok (.goto (-12), 3) := by decide +kernel
theorem dX12_power_19 : decode cX12_power 19 = .ok (.iload_n 2, 1) := by decide +kernel
theorem dX12_power_20 : decode cX12_power 20 = .ok (.ireturn, 1) := by decide +kernel
theorem dX12_gcd_0 : decode cX12_gcd 0 = .ok (.iload_n 0, 1) := by decide +kernel
theorem dX12_gcd_1 : decode cX12_gcd 1 = .ok (.istore_n 2, 1) := by decide +kernel
theorem dX12_gcd_2 : decode cX12_gcd 2 = .ok (.iload_n 1, 1) := by decide +kernel
theorem dX12_gcd_3 : decode cX12_gcd 3 = .ok (.istore_n 3, 1) := by decide +kernel
theorem dX12_gcd_4 : decode cX12_gcd 4 = .ok (.iload_n 3, 1) := by decide +kernel
theorem dX12_gcd_5 : decode cX12_gcd 5 = .ok (.ifCond .eq 16, 3) := by decide +kernel
theorem dX12_gcd_8 : decode cX12_gcd 8 = .ok (.iload_n 2, 1) := by decide +kernel
theorem dX12_gcd_9 : decode cX12_gcd 9 = .ok (.iload_n 3, 1) := by decide +kernel
theorem dX12_gcd_10 : decode cX12_gcd 10 = .ok (.irem, 1) := by decide +kernel
theorem dX12_gcd_11 : decode cX12_gcd 11 = .ok (.istore 4, 2) := by decide +kernel
theorem dX12_gcd_13 : decode cX12_gcd 13 = .ok (.iload_n 3, 1) := by decide +kernel
theorem dX12_gcd_14 : decode cX12_gcd 14 = .ok (.istore_n 2, 1) := by decide +kernel
theorem dX12_gcd_15 : decode cX12_gcd 15 = .ok (.iload 4, 2) := by decide +kernel
theorem dX12_gcd_17 : decode cX12_gcd 17 = .ok (.istore_n 3, 1) := by decide +kernel
theorem dX12_gcd_18 : decode cX12_gcd 18 = .ok (.goto (-14), 3) := by decide +kernel
theorem dX12_gcd_21 : decode cX12_gcd 21 = .ok (.iload_n 2, 1) := by decide +kernel
theorem dX12_gcd_22 : decode cX12_gcd 22 = .ok (.ireturn, 1) := by decide +kernel
theorem dX12_odds_0 : decode cX12_odds 0 = .ok (.aload_n 0, 1) := by decide +kernel
theorem dX12_odds_1 : decode cX12_odds 1 = .ok (.iconst 0, 1) := by decide +kernel
theorem dX12_odds_2 : decode cX12_odds 2 = .ok (.putfield 59, 3) := by decide +kernel
theorem dX12_odds_5 : decode cX12_odds 5 = .ok (.aload_n 0, 1) := by decide +kernel
theorem dX12_odds_6 : decode cX12_odds 6 = .ok (.iload_n 1, 1) := by decide +kernel
theorem dX12_odds_7 : decode cX12_odds 7 = .ok (.invokevirtual 124, 3) := by decide +kernel
theorem dX12_odds_10 : decode cX12_odds 10 = .ok (.ifCond .eq 33, 3) := by decide +kernel
theorem dX12_odds_13 : decode cX12_odds 13 = .ok (.iload_n 2, 1) := by decide +kernel
theorem dX12_odds_14 : decode cX12_odds 14 = .ok (.iconst 0, 1) := by decide +kernel
theorem dX12_odds_15 : decode cX12_odds 15 = .ok (.bipush 10, 2) := by decide +kernel
theorem dX12_odds_17 : decode cX12_odds 17 = .ok (.invokestatic 63, 3) := by decide +kernel
theorem dX12_odds_20 : decode cX12_odds 20 = .ok (.ifCond .eq 23, 3) := by decide +kernel
theorem dX12_odds_23 : decode cX12_odds 23 = .ok (.iload_n 3, 1) := by decide +kernel
theorem dX12_odds_24 : decode cX12_odds 24 = .ok (.iconst 0, 1) := by decide +kernel
theorem dX12_odds_25 : decode cX12_odds 25 = .ok (.bipush 6, 2) := by decide +kernel
theorem dX12_odds_27 : decode cX12_odds 27 = .ok (.invokestatic 63, 3) := by decide +kernel
theorem dX12_odds_30 : decode cX12_odds 30 = .ok (.ifCond .eq 13, 3) := by decide +kernel
theorem dX12_odds_33 : decode cX12_odds 33 = .ok (.iload 4, 2) := by decide +kernel
theorem dX12_odds_35 : decode cX12_odds 35 = .ok (.iconst 0, 1) := by decide +kernel
theorem dX12_odds_36 : decode cX12_odds 36 = .ok (.iconst 1, 1) := by decide +kernel
theorem dX12_odds_37 : decode cX12_odds 37 = .ok (.invokestatic 63, 3) := by decide +kernel
theorem dX12_odds_40 : decode cX12_odds 40 = .ok (.ifCond .ne 5, 3) := by decide +kernel
theorem dX12_odds_43 : decode cX12_odds 43 = .ok (.iconst (-1), 1) := by decide +kernel
theorem dX12_odds_44 : decode cX12_odds 44 = .ok (.ireturn, 1) := by decide +kernel
theorem dX12_odds_45 : decode cX12_odds 45 = .ok (.iconst 0, 1) := by decide +kernel
theorem dX12_odds_46 : decode cX12_odds 46 = .ok (.istore 5, 2) := by decide +kernel
theorem dX12_odds_48 : decode cX12_odds 48 = .ok (.iconst 0, 1) := by decide +kernel
theorem dX12_odds_49 : decode cX12_odds 49 = .ok (.istore 6, 2) := by decide +kernel
theorem dX12_odds_51 : decode cX12_odds 51 = .ok (.iload 6, 2) := by decide +kernel
theorem dX12_odds_53 : decode cX12_odds 53 = .ok (.iconst 1, 1) := by decide +kernel
theorem dX12_odds_54 : decode cX12_odds 54 = .ok (.iload_n 3, 1) := by decide +kernel
theorem dX12_odds_55 : decode cX12_odds 55 = .ok (.ishl, 1) := by decide +kernel
theorem dX12_odds_56 : decode cX12_odds 56 = .ok (.if_icmp .ge 124, 3) := by decide +kernel
theorem dX12_odds_59 : decode cX12_odds 59 = .ok (.iconst 1, 1) := by decide +kernel
theorem dX12_odds_60 : decode cX12_odds 60 = .ok (.istore 7, 2) := by decide +kernel
theorem dX12_odds_62 : decode cX12_odds 62 = .ok (.aload_n 0, 1) := by decide +kernel
theorem dX12_odds_63 : decode cX12_odds 63 = .ok (.invokevirtual 156, 3) := by decide +kernel
theorem dX12_odds_66 : decode cX12_odds 66 = .ok (.iconst 0, 1) := by decide +kernel
theorem dX12_odds_67 : decode cX12_odds 67 = .ok (.istore 8, 2) := by decide +kernel
theorem dX12_odds_69 : decode cX12_odds 69 = .ok (.iload 8, 2) := by decide +kernel
theorem dX12_odds_71 : decode cX12_odds 71 = .ok (.iload_n 3, 1) := by decide +kernel
theorem dX12_odds_72 : decode cX12_odds 72 = .ok (.if_icmp .ge 80, 3) := by decide +kernel
theorem dX12_odds_75 : decode cX12_odds 75 = .ok (.iload 6, 2) := by decide +kernel
theorem dX12_odds_77 : decode cX12_odds 77 = .ok (.iload 8, 2) := by decide +kernel
theorem dX12_odds_79 : decode cX12_odds 79 = .ok (.ishr, 1) := by decide +kernel
theorem dX12_odds_80 : decode cX12_odds 80 = .ok (.iconst 1, 1) := by decide +kernel
theorem dX12_odds_81 : decode cX12_odds 81 = .ok (.iand, 1) := by decide +kernel
theorem dX12_odds_82 : decode cX12_odds 82 = .ok (.iconst 1, 1) := by decide +kernel
theorem dX12_odds_83 : decode cX12_odds 83 = .ok (.if_icmp .ne 7, 3) := by decide +kernel
theorem dX12_odds_86 : decode cX12_odds 86 = .ok (.iconst 1, 1) := by decide +kernel
theorem dX12_odds_87 : decode cX12_odds 87 = .ok (.goto 4, 3) := by decide +kernel
theorem dX12_odds_90 : decode cX12_odds 90 = .ok (.iconst 0, 1) := by decide +kernel
theorem dX12_odds_91 : decode cX12_odds 91 = .ok (.istore 9, 2) := by decide +kernel
theorem dX12_odds_93 : decode cX12_odds 93 = .ok (.iload 7, 2) := by decide +kernel
theorem dX12_odds_95 : decode cX12_odds 95 = .ok (.iload 9, 2) := by decide +kernel
theorem dX12_odds_97 : decode cX12_odds 97 = .ok (.ifCond .eq 7, 3) := by decide +kernel
theorem dX12_odds_100 : decode cX12_odds 100 = .ok (.iload_n 2, 1) := by decide +kernel
theorem dX12_odds_101 : decode cX12_odds 101 = .ok (.goto 7, 3) := by decide +kernel
theorem dX12_odds_104 : decode cX12_odds 104 = .ok (.bipush 10, 2) := by decide +kernel
theorem dX12_odds_106 : decode cX12_odds 106 = .ok (.iload_n 2, 1) := by decide +kernel
theorem dX12_odds_107 : decode cX12_odds 107 = .ok (.isub, 1) := by decide +kernel
theorem dX12_odds_108 : decode cX12_odds 108 = .ok (.imul, 1) := by decide +kernel
theorem dX12_odds_109 : decode cX12_odds 109 = .ok (.istore 7, 2) := by decide +kernel
theorem dX12_odds_111 : decode cX12_odds 111 = .ok (.iload 9, 2) := by decide +kernel
theorem dX12_odds_113 : decode cX12_odds 113 = .ok (.ifCond .eq 25, 3) := by decide +kernel
theorem dX12_odds_116 : decode cX12_odds 116 = .ok (.aload_n 0, 1) := by decide +kernel
theorem dX12_odds_117 : decode cX12_odds 117 = .ok (.aload_n 0, 1) := by decide +kernel
theorem dX12_odds_118 : decode cX12_odds 118 = .ok (.getfield 34, 3) := by decide +kernel
theorem dX12_odds_121 : decode cX12_odds 121 = .ok (.invokevirtual 134, 3) := by decide +kernel
theorem dX12_odds_124 : decode cX12_odds 124 = .ok (.ifCond .ne 14, 3) := by decide +kernel
theorem dX12_odds_127 : decode cX12_odds 127 = .ok (.aload_n 0, 1) := by decide +kernel
theorem dX12_odds_128 : decode cX12_odds 128 = .ok (.aload_n 0, 1) := by decide +kernel
theorem dX12_odds_129 : decode cX12_odds 129 = .ok (.getfield 34, 3) := by decide +kernel
theorem dX12_odds_132 : decode cX12_odds 132 = .ok (.iconst 1, 1) := by decide +kernel
theorem dX12_odds_133 : decode cX12_odds 133 = .ok (.iload_n 1, 1) := by decide +kernel
theorem dX12_odds_134 : decode cX12_odds 134 = .ok (.ishl, 1) := by decide +kernel
theorem dX12_odds_135 : decode cX12_odds 135 = .ok (.invokevirtual 142, 3) := by decide +kernel
theorem dX12_odds_138 : decode cX12_odds 138 = .ok (.aload_n 0, 1) := by decide +kernel
theorem dX12_odds_139 : decode cX12_odds 139 = .ok (.aload_n 0, 1) := by decide +kernel
theorem dX12_odds_140 : decode cX12_odds 140 = .ok (.getfield 34, 3) := by decide +kernel
theorem dX12_odds_143 : decode cX12_odds 143 = .ok (.invokevirtual 153, 3) := by decide +kernel
theorem dX12_odds_146 : decode cX12_odds 146 = .ok (.iinc 8 1, 3) := by decide +kernel
theorem dX12_odds_149 : decode cX12_odds 149 = .ok (.goto (-80), 3) := by decide +kernel
theorem dX12_odds_152 : decode cX12_odds 152 = .ok (.iload 5, 2) := by decide +kernel
theorem dX12_odds_154 : decode cX12_odds 154 = .ok (.aload_n 0, 1) := by decide +kernel
theorem dX12_odds_155 : decode cX12_odds 155 = .ok (.aload_n 0, 1) := by decide +kernel
theorem dX12_odds_156 : decode cX12_odds 156 = .ok (.getfield 34, 3) := by decide +kernel
theorem dX12_odds_159 : decode cX12_odds 159 = .ok (.invokevirtual 134, 3) := by decide +kernel
theorem dX12_odds_162 : decode cX12_odds 162 = .ok (.ifCond .eq 8, 3) := by decide +kernel
theorem dX12_odds_165 : decode cX12_odds 165 = .ok (.iload 7, 2) := by decide +kernel
theorem dX12_odds_167 : decode cX12_odds 167 = .ok (.goto 4, 3) := by decide +kernel
theorem dX12_odds_170 : decode cX12_odds 170 = .ok (.iconst 0, 1) := by decide +kernel
theorem dX12_odds_171 : decode cX12_odds 171 = .ok (.iadd, 1) := by decide +kernel
theorem dX12_odds_172 : decode cX12_odds 172 = .ok (.istore 5, 2) := by decide +kernel
theorem dX12_odds_174 : decode cX12_odds 174 = .ok (.iinc 6 1, 3) := by decide +kernel
theorem dX12_odds_177 : decode cX12_odds 177 = .ok (.goto (-126), 3) := by decide +kernel
theorem dX12_odds_180 : decode cX12_odds 180 = .ok (.bipush 10, 2) := by decide +kernel
theorem dX12_odds_182 : decode cX12_odds 182 = .ok (.iload_n 3, 1) := by decide +kernel
theorem dX12_odds_183 : decode cX12_odds 183 = .ok (.invokestatic 168, 3) := by decide +kernel
theorem dX12_odds_186 : decode cX12_odds 186 = .ok (.istore 6, 2) := by decide +kernel
theorem dX12_odds_188 : decode cX12_odds 188 = .ok (.iload 5, 2) := by decide +kernel
theorem dX12_odds_190 : decode cX12_odds 190 = .ok (.iload 6, 2) := by decide +kernel
theorem dX12_odds_192 : decode cX12_odds 192 = .ok (.invokestatic 171, 3) := by decide +kernel
theorem dX12_odds_195 : decode cX12_odds 195 = .ok (.istore 7, 2) := by decide +kernel
theorem dX12_odds_197 : decode cX12_odds 197 = .ok (.iload 4, 2) := by decide +kernel
theorem dX12_odds_199 : decode cX12_odds 199 = .ok (.ifCond .ne 11, 3) := by decide +kernel
theorem dX12_odds_202 : decode cX12_odds 202 = .ok (.iload 5, 2) := by decide +kernel
theorem dX12_odds_204 : decode cX12_odds 204 = .ok (.iload 7, 2) := by decide +kernel
theorem dX12_odds_206 : decode cX12_odds 206 = .ok (.idiv, 1) := by decide +kernel
theorem dX12_odds_207 : decode cX12_odds 207 = .ok (.goto 8, 3) := by decide +kernel
theorem dX12_odds_210 : decode cX12_odds 210 = .ok (.iload 6, 2) := by decide +kernel
theorem dX12_odds_212 : decode cX12_odds 212 = .ok (.iload 7, 2) := by decide +kernel
theorem dX12_odds_214 : decode cX12_odds 214 = .ok (.idiv, 1) := by decide +kernel
theorem dX12_odds_215 : decode cX12_odds 215 = .ok (.ireturn, 1) := by decide +kernel
theorem dX12_rate_0 : decode cX12_rate 0 = .ok (.aload_n 0, 1) := by decide +kernel
theorem dX12_rate_1 : decode cX12_rate 1 = .ok (.iconst 0, 1) := by decide +kernel
theorem dX12_rate_2 : decode cX12_rate 2 = .ok (.putfield 59, 3) := by decide +kernel
theorem dX12_rate_5 : decode cX12_rate 5 = .ok (.iload_n 1, 1) := by decide +kernel
theorem dX12_rate_6 : decode cX12_rate 6 = .ok (.iconst 0, 1) := by decide +kernel
theorem dX12_rate_7 : decode cX12_rate 7 = .ok (.iconst 5, 1) := by decide +kernel
theorem dX12_rate_8 : decode cX12_rate 8 = .ok (.invokestatic 63, 3) := by decide +kernel
theorem dX12_rate_11 : decode cX12_rate 11 = .ok (.ifCond .eq 11, 3) := by decide +kernel
theorem dX12_rate_14 : decode cX12_rate 14 = .ok (.aload_n 0, 1) := by decide +kernel
theorem dX12_rate_15 : decode cX12_rate 15 = .ok (.iload_n 2, 1) := by decide +kernel
theorem dX12_rate_16 : decode cX12_rate 16 = .ok (.invokevirtual 124, 3) := by decide +kernel
theorem dX12_rate_19 : decode cX12_rate 19 = .ok (.ifCond .ne 6, 3) := by decide +kernel
theorem dX12_rate_22 : decode cX12_rate 22 = .ok (.ldc 174, 2) := by decide +kernel
theorem dX12_rate_24 : decode cX12_rate 24 = .ok (.ireturn, 1) := by decide +kernel
theorem dX12_rate_25 : decode cX12_rate 25 = .ok (.aload_n 0, 1) := by decide +kernel
theorem dX12_rate_26 : decode cX12_rate 26 = .ok (.getfield 16, 3) := by decide +kernel
theorem dX12_rate_29 : decode cX12_rate 29 = .ok (.iload_n 2, 1) := by decide +kernel
theorem dX12_rate_30 : decode cX12_rate 30 = .ok (.iaload, 1) := by decide +kernel
theorem dX12_rate_31 : decode cX12_rate 31 = .ok (.aload_n 0, 1) := by decide +kernel
theorem dX12_rate_32 : decode cX12_rate 32 = .ok (.getfield 31, 3) := by decide +kernel
theorem dX12_rate_35 : decode cX12_rate 35 = .ok (.iconst 3, 1) := by decide +kernel
theorem dX12_rate_36 : decode cX12_rate 36 = .ok (.iload_n 2, 1) := by decide +kernel
theorem dX12_rate_37 : decode cX12_rate 37 = .ok (.iadd, 1) := by decide +kernel
theorem dX12_rate_38 : decode cX12_rate 38 = .ok (.iaload, 1) := by decide +kernel
theorem dX12_rate_39 : decode cX12_rate 39 = .ok (.iadd, 1) := by decide +kernel
theorem dX12_rate_40 : decode cX12_rate 40 = .ok (.istore_n 3, 1) := by decide +kernel
theorem dX12_rate_41 : decode cX12_rate 41 = .ok (.aload_n 0, 1) := by decide +kernel
theorem dX12_rate_42 : decode cX12_rate 42 = .ok (.getfield 16, 3) := by decide +kernel
theorem dX12_rate_45 : decode cX12_rate 45 = .ok (.iload_n 2, 1) := by decide +kernel
theorem dX12_rate_46 : decode cX12_rate 46 = .ok (.iaload, 1) := by decide +kernel
theorem dX12_rate_47 : decode cX12_rate 47 = .ok (.aload_n 0, 1) := by decide +kernel
theorem dX12_rate_48 : decode cX12_rate 48 = .ok (.getfield 19, 3) := by decide +kernel
theorem dX12_rate_51 : decode cX12_rate 51 = .ok (.iload_n 2, 1) := by decide +kernel
theorem dX12_rate_52 : decode cX12_rate 52 = .ok (.iaload, 1) := by decide +kernel
theorem dX12_rate_53 : decode cX12_rate 53 = .ok (.isub, 1) := by decide +kernel
theorem dX12_rate_54 : decode cX12_rate 54 = .ok (.istore 4, 2) := by decide +kernel
theorem dX12_rate_56 : decode cX12_rate 56 = .ok (.aload_n 0, 1) := by decide +kernel
theorem dX12_rate_57 : decode cX12_rate 57 = .ok (.dup, 1) := by decide +kernel
theorem dX12_rate_58 : decode cX12_rate 58 = .ok (.getfield 175, 3) := by decide +kernel
theorem dX12_rate_61 : decode cX12_rate 61 = .ok (.iload_n 1, 1) := by decide +kernel
theorem dX12_rate_62 : decode cX12_rate 62 = .ok (.ifCond .ne 7, 3) := by decide +kernel
theorem dX12_rate_65 : decode cX12_rate 65 = .ok (.lconst 1, 1) := by decide +kernel
theorem dX12_rate_66 : decode cX12_rate 66 = .ok (.goto 50, 3) := by decide +kernel
theorem dX12_rate_69 : decode cX12_rate 69 = .ok (.iload_n 1, 1) := by decide +kernel
theorem dX12_rate_70 : decode cX12_rate 70 = .ok (.iconst 1, 1) := by decide +kernel
theorem dX12_rate_71 : decode cX12_rate 71 = .ok (.if_icmp .ne 9, 3) := by decide +kernel
theorem dX12_rate_74 : decode cX12_rate 74 = .ok (.ldc2_w 179, 3) := by decide +kernel
theorem dX12_rate_77 : decode cX12_rate 77 = .ok (.goto 39, 3) := by decide +kernel
theorem dX12_rate_80 : decode cX12_rate 80 = .ok (.iload_n 1, 1) := by decide +kernel
theorem dX12_rate_81 : decode cX12_rate 81 = .ok (.iconst 2, 1) := by decide +kernel
theorem dX12_rate_82 : decode cX12_rate 82 = .ok (.if_icmp .ne 9, 3) := by decide +kernel
theorem dX12_rate_85 : decode cX12_rate 85 = .ok (.ldc2_w 181, 3) := by decide +kernel
theorem dX12_rate_88 : decode cX12_rate 88 = .ok (.goto 28, 3) := by decide +kernel
theorem dX12_rate_91 : decode cX12_rate 91 = .ok (.iload_n 1, 1) := by decide +kernel
theorem dX12_rate_92 : decode cX12_rate 92 = .ok (.iconst 3, 1) := by decide +kernel
theorem dX12_rate_93 : decode cX12_rate 93 = .ok (.if_icmp .ne 9, 3) := by decide +kernel
theorem dX12_rate_96 : decode cX12_rate 96 = .ok (.ldc2_w 183, 3) := by decide +kernel
theorem dX12_rate_99 : decode cX12_rate 99 = .ok (.goto 17, 3) := by decide +kernel
theorem dX12_rate_102 : decode cX12_rate 102 = .ok (.iload_n 1, 1) := by decide +kernel
theorem dX12_rate_103 : decode cX12_rate 103 = .ok (.iconst 4, 1) := by decide +kernel
theorem dX12_rate_104 : decode cX12_rate 104 = .ok (.if_icmp .ne 9, 3) := by decide +kernel
theorem dX12_rate_107 : decode cX12_rate 107 = .ok (.ldc2_w 185, 3) := by decide +kernel
theorem dX12_rate_110 : decode cX12_rate 110 = .ok (.goto 6, 3) := by decide +kernel
theorem dX12_rate_113 : decode cX12_rate 113 = .ok (.ldc2_w 187, 3) := by decide +kernel
theorem dX12_rate_116 : decode cX12_rate 116 = .ok (.ladd, 1) := by decide +kernel
theorem dX12_rate_117 : decode cX12_rate 117 = .ok (.putfield 175, 3) := by decide +kernel
theorem dX12_rate_120 : decode cX12_rate 120 = .ok (.iload_n 1, 1) := by decide +kernel
theorem dX12_rate_121 : decode cX12_rate 121 = .ok (.ifCond .ne 12, 3) := by decide +kernel
theorem dX12_rate_124 : decode cX12_rate 124 = .ok (.aload_n 0, 1) := by decide +kernel
theorem dX12_rate_125 : decode cX12_rate 125 = .ok (.getfield 16, 3) := by decide +kernel
theorem dX12_rate_128 : decode cX12_rate 128 = .ok (.iload_n 2, 1) := by decide +kernel
theorem dX12_rate_129 : decode cX12_rate 129 = .ok (.iaload, 1) := by decide +kernel
theorem dX12_rate_130 : decode cX12_rate 130 = .ok (.goto 61, 3) := by decide +kernel
theorem dX12_rate_133 : decode cX12_rate 133 = .ok (.iload_n 1, 1) := by decide +kernel
theorem dX12_rate_134 : decode cX12_rate 134 = .ok (.iconst 1, 1) := by decide +kernel
theorem dX12_rate_135 : decode cX12_rate 135 = .ok (.if_icmp .ne 7, 3) := by decide +kernel
theorem dX12_rate_138 : decode cX12_rate 138 = .ok (.iload_n 3, 1) := by decide +kernel
theorem dX12_rate_139 : decode cX12_rate 139 = .ok (.goto 52, 3) := by decide +kernel
theorem dX12_rate_142 : decode cX12_rate 142 = .ok (.iload_n 1, 1) := by decide +kernel
theorem dX12_rate_143 : decode cX12_rate 143 = .ok (.iconst 2, 1) := by decide +kernel
theorem dX12_rate_144 : decode cX12_rate 144 = .ok (.if_icmp .ne 8, 3) := by decide +kernel
theorem dX12_rate_147 : decode cX12_rate 147 = .ok (.iload 4, 2) := by decide +kernel
theorem dX12_rate_149 : decode cX12_rate 149 = .ok (.goto 42, 3) := by decide +kernel
theorem dX12_rate_152 : decode cX12_rate 152 = .ok (.iload_n 1, 1) := by decide +kernel
theorem dX12_rate_153 : decode cX12_rate 153 = .ok (.iconst 3, 1) := by decide +kernel
theorem dX12_rate_154 : decode cX12_rate 154 = .ok (.if_icmp .ne 9, 3) := by decide +kernel
theorem dX12_rate_157 : decode cX12_rate 157 = .ok (.iconst 2, 1) := by decide +kernel
theorem dX12_rate_158 : decode cX12_rate 158 = .ok (.iload_n 3, 1) := by decide +kernel
theorem dX12_rate_159 : decode cX12_rate 159 = .ok (.imul, 1) := by decide +kernel
theorem dX12_rate_160 : decode cX12_rate 160 = .ok (.goto 31, 3) := by decide +kernel
theorem dX12_rate_163 : decode cX12_rate 163 = .ok (.iload_n 1, 1) := by decide +kernel
theorem dX12_rate_164 : decode cX12_rate 164 = .ok (.iconst 4, 1) := by decide +kernel
theorem dX12_rate_165 : decode cX12_rate 165 = .ok (.if_icmp .ne 10, 3) := by decide +kernel
theorem dX12_rate_168 : decode cX12_rate 168 = .ok (.iload 4, 2) := by decide +kernel
theorem dX12_rate_170 : decode cX12_rate 170 = .ok (.iload_n 2, 1) := by decide +kernel
theorem dX12_rate_171 : decode cX12_rate 171 = .ok (.iadd, 1) := by decide +kernel
theorem dX12_rate_172 : decode cX12_rate 172 = .ok (.goto 19, 3) := by decide +kernel
theorem dX12_rate_175 : decode cX12_rate 175 = .ok (.aload_n 0, 1) := by decide +kernel
theorem dX12_rate_176 : decode cX12_rate 176 = .ok (.getfield 16, 3) := by decide +kernel
theorem dX12_rate_179 : decode cX12_rate 179 = .ok (.iload_n 2, 1) := by decide +kernel
theorem dX12_rate_180 : decode cX12_rate 180 = .ok (.iaload, 1) := by decide +kernel
theorem dX12_rate_181 : decode cX12_rate 181 = .ok (.aload_n 0, 1) := by decide +kernel
theorem dX12_rate_182 : decode cX12_rate 182 = .ok (.getfield 31, 3) := by decide +kernel
theorem dX12_rate_185 : decode cX12_rate 185 = .ok (.bipush 9, 2) := by decide +kernel
theorem dX12_rate_187 : decode cX12_rate 187 = .ok (.iload_n 2, 1) := by decide +kernel
theorem dX12_rate_188 : decode cX12_rate 188 = .ok (.iadd, 1) := by decide +kernel
theorem dX12_rate_189 : decode cX12_rate 189 = .ok (.iaload, 1) := by decide +kernel
theorem dX12_rate_190 : decode cX12_rate 190 = .ok (.iadd, 1) := by decide +kernel
theorem dX12_rate_191 : decode cX12_rate 191 = .ok (.ireturn, 1) := by decide +kernel
theorem dX12_keep_0 : decode cX12_keep 0 = .ok (.aload_n 0, 1) := by decide +kernel
theorem dX12_keep_1 : decode cX12_keep 1 = .ok (.iconst 0, 1) := by decide +kernel
theorem dX12_keep_2 : decode cX12_keep 2 = .ok (.putfield 59, 3) := by decide +kernel
theorem dX12_keep_5 : decode cX12_keep 5 = .ok (.iload_n 1, 1) := by decide +kernel
theorem dX12_keep_6 : decode cX12_keep 6 = .ok (.iconst 0, 1) := by decide +kernel
theorem dX12_keep_7 : decode cX12_keep 7 = .ok (.iconst 1, 1) := by decide +kernel
theorem dX12_keep_8 : decode cX12_keep 8 = .ok (.invokestatic 63, 3) := by decide +kernel
theorem dX12_keep_11 : decode cX12_keep 11 = .ok (.ifCond .ne 5, 3) := by decide +kernel
theorem dX12_keep_14 : decode cX12_keep 14 = .ok (.iconst (-1), 1) := by decide +kernel
theorem dX12_keep_15 : decode cX12_keep 15 = .ok (.ireturn, 1) := by decide +kernel
theorem dX12_keep_16 : decode cX12_keep 16 = .ok (.iconst 0, 1) := by decide +kernel
theorem dX12_keep_17 : decode cX12_keep 17 = .ok (.istore_n 2, 1) := by decide +kernel
theorem dX12_keep_18 : decode cX12_keep 18 = .ok (.iload_n 2, 1) := by decide +kernel
theorem dX12_keep_19 : decode cX12_keep 19 = .ok (.bipush 15, 2) := by decide +kernel
theorem dX12_keep_21 : decode cX12_keep 21 = .ok (.if_icmp .ge 26, 3) := by decide +kernel
theorem dX12_keep_24 : decode cX12_keep 24 = .ok (.aload_n 0, 1) := by decide +kernel
theorem dX12_keep_25 : decode cX12_keep 25 = .ok (.getfield 37, 3) := by decide +kernel
theorem dX12_keep_28 : decode cX12_keep 28 = .ok (.bipush 15, 2) := by decide +kernel
theorem dX12_keep_30 : decode cX12_keep 30 = .ok (.iload_n 1, 1) := by decide +kernel
theorem dX12_keep_31 : decode cX12_keep 31 = .ok (.imul, 1) := by decide +kernel
theorem dX12_keep_32 : decode cX12_keep 32 = .ok (.iload_n 2, 1) := by decide +kernel
theorem dX12_keep_33 : decode cX12_keep 33 = .ok (.iadd, 1) := by decide +kernel
theorem dX12_keep_34 : decode cX12_keep 34 = .ok (.aload_n 0, 1) := by decide +kernel
theorem dX12_keep_35 : decode cX12_keep 35 = .ok (.getfield 31, 3) := by decide +kernel
theorem dX12_keep_38 : decode cX12_keep 38 = .ok (.iload_n 2, 1) := by decide +kernel
theorem dX12_keep_39 : decode cX12_keep 39 = .ok (.iaload, 1) := by decide +kernel
theorem dX12_keep_40 : decode cX12_keep 40 = .ok (.iastore, 1) := by decide +kernel
theorem dX12_keep_41 : decode cX12_keep 41 = .ok (.iinc 2 1, 3) := by decide +kernel
theorem dX12_keep_44 : decode cX12_keep 44 = .ok (.goto (-26), 3) := by decide +kernel
theorem dX12_keep_47 : decode cX12_keep 47 = .ok (.aload_n 0, 1) := by decide +kernel
theorem dX12_keep_48 : decode cX12_keep 48 = .ok (.getfield 40, 3) := by decide +kernel
theorem dX12_keep_51 : decode cX12_keep 51 = .ok (.iload_n 1, 1) := by decide +kernel
theorem dX12_keep_52 : decode cX12_keep 52 = .ok (.iconst 1, 1) := by decide +kernel
theorem dX12_keep_53 : decode cX12_keep 53 = .ok (.bastore, 1) := by decide +kernel
theorem dX12_keep_54 : decode cX12_keep 54 = .ok (.aload_n 0, 1) := by decide +kernel
theorem dX12_keep_55 : decode cX12_keep 55 = .ok (.getfield 31, 3) := by decide +kernel
theorem dX12_keep_58 : decode cX12_keep 58 = .ok (.iconst 0, 1) := by decide +kernel
theorem dX12_keep_59 : decode cX12_keep 59 = .ok (.iaload, 1) := by decide +kernel
theorem dX12_keep_60 : decode cX12_keep 60 = .ok (.ireturn, 1) := by decide +kernel
theorem dX12_back_0 : decode cX12_back 0 = .ok (.aload_n 0, 1) := by decide +kernel
theorem dX12_back_1 : decode cX12_back 1 = .ok (.iconst 0, 1) := by decide +kernel
theorem dX12_back_2 : decode cX12_back 2 = .ok (.putfield 59, 3) := by decide +kernel
theorem dX12_back_5 : decode cX12_back 5 = .ok (.iload_n 1, 1) := by decide +kernel
theorem dX12_back_6 : decode cX12_back 6 = .ok (.iconst 0, 1) := by decide +kernel
theorem dX12_back_7 : decode cX12_back 7 = .ok (.iconst 1, 1) := by decide +kernel
theorem dX12_back_8 : decode cX12_back 8 = .ok (.invokestatic 63, 3) := by decide +kernel
theorem dX12_back_11 : decode cX12_back 11 = .ok (.ifCond .ne 5, 3) := by decide +kernel
theorem dX12_back_14 : decode cX12_back 14 = .ok (.iconst (-1), 1) := by decide +kernel
theorem dX12_back_15 : decode cX12_back 15 = .ok (.ireturn, 1) := by decide +kernel
theorem dX12_back_16 : decode cX12_back 16 = .ok (.aload_n 0, 1) := by decide +kernel
theorem dX12_back_17 : decode cX12_back 17 = .ok (.getfield 40, 3) := by decide +kernel
theorem dX12_back_20 : decode cX12_back 20 = .ok (.iload_n 1, 1) := by decide +kernel
theorem dX12_back_21 : decode cX12_back 21 = .ok (.baload, 1) := by decide +kernel
theorem dX12_back_22 : decode cX12_back 22 = .ok (.ifCond .ne 6, 3) := by decide +kernel
theorem dX12_back_25 : decode cX12_back 25 = .ok (.bipush (-2), 2) := by decide +kernel
theorem dX12_back_27 : decode cX12_back 27 = .ok (.ireturn, 1) := by decide +kernel
theorem dX12_back_28 : decode cX12_back 28 = .ok (.iconst 0, 1) := by decide +kernel
theorem dX12_back_29 : decode cX12_back 29 = .ok (.istore_n 2, 1) := by decide +kernel
theorem dX12_back_30 : decode cX12_back 30 = .ok (.iload_n 2, 1) := by decide +kernel
theorem dX12_back_31 : decode cX12_back 31 = .ok (.bipush 15, 2) := by decide +kernel
theorem dX12_back_33 : decode cX12_back 33 = .ok (.if_icmp .ge 26, 3) := by decide +kernel
theorem dX12_back_36 : decode cX12_back 36 = .ok (.aload_n 0, 1) := by decide +kernel
theorem dX12_back_37 : decode cX12_back 37 = .ok (.getfield 31, 3) := by decide +kernel
theorem dX12_back_40 : decode cX12_back 40 = .ok (.iload_n 2, 1) := by decide +kernel
theorem dX12_back_41 : decode cX12_back 41 = .ok (.aload_n 0, 1) := by decide +kernel
theorem dX12_back_42 : decode cX12_back 42 = .ok (.getfield 37, 3) := by decide +kernel
theorem dX12_back_45 : decode cX12_back 45 = .ok (.bipush 15, 2) := by decide +kernel
theorem dX12_back_47 : decode cX12_back 47 = .ok (.iload_n 1, 1) := by decide +kernel
theorem dX12_back_48 : decode cX12_back 48 = .ok (.imul, 1) := by decide +kernel
theorem dX12_back_49 : decode cX12_back 49 = .ok (.iload_n 2, 1) := by decide +kernel
theorem dX12_back_50 : decode cX12_back 50 = .ok (.iadd, 1) := by decide +kernel
theorem dX12_back_51 : decode cX12_back 51 = .ok (.iaload, 1) := by decide +kernel
theorem dX12_back_52 : decode cX12_back 52 = .ok (.iastore, 1) := by decide +kernel
theorem dX12_back_53 : decode cX12_back 53 = .ok (.iinc 2 1, 3) := by decide +kernel
theorem dX12_back_56 : decode cX12_back 56 = .ok (.goto (-26), 3) := by decide +kernel
theorem dX12_back_59 : decode cX12_back 59 = .ok (.aload_n 0, 1) := by decide +kernel
theorem dX12_back_60 : decode cX12_back 60 = .ok (.iconst 0, 1) := by decide +kernel
theorem dX12_back_61 : decode cX12_back 61 = .ok (.putfield 121, 3) := by decide +kernel
theorem dX12_back_64 : decode cX12_back 64 = .ok (.aload_n 0, 1) := by decide +kernel
theorem dX12_back_65 : decode cX12_back 65 = .ok (.getfield 31, 3) := by decide +kernel
theorem dX12_back_68 : decode cX12_back 68 = .ok (.iconst 0, 1) := by decide +kernel
theorem dX12_back_69 : decode cX12_back 69 = .ok (.iaload, 1) := by decide +kernel
theorem dX12_back_70 : decode cX12_back 70 = .ok (.ireturn, 1) := by decide +kernel
theorem dX12_count_0 : decode cX12_count 0 = .ok (.aload_n 0, 1) := by decide +kernel
theorem dX12_count_1 : decode cX12_count 1 = .ok (.iconst 0, 1) := by decide +kernel
theorem dX12_count_2 : decode cX12_count 2 = .ok (.putfield 59, 3) := by decide +kernel
theorem dX12_count_5 : decode cX12_count 5 = .ok (.iload_n 1, 1) := by decide +kernel
theorem dX12_count_6 : decode cX12_count 6 = .ok (.iconst 0, 1) := by decide +kernel
theorem dX12_count_7 : decode cX12_count 7 = .ok (.iconst 2, 1) := by decide +kernel
theorem dX12_count_8 : decode cX12_count 8 = .ok (.invokestatic 63, 3) := by decide +kernel
theorem dX12_count_11 : decode cX12_count 11 = .ok (.ifCond .eq 12, 3) := by decide +kernel
theorem dX12_count_14 : decode cX12_count 14 = .ok (.aload_n 0, 1) := by decide +kernel
theorem dX12_count_15 : decode cX12_count 15 = .ok (.getfield 13, 3) := by decide +kernel
theorem dX12_count_18 : decode cX12_count 18 = .ok (.iload_n 1, 1) := by decide +kernel
theorem dX12_count_19 : decode cX12_count 19 = .ok (.iaload, 1) := by decide +kernel
theorem dX12_count_20 : decode cX12_count 20 = .ok (.goto 28, 3) := by decide +kernel
theorem dX12_count_23 : decode cX12_count 23 = .ok (.iload_n 1, 1) := by decide +kernel
theorem dX12_count_24 : decode cX12_count 24 = .ok (.iconst 3, 1) := by decide +kernel
theorem dX12_count_25 : decode cX12_count 25 = .ok (.if_icmp .ne 10, 3) := by decide +kernel
theorem dX12_count_28 : decode cX12_count 28 = .ok (.aload_n 0, 1) := by decide +kernel
theorem dX12_count_29 : decode cX12_count 29 = .ok (.getfield 118, 3) := by decide +kernel
theorem dX12_count_32 : decode cX12_count 32 = .ok (.goto 16, 3) := by decide +kernel
theorem dX12_count_35 : decode cX12_count 35 = .ok (.iload_n 1, 1) := by decide +kernel
theorem dX12_count_36 : decode cX12_count 36 = .ok (.iconst 4, 1) := by decide +kernel
theorem dX12_count_37 : decode cX12_count 37 = .ok (.if_icmp .ne 10, 3) := by decide +kernel
theorem dX12_count_40 : decode cX12_count 40 = .ok (.aload_n 0, 1) := by decide +kernel
theorem dX12_count_41 : decode cX12_count 41 = .ok (.getfield 67, 3) := by decide +kernel
theorem dX12_count_44 : decode cX12_count 44 = .ok (.goto 4, 3) := by decide +kernel
theorem dX12_count_47 : decode cX12_count 47 = .ok (.iconst (-1), 1) := by decide +kernel
theorem dX12_count_48 : decode cX12_count 48 = .ok (.ireturn, 1) := by decide +kernel
theorem dX12_trace_0 : decode cX12_trace 0 = .ok (.aload_n 0, 1) := by decide +kernel
theorem dX12_trace_1 : decode cX12_trace 1 = .ok (.iconst 0, 1) := by decide +kernel
theorem dX12_trace_2 : decode cX12_trace 2 = .ok (.putfield 59, 3) := by decide +kernel
theorem dX12_trace_5 : decode cX12_trace 5 = .ok (.aload_n 0, 1) := by decide +kernel
theorem dX12_trace_6 : decode cX12_trace 6 = .ok (.getfield 175, 3) := by decide +kernel
theorem dX12_trace_9 : decode cX12_trace 9 = .ok (.lreturn, 1) := by decide +kernel
theorem dJ9_max_7cf53_0 : decode cJ9_max_7cf53 0 = .ok (.iload_n 0, 1) := by decide +kernel
theorem dJ9_max_7cf53_1 : decode cJ9_max_7cf53 1 = .ok (.iload_n 1, 1) := by decide +kernel
theorem dJ9_max_7cf53_2 : decode cJ9_max_7cf53 2 = .ok (.if_icmp .lt 7, 3) := by decide +kernel
theorem dJ9_max_7cf53_5 : decode cJ9_max_7cf53 5 = .ok (.iload_n 0, 1) := by decide +kernel
theorem dJ9_max_7cf53_6 : decode cJ9_max_7cf53 6 = .ok (.goto 4, 3) := by decide +kernel
theorem dJ9_max_7cf53_9 : decode cJ9_max_7cf53 9 = .ok (.iload_n 1, 1) := by decide +kernel
theorem dJ9_max_7cf53_10 : decode cJ9_max_7cf53 10 = .ok (.ireturn, 1) := by decide +kernel
theorem dJ9_min_7cf53_0 : decode cJ9_min_7cf53 0 = .ok (.iload_n 0, 1) := by decide +kernel
theorem dJ9_min_7cf53_1 : decode cJ9_min_7cf53 1 = .ok (.iload_n 1, 1) := by decide +kernel
theorem dJ9_min_7cf53_2 : decode cJ9_min_7cf53 2 = .ok (.if_icmp .gt 7, 3) := by decide +kernel
theorem dJ9_min_7cf53_5 : decode cJ9_min_7cf53 5 = .ok (.iload_n 0, 1) := by decide +kernel
theorem dJ9_min_7cf53_6 : decode cJ9_min_7cf53 6 = .ok (.goto 4, 3) := by decide +kernel
theorem dJ9_min_7cf53_9 : decode cJ9_min_7cf53 9 = .ok (.iload_n 1, 1) := by decide +kernel
theorem dJ9_min_7cf53_10 : decode cJ9_min_7cf53 10 = .ok (.ireturn, 1) := by decide +kernel
theorem dJ7_fill_53178_0 : decode cJ7_fill_53178 0 = .ok (.iconst 0, 1) := by decide +kernel
theorem dJ7_fill_53178_1 : decode cJ7_fill_53178 1 = .ok (.istore_n 2, 1) := by decide +kernel
theorem dJ7_fill_53178_2 : decode cJ7_fill_53178 2 = .ok (.aload_n 0, 1) := by decide +kernel
theorem dJ7_fill_53178_3 : decode cJ7_fill_53178 3 = .ok (.arraylength, 1) := by decide +kernel
theorem dJ7_fill_53178_4 : decode cJ7_fill_53178 4 = .ok (.istore_n 3, 1) := by decide +kernel
theorem dJ7_fill_53178_5 : decode cJ7_fill_53178 5 = .ok (.iload_n 2, 1) := by decide +kernel
theorem dJ7_fill_53178_6 : decode cJ7_fill_53178 6 = .ok (.iload_n 3, 1) := by decide +kernel
theorem dJ7_fill_53178_7 : decode cJ7_fill_53178 7 = .ok (.if_icmp .ge 13, 3) := by decide +kernel
theorem dJ7_fill_53178_10 : decode cJ7_fill_53178 10 = .ok (.aload_n 0, 1) := by decide +kernel
theorem dJ7_fill_53178_11 : decode cJ7_fill_53178 11 = .ok (.iload_n 2, 1) := by decide +kernel
theorem dJ7_fill_53178_12 : decode cJ7_fill_53178 12 = .ok (.iload_n 1, 1) := by decide +kernel
theorem dJ7_fill_53178_13 : decode cJ7_fill_53178 13 = .ok (.iastore, 1) := by decide +kernel
theorem dJ7_fill_53178_14 : decode cJ7_fill_53178 14 = .ok (.iinc 2 1, 3) := by decide +kernel
theorem dJ7_fill_53178_17 : decode cJ7_fill_53178 17 = .ok (.goto (-12), 3) := by decide +kernel
theorem dJ7_fill_53178_20 : decode cJ7_fill_53178 20 = .ok (.return_, 1) := by decide +kernel
theorem dL_law_0 : decode cL_law 0 = .ok (.new 7, 3) := by decide +kernel
theorem dL_law_3 : decode cL_law 3 = .ok (.dup, 1) := by decide +kernel
theorem dL_law_4 : decode cL_law 4 = .ok (.invokespecial 9, 3) := by decide +kernel
theorem dL_law_7 : decode cL_law 7 = .ok (.astore_n 1, 1) := by decide +kernel
theorem dL_law_8 : decode cL_law 8 = .ok (.new 10, 3) := by decide +kernel
theorem dL_law_11 : decode cL_law 11 = .ok (.dup, 1) := by decide +kernel
theorem dL_law_12 : decode cL_law 12 = .ok (.invokespecial 12, 3) := by decide +kernel
theorem dL_law_15 : decode cL_law 15 = .ok (.astore_n 2, 1) := by decide +kernel
theorem dL_law_16 : decode cL_law 16 = .ok (.iconst 0, 1) := by decide +kernel
theorem dL_law_17 : decode cL_law 17 = .ok (.istore_n 3, 1) := by decide +kernel
theorem dL_law_18 : decode cL_law 18 = .ok (.iload_n 3, 1) := by decide +kernel
theorem dL_law_19 : decode cL_law 19 = .ok (.aload_n 0, 1) := by decide +kernel
theorem dL_law_20 : decode cL_law 20 = .ok (.arraylength, 1) := by decide +kernel
theorem dL_law_21 : decode cL_law 21 = .ok (.iconst 5, 1) := by decide +kernel
theorem dL_law_22 : decode cL_law 22 = .ok (.isub, 1) := by decide +kernel
theorem dL_law_23 : decode cL_law 23 = .ok (.if_icmp .gt 795, 3) := by decide +kernel
theorem dL_law_26 : decode cL_law 26 = .ok (.aload_n 0, 1) := by decide +kernel
theorem dL_law_27 : decode cL_law 27 = .ok (.iload_n 3, 1) := by decide +kernel
theorem dL_law_28 : decode cL_law 28 = .ok (.iaload, 1) := by decide +kernel
theorem dL_law_29 : decode cL_law 29 = .ok (.bipush 31, 2) := by decide +kernel
theorem dL_law_31 : decode cL_law 31 = .ok (.iand, 1) := by decide +kernel
theorem dL_law_32 : decode cL_law 32 = .ok (.tableswitch 780 0 28 #[132, 155, 168, 181, 214, 237, 260, 273, 296, 329, 352, 365, 398, 411, 424, 447, 460, 473, 516, 529, 552, 585, 598, 611, 664, 697, 720, 743, 766], 132) := by decide +kernel
theorem dL_law_164 : decode cL_law 164 = .ok (.aload_n 1, 1) := by decide +kernel
theorem dL_law_165 : decode cL_law 165 = .ok (.aload_n 0, 1) := by decide +kernel
theorem dL_law_166 : decode cL_law 166 = .ok (.iload_n 3, 1) := by decide +kernel
theorem dL_law_167 : decode cL_law 167 = .ok (.iconst 1, 1) := by decide +kernel
theorem dL_law_168 : decode cL_law 168 = .ok (.iadd, 1) := by decide +kernel
theorem dL_law_169 : decode cL_law 169 = .ok (.iaload, 1) := by decide +kernel
theorem dL_law_170 : decode cL_law 170 = .ok (.invokevirtual 13, 3) := by decide +kernel
theorem dL_law_173 : decode cL_law 173 = .ok (.aload_n 2, 1) := by decide +kernel
theorem dL_law_174 : decode cL_law 174 = .ok (.aload_n 0, 1) := by decide +kernel
theorem dL_law_175 : decode cL_law 175 = .ok (.iload_n 3, 1) := by decide +kernel
theorem dL_law_176 : decode cL_law 176 = .ok (.iconst 1, 1) := by decide +kernel
theorem dL_law_177 : decode cL_law 177 = .ok (.iadd, 1) := by decide +kernel
theorem dL_law_178 : decode cL_law 178 = .ok (.iaload, 1) := by decide +kernel
theorem dL_law_179 : decode cL_law 179 = .ok (.invokevirtual 17, 3) := by decide +kernel
theorem dL_law_182 : decode cL_law 182 = .ok (.if_icmp .eq 630, 3) := by decide +kernel
theorem dL_law_185 : decode cL_law 185 = .ok (.iconst 0, 1) := by decide +kernel
theorem dL_law_186 : decode cL_law 186 = .ok (.ireturn, 1) := by decide +kernel
theorem dL_law_187 : decode cL_law 187 = .ok (.aload_n 1, 1) := by decide +kernel
theorem dL_law_188 : decode cL_law 188 = .ok (.invokevirtual 18, 3) := by decide +kernel
theorem dL_law_191 : decode cL_law 191 = .ok (.aload_n 2, 1) := by decide +kernel
theorem dL_law_192 : decode cL_law 192 = .ok (.invokevirtual 22, 3) := by decide +kernel
theorem dL_law_195 : decode cL_law 195 = .ok (.if_icmp .eq 617, 3) := by decide +kernel
theorem dL_law_198 : decode cL_law 198 = .ok (.iconst 0, 1) := by decide +kernel
theorem dL_law_199 : decode cL_law 199 = .ok (.ireturn, 1) := by decide +kernel
theorem dL_law_200 : decode cL_law 200 = .ok (.aload_n 1, 1) := by decide +kernel
theorem dL_law_201 : decode cL_law 201 = .ok (.invokevirtual 23, 3) := by decide +kernel
theorem dL_law_204 : decode cL_law 204 = .ok (.aload_n 2, 1) := by decide +kernel
theorem dL_law_205 : decode cL_law 205 = .ok (.invokevirtual 26, 3) := by decide +kernel
theorem dL_law_208 : decode cL_law 208 = .ok (.if_icmp .eq 604, 3) := by decide +kernel
theorem dL_law_211 : decode cL_law 211 = .ok (.iconst 0, 1) := by decide +kernel
theorem dL_law_212 : decode cL_law 212 = .ok (.ireturn, 1) := by decide +kernel
theorem dL_law_213 : decode cL_law 213 = .ok (.aload_n 1, 1) := by decide +kernel
theorem dL_law_214 : decode cL_law 214 = .ok (.aload_n 0, 1) := by decide +kernel
theorem dL_law_215 : decode cL_law 215 = .ok (.iload_n 3, 1) := by decide +kernel
theorem dL_law_216 : decode cL_law 216 = .ok (.iconst 1, 1) := by decide +kernel
theorem dL_law_217 : decode cL_law 217 = .ok (.iadd, 1) := by decide +kernel
theorem dL_law_218 : decode cL_law 218 = .ok (.iaload, 1) := by decide +kernel
theorem dL_law_219 : decode cL_law 219 = .ok (.aload_n 0, 1) := by decide +kernel
theorem dL_law_220 : decode cL_law 220 = .ok (.iload_n 3, 1) := by decide +kernel
theorem dL_law_221 : decode cL_law 221 = .ok (.iconst 2, 1) := by decide +kernel
theorem dL_law_222 : decode cL_law 222 = .ok (.iadd, 1) := by decide +kernel
theorem dL_law_223 : decode cL_law 223 = .ok (.iaload, 1) := by decide +kernel
theorem dL_law_224 : decode cL_law 224 = .ok (.invokevirtual 27, 3) := by decide +kernel
theorem dL_law_227 : decode cL_law 227 = .ok (.aload_n 2, 1) := by decide +kernel
theorem dL_law_228 : decode cL_law 228 = .ok (.aload_n 0, 1) := by decide +kernel
theorem dL_law_229 : decode cL_law 229 = .ok (.iload_n 3, 1) := by decide +kernel
theorem dL_law_230 : decode cL_law 230 = .ok (.iconst 1, 1) := by decide +kernel
theorem dL_law_231 : decode cL_law 231 = .ok (.iadd, 1) := by decide +kernel
theorem dL_law_232 : decode cL_law 232 = .ok (.iaload, 1) := by decide +kernel
theorem dL_law_233 : decode cL_law 233 = .ok (.aload_n 0, 1) := by decide +kernel
theorem dL_law_234 : decode cL_law 234 = .ok (.iload_n 3, 1) := by decide +kernel
theorem dL_law_235 : decode cL_law 235 = .ok (.iconst 2, 1) := by decide +kernel
theorem dL_law_236 : decode cL_law 236 = .ok (.iadd, 1) := by decide +kernel
theorem dL_law_237 : decode cL_law 237 = .ok (.iaload, 1) := by decide +kernel
theorem dL_law_238 : decode cL_law 238 = .ok (.invokevirtual 31, 3) := by decide +kernel
theorem dL_law_241 : decode cL_law 241 = .ok (.if_icmp .eq 571, 3) := by decide +kernel
theorem dL_law_244 : decode cL_law 244 = .ok (.iconst 0, 1) := by decide +kernel
theorem dL_law_245 : decode cL_law 245 = .ok (.ireturn, 1) := by decide +kernel
theorem dL_law_246 : decode cL_law 246 = .ok (.aload_n 1, 1) := by decide +kernel
theorem dL_law_247 : decode cL_law 247 = .ok (.aload_n 0, 1) := by decide +kernel
theorem dL_law_248 : decode cL_law 248 = .ok (.iload_n 3, 1) := by decide +kernel
theorem dL_law_249 : decode cL_law 249 = .ok (.iconst 1, 1) := by decide +kernel
theorem dL_law_250 : decode cL_law 250 = .ok (.iadd, 1) := by decide +kernel
theorem dL_law_251 : decode cL_law 251 = .ok (.iaload, 1) := by decide +kernel
theorem dL_law_252 : decode cL_law 252 = .ok (.invokevirtual 32, 3) := by decide +kernel
theorem dL_law_255 : decode cL_law 255 = .ok (.aload_n 2, 1) := by decide +kernel
theorem dL_law_256 : decode cL_law 256 = .ok (.aload_n 0, 1) := by decide +kernel
theorem dL_law_257 : decode cL_law 257 = .ok (.iload_n 3, 1) := by decide +kernel
theorem dL_law_258 : decode cL_law 258 = .ok (.iconst 1, 1) := by decide +kernel
theorem dL_law_259 : decode cL_law 259 = .ok (.iadd, 1) := by decide +kernel
theorem dL_law_260 : decode cL_law 260 = .ok (.iaload, 1) := by decide +kernel
theorem dL_law_261 : decode cL_law 261 = .ok (.invokevirtual 35, 3) := by decide +kernel
theorem dL_law_264 : decode cL_law 264 = .ok (.if_icmp .eq 548, 3) := by decide +kernel
theorem dL_law_267 : decode cL_law 267 = .ok (.iconst 0, 1) := by decide +kernel
theorem dL_law_268 : decode cL_law 268 = .ok (.ireturn, 1) := by decide +kernel
theorem dL_law_269 : decode cL_law 269 = .ok (.aload_n 1, 1) := by decide +kernel
theorem dL_law_270 : decode cL_law 270 = .ok (.aload_n 0, 1) := by decide +kernel
theorem dL_law_271 : decode cL_law 271 = .ok (.iload_n 3, 1) := by decide +kernel
theorem dL_law_272 : decode cL_law 272 = .ok (.iconst 1, 1) := by decide +kernel
theorem dL_law_273 : decode cL_law 273 = .ok (.iadd, 1) := by decide +kernel
theorem dL_law_274 : decode cL_law 274 = .ok (.iaload, 1) := by decide +kernel
theorem dL_law_275 : decode cL_law 275 = .ok (.invokevirtual 36, 3) := by decide +kernel
theorem dL_law_278 : decode cL_law 278 = .ok (.aload_n 2, 1) := by decide +kernel
theorem dL_law_279 : decode cL_law 279 = .ok (.aload_n 0, 1) := by decide +kernel
theorem dL_law_280 : decode cL_law 280 = .ok (.iload_n 3, 1) := by decide +kernel
theorem dL_law_281 : decode cL_law 281 = .ok (.iconst 1, 1) := by decide +kernel
theorem dL_law_282 : decode cL_law 282 = .ok (.iadd, 1) := by decide +kernel
theorem dL_law_283 : decode cL_law 283 = .ok (.iaload, 1) := by decide +kernel
theorem dL_law_284 : decode cL_law 284 = .ok (.invokevirtual 39, 3) := by decide +kernel
theorem dL_law_287 : decode cL_law 287 = .ok (.if_icmp .eq 525, 3) := by decide +kernel
theorem dL_law_290 : decode cL_law 290 = .ok (.iconst 0, 1) := by decide +kernel
theorem dL_law_291 : decode cL_law 291 = .ok (.ireturn, 1) := by decide +kernel
theorem dL_law_292 : decode cL_law 292 = .ok (.aload_n 1, 1) := by decide +kernel
theorem dL_law_293 : decode cL_law 293 = .ok (.invokevirtual 40, 3) := by decide +kernel
theorem dL_law_296 : decode cL_law 296 = .ok (.aload_n 2, 1) := by decide +kernel
theorem dL_law_297 : decode cL_law 297 = .ok (.invokevirtual 43, 3) := by decide +kernel
theorem dL_law_300 : decode cL_law 300 = .ok (.if_icmp .eq 512, 3) := by decide +kernel
theorem dL_law_303 : decode cL_law 303 = .ok (.iconst 0, 1) := by decide +kernel
theorem dL_law_304 : decode cL_law 304 = .ok (.ireturn, 1) := by decide +kernel
theorem dL_law_305 : decode cL_law 305 = .ok (.aload_n 1, 1) := by decide +kernel
theorem dL_law_306 : decode cL_law 306 = .ok (.aload_n 0, 1) := by decide +kernel
theorem dL_law_307 : decode cL_law 307 = .ok (.iload_n 3, 1) := by decide +kernel
theorem dL_law_308 : decode cL_law 308 = .ok (.iconst 1, 1) := by decide +kernel
theorem dL_law_309 : decode cL_law 309 = .ok (.iadd, 1) := by decide +kernel
theorem dL_law_310 : decode cL_law 310 = .ok (.iaload, 1) := by decide +kernel
theorem dL_law_311 : decode cL_law 311 = .ok (.invokevirtual 44, 3) := by decide +kernel
theorem dL_law_314 : decode cL_law 314 = .ok (.aload_n 2, 1) := by decide +kernel
theorem dL_law_315 : decode cL_law 315 = .ok (.aload_n 0, 1) := by decide +kernel
theorem dL_law_316 : decode cL_law 316 = .ok (.iload_n 3, 1) := by decide +kernel
theorem dL_law_317 : decode cL_law 317 = .ok (.iconst 1, 1) := by decide +kernel
theorem dL_law_318 : decode cL_law 318 = .ok (.iadd, 1) := by decide +kernel
theorem dL_law_319 : decode cL_law 319 = .ok (.iaload, 1) := by decide +kernel
theorem dL_law_320 : decode cL_law 320 = .ok (.invokevirtual 47, 3) := by decide +kernel
theorem dL_law_323 : decode cL_law 323 = .ok (.if_icmp .eq 489, 3) := by decide +kernel
theorem dL_law_326 : decode cL_law 326 = .ok (.iconst 0, 1) := by decide +kernel
theorem dL_law_327 : decode cL_law 327 = .ok (.ireturn, 1) := by decide +kernel
theorem dL_law_328 : decode cL_law 328 = .ok (.aload_n 1, 1) := by decide +kernel
theorem dL_law_329 : decode cL_law 329 = .ok (.aload_n 0, 1) := by decide +kernel
theorem dL_law_330 : decode cL_law 330 = .ok (.iload_n 3, 1) := by decide +kernel
theorem dL_law_331 : decode cL_law 331 = .ok (.iconst 1, 1) := by decide +kernel
theorem dL_law_332 : decode cL_law 332 = .ok (.iadd, 1) := by decide +kernel
theorem dL_law_333 : decode cL_law 333 = .ok (.iaload, 1) := by decide +kernel
theorem dL_law_334 : decode cL_law 334 = .ok (.aload_n 0, 1) := by decide +kernel
theorem dL_law_335 : decode cL_law 335 = .ok (.iload_n 3, 1) := by decide +kernel
theorem dL_law_336 : decode cL_law 336 = .ok (.iconst 2, 1) := by decide +kernel
theorem dL_law_337 : decode cL_law 337 = .ok (.iadd, 1) := by decide +kernel
theorem dL_law_338 : decode cL_law 338 = .ok (.iaload, 1) := by decide +kernel
theorem dL_law_339 : decode cL_law 339 = .ok (.invokevirtual 48, 3) := by decide +kernel
theorem dL_law_342 : decode cL_law 342 = .ok (.aload_n 2, 1) := by decide +kernel
theorem dL_law_343 : decode cL_law 343 = .ok (.aload_n 0, 1) := by decide +kernel
theorem dL_law_344 : decode cL_law 344 = .ok (.iload_n 3, 1) := by decide +kernel
theorem dL_law_345 : decode cL_law 345 = .ok (.iconst 1, 1) := by decide +kernel
theorem dL_law_346 : decode cL_law 346 = .ok (.iadd, 1) := by decide +kernel
theorem dL_law_347 : decode cL_law 347 = .ok (.iaload, 1) := by decide +kernel
theorem dL_law_348 : decode cL_law 348 = .ok (.aload_n 0, 1) := by decide +kernel
theorem dL_law_349 : decode cL_law 349 = .ok (.iload_n 3, 1) := by decide +kernel
theorem dL_law_350 : decode cL_law 350 = .ok (.iconst 2, 1) := by decide +kernel
theorem dL_law_351 : decode cL_law 351 = .ok (.iadd, 1) := by decide +kernel
theorem dL_law_352 : decode cL_law 352 = .ok (.iaload, 1) := by decide +kernel
theorem dL_law_353 : decode cL_law 353 = .ok (.invokevirtual 51, 3) := by decide +kernel
theorem dL_law_356 : decode cL_law 356 = .ok (.if_icmp .eq 456, 3) := by decide +kernel
theorem dL_law_359 : decode cL_law 359 = .ok (.iconst 0, 1) := by decide +kernel
theorem dL_law_360 : decode cL_law 360 = .ok (.ireturn, 1) := by decide +kernel
theorem dL_law_361 : decode cL_law 361 = .ok (.aload_n 1, 1) := by decide +kernel
theorem dL_law_362 : decode cL_law 362 = .ok (.aload_n 0, 1) := by decide +kernel
theorem dL_law_363 : decode cL_law 363 = .ok (.iload_n 3, 1) := by decide +kernel
theorem dL_law_364 : decode cL_law 364 = .ok (.iconst 1, 1) := by decide +kernel
theorem dL_law_365 : decode cL_law 365 = .ok (.iadd, 1) := by decide +kernel
theorem dL_law_366 : decode cL_law 366 = .ok (.iaload, 1) := by decide +kernel
theorem dL_law_367 : decode cL_law 367 = .ok (.invokevirtual 52, 3) := by decide +kernel
theorem dL_law_370 : decode cL_law 370 = .ok (.aload_n 2, 1) := by decide +kernel
theorem dL_law_371 : decode cL_law 371 = .ok (.aload_n 0, 1) := by decide +kernel
theorem dL_law_372 : decode cL_law 372 = .ok (.iload_n 3, 1) := by decide +kernel
theorem dL_law_373 : decode cL_law 373 = .ok (.iconst 1, 1) := by decide +kernel
theorem dL_law_374 : decode cL_law 374 = .ok (.iadd, 1) := by decide +kernel
theorem dL_law_375 : decode cL_law 375 = .ok (.iaload, 1) := by decide +kernel
theorem dL_law_376 : decode cL_law 376 = .ok (.invokevirtual 55, 3) := by decide +kernel
theorem dL_law_379 : decode cL_law 379 = .ok (.if_icmp .eq 433, 3) := by decide +kernel
theorem dL_law_382 : decode cL_law 382 = .ok (.iconst 0, 1) := by decide +kernel
theorem dL_law_383 : decode cL_law 383 = .ok (.ireturn, 1) := by decide +kernel
theorem dL_law_384 : decode cL_law 384 = .ok (.aload_n 1, 1) := by decide +kernel
theorem dL_law_385 : decode cL_law 385 = .ok (.invokevirtual 56, 3) := by decide +kernel
theorem dL_law_388 : decode cL_law 388 = .ok (.aload_n 2, 1) := by decide +kernel
theorem dL_law_389 : decode cL_law 389 = .ok (.invokevirtual 59, 3) := by decide +kernel
theorem dL_law_392 : decode cL_law 392 = .ok (.if_icmp .eq 420, 3) := by decide +kernel
theorem dL_law_395 : decode cL_law 395 = .ok (.iconst 0, 1) := by decide +kernel
theorem dL_law_396 : decode cL_law 396 = .ok (.ireturn, 1) := by decide +kernel
theorem dL_law_397 : decode cL_law 397 = .ok (.aload_n 1, 1) := by decide +kernel
theorem dL_law_398 : decode cL_law 398 = .ok (.aload_n 0, 1) := by decide +kernel
theorem dL_law_399 : decode cL_law 399 = .ok (.iload_n 3, 1) := by decide +kernel
theorem dL_law_400 : decode cL_law 400 = .ok (.iconst 1, 1) := by decide +kernel
theorem dL_law_401 : decode cL_law 401 = .ok (.iadd, 1) := by decide +kernel
theorem dL_law_402 : decode cL_law 402 = .ok (.iaload, 1) := by decide +kernel
theorem dL_law_403 : decode cL_law 403 = .ok (.aload_n 0, 1) := by decide +kernel
theorem dL_law_404 : decode cL_law 404 = .ok (.iload_n 3, 1) := by decide +kernel
theorem dL_law_405 : decode cL_law 405 = .ok (.iconst 2, 1) := by decide +kernel
theorem dL_law_406 : decode cL_law 406 = .ok (.iadd, 1) := by decide +kernel
theorem dL_law_407 : decode cL_law 407 = .ok (.iaload, 1) := by decide +kernel
theorem dL_law_408 : decode cL_law 408 = .ok (.invokevirtual 60, 3) := by decide +kernel
theorem dL_law_411 : decode cL_law 411 = .ok (.aload_n 2, 1) := by decide +kernel
theorem dL_law_412 : decode cL_law 412 = .ok (.aload_n 0, 1) := by decide +kernel
theorem dL_law_413 : decode cL_law 413 = .ok (.iload_n 3, 1) := by decide +kernel
theorem dL_law_414 : decode cL_law 414 = .ok (.iconst 1, 1) := by decide +kernel
theorem dL_law_415 : decode cL_law 415 = .ok (.iadd, 1) := by decide +kernel
theorem dL_law_416 : decode cL_law 416 = .ok (.iaload, 1) := by decide +kernel
theorem dL_law_417 : decode cL_law 417 = .ok (.aload_n 0, 1) := by decide +kernel
theorem dL_law_418 : decode cL_law 418 = .ok (.iload_n 3, 1) := by decide +kernel
theorem dL_law_419 : decode cL_law 419 = .ok (.iconst 2, 1) := by decide +kernel
theorem dL_law_420 : decode cL_law 420 = .ok (.iadd, 1) := by decide +kernel
theorem dL_law_421 : decode cL_law 421 = .ok (.iaload, 1) := by decide +kernel
theorem dL_law_422 : decode cL_law 422 = .ok (.invokevirtual 63, 3) := by decide +kernel
theorem dL_law_425 : decode cL_law 425 = .ok (.if_icmp .eq 387, 3) := by decide +kernel
theorem dL_law_428 : decode cL_law 428 = .ok (.iconst 0, 1) := by decide +kernel
theorem dL_law_429 : decode cL_law 429 = .ok (.ireturn, 1) := by decide +kernel
theorem dL_law_430 : decode cL_law 430 = .ok (.aload_n 1, 1) := by decide +kernel
theorem dL_law_431 : decode cL_law 431 = .ok (.invokevirtual 64, 3) := by decide +kernel
theorem dL_law_434 : decode cL_law 434 = .ok (.aload_n 2, 1) := by decide +kernel
theorem dL_law_435 : decode cL_law 435 = .ok (.invokevirtual 67, 3) := by decide +kernel
theorem dL_law_438 : decode cL_law 438 = .ok (.if_icmp .eq 374, 3) := by decide +kernel
theorem dL_law_441 : decode cL_law 441 = .ok (.iconst 0, 1) := by decide +kernel
theorem dL_law_442 : decode cL_law 442 = .ok (.ireturn, 1) := by decide +kernel
theorem dL_law_443 : decode cL_law 443 = .ok (.aload_n 1, 1) := by decide +kernel
theorem dL_law_444 : decode cL_law 444 = .ok (.invokevirtual 68, 3) := by decide +kernel
theorem dL_law_447 : decode cL_law 447 = .ok (.aload_n 2, 1) := by decide +kernel
theorem dL_law_448 : decode cL_law 448 = .ok (.invokevirtual 71, 3) := by decide +kernel
theorem dL_law_451 : decode cL_law 451 = .ok (.if_icmp .eq 361, 3) := by decide +kernel
theorem dL_law_454 : decode cL_law 454 = .ok (.iconst 0, 1) := by decide +kernel
theorem dL_law_455 : decode cL_law 455 = .ok (.ireturn, 1) := by decide +kernel
theorem dL_law_456 : decode cL_law 456 = .ok (.aload_n 1, 1) := by decide +kernel
theorem dL_law_457 : decode cL_law 457 = .ok (.aload_n 0, 1) := by decide +kernel
theorem dL_law_458 : decode cL_law 458 = .ok (.iload_n 3, 1) := by decide +kernel
theorem dL_law_459 : decode cL_law 459 = .ok (.iconst 1, 1) := by decide +kernel
theorem dL_law_460 : decode cL_law 460 = .ok (.iadd, 1) := by decide +kernel
theorem dL_law_461 : decode cL_law 461 = .ok (.iaload, 1) := by decide +kernel
theorem dL_law_462 : decode cL_law 462 = .ok (.invokevirtual 72, 3) := by decide +kernel
theorem dL_law_465 : decode cL_law 465 = .ok (.aload_n 2, 1) := by decide +kernel
theorem dL_law_466 : decode cL_law 466 = .ok (.aload_n 0, 1) := by decide +kernel
theorem dL_law_467 : decode cL_law 467 = .ok (.iload_n 3, 1) := by decide +kernel
theorem dL_law_468 : decode cL_law 468 = .ok (.iconst 1, 1) := by decide +kernel
theorem dL_law_469 : decode cL_law 469 = .ok (.iadd, 1) := by decide +kernel
theorem dL_law_470 : decode cL_law 470 = .ok (.iaload, 1) := by decide +kernel
theorem dL_law_471 : decode cL_law 471 = .ok (.invokevirtual 75, 3) := by decide +kernel
theorem dL_law_474 : decode cL_law 474 = .ok (.if_icmp .eq 338, 3) := by decide +kernel
theorem dL_law_477 : decode cL_law 477 = .ok (.iconst 0, 1) := by decide +kernel
theorem dL_law_478 : decode cL_law 478 = .ok (.ireturn, 1) := by decide +kernel
theorem dL_law_479 : decode cL_law 479 = .ok (.aload_n 1, 1) := by decide +kernel
theorem dL_law_480 : decode cL_law 480 = .ok (.invokevirtual 76, 3) := by decide +kernel
theorem dL_law_483 : decode cL_law 483 = .ok (.aload_n 2, 1) := by decide +kernel
theorem dL_law_484 : decode cL_law 484 = .ok (.invokevirtual 79, 3) := by decide +kernel
theorem dL_law_487 : decode cL_law 487 = .ok (.if_icmp .eq 325, 3) := by decide +kernel
theorem dL_law_490 : decode cL_law 490 = .ok (.iconst 0, 1) := by decide +kernel
theorem dL_law_491 : decode cL_law 491 = .ok (.ireturn, 1) := by decide +kernel
theorem dL_law_492 : decode cL_law 492 = .ok (.aload_n 1, 1) := by decide +kernel
theorem dL_law_493 : decode cL_law 493 = .ok (.invokevirtual 80, 3) := by decide +kernel
theorem dL_law_496 : decode cL_law 496 = .ok (.aload_n 2, 1) := by decide +kernel
theorem dL_law_497 : decode cL_law 497 = .ok (.invokevirtual 83, 3) := by decide +kernel
theorem dL_law_500 : decode cL_law 500 = .ok (.if_icmp .eq 312, 3) := by decide +kernel
theorem dL_law_503 : decode cL_law 503 = .ok (.iconst 0, 1) := by decide +kernel
theorem dL_law_504 : decode cL_law 504 = .ok (.ireturn, 1) := by decide +kernel
theorem dL_law_505 : decode cL_law 505 = .ok (.aload_n 1, 1) := by decide +kernel
theorem dL_law_506 : decode cL_law 506 = .ok (.aload_n 0, 1) := by decide +kernel
theorem dL_law_507 : decode cL_law 507 = .ok (.iload_n 3, 1) := by decide +kernel
theorem dL_law_508 : decode cL_law 508 = .ok (.iconst 1, 1) := by decide +kernel
theorem dL_law_509 : decode cL_law 509 = .ok (.iadd, 1) := by decide +kernel
theorem dL_law_510 : decode cL_law 510 = .ok (.iaload, 1) := by decide +kernel
theorem dL_law_511 : decode cL_law 511 = .ok (.aload_n 0, 1) := by decide +kernel
theorem dL_law_512 : decode cL_law 512 = .ok (.iload_n 3, 1) := by decide +kernel
theorem dL_law_513 : decode cL_law 513 = .ok (.iconst 2, 1) := by decide +kernel
theorem dL_law_514 : decode cL_law 514 = .ok (.iadd, 1) := by decide +kernel
theorem dL_law_515 : decode cL_law 515 = .ok (.iaload, 1) := by decide +kernel
theorem dL_law_516 : decode cL_law 516 = .ok (.aload_n 0, 1) := by decide +kernel
theorem dL_law_517 : decode cL_law 517 = .ok (.iload_n 3, 1) := by decide +kernel
theorem dL_law_518 : decode cL_law 518 = .ok (.iconst 3, 1) := by decide +kernel
theorem dL_law_519 : decode cL_law 519 = .ok (.iadd, 1) := by decide +kernel
theorem dL_law_520 : decode cL_law 520 = .ok (.iaload, 1) := by decide +kernel
theorem dL_law_521 : decode cL_law 521 = .ok (.invokevirtual 84, 3) := by decide +kernel
theorem dL_law_524 : decode cL_law 524 = .ok (.aload_n 2, 1) := by decide +kernel
theorem dL_law_525 : decode cL_law 525 = .ok (.aload_n 0, 1) := by decide +kernel
theorem dL_law_526 : decode cL_law 526 = .ok (.iload_n 3, 1) := by decide +kernel
theorem dL_law_527 : decode cL_law 527 = .ok (.iconst 1, 1) := by decide +kernel
theorem dL_law_528 : decode cL_law 528 = .ok (.iadd, 1) := by decide +kernel
theorem dL_law_529 : decode cL_law 529 = .ok (.iaload, 1) := by decide +kernel
theorem dL_law_530 : decode cL_law 530 = .ok (.aload_n 0, 1) := by decide +kernel
theorem dL_law_531 : decode cL_law 531 = .ok (.iload_n 3, 1) := by decide +kernel
theorem dL_law_532 : decode cL_law 532 = .ok (.iconst 2, 1) := by decide +kernel
theorem dL_law_533 : decode cL_law 533 = .ok (.iadd, 1) := by decide +kernel
theorem dL_law_534 : decode cL_law 534 = .ok (.iaload, 1) := by decide +kernel
theorem dL_law_535 : decode cL_law 535 = .ok (.aload_n 0, 1) := by decide +kernel
theorem dL_law_536 : decode cL_law 536 = .ok (.iload_n 3, 1) := by decide +kernel
theorem dL_law_537 : decode cL_law 537 = .ok (.iconst 3, 1) := by decide +kernel
theorem dL_law_538 : decode cL_law 538 = .ok (.iadd, 1) := by decide +kernel
theorem dL_law_539 : decode cL_law 539 = .ok (.iaload, 1) := by decide +kernel
theorem dL_law_540 : decode cL_law 540 = .ok (.invokevirtual 88, 3) := by decide +kernel
theorem dL_law_543 : decode cL_law 543 = .ok (.if_icmp .eq 269, 3) := by decide +kernel
theorem dL_law_546 : decode cL_law 546 = .ok (.iconst 0, 1) := by decide +kernel
theorem dL_law_547 : decode cL_law 547 = .ok (.ireturn, 1) := by decide +kernel
theorem dL_law_548 : decode cL_law 548 = .ok (.aload_n 1, 1) := by decide +kernel
theorem dL_law_549 : decode cL_law 549 = .ok (.invokevirtual 89, 3) := by decide +kernel
theorem dL_law_552 : decode cL_law 552 = .ok (.aload_n 2, 1) := by decide +kernel
theorem dL_law_553 : decode cL_law 553 = .ok (.invokevirtual 92, 3) := by decide +kernel
theorem dL_law_556 : decode cL_law 556 = .ok (.if_icmp .eq 256, 3) := by decide +kernel
theorem dL_law_559 : decode cL_law 559 = .ok (.iconst 0, 1) := by decide +kernel
theorem dL_law_560 : decode cL_law 560 = .ok (.ireturn, 1) := by decide +kernel
theorem dL_law_561 : decode cL_law 561 = .ok (.aload_n 1, 1) := by decide +kernel
theorem dL_law_562 : decode cL_law 562 = .ok (.aload_n 0, 1) := by decide +kernel
theorem dL_law_563 : decode cL_law 563 = .ok (.iload_n 3, 1) := by decide +kernel
theorem dL_law_564 : decode cL_law 564 = .ok (.iconst 1, 1) := by decide +kernel
theorem dL_law_565 : decode cL_law 565 = .ok (.iadd, 1) := by decide +kernel
theorem dL_law_566 : decode cL_law 566 = .ok (.iaload, 1) := by decide +kernel
theorem dL_law_567 : decode cL_law 567 = .ok (.invokevirtual 93, 3) := by decide +kernel
theorem dL_law_570 : decode cL_law 570 = .ok (.aload_n 2, 1) := by decide +kernel
theorem dL_law_571 : decode cL_law 571 = .ok (.aload_n 0, 1) := by decide +kernel
theorem dL_law_572 : decode cL_law 572 = .ok (.iload_n 3, 1) := by decide +kernel
theorem dL_law_573 : decode cL_law 573 = .ok (.iconst 1, 1) := by decide +kernel
theorem dL_law_574 : decode cL_law 574 = .ok (.iadd, 1) := by decide +kernel
theorem dL_law_575 : decode cL_law 575 = .ok (.iaload, 1) := by decide +kernel
theorem dL_law_576 : decode cL_law 576 = .ok (.invokevirtual 96, 3) := by decide +kernel
theorem dL_law_579 : decode cL_law 579 = .ok (.if_icmp .eq 233, 3) := by decide +kernel
theorem dL_law_582 : decode cL_law 582 = .ok (.iconst 0, 1) := by decide +kernel
theorem dL_law_583 : decode cL_law 583 = .ok (.ireturn, 1) := by decide +kernel
theorem dL_law_584 : decode cL_law 584 = .ok (.aload_n 1, 1) := by decide +kernel
theorem dL_law_585 : decode cL_law 585 = .ok (.aload_n 0, 1) := by decide +kernel
theorem dL_law_586 : decode cL_law 586 = .ok (.iload_n 3, 1) := by decide +kernel
theorem dL_law_587 : decode cL_law 587 = .ok (.iconst 1, 1) := by decide +kernel
theorem dL_law_588 : decode cL_law 588 = .ok (.iadd, 1) := by decide +kernel
theorem dL_law_589 : decode cL_law 589 = .ok (.iaload, 1) := by decide +kernel
theorem dL_law_590 : decode cL_law 590 = .ok (.aload_n 0, 1) := by decide +kernel
theorem dL_law_591 : decode cL_law 591 = .ok (.iload_n 3, 1) := by decide +kernel
theorem dL_law_592 : decode cL_law 592 = .ok (.iconst 2, 1) := by decide +kernel
theorem dL_law_593 : decode cL_law 593 = .ok (.iadd, 1) := by decide +kernel
theorem dL_law_594 : decode cL_law 594 = .ok (.iaload, 1) := by decide +kernel
theorem dL_law_595 : decode cL_law 595 = .ok (.invokevirtual 97, 3) := by decide +kernel
theorem dL_law_598 : decode cL_law 598 = .ok (.aload_n 2, 1) := by decide +kernel
theorem dL_law_599 : decode cL_law 599 = .ok (.aload_n 0, 1) := by decide +kernel
theorem dL_law_600 : decode cL_law 600 = .ok (.iload_n 3, 1) := by decide +kernel
theorem dL_law_601 : decode cL_law 601 = .ok (.iconst 1, 1) := by decide +kernel
theorem dL_law_602 : decode cL_law 602 = .ok (.iadd, 1) := by decide +kernel
theorem dL_law_603 : decode cL_law 603 = .ok (.iaload, 1) := by decide +kernel
theorem dL_law_604 : decode cL_law 604 = .ok (.aload_n 0, 1) := by decide +kernel
theorem dL_law_605 : decode cL_law 605 = .ok (.iload_n 3, 1) := by decide +kernel
theorem dL_law_606 : decode cL_law 606 = .ok (.iconst 2, 1) := by decide +kernel
theorem dL_law_607 : decode cL_law 607 = .ok (.iadd, 1) := by decide +kernel
theorem dL_law_608 : decode cL_law 608 = .ok (.iaload, 1) := by decide +kernel
theorem dL_law_609 : decode cL_law 609 = .ok (.invokevirtual 100, 3) := by decide +kernel
theorem dL_law_612 : decode cL_law 612 = .ok (.if_icmp .eq 200, 3) := by decide +kernel
theorem dL_law_615 : decode cL_law 615 = .ok (.iconst 0, 1) := by decide +kernel
theorem dL_law_616 : decode cL_law 616 = .ok (.ireturn, 1) := by decide +kernel
theorem dL_law_617 : decode cL_law 617 = .ok (.aload_n 1, 1) := by decide +kernel
theorem dL_law_618 : decode cL_law 618 = .ok (.invokevirtual 101, 3) := by decide +kernel
theorem dL_law_621 : decode cL_law 621 = .ok (.aload_n 2, 1) := by decide +kernel
theorem dL_law_622 : decode cL_law 622 = .ok (.invokevirtual 104, 3) := by decide +kernel
theorem dL_law_625 : decode cL_law 625 = .ok (.if_icmp .eq 187, 3) := by decide +kernel
theorem dL_law_628 : decode cL_law 628 = .ok (.iconst 0, 1) := by decide +kernel
theorem dL_law_629 : decode cL_law 629 = .ok (.ireturn, 1) := by decide +kernel
theorem dL_law_630 : decode cL_law 630 = .ok (.aload_n 1, 1) := by decide +kernel
theorem dL_law_631 : decode cL_law 631 = .ok (.invokevirtual 105, 3) := by decide +kernel
theorem dL_law_634 : decode cL_law 634 = .ok (.aload_n 2, 1) := by decide +kernel
theorem dL_law_635 : decode cL_law 635 = .ok (.invokevirtual 108, 3) := by decide +kernel
theorem dL_law_638 : decode cL_law 638 = .ok (.if_icmp .eq 174, 3) := by decide +kernel
theorem dL_law_641 : decode cL_law 641 = .ok (.iconst 0, 1) := by decide +kernel
theorem dL_law_642 : decode cL_law 642 = .ok (.ireturn, 1) := by decide +kernel
theorem dL_law_643 : decode cL_law 643 = .ok (.aload_n 1, 1) := by decide +kernel
theorem dL_law_644 : decode cL_law 644 = .ok (.aload_n 0, 1) := by decide +kernel
theorem dL_law_645 : decode cL_law 645 = .ok (.iload_n 3, 1) := by decide +kernel
theorem dL_law_646 : decode cL_law 646 = .ok (.iconst 1, 1) := by decide +kernel
theorem dL_law_647 : decode cL_law 647 = .ok (.iadd, 1) := by decide +kernel
theorem dL_law_648 : decode cL_law 648 = .ok (.iaload, 1) := by decide +kernel
theorem dL_law_649 : decode cL_law 649 = .ok (.aload_n 0, 1) := by decide +kernel
theorem dL_law_650 : decode cL_law 650 = .ok (.iload_n 3, 1) := by decide +kernel
theorem dL_law_651 : decode cL_law 651 = .ok (.iconst 2, 1) := by decide +kernel
theorem dL_law_652 : decode cL_law 652 = .ok (.iadd, 1) := by decide +kernel
theorem dL_law_653 : decode cL_law 653 = .ok (.iaload, 1) := by decide +kernel
theorem dL_law_654 : decode cL_law 654 = .ok (.aload_n 0, 1) := by decide +kernel
theorem dL_law_655 : decode cL_law 655 = .ok (.iload_n 3, 1) := by decide +kernel
theorem dL_law_656 : decode cL_law 656 = .ok (.iconst 3, 1) := by decide +kernel
theorem dL_law_657 : decode cL_law 657 = .ok (.iadd, 1) := by decide +kernel
theorem dL_law_658 : decode cL_law 658 = .ok (.iaload, 1) := by decide +kernel
theorem dL_law_659 : decode cL_law 659 = .ok (.aload_n 0, 1) := by decide +kernel
theorem dL_law_660 : decode cL_law 660 = .ok (.iload_n 3, 1) := by decide +kernel
theorem dL_law_661 : decode cL_law 661 = .ok (.iconst 4, 1) := by decide +kernel
theorem dL_law_662 : decode cL_law 662 = .ok (.iadd, 1) := by decide +kernel
theorem dL_law_663 : decode cL_law 663 = .ok (.iaload, 1) := by decide +kernel
theorem dL_law_664 : decode cL_law 664 = .ok (.invokevirtual 109, 3) := by decide +kernel
theorem dL_law_667 : decode cL_law 667 = .ok (.aload_n 2, 1) := by decide +kernel
theorem dL_law_668 : decode cL_law 668 = .ok (.aload_n 0, 1) := by decide +kernel
theorem dL_law_669 : decode cL_law 669 = .ok (.iload_n 3, 1) := by decide +kernel
theorem dL_law_670 : decode cL_law 670 = .ok (.iconst 1, 1) := by decide +kernel
theorem dL_law_671 : decode cL_law 671 = .ok (.iadd, 1) := by decide +kernel
theorem dL_law_672 : decode cL_law 672 = .ok (.iaload, 1) := by decide +kernel
theorem dL_law_673 : decode cL_law 673 = .ok (.aload_n 0, 1) := by decide +kernel
theorem dL_law_674 : decode cL_law 674 = .ok (.iload_n 3, 1) := by decide +kernel
theorem dL_law_675 : decode cL_law 675 = .ok (.iconst 2, 1) := by decide +kernel
theorem dL_law_676 : decode cL_law 676 = .ok (.iadd, 1) := by decide +kernel
theorem dL_law_677 : decode cL_law 677 = .ok (.iaload, 1) := by decide +kernel
theorem dL_law_678 : decode cL_law 678 = .ok (.aload_n 0, 1) := by decide +kernel
theorem dL_law_679 : decode cL_law 679 = .ok (.iload_n 3, 1) := by decide +kernel
theorem dL_law_680 : decode cL_law 680 = .ok (.iconst 3, 1) := by decide +kernel
theorem dL_law_681 : decode cL_law 681 = .ok (.iadd, 1) := by decide +kernel
theorem dL_law_682 : decode cL_law 682 = .ok (.iaload, 1) := by decide +kernel
theorem dL_law_683 : decode cL_law 683 = .ok (.aload_n 0, 1) := by decide +kernel
theorem dL_law_684 : decode cL_law 684 = .ok (.iload_n 3, 1) := by decide +kernel
theorem dL_law_685 : decode cL_law 685 = .ok (.iconst 4, 1) := by decide +kernel
theorem dL_law_686 : decode cL_law 686 = .ok (.iadd, 1) := by decide +kernel
theorem dL_law_687 : decode cL_law 687 = .ok (.iaload, 1) := by decide +kernel
theorem dL_law_688 : decode cL_law 688 = .ok (.invokevirtual 113, 3) := by decide +kernel
theorem dL_law_691 : decode cL_law 691 = .ok (.if_icmp .eq 121, 3) := by decide +kernel
theorem dL_law_694 : decode cL_law 694 = .ok (.iconst 0, 1) := by decide +kernel
theorem dL_law_695 : decode cL_law 695 = .ok (.ireturn, 1) := by decide +kernel
theorem dL_law_696 : decode cL_law 696 = .ok (.aload_n 1, 1) := by decide +kernel
theorem dL_law_697 : decode cL_law 697 = .ok (.aload_n 0, 1) := by decide +kernel
theorem dL_law_698 : decode cL_law 698 = .ok (.iload_n 3, 1) := by decide +kernel
theorem dL_law_699 : decode cL_law 699 = .ok (.iconst 1, 1) := by decide +kernel
theorem dL_law_700 : decode cL_law 700 = .ok (.iadd, 1) := by decide +kernel
theorem dL_law_701 : decode cL_law 701 = .ok (.iaload, 1) := by decide +kernel
theorem dL_law_702 : decode cL_law 702 = .ok (.aload_n 0, 1) := by decide +kernel
theorem dL_law_703 : decode cL_law 703 = .ok (.iload_n 3, 1) := by decide +kernel
theorem dL_law_704 : decode cL_law 704 = .ok (.iconst 2, 1) := by decide +kernel
theorem dL_law_705 : decode cL_law 705 = .ok (.iadd, 1) := by decide +kernel
theorem dL_law_706 : decode cL_law 706 = .ok (.iaload, 1) := by decide +kernel
theorem dL_law_707 : decode cL_law 707 = .ok (.invokevirtual 114, 3) := by decide +kernel
theorem dL_law_710 : decode cL_law 710 = .ok (.aload_n 2, 1) := by decide +kernel
theorem dL_law_711 : decode cL_law 711 = .ok (.aload_n 0, 1) := by decide +kernel
theorem dL_law_712 : decode cL_law 712 = .ok (.iload_n 3, 1) := by decide +kernel
theorem dL_law_713 : decode cL_law 713 = .ok (.iconst 1, 1) := by decide +kernel
theorem dL_law_714 : decode cL_law 714 = .ok (.iadd, 1) := by decide +kernel
theorem dL_law_715 : decode cL_law 715 = .ok (.iaload, 1) := by decide +kernel
theorem dL_law_716 : decode cL_law 716 = .ok (.aload_n 0, 1) := by decide +kernel
theorem dL_law_717 : decode cL_law 717 = .ok (.iload_n 3, 1) := by decide +kernel
theorem dL_law_718 : decode cL_law 718 = .ok (.iconst 2, 1) := by decide +kernel
theorem dL_law_719 : decode cL_law 719 = .ok (.iadd, 1) := by decide +kernel
theorem dL_law_720 : decode cL_law 720 = .ok (.iaload, 1) := by decide +kernel
theorem dL_law_721 : decode cL_law 721 = .ok (.invokevirtual 117, 3) := by decide +kernel
theorem dL_law_724 : decode cL_law 724 = .ok (.if_icmp .eq 88, 3) := by decide +kernel
theorem dL_law_727 : decode cL_law 727 = .ok (.iconst 0, 1) := by decide +kernel
theorem dL_law_728 : decode cL_law 728 = .ok (.ireturn, 1) := by decide +kernel
theorem dL_law_729 : decode cL_law 729 = .ok (.aload_n 1, 1) := by decide +kernel
theorem dL_law_730 : decode cL_law 730 = .ok (.aload_n 0, 1) := by decide +kernel
theorem dL_law_731 : decode cL_law 731 = .ok (.iload_n 3, 1) := by decide +kernel
theorem dL_law_732 : decode cL_law 732 = .ok (.iconst 1, 1) := by decide +kernel
theorem dL_law_733 : decode cL_law 733 = .ok (.iadd, 1) := by decide +kernel
theorem dL_law_734 : decode cL_law 734 = .ok (.iaload, 1) := by decide +kernel
theorem dL_law_735 : decode cL_law 735 = .ok (.invokevirtual 118, 3) := by decide +kernel
theorem dL_law_738 : decode cL_law 738 = .ok (.aload_n 2, 1) := by decide +kernel
theorem dL_law_739 : decode cL_law 739 = .ok (.aload_n 0, 1) := by decide +kernel
theorem dL_law_740 : decode cL_law 740 = .ok (.iload_n 3, 1) := by decide +kernel
theorem dL_law_741 : decode cL_law 741 = .ok (.iconst 1, 1) := by decide +kernel
theorem dL_law_742 : decode cL_law 742 = .ok (.iadd, 1) := by decide +kernel
theorem dL_law_743 : decode cL_law 743 = .ok (.iaload, 1) := by decide +kernel
theorem dL_law_744 : decode cL_law 744 = .ok (.invokevirtual 121, 3) := by decide +kernel
theorem dL_law_747 : decode cL_law 747 = .ok (.if_icmp .eq 65, 3) := by decide +kernel
theorem dL_law_750 : decode cL_law 750 = .ok (.iconst 0, 1) := by decide +kernel
theorem dL_law_751 : decode cL_law 751 = .ok (.ireturn, 1) := by decide +kernel
theorem dL_law_752 : decode cL_law 752 = .ok (.aload_n 1, 1) := by decide +kernel
theorem dL_law_753 : decode cL_law 753 = .ok (.aload_n 0, 1) := by decide +kernel
theorem dL_law_754 : decode cL_law 754 = .ok (.iload_n 3, 1) := by decide +kernel
theorem dL_law_755 : decode cL_law 755 = .ok (.iconst 1, 1) := by decide +kernel
theorem dL_law_756 : decode cL_law 756 = .ok (.iadd, 1) := by decide +kernel
theorem dL_law_757 : decode cL_law 757 = .ok (.iaload, 1) := by decide +kernel
theorem dL_law_758 : decode cL_law 758 = .ok (.invokevirtual 122, 3) := by decide +kernel
theorem dL_law_761 : decode cL_law 761 = .ok (.aload_n 2, 1) := by decide +kernel
theorem dL_law_762 : decode cL_law 762 = .ok (.aload_n 0, 1) := by decide +kernel
theorem dL_law_763 : decode cL_law 763 = .ok (.iload_n 3, 1) := by decide +kernel
theorem dL_law_764 : decode cL_law 764 = .ok (.iconst 1, 1) := by decide +kernel
theorem dL_law_765 : decode cL_law 765 = .ok (.iadd, 1) := by decide +kernel
theorem dL_law_766 : decode cL_law 766 = .ok (.iaload, 1) := by decide +kernel
theorem dL_law_767 : decode cL_law 767 = .ok (.invokevirtual 125, 3) := by decide +kernel
theorem dL_law_770 : decode cL_law 770 = .ok (.if_icmp .eq 42, 3) := by decide +kernel
theorem dL_law_773 : decode cL_law 773 = .ok (.iconst 0, 1) := by decide +kernel
theorem dL_law_774 : decode cL_law 774 = .ok (.ireturn, 1) := by decide +kernel
theorem dL_law_775 : decode cL_law 775 = .ok (.aload_n 1, 1) := by decide +kernel
theorem dL_law_776 : decode cL_law 776 = .ok (.aload_n 0, 1) := by decide +kernel
theorem dL_law_777 : decode cL_law 777 = .ok (.iload_n 3, 1) := by decide +kernel
theorem dL_law_778 : decode cL_law 778 = .ok (.iconst 1, 1) := by decide +kernel
theorem dL_law_779 : decode cL_law 779 = .ok (.iadd, 1) := by decide +kernel
theorem dL_law_780 : decode cL_law 780 = .ok (.iaload, 1) := by decide +kernel
theorem dL_law_781 : decode cL_law 781 = .ok (.invokevirtual 126, 3) := by decide +kernel
theorem dL_law_784 : decode cL_law 784 = .ok (.aload_n 2, 1) := by decide +kernel
theorem dL_law_785 : decode cL_law 785 = .ok (.aload_n 0, 1) := by decide +kernel
theorem dL_law_786 : decode cL_law 786 = .ok (.iload_n 3, 1) := by decide +kernel
theorem dL_law_787 : decode cL_law 787 = .ok (.iconst 1, 1) := by decide +kernel
theorem dL_law_788 : decode cL_law 788 = .ok (.iadd, 1) := by decide +kernel
theorem dL_law_789 : decode cL_law 789 = .ok (.iaload, 1) := by decide +kernel
theorem dL_law_790 : decode cL_law 790 = .ok (.invokevirtual 129, 3) := by decide +kernel
theorem dL_law_793 : decode cL_law 793 = .ok (.if_icmp .eq 19, 3) := by decide +kernel
theorem dL_law_796 : decode cL_law 796 = .ok (.iconst 0, 1) := by decide +kernel
theorem dL_law_797 : decode cL_law 797 = .ok (.ireturn, 1) := by decide +kernel
theorem dL_law_798 : decode cL_law 798 = .ok (.aload_n 1, 1) := by decide +kernel
theorem dL_law_799 : decode cL_law 799 = .ok (.invokevirtual 130, 3) := by decide +kernel
theorem dL_law_802 : decode cL_law 802 = .ok (.aload_n 2, 1) := by decide +kernel
theorem dL_law_803 : decode cL_law 803 = .ok (.invokevirtual 134, 3) := by decide +kernel
theorem dL_law_806 : decode cL_law 806 = .ok (.lcmp, 1) := by decide +kernel
theorem dL_law_807 : decode cL_law 807 = .ok (.ifCond .eq 5, 3) := by decide +kernel
theorem dL_law_810 : decode cL_law 810 = .ok (.iconst 0, 1) := by decide +kernel
theorem dL_law_811 : decode cL_law 811 = .ok (.ireturn, 1) := by decide +kernel
theorem dL_law_812 : decode cL_law 812 = .ok (.iinc 3 5, 3) := by decide +kernel
theorem dL_law_815 : decode cL_law 815 = .ok (.goto (-797), 3) := by decide +kernel
theorem dL_law_818 : decode cL_law 818 = .ok (.iconst 1, 1) := by decide +kernel
theorem dL_law_819 : decode cL_law 819 = .ok (.ireturn, 1) := by decide +kernel
