theorem dX11_init_104 : decode cX11_init 104 = .ok (.anewarray 61, 3) := by decide +kernel
theorem dX11_init_107 : decode cX11_init 107 = .ok (.putfield 63, 3) := by decide +kernel
theorem dX11_init_110 : decode cX11_init 110 = .ok (.aload_n 0, 1) := by decide +kernel
theorem dX11_init_111 : decode cX11_init 111 = .ok (.iconst 1, 1) := by decide +kernel
theorem dX11_init_112 : decode cX11_init 112 = .ok (.newarray .long, 2) := by decide +kernel
theorem dX11_init_114 : decode cX11_init 114 = .ok (.putfield 67, 3) := by decide +kernel
theorem dX11_init_117 : decode cX11_init 117 = .ok (.iconst 0, 1) := by decide +kernel
theorem dX11_init_118 : decode cX11_init 118 = .ok (.istore_n 1, 1) := by decide +kernel
theorem dX11_init_119 : decode cX11_init 119 = .ok (.iload_n 1, 1) := by decide +kernel
theorem dX11_init_120 : decode cX11_init 120 = .ok (.aload_n 0, 1) := by decide +kernel
theorem dX11_init_121 : decode cX11_init 121 = .ok (.getfield 40, 3) := by decide +kernel
theorem dX11_init_124 : decode cX11_init 124 = .ok (.arraylength, 1) := by decide +kernel
theorem dX11_init_125 : decode cX11_init 125 = .ok (.if_icmp .ge 22, 3) := by decide +kernel
theorem dX11_init_128 : decode cX11_init 128 = .ok (.aload_n 0, 1) := by decide +kernel
theorem dX11_init_129 : decode cX11_init 129 = .ok (.getfield 40, 3) := by decide +kernel
theorem dX11_init_132 : decode cX11_init 132 = .ok (.iload_n 1, 1) := by decide +kernel
theorem dX11_init_133 : decode cX11_init 133 = .ok (.new 26, 3) := by decide +kernel
theorem dX11_init_136 : decode cX11_init 136 = .ok (.dup, 1) := by decide +kernel
theorem dX11_init_137 : decode cX11_init 137 = .ok (.invokespecial 28, 3) := by decide +kernel
theorem dX11_init_140 : decode cX11_init 140 = .ok (.aastore, 1) := by decide +kernel
theorem dX11_init_141 : decode cX11_init 141 = .ok (.iinc 1 1, 3) := by decide +kernel
theorem dX11_init_144 : decode cX11_init 144 = .ok (.goto (-25), 3) := by decide +kernel
theorem dX11_init_147 : decode cX11_init 147 = .ok (.iconst 0, 1) := by decide +kernel
theorem dX11_init_148 : decode cX11_init 148 = .ok (.istore_n 1, 1) := by decide +kernel
theorem dX11_init_149 : decode cX11_init 149 = .ok (.iload_n 1, 1) := by decide +kernel
theorem dX11_init_150 : decode cX11_init 150 = .ok (.aload_n 0, 1) := by decide +kernel
theorem dX11_init_151 : decode cX11_init 151 = .ok (.getfield 51, 3) := by decide +kernel
theorem dX11_init_154 : decode cX11_init 154 = .ok (.arraylength, 1) := by decide +kernel
theorem dX11_init_155 : decode cX11_init 155 = .ok (.if_icmp .ge 22, 3) := by decide +kernel
theorem dX11_init_158 : decode cX11_init 158 = .ok (.aload_n 0, 1) := by decide +kernel
theorem dX11_init_159 : decode cX11_init 159 = .ok (.getfield 51, 3) := by decide +kernel
theorem dX11_init_162 : decode cX11_init 162 = .ok (.iload_n 1, 1) := by decide +kernel
theorem dX11_init_163 : decode cX11_init 163 = .ok (.new 26, 3) := by decide +kernel
theorem dX11_init_166 : decode cX11_init 166 = .ok (.dup, 1) := by decide +kernel
theorem dX11_init_167 : decode cX11_init 167 = .ok (.invokespecial 28, 3) := by decide +kernel
theorem dX11_init_170 : decode cX11_init 170 = .ok (.aastore, 1) := by decide +kernel
theorem dX11_init_171 : decode cX11_init 171 = .ok (.iinc 1 1, 3) := by decide +kernel
theorem dX11_init_174 : decode cX11_init 174 = .ok (.goto (-25), 3) := by decide +kernel
theorem dX11_init_177 : decode cX11_init 177 = .ok (.aload_n 0, 1) := by decide +kernel
theorem dX11_init_178 : decode cX11_init 178 = .ok (.getfield 63, 3) := by decide +kernel
theorem dX11_init_181 : decode cX11_init 181 = .ok (.iconst 0, 1) := by decide +kernel
theorem dX11_init_182 : decode cX11_init 182 = .ok (.new 61, 3) := by decide +kernel
theorem dX11_init_185 : decode cX11_init 185 = .ok (.dup, 1) := by decide +kernel
theorem dX11_init_186 : decode cX11_init 186 = .ok (.invokespecial 71, 3) := by decide +kernel
theorem dX11_init_189 : decode cX11_init 189 = .ok (.aastore, 1) := by decide +kernel
theorem dX11_init_190 : decode cX11_init 190 = .ok (.aload_n 0, 1) := by decide +kernel
theorem dX11_init_191 : decode cX11_init 191 = .ok (.getfield 63, 3) := by decide +kernel
theorem dX11_init_194 : decode cX11_init 194 = .ok (.iconst 1, 1) := by decide +kernel
theorem dX11_init_195 : decode cX11_init 195 = .ok (.new 72, 3) := by decide +kernel
theorem dX11_init_198 : decode cX11_init 198 = .ok (.dup, 1) := by decide +kernel
theorem dX11_init_199 : decode cX11_init 199 = .ok (.invokespecial 74, 3) := by decide +kernel
theorem dX11_init_202 : decode cX11_init 202 = .ok (.aastore, 1) := by decide +kernel
theorem dX11_init_203 : decode cX11_init 203 = .ok (.aload_n 0, 1) := by decide +kernel
theorem dX11_init_204 : decode cX11_init 204 = .ok (.getfield 63, 3) := by decide +kernel
theorem dX11_init_207 : decode cX11_init 207 = .ok (.iconst 2, 1) := by decide +kernel
theorem dX11_init_208 : decode cX11_init 208 = .ok (.new 75, 3) := by decide +kernel
theorem dX11_init_211 : decode cX11_init 211 = .ok (.dup, 1) := by decide +kernel
theorem dX11_init_212 : decode cX11_init 212 = .ok (.invokespecial 77, 3) := by decide +kernel
theorem dX11_init_215 : decode cX11_init 215 = .ok (.aastore, 1) := by decide +kernel
theorem dX11_init_216 : decode cX11_init 216 = .ok (.aload_n 0, 1) := by decide +kernel
theorem dX11_init_217 : decode cX11_init 217 = .ok (.getfield 63, 3) := by decide +kernel
theorem dX11_init_220 : decode cX11_init 220 = .ok (.iconst 3, 1) := by decide +kernel
theorem dX11_init_221 : decode cX11_init 221 = .ok (.new 78, 3) := by decide +kernel
theorem dX11_init_224 : decode cX11_init 224 = .ok (.dup, 1) := by decide +kernel
theorem dX11_init_225 : decode cX11_init 225 = .ok (.invokespecial 80, 3) := by decide +kernel
theorem dX11_init_228 : decode cX11_init 228 = .ok (.aastore, 1) := by decide +kernel
theorem dX11_init_229 : decode cX11_init 229 = .ok (.aload_n 0, 1) := by decide +kernel
theorem dX11_init_230 : decode cX11_init 230 = .ok (.getfield 63, 3) := by decide +kernel
theorem dX11_init_233 : decode cX11_init 233 = .ok (.iconst 4, 1) := by decide +kernel
theorem dX11_init_234 : decode cX11_init 234 = .ok (.new 81, 3) := by decide +kernel
theorem dX11_init_237 : decode cX11_init 237 = .ok (.dup, 1) := by decide +kernel
theorem dX11_init_238 : decode cX11_init 238 = .ok (.invokespecial 83, 3) := by decide +kernel
theorem dX11_init_241 : decode cX11_init 241 = .ok (.aastore, 1) := by decide +kernel
theorem dX11_init_242 : decode cX11_init 242 = .ok (.aload_n 0, 1) := by decide +kernel
theorem dX11_init_243 : decode cX11_init 243 = .ok (.getfield 63, 3) := by decide +kernel
theorem dX11_init_246 : decode cX11_init 246 = .ok (.iconst 5, 1) := by decide +kernel
theorem dX11_init_247 : decode cX11_init 247 = .ok (.new 84, 3) := by decide +kernel
theorem dX11_init_250 : decode cX11_init 250 = .ok (.dup, 1) := by decide +kernel
theorem dX11_init_251 : decode cX11_init 251 = .ok (.invokespecial 86, 3) := by decide +kernel
theorem dX11_init_254 : decode cX11_init 254 = .ok (.aastore, 1) := by decide +kernel
theorem dX11_init_255 : decode cX11_init 255 = .ok (.return_, 1) := by decide +kernel
theorem dX11_type_0 : decode cX11_type 0 = .ok (.iload_n 1, 1) := by decide +kernel
theorem dX11_type_1 : decode cX11_type 1 = .ok (.ifCond .lt 10, 3) := by decide +kernel
theorem dX11_type_4 : decode cX11_type 4 = .ok (.iload_n 1, 1) := by decide +kernel
theorem dX11_type_5 : decode cX11_type 5 = .ok (.sipush 255, 3) := by decide +kernel
theorem dX11_type_8 : decode cX11_type 8 = .ok (.if_icmp .le 5, 3) := by decide +kernel
theorem dX11_type_11 : decode cX11_type 11 = .ok (.iconst (-1), 1) := by decide +kernel
theorem dX11_type_12 : decode cX11_type 12 = .ok (.ireturn, 1) := by decide +kernel
theorem dX11_type_13 : decode cX11_type 13 = .ok (.aload_n 0, 1) := by decide +kernel
theorem dX11_type_14 : decode cX11_type 14 = .ok (.getfield 10, 3) := by decide +kernel
theorem dX11_type_17 : decode cX11_type 17 = .ok (.iload_n 1, 1) := by decide +kernel
theorem dX11_type_18 : decode cX11_type 18 = .ok (.invokevirtual 87, 3) := by decide +kernel
theorem dX11_type_21 : decode cX11_type 21 = .ok (.ifCond .eq 13, 3) := by decide +kernel
theorem dX11_type_24 : decode cX11_type 24 = .ok (.aload_n 0, 1) := by decide +kernel
theorem dX11_type_25 : decode cX11_type 25 = .ok (.getfield 10, 3) := by decide +kernel
theorem dX11_type_28 : decode cX11_type 28 = .ok (.getfield 91, 3) := by decide +kernel
theorem dX11_type_31 : decode cX11_type 31 = .ok (.goto 5, 3) := by decide +kernel
theorem dX11_type_34 : decode cX11_type 34 = .ok (.bipush (-3), 2) := by decide +kernel
theorem dX11_type_36 : decode cX11_type 36 = .ok (.ireturn, 1) := by decide +kernel
theorem dX11_clear_0 : decode cX11_clear 0 = .ok (.aload_n 0, 1) := by decide +kernel
theorem dX11_clear_1 : decode cX11_clear 1 = .ok (.getfield 10, 3) := by decide +kernel
theorem dX11_clear_4 : decode cX11_clear 4 = .ok (.getfield 91, 3) := by decide +kernel
theorem dX11_clear_7 : decode cX11_clear 7 = .ok (.istore_n 1, 1) := by decide +kernel
theorem dX11_clear_8 : decode cX11_clear 8 = .ok (.aload_n 0, 1) := by decide +kernel
theorem dX11_clear_9 : decode cX11_clear 9 = .ok (.getfield 10, 3) := by decide +kernel
theorem dX11_clear_12 : decode cX11_clear 12 = .ok (.iconst 0, 1) := by decide +kernel
theorem dX11_clear_13 : decode cX11_clear 13 = .ok (.putfield 91, 3) := by decide +kernel
theorem dX11_clear_16 : decode cX11_clear 16 = .ok (.iload_n 1, 1) := by decide +kernel
theorem dX11_clear_17 : decode cX11_clear 17 = .ok (.ireturn, 1) := by decide +kernel
theorem dX11_ferry_0 : decode cX11_ferry 0 = .ok (.aload_n 0, 1) := by decide +kernel
theorem dX11_ferry_1 : decode cX11_ferry 1 = .ok (.getfield 10, 3) := by decide +kernel
theorem dX11_ferry_4 : decode cX11_ferry 4 = .ok (.aload_n 0, 1) := by decide +kernel
theorem dX11_ferry_5 : decode cX11_ferry 5 = .ok (.getfield 23, 3) := by decide +kernel
theorem dX11_ferry_8 : decode cX11_ferry 8 = .ok (.invokevirtual 95, 3) := by decide +kernel
theorem dX11_ferry_11 : decode cX11_ferry 11 = .ok (.istore_n 1, 1) := by decide +kernel
theorem dX11_ferry_12 : decode cX11_ferry 12 = .ok (.iload_n 1, 1) := by decide +kernel
theorem dX11_ferry_13 : decode cX11_ferry 13 = .ok (.ifCond .ge 5, 3) := by decide +kernel
theorem dX11_ferry_16 : decode cX11_ferry 16 = .ok (.iload_n 1, 1) := by decide +kernel
theorem dX11_ferry_17 : decode cX11_ferry 17 = .ok (.ireturn, 1) := by decide +kernel
theorem dX11_ferry_18 : decode cX11_ferry 18 = .ok (.aload_n 0, 1) := by decide +kernel
theorem dX11_ferry_19 : decode cX11_ferry 19 = .ok (.getfield 19, 3) := by decide +kernel
theorem dX11_ferry_22 : decode cX11_ferry 22 = .ok (.astore_n 2, 1) := by decide +kernel
theorem dX11_ferry_23 : decode cX11_ferry 23 = .ok (.aload_n 0, 1) := by decide +kernel
theorem dX11_ferry_24 : decode cX11_ferry 24 = .ok (.aload_n 0, 1) := by decide +kernel
theorem dX11_ferry_25 : decode cX11_ferry 25 = .ok (.getfield 23, 3) := by decide +kernel
theorem dX11_ferry_28 : decode cX11_ferry 28 = .ok (.putfield 19, 3) := by decide +kernel
theorem dX11_ferry_31 : decode cX11_ferry 31 = .ok (.aload_n 0, 1) := by decide +kernel
theorem dX11_ferry_32 : decode cX11_ferry 32 = .ok (.aload_n 2, 1) := by decide +kernel
theorem dX11_ferry_33 : decode cX11_ferry 33 = .ok (.putfield 23, 3) := by decide +kernel
theorem dX11_ferry_36 : decode cX11_ferry 36 = .ok (.aload_n 0, 1) := by decide +kernel
theorem dX11_ferry_37 : decode cX11_ferry 37 = .ok (.getfield 10, 3) := by decide +kernel
theorem dX11_ferry_40 : decode cX11_ferry 40 = .ok (.iconst 0, 1) := by decide +kernel
theorem dX11_ferry_41 : decode cX11_ferry 41 = .ok (.putfield 91, 3) := by decide +kernel
theorem dX11_ferry_44 : decode cX11_ferry 44 = .ok (.aload_n 0, 1) := by decide +kernel
theorem dX11_ferry_45 : decode cX11_ferry 45 = .ok (.getfield 29, 3) := by decide +kernel
theorem dX11_ferry_48 : decode cX11_ferry 48 = .ok (.aload_n 0, 1) := by decide +kernel
theorem dX11_ferry_49 : decode cX11_ferry 49 = .ok (.getfield 19, 3) := by decide +kernel
theorem dX11_ferry_52 : decode cX11_ferry 52 = .ok (.invokevirtual 99, 3) := by decide +kernel
theorem dX11_ferry_55 : decode cX11_ferry 55 = .ok (.aload_n 0, 1) := by decide +kernel
theorem dX11_ferry_56 : decode cX11_ferry 56 = .ok (.getfield 36, 3) := by decide +kernel
theorem dX11_ferry_59 : decode cX11_ferry 59 = .ok (.invokevirtual 103, 3) := by decide +kernel
theorem dX11_ferry_62 : decode cX11_ferry 62 = .ok (.aload_n 0, 1) := by decide +kernel
theorem dX11_ferry_63 : decode cX11_ferry 63 = .ok (.iconst 0, 1) := by decide +kernel
theorem dX11_ferry_64 : decode cX11_ferry 64 = .ok (.putfield 106, 3) := by decide +kernel
theorem dX11_ferry_67 : decode cX11_ferry 67 = .ok (.aload_n 0, 1) := by decide +kernel
theorem dX11_ferry_68 : decode cX11_ferry 68 = .ok (.iconst 0, 1) := by decide +kernel
theorem dX11_ferry_69 : decode cX11_ferry 69 = .ok (.putfield 109, 3) := by decide +kernel
theorem dX11_ferry_72 : decode cX11_ferry 72 = .ok (.iload_n 1, 1) := by decide +kernel
theorem dX11_ferry_73 : decode cX11_ferry 73 = .ok (.ireturn, 1) := by decide +kernel
theorem dX11_passenger_0 : decode cX11_passenger 0 = .ok (.aload_n 0, 1) := by decide +kernel
theorem dX11_passenger_1 : decode cX11_passenger 1 = .ok (.getfield 19, 3) := by decide +kernel
theorem dX11_passenger_4 : decode cX11_passenger 4 = .ok (.iload_n 1, 1) := by decide +kernel
theorem dX11_passenger_5 : decode cX11_passenger 5 = .ok (.invokevirtual 112, 3) := by decide +kernel
theorem dX11_passenger_8 : decode cX11_passenger 8 = .ok (.ifCond .ne 5, 3) := by decide +kernel
theorem dX11_passenger_11 : decode cX11_passenger 11 = .ok (.iconst (-1), 1) := by decide +kernel
theorem dX11_passenger_12 : decode cX11_passenger 12 = .ok (.ireturn, 1) := by decide +kernel
theorem dX11_passenger_13 : decode cX11_passenger 13 = .ok (.iload_n 2, 1) := by decide +kernel
theorem dX11_passenger_14 : decode cX11_passenger 14 = .ok (.tableswitch 99 0 5 #[38, 48, 58, 68, 77, 87], 38) := by decide +kernel
theorem dX11_passenger_52 : decode cX11_passenger 52 = .ok (.aload_n 0, 1) := by decide +kernel
theorem dX11_passenger_53 : decode cX11_passenger 53 = .ok (.getfield 19, 3) := by decide +kernel
theorem dX11_passenger_56 : decode cX11_passenger 56 = .ok (.getfield 115, 3) := by decide +kernel
theorem dX11_passenger_59 : decode cX11_passenger 59 = .ok (.iload_n 1, 1) := by decide +kernel
theorem dX11_passenger_60 : decode cX11_passenger 60 = .ok (.iaload, 1) := by decide +kernel
theorem dX11_passenger_61 : decode cX11_passenger 61 = .ok (.ireturn, 1) := by decide +kernel
theorem dX11_passenger_62 : decode cX11_passenger 62 = .ok (.aload_n 0, 1) := by decide +kernel
theorem dX11_passenger_63 : decode cX11_passenger 63 = .ok (.getfield 19, 3) := by decide +kernel
theorem dX11_passenger_66 : decode cX11_passenger 66 = .ok (.getfield 118, 3) := by decide +kernel
theorem dX11_passenger_69 : decode cX11_passenger 69 = .ok (.iload_n 1, 1) := by decide +kernel
theorem dX11_passenger_70 : decode cX11_passenger 70 = .ok (.iaload, 1) := by decide +kernel
theorem dX11_passenger_71 : decode cX11_passenger 71 = .ok (.ireturn, 1) := by decide +kernel
theorem dX11_passenger_72 : decode cX11_passenger 72 = .ok (.aload_n 0, 1) := by decide +kernel
theorem dX11_passenger_73 : decode cX11_passenger 73 = .ok (.getfield 19, 3) := by decide +kernel
theorem dX11_passenger_76 : decode cX11_passenger 76 = .ok (.getfield 121, 3) := by decide +kernel
theorem dX11_passenger_79 : decode cX11_passenger 79 = .ok (.iload_n 1, 1) := by decide +kernel
theorem dX11_passenger_80 : decode cX11_passenger 80 = .ok (.iaload, 1) := by decide +kernel
theorem dX11_passenger_81 : decode cX11_passenger 81 = .ok (.ireturn, 1) := by decide +kernel
theorem dX11_passenger_82 : decode cX11_passenger 82 = .ok (.aload_n 0, 1) := by decide +kernel
theorem dX11_passenger_83 : decode cX11_passenger 83 = .ok (.getfield 29, 3) := by decide +kernel
theorem dX11_passenger_86 : decode cX11_passenger 86 = .ok (.iload_n 1, 1) := by decide +kernel
theorem dX11_passenger_87 : decode cX11_passenger 87 = .ok (.invokevirtual 124, 3) := by decide +kernel
theorem dX11_passenger_90 : decode cX11_passenger 90 = .ok (.ireturn, 1) := by decide +kernel
theorem dX11_passenger_91 : decode cX11_passenger 91 = .ok (.aload_n 0, 1) := by decide +kernel
theorem dX11_passenger_92 : decode cX11_passenger 92 = .ok (.getfield 29, 3) := by decide +kernel
theorem dX11_passenger_95 : decode cX11_passenger 95 = .ok (.getfield 128, 3) := by decide +kernel
theorem dX11_passenger_98 : decode cX11_passenger 98 = .ok (.iload_n 1, 1) := by decide +kernel
theorem dX11_passenger_99 : decode cX11_passenger 99 = .ok (.iaload, 1) := by decide +kernel
theorem dX11_passenger_100 : decode cX11_passenger 100 = .ok (.ireturn, 1) := by decide +kernel
theorem dX11_passenger_101 : decode cX11_passenger 101 = .ok (.aload_n 0, 1) := by decide +kernel
theorem dX11_passenger_102 : decode cX11_passenger 102 = .ok (.getfield 29, 3) := by decide +kernel
theorem dX11_passenger_105 : decode cX11_passenger 105 = .ok (.getfield 131, 3) := by decide +kernel
theorem dX11_passenger_108 : decode cX11_passenger 108 = .ok (.iload_n 1, 1) := by decide +kernel
theorem dX11_passenger_109 : decode cX11_passenger 109 = .ok (.ishr, 1) := by decide +kernel
theorem dX11_passenger_110 : decode cX11_passenger 110 = .ok (.iconst 1, 1) := by decide +kernel
theorem dX11_passenger_111 : decode cX11_passenger 111 = .ok (.iand, 1) := by decide +kernel
theorem dX11_passenger_112 : decode cX11_passenger 112 = .ok (.ireturn, 1) := by decide +kernel
theorem dX11_passenger_113 : decode cX11_passenger 113 = .ok (.iconst (-1), 1) := by decide +kernel
theorem dX11_passenger_114 : decode cX11_passenger 114 = .ok (.ireturn, 1) := by decide +kernel
theorem dX11_current_0 : decode cX11_current 0 = .ok (.iload_n 1, 1) := by decide +kernel
theorem dX11_current_1 : decode cX11_current 1 = .ok (.ifCond .lt 10, 3) := by decide +kernel
theorem dX11_current_4 : decode cX11_current 4 = .ok (.iload_n 1, 1) := by decide +kernel
theorem dX11_current_5 : decode cX11_current 5 = .ok (.sipush 400, 3) := by decide +kernel
theorem dX11_current_8 : decode cX11_current 8 = .ok (.if_icmp .le 7, 3) := by decide +kernel
theorem dX11_current_11 : decode cX11_current 11 = .ok (.iconst (-1), 1) := by decide +kernel
theorem dX11_current_12 : decode cX11_current 12 = .ok (.goto 11, 3) := by decide +kernel
theorem dX11_current_15 : decode cX11_current 15 = .ok (.aload_n 0, 1) := by decide +kernel
theorem dX11_current_16 : decode cX11_current 16 = .ok (.getfield 19, 3) := by decide +kernel
theorem dX11_current_19 : decode cX11_current 19 = .ok (.iload_n 1, 1) := by decide +kernel
theorem dX11_current_20 : decode cX11_current 20 = .ok (.invokevirtual 134, 3) := by decide +kernel
theorem dX11_current_23 : decode cX11_current 23 = .ok (.ireturn, 1) := by decide +kernel
theorem dX11_now_0 : decode cX11_now 0 = .ok (.iload_n 1, 1) := by decide +kernel
theorem dX11_now_1 : decode cX11_now 1 = .ok (.tableswitch 111 0 6 #[43, 51, 59, 67, 82, 95, 103], 43) := by decide +kernel
theorem dX11_now_44 : decode cX11_now 44 = .ok (.aload_n 0, 1) := by decide +kernel
theorem dX11_now_45 : decode cX11_now 45 = .ok (.getfield 29, 3) := by decide +kernel
theorem dX11_now_48 : decode cX11_now 48 = .ok (.getfield 137, 3) := by decide +kernel
theorem dX11_now_51 : decode cX11_now 51 = .ok (.ireturn, 1) := by decide +kernel
theorem dX11_now_52 : decode cX11_now 52 = .ok (.aload_n 0, 1) := by decide +kernel
theorem dX11_now_53 : decode cX11_now 53 = .ok (.getfield 29, 3) := by decide +kernel
theorem dX11_now_56 : decode cX11_now 56 = .ok (.getfield 140, 3) := by decide +kernel
theorem dX11_now_59 : decode cX11_now 59 = .ok (.ireturn, 1) := by decide +kernel
theorem dX11_now_60 : decode cX11_now 60 = .ok (.aload_n 0, 1) := by decide +kernel
theorem dX11_now_61 : decode cX11_now 61 = .ok (.getfield 29, 3) := by decide +kernel
theorem dX11_now_64 : decode cX11_now 64 = .ok (.getfield 131, 3) := by decide +kernel
theorem dX11_now_67 : decode cX11_now 67 = .ok (.ireturn, 1) := by decide +kernel
theorem dX11_now_68 : decode cX11_now 68 = .ok (.aload_n 0, 1) := by decide +kernel
theorem dX11_now_69 : decode cX11_now 69 = .ok (.getfield 19, 3) := by decide +kernel
theorem dX11_now_72 : decode cX11_now 72 = .ok (.aload_n 0, 1) := by decide +kernel
theorem dX11_now_73 : decode cX11_now 73 = .ok (.getfield 29, 3) := by decide +kernel
theorem dX11_now_76 : decode cX11_now 76 = .ok (.getfield 131, 3) := by decide +kernel
theorem dX11_now_79 : decode cX11_now 79 = .ok (.invokevirtual 143, 3) := by decide +kernel
theorem dX11_now_82 : decode cX11_now 82 = .ok (.ireturn, 1) := by decide +kernel
theorem dX11_now_83 : decode cX11_now 83 = .ok (.aload_n 0, 1) := by decide +kernel
theorem dX11_now_84 : decode cX11_now 84 = .ok (.invokevirtual 146, 3) := by decide +kernel
theorem dX11_now_87 : decode cX11_now 87 = .ok (.ifCond .eq 7, 3) := by decide +kernel
theorem dX11_now_90 : decode cX11_now 90 = .ok (.iconst 1, 1) := by decide +kernel
theorem dX11_now_91 : decode cX11_now 91 = .ok (.goto 4, 3) := by decide +kernel
theorem dX11_now_94 : decode cX11_now 94 = .ok (.iconst 0, 1) := by decide +kernel
theorem dX11_now_95 : decode cX11_now 95 = .ok (.ireturn, 1) := by decide +kernel
theorem dX11_now_96 : decode cX11_now 96 = .ok (.aload_n 0, 1) := by decide +kernel
theorem dX11_now_97 : decode cX11_now 97 = .ok (.getfield 29, 3) := by decide +kernel
theorem dX11_now_100 : decode cX11_now 100 = .ok (.invokevirtual 150, 3) := by decide +kernel
theorem dX11_now_103 : decode cX11_now 103 = .ok (.ireturn, 1) := by decide +kernel
theorem dX11_now_104 : decode cX11_now 104 = .ok (.aload_n 0, 1) := by decide +kernel
theorem dX11_now_105 : decode cX11_now 105 = .ok (.getfield 36, 3) := by decide +kernel
theorem dX11_now_108 : decode cX11_now 108 = .ok (.getfield 154, 3) := by decide +kernel
theorem dX11_now_111 : decode cX11_now 111 = .ok (.ireturn, 1) := by decide +kernel
theorem dX11_now_112 : decode cX11_now 112 = .ok (.iconst (-1), 1) := by decide +kernel
theorem dX11_now_113 : decode cX11_now 113 = .ok (.ireturn, 1) := by decide +kernel
theorem dX11_beat_0 : decode cX11_beat 0 = .ok (.aload_n 0, 1) := by decide +kernel
theorem dX11_beat_1 : decode cX11_beat 1 = .ok (.invokevirtual 146, 3) := by decide +kernel
theorem dX11_beat_4 : decode cX11_beat 4 = .ok (.ifCond .ne 16, 3) := by decide +kernel
theorem dX11_beat_7 : decode cX11_beat 7 = .ok (.aload_n 0, 1) := by decide +kernel
theorem dX11_beat_8 : decode cX11_beat 8 = .ok (.getfield 29, 3) := by decide +kernel
theorem dX11_beat_11 : decode cX11_beat 11 = .ok (.getfield 137, 3) := by decide +kernel
theorem dX11_beat_14 : decode cX11_beat 14 = .ok (.sipush 9999, 3) := by decide +kernel
theorem dX11_beat_17 : decode cX11_beat 17 = .ok (.if_icmp .lt 6, 3) := by decide +kernel
theorem dX11_beat_20 : decode cX11_beat 20 = .ok (.bipush (-2), 2) := by decide +kernel
theorem dX11_beat_22 : decode cX11_beat 22 = .ok (.ireturn, 1) := by decide +kernel
theorem dX11_beat_23 : decode cX11_beat 23 = .ok (.aload_n 0, 1) := by decide +kernel
theorem dX11_beat_24 : decode cX11_beat 24 = .ok (.getfield 36, 3) := by decide +kernel
theorem dX11_beat_27 : decode cX11_beat 27 = .ok (.aload_n 0, 1) := by decide +kernel
theorem dX11_beat_28 : decode cX11_beat 28 = .ok (.getfield 29, 3) := by decide +kernel
theorem dX11_beat_31 : decode cX11_beat 31 = .ok (.invokevirtual 157, 3) := by decide +kernel
theorem dX11_beat_34 : decode cX11_beat 34 = .ok (.aload_n 0, 1) := by decide +kernel
theorem dX11_beat_35 : decode cX11_beat 35 = .ok (.getfield 29, 3) := by decide +kernel
theorem dX11_beat_38 : decode cX11_beat 38 = .ok (.aload_n 0, 1) := by decide +kernel
theorem dX11_beat_39 : decode cX11_beat 39 = .ok (.getfield 19, 3) := by decide +kernel
theorem dX11_beat_42 : decode cX11_beat 42 = .ok (.invokevirtual 161, 3) := by decide +kernel
theorem dX11_beat_45 : decode cX11_beat 45 = .ok (.aload_n 0, 1) := by decide +kernel
theorem dX11_beat_46 : decode cX11_beat 46 = .ok (.getfield 29, 3) := by decide +kernel
theorem dX11_beat_49 : decode cX11_beat 49 = .ok (.getfield 140, 3) := by decide +kernel
theorem dX11_beat_52 : decode cX11_beat 52 = .ok (.ireturn, 1) := by decide +kernel
theorem dX11_pinches_0 : decode cX11_pinches 0 = .ok (.aload_n 0, 1) := by decide +kernel
theorem dX11_pinches_1 : decode cX11_pinches 1 = .ok (.getfield 19, 3) := by decide +kernel
theorem dX11_pinches_4 : decode cX11_pinches 4 = .ok (.iload_n 1, 1) := by decide +kernel
theorem dX11_pinches_5 : decode cX11_pinches 5 = .ok (.invokevirtual 112, 3) := by decide +kernel
theorem dX11_pinches_8 : decode cX11_pinches 8 = .ok (.ifCond .ne 5, 3) := by decide +kernel
theorem dX11_pinches_11 : decode cX11_pinches 11 = .ok (.iconst (-1), 1) := by decide +kernel
theorem dX11_pinches_12 : decode cX11_pinches 12 = .ok (.ireturn, 1) := by decide +kernel
theorem dX11_pinches_13 : decode cX11_pinches 13 = .ok (.aload_n 0, 1) := by decide +kernel
theorem dX11_pinches_14 : decode cX11_pinches 14 = .ok (.invokevirtual 146, 3) := by decide +kernel
theorem dX11_pinches_17 : decode cX11_pinches 17 = .ok (.ifCond .eq 6, 3) := by decide +kernel
theorem dX11_pinches_20 : decode cX11_pinches 20 = .ok (.bipush (-2), 2) := by decide +kernel
theorem dX11_pinches_22 : decode cX11_pinches 22 = .ok (.ireturn, 1) := by decide +kernel
theorem dX11_pinches_23 : decode cX11_pinches 23 = .ok (.aload_n 0, 1) := by decide +kernel
theorem dX11_pinches_24 : decode cX11_pinches 24 = .ok (.iconst 1, 1) := by decide +kernel
theorem dX11_pinches_25 : decode cX11_pinches 25 = .ok (.iload_n 1, 1) := by decide +kernel
theorem dX11_pinches_26 : decode cX11_pinches 26 = .ok (.ishl, 1) := by decide +kernel
theorem dX11_pinches_27 : decode cX11_pinches 27 = .ok (.invokevirtual 164, 3) := by decide +kernel
theorem dX11_pinches_30 : decode cX11_pinches 30 = .ok (.aload_n 0, 1) := by decide +kernel
theorem dX11_pinches_31 : decode cX11_pinches 31 = .ok (.getfield 29, 3) := by decide +kernel
theorem dX11_pinches_34 : decode cX11_pinches 34 = .ok (.getfield 128, 3) := by decide +kernel
theorem dX11_pinches_37 : decode cX11_pinches 37 = .ok (.iload_n 1, 1) := by decide +kernel
theorem dX11_pinches_38 : decode cX11_pinches 38 = .ok (.iaload, 1) := by decide +kernel
theorem dX11_pinches_39 : decode cX11_pinches 39 = .ok (.ireturn, 1) := by decide +kernel
theorem dX11_quarrels_0 : decode cX11_quarrels 0 = .ok (.aload_n 0, 1) := by decide +kernel
theorem dX11_quarrels_1 : decode cX11_quarrels 1 = .ok (.getfield 19, 3) := by decide +kernel
theorem dX11_quarrels_4 : decode cX11_quarrels 4 = .ok (.iload_n 1, 1) := by decide +kernel
theorem dX11_quarrels_5 : decode cX11_quarrels 5 = .ok (.invokevirtual 112, 3) := by decide +kernel
theorem dX11_quarrels_8 : decode cX11_quarrels 8 = .ok (.ifCond .eq 19, 3) := by decide +kernel
theorem dX11_quarrels_11 : decode cX11_quarrels 11 = .ok (.aload_n 0, 1) := by decide +kernel
theorem dX11_quarrels_12 : decode cX11_quarrels 12 = .ok (.getfield 19, 3) := by decide +kernel
theorem dX11_quarrels_15 : decode cX11_quarrels 15 = .ok (.iload_n 2, 1) := by decide +kernel
theorem dX11_quarrels_16 : decode cX11_quarrels 16 = .ok (.invokevirtual 112, 3) := by decide +kernel
theorem dX11_quarrels_19 : decode cX11_quarrels 19 = .ok (.ifCond .eq 8, 3) := by decide +kernel
theorem dX11_quarrels_22 : decode cX11_quarrels 22 = .ok (.iload_n 1, 1) := by decide +kernel
theorem dX11_quarrels_23 : decode cX11_quarrels 23 = .ok (.iload_n 2, 1) := by decide +kernel
theorem dX11_quarrels_24 : decode cX11_quarrels 24 = .ok (.if_icmp .ne 5, 3) := by decide +kernel
theorem dX11_quarrels_27 : decode cX11_quarrels 27 = .ok (.iconst (-1), 1) := by decide +kernel
theorem dX11_quarrels_28 : decode cX11_quarrels 28 = .ok (.ireturn, 1) := by decide +kernel
theorem dX11_quarrels_29 : decode cX11_quarrels 29 = .ok (.aload_n 0, 1) := by decide +kernel
theorem dX11_quarrels_30 : decode cX11_quarrels 30 = .ok (.invokevirtual 146, 3) := by decide +kernel
theorem dX11_quarrels_33 : decode cX11_quarrels 33 = .ok (.ifCond .eq 6, 3) := by decide +kernel
theorem dX11_quarrels_36 : decode cX11_quarrels 36 = .ok (.bipush (-2), 2) := by decide +kernel
theorem dX11_quarrels_38 : decode cX11_quarrels 38 = .ok (.ireturn, 1) := by decide +kernel
theorem dX11_quarrels_39 : decode cX11_quarrels 39 = .ok (.aload_n 0, 1) := by decide +kernel
theorem dX11_quarrels_40 : decode cX11_quarrels 40 = .ok (.iconst 1, 1) := by decide +kernel
theorem dX11_quarrels_41 : decode cX11_quarrels 41 = .ok (.iload_n 1, 1) := by decide +kernel
theorem dX11_quarrels_42 : decode cX11_quarrels 42 = .ok (.ishl, 1) := by decide +kernel
theorem dX11_quarrels_43 : decode cX11_quarrels 43 = .ok (.iconst 1, 1) := by decide +kernel
theorem dX11_quarrels_44 : decode cX11_quarrels 44 = .ok (.iload_n 2, 1) := by decide +kernel
theorem dX11_quarrels_45 : decode cX11_quarrels 45 = .ok (.ishl, 1) := by decide +kernel
theorem dX11_quarrels_46 : decode cX11_quarrels 46 = .ok (.ior, 1) := by decide +kernel
theorem dX11_quarrels_47 : decode cX11_quarrels 47 = .ok (.invokevirtual 164, 3) := by decide +kernel
theorem dX11_quarrels_50 : decode cX11_quarrels 50 = .ok (.aload_n 0, 1) := by decide +kernel
theorem dX11_quarrels_51 : decode cX11_quarrels 51 = .ok (.getfield 19, 3) := by decide +kernel
theorem dX11_quarrels_54 : decode cX11_quarrels 54 = .ok (.aload_n 0, 1) := by decide +kernel
theorem dX11_quarrels_55 : decode cX11_quarrels 55 = .ok (.getfield 29, 3) := by decide +kernel
theorem dX11_quarrels_58 : decode cX11_quarrels 58 = .ok (.getfield 131, 3) := by decide +kernel
theorem dX11_quarrels_61 : decode cX11_quarrels 61 = .ok (.invokevirtual 143, 3) := by decide +kernel
theorem dX11_quarrels_64 : decode cX11_quarrels 64 = .ok (.ireturn, 1) := by decide +kernel
theorem dX11_sings_0 : decode cX11_sings 0 = .ok (.iload_n 1, 1) := by decide +kernel
theorem dX11_sings_1 : decode cX11_sings 1 = .ok (.iconst 1, 1) := by decide +kernel
theorem dX11_sings_2 : decode cX11_sings 2 = .ok (.if_icmp .lt 8, 3) := by decide +kernel
theorem dX11_sings_5 : decode cX11_sings 5 = .ok (.iload_n 1, 1) := by decide +kernel
theorem dX11_sings_6 : decode cX11_sings 6 = .ok (.iconst 3, 1) := by decide +kernel
theorem dX11_sings_7 : decode cX11_sings 7 = .ok (.if_icmp .le 5, 3) := by decide +kernel
theorem dX11_sings_10 : decode cX11_sings 10 = .ok (.iconst (-1), 1) := by decide +kernel
theorem dX11_sings_11 : decode cX11_sings 11 = .ok (.ireturn, 1) := by decide +kernel
theorem dX11_sings_12 : decode cX11_sings 12 = .ok (.aload_n 0, 1) := by decide +kernel
theorem dX11_sings_13 : decode cX11_sings 13 = .ok (.getfield 19, 3) := by decide +kernel
theorem dX11_sings_16 : decode cX11_sings 16 = .ok (.iload_n 1, 1) := by decide +kernel
theorem dX11_sings_17 : decode cX11_sings 17 = .ok (.invokevirtual 168, 3) := by decide +kernel
theorem dX11_sings_20 : decode cX11_sings 20 = .ok (.istore_n 2, 1) := by decide +kernel
theorem dX11_sings_21 : decode cX11_sings 21 = .ok (.aload_n 0, 1) := by decide +kernel
theorem dX11_sings_22 : decode cX11_sings 22 = .ok (.invokevirtual 146, 3) := by decide +kernel
theorem dX11_sings_25 : decode cX11_sings 25 = .ok (.ifCond .ne 7, 3) := by decide +kernel
theorem dX11_sings_28 : decode cX11_sings 28 = .ok (.iload_n 2, 1) := by decide +kernel
theorem dX11_sings_29 : decode cX11_sings 29 = .ok (.ifCond .ne 6, 3) := by decide +kernel
theorem dX11_sings_32 : decode cX11_sings 32 = .ok (.bipush (-2), 2) := by decide +kernel
theorem dX11_sings_34 : decode cX11_sings 34 = .ok (.ireturn, 1) := by decide +kernel
theorem dX11_sings_35 : decode cX11_sings 35 = .ok (.aload_n 0, 1) := by decide +kernel
theorem dX11_sings_36 : decode cX11_sings 36 = .ok (.iload_n 2, 1) := by decide +kernel
theorem dX11_sings_37 : decode cX11_sings 37 = .ok (.invokevirtual 164, 3) := by decide +kernel
theorem dX11_sings_40 : decode cX11_sings 40 = .ok (.aload_n 0, 1) := by decide +kernel
theorem dX11_sings_41 : decode cX11_sings 41 = .ok (.getfield 19, 3) := by decide +kernel
theorem dX11_sings_44 : decode cX11_sings 44 = .ok (.aload_n 0, 1) := by decide +kernel
theorem dX11_sings_45 : decode cX11_sings 45 = .ok (.getfield 29, 3) := by decide +kernel
theorem dX11_sings_48 : decode cX11_sings 48 = .ok (.getfield 131, 3) := by decide +kernel
theorem dX11_sings_51 : decode cX11_sings 51 = .ok (.invokevirtual 143, 3) := by decide +kernel
theorem dX11_sings_54 : decode cX11_sings 54 = .ok (.ireturn, 1) := by decide +kernel
theorem dX11_undo_0 : decode cX11_undo 0 = .ok (.aload_n 0, 1) := by decide +kernel
theorem dX11_undo_1 : decode cX11_undo 1 = .ok (.getfield 36, 3) := by decide +kernel
theorem dX11_undo_4 : decode cX11_undo 4 = .ok (.aload_n 0, 1) := by decide +kernel
theorem dX11_undo_5 : decode cX11_undo 5 = .ok (.getfield 29, 3) := by decide +kernel
theorem dX11_undo_8 : decode cX11_undo 8 = .ok (.invokevirtual 171, 3) := by decide +kernel
theorem dX11_undo_11 : decode cX11_undo 11 = .ok (.ifCond .eq 13, 3) := by decide +kernel
theorem dX11_undo_14 : decode cX11_undo 14 = .ok (.aload_n 0, 1) := by decide +kernel
theorem dX11_undo_15 : decode cX11_undo 15 = .ok (.getfield 36, 3) := by decide +kernel
theorem dX11_undo_18 : decode cX11_undo 18 = .ok (.getfield 154, 3) := by decide +kernel
theorem dX11_undo_21 : decode cX11_undo 21 = .ok (.goto 5, 3) := by decide +kernel
theorem dX11_undo_24 : decode cX11_undo 24 = .ok (.bipush (-2), 2) := by decide +kernel
theorem dX11_undo_26 : decode cX11_undo 26 = .ok (.ireturn, 1) := by decide +kernel
theorem dX11_isOver_0 : decode cX11_isOver 0 = .ok (.aload_n 0, 1) := by decide +kernel
theorem dX11_isOver_1 : decode cX11_isOver 1 = .ok (.getfield 19, 3) := by decide +kernel
theorem dX11_isOver_4 : decode cX11_isOver 4 = .ok (.aload_n 0, 1) := by decide +kernel
theorem dX11_isOver_5 : decode cX11_isOver 5 = .ok (.getfield 29, 3) := by decide +kernel
theorem dX11_isOver_8 : decode cX11_isOver 8 = .ok (.getfield 140, 3) := by decide +kernel
theorem dX11_isOver_11 : decode cX11_isOver 11 = .ok (.invokevirtual 175, 3) := by decide +kernel
theorem dX11_isOver_14 : decode cX11_isOver 14 = .ok (.ireturn, 1) := by decide +kernel
theorem dX11_utter_0 : decode cX11_utter 0 = .ok (.aload_n 0, 1) := by decide +kernel
theorem dX11_utter_1 : decode cX11_utter 1 = .ok (.getfield 36, 3) := by decide +kernel
theorem dX11_utter_4 : decode cX11_utter 4 = .ok (.aload_n 0, 1) := by decide +kernel
theorem dX11_utter_5 : decode cX11_utter 5 = .ok (.getfield 29, 3) := by decide +kernel
theorem dX11_utter_8 : decode cX11_utter 8 = .ok (.invokevirtual 157, 3) := by decide +kernel
theorem dX11_utter_11 : decode cX11_utter 11 = .ok (.aload_n 0, 1) := by decide +kernel
theorem dX11_utter_12 : decode cX11_utter 12 = .ok (.getfield 29, 3) := by decide +kernel
theorem dX11_utter_15 : decode cX11_utter 15 = .ok (.aload_n 0, 1) := by decide +kernel
theorem dX11_utter_16 : decode cX11_utter 16 = .ok (.getfield 19, 3) := by decide +kernel
theorem dX11_utter_19 : decode cX11_utter 19 = .ok (.iload_n 1, 1) := by decide +kernel
theorem dX11_utter_20 : decode cX11_utter 20 = .ok (.invokevirtual 177, 3) := by decide +kernel
theorem dX11_utter_23 : decode cX11_utter 23 = .ok (.return_, 1) := by decide +kernel
theorem dX11_inBeats_0 : decode cX11_inBeats 0 = .ok (.iload_n 1, 1) := by decide +kernel
theorem dX11_inBeats_1 : decode cX11_inBeats 1 = .ok (.ifCond .lt 19, 3) := by decide +kernel
theorem dX11_inBeats_4 : decode cX11_inBeats 4 = .ok (.iload_n 1, 1) := by decide +kernel
theorem dX11_inBeats_5 : decode cX11_inBeats 5 = .ok (.sipush 200, 3) := by decide +kernel
theorem dX11_inBeats_8 : decode cX11_inBeats 8 = .ok (.if_icmp .gt 12, 3) := by decide +kernel
theorem dX11_inBeats_11 : decode cX11_inBeats 11 = .ok (.iload_n 2, 1) := by decide +kernel
theorem dX11_inBeats_12 : decode cX11_inBeats 12 = .ok (.ifCond .lt 8, 3) := by decide +kernel
theorem dX11_inBeats_15 : decode cX11_inBeats 15 = .ok (.iload_n 2, 1) := by decide +kernel
theorem dX11_inBeats_16 : decode cX11_inBeats 16 = .ok (.iconst 2, 1) := by decide +kernel
theorem dX11_inBeats_17 : decode cX11_inBeats 17 = .ok (.if_icmp .le 5, 3) := by decide +kernel
theorem dX11_inBeats_20 : decode cX11_inBeats 20 = .ok (.iconst (-1), 1) := by decide +kernel
theorem dX11_inBeats_21 : decode cX11_inBeats 21 = .ok (.ireturn, 1) := by decide +kernel
theorem dX11_inBeats_22 : decode cX11_inBeats 22 = .ok (.aload_n 0, 1) := by decide +kernel
theorem dX11_inBeats_23 : decode cX11_inBeats 23 = .ok (.invokevirtual 181, 3) := by decide +kernel
theorem dX11_inBeats_26 : decode cX11_inBeats 26 = .ok (.astore_n 3, 1) := by decide +kernel
theorem dX11_inBeats_27 : decode cX11_inBeats 27 = .ok (.iconst 0, 1) := by decide +kernel
theorem dX11_inBeats_28 : decode cX11_inBeats 28 = .ok (.istore 4, 2) := by decide +kernel
theorem dX11_inBeats_30 : decode cX11_inBeats 30 = .ok (.iload 4, 2) := by decide +kernel
theorem dX11_inBeats_32 : decode cX11_inBeats 32 = .ok (.iload_n 1, 1) := by decide +kernel
theorem dX11_inBeats_33 : decode cX11_inBeats 33 = .ok (.if_icmp .ge 17, 3) := by decide +kernel
theorem dX11_inBeats_36 : decode cX11_inBeats 36 = .ok (.aload_n 3, 1) := by decide +kernel
theorem dX11_inBeats_37 : decode cX11_inBeats 37 = .ok (.aload_n 0, 1) := by decide +kernel
theorem dX11_inBeats_38 : decode cX11_inBeats 38 = .ok (.getfield 19, 3) := by decide +kernel
theorem dX11_inBeats_41 : decode cX11_inBeats 41 = .ok (.invokevirtual 161, 3) := by decide +kernel
theorem dX11_inBeats_44 : decode cX11_inBeats 44 = .ok (.iinc 4 1, 3) := by decide +kernel
theorem dX11_inBeats_47 : decode cX11_inBeats 47 = .ok (.goto (-17), 3) := by decide +kernel
theorem dX11_inBeats_50 : decode cX11_inBeats 50 = .ok (.iload_n 2, 1) := by decide +kernel
theorem dX11_inBeats_51 : decode cX11_inBeats 51 = .ok (.ifCond .ne 8, 3) := by decide +kernel
theorem dX11_inBeats_54 : decode cX11_inBeats 54 = .ok (.aload_n 3, 1) := by decide +kernel
theorem dX11_inBeats_55 : decode cX11_inBeats 55 = .ok (.getfield 140, 3) := by decide +kernel
theorem dX11_inBeats_58 : decode cX11_inBeats 58 = .ok (.ireturn, 1) := by decide +kernel
theorem dX11_inBeats_59 : decode cX11_inBeats 59 = .ok (.iload_n 2, 1) := by decide +kernel
theorem dX11_inBeats_60 : decode cX11_inBeats 60 = .ok (.iconst 1, 1) := by decide +kernel
theorem dX11_inBeats_61 : decode cX11_inBeats 61 = .ok (.if_icmp .ne 10, 3) := by decide +kernel
theorem dX11_inBeats_64 : decode cX11_inBeats 64 = .ok (.aload_n 3, 1) := by decide +kernel
theorem dX11_inBeats_65 : decode cX11_inBeats 65 = .ok (.getfield 131, 3) := by decide +kernel
theorem dX11_inBeats_68 : decode cX11_inBeats 68 = .ok (.goto 15, 3) := by decide +kernel
theorem dX11_inBeats_71 : decode cX11_inBeats 71 = .ok (.aload_n 3, 1) := by decide +kernel
theorem dX11_inBeats_72 : decode cX11_inBeats 72 = .ok (.invokevirtual 150, 3) := by decide +kernel
theorem dX11_inBeats_75 : decode cX11_inBeats 75 = .ok (.aload_n 0, 1) := by decide +kernel
theorem dX11_inBeats_76 : decode cX11_inBeats 76 = .ok (.getfield 29, 3) := by decide +kernel
theorem dX11_inBeats_79 : decode cX11_inBeats 79 = .ok (.invokevirtual 150, 3) := by decide +kernel
theorem dX11_inBeats_82 : decode cX11_inBeats 82 = .ok (.isub, 1) := by decide +kernel
theorem dX11_inBeats_83 : decode cX11_inBeats 83 = .ok (.ireturn, 1) := by decide +kernel
theorem dX11_ends_0 : decode cX11_ends 0 = .ok (.aload_n 0, 1) := by decide +kernel
theorem dX11_ends_1 : decode cX11_ends 1 = .ok (.invokevirtual 181, 3) := by decide +kernel
theorem dX11_ends_4 : decode cX11_ends 4 = .ok (.aload_n 0, 1) := by decide +kernel
theorem dX11_ends_5 : decode cX11_ends 5 = .ok (.getfield 19, 3) := by decide +kernel
theorem dX11_ends_8 : decode cX11_ends 8 = .ok (.sipush 400, 3) := by decide +kernel
theorem dX11_ends_11 : decode cX11_ends 11 = .ok (.invokevirtual 185, 3) := by decide +kernel
theorem dX11_ends_14 : decode cX11_ends 14 = .ok (.ireturn, 1) := by decide +kernel
theorem dX11_last_0 : decode cX11_last 0 = .ok (.aload_n 0, 1) := by decide +kernel
theorem dX11_last_1 : decode cX11_last 1 = .ok (.invokevirtual 181, 3) := by decide +kernel
theorem dX11_last_4 : decode cX11_last 4 = .ok (.astore_n 1, 1) := by decide +kernel
theorem dX11_last_5 : decode cX11_last 5 = .ok (.aload_n 1, 1) := by decide +kernel
theorem dX11_last_6 : decode cX11_last 6 = .ok (.aload_n 0, 1) := by decide +kernel
theorem dX11_last_7 : decode cX11_last 7 = .ok (.getfield 19, 3) := by decide +kernel
theorem dX11_last_10 : decode cX11_last 10 = .ok (.sipush 400, 3) := by decide +kernel
theorem dX11_last_13 : decode cX11_last 13 = .ok (.invokevirtual 185, 3) := by decide +kernel
theorem dX11_last_16 : decode cX11_last 16 = .ok (.bipush (-9), 2) := by decide +kernel
theorem dX11_last_18 : decode cX11_last 18 = .ok (.if_icmp .ne 8, 3) := by decide +kernel
theorem dX11_last_21 : decode cX11_last 21 = .ok (.bipush (-9), 2) := by decide +kernel
theorem dX11_last_23 : decode cX11_last 23 = .ok (.goto 7, 3) := by decide +kernel
theorem dX11_last_26 : decode cX11_last 26 = .ok (.aload_n 1, 1) := by decide +kernel
theorem dX11_last_27 : decode cX11_last 27 = .ok (.getfield 131, 3) := by decide +kernel
theorem dX11_last_30 : decode cX11_last 30 = .ok (.ireturn, 1) := by decide +kernel
theorem dX11_first_0 : decode cX11_first 0 = .ok (.iload_n 1, 1) := by decide +kernel
theorem dX11_first_1 : decode cX11_first 1 = .ok (.ifCond .lt 8, 3) := by decide +kernel
theorem dX11_first_4 : decode cX11_first 4 = .ok (.iload_n 1, 1) := by decide +kernel
theorem dX11_first_5 : decode cX11_first 5 = .ok (.iconst 1, 1) := by decide +kernel
theorem dX11_first_6 : decode cX11_first 6 = .ok (.if_icmp .le 5, 3) := by decide +kernel
theorem dX11_first_9 : decode cX11_first 9 = .ok (.iconst (-1), 1) := by decide +kernel
theorem dX11_first_10 : decode cX11_first 10 = .ok (.ireturn, 1) := by decide +kernel
theorem dX11_first_11 : decode cX11_first 11 = .ok (.aload_n 0, 1) := by decide +kernel
theorem dX11_first_12 : decode cX11_first 12 = .ok (.getfield 19, 3) := by decide +kernel
theorem dX11_first_15 : decode cX11_first 15 = .ok (.getfield 189, 3) := by decide +kernel
theorem dX11_first_18 : decode cX11_first 18 = .ok (.ifCond .ne 6, 3) := by decide +kernel
theorem dX11_first_21 : decode cX11_first 21 = .ok (.bipush (-9), 2) := by decide +kernel
theorem dX11_first_23 : decode cX11_first 23 = .ok (.ireturn, 1) := by decide +kernel
theorem dX11_first_24 : decode cX11_first 24 = .ok (.iload_n 1, 1) := by decide +kernel
theorem dX11_first_25 : decode cX11_first 25 = .ok (.ifCond .ne 21, 3) := by decide +kernel
theorem dX11_first_28 : decode cX11_first 28 = .ok (.aload_n 0, 1) := by decide +kernel
theorem dX11_first_29 : decode cX11_first 29 = .ok (.getfield 29, 3) := by decide +kernel
theorem dX11_first_32 : decode cX11_first 32 = .ok (.getfield 192, 3) := by decide +kernel
theorem dX11_first_35 : decode cX11_first 35 = .ok (.aload_n 0, 1) := by decide +kernel
theorem dX11_first_36 : decode cX11_first 36 = .ok (.getfield 29, 3) := by decide +kernel
theorem dX11_first_39 : decode cX11_first 39 = .ok (.getfield 137, 3) := by decide +kernel
theorem dX11_first_42 : decode cX11_first 42 = .ok (.isub, 1) := by decide +kernel
theorem dX11_first_43 : decode cX11_first 43 = .ok (.goto 21, 3) := by decide +kernel
theorem dX11_first_46 : decode cX11_first 46 = .ok (.aload_n 0, 1) := by decide +kernel
theorem dX11_first_47 : decode cX11_first 47 = .ok (.getfield 29, 3) := by decide +kernel
theorem dX11_first_50 : decode cX11_first 50 = .ok (.aload_n 0, 1) := by decide +kernel
theorem dX11_first_51 : decode cX11_first 51 = .ok (.getfield 19, 3) := by decide +kernel
theorem dX11_first_54 : decode cX11_first 54 = .ok (.aload_n 0, 1) := by decide +kernel
theorem dX11_first_55 : decode cX11_first 55 = .ok (.getfield 29, 3) := by decide +kernel
theorem dX11_first_58 : decode cX11_first 58 = .ok (.getfield 192, 3) := by decide +kernel
theorem dX11_first_61 : decode cX11_first 61 = .ok (.invokevirtual 195, 3) := by decide +kernel
theorem dX11_first_64 : decode cX11_first 64 = .ok (.ireturn, 1) := by decide +kernel
theorem dX11_ring_0 : decode cX11_ring 0 = .ok (.aload_n 0, 1) := by decide +kernel
theorem dX11_ring_1 : decode cX11_ring 1 = .ok (.invokevirtual 181, 3) := by decide +kernel
theorem dX11_ring_4 : decode cX11_ring 4 = .ok (.astore_n 1, 1) := by decide +kernel
theorem dX11_ring_5 : decode cX11_ring 5 = .ok (.iconst 1, 1) := by decide +kernel
theorem dX11_ring_6 : decode cX11_ring 6 = .ok (.istore_n 2, 1) := by decide +kernel
theorem dX11_ring_7 : decode cX11_ring 7 = .ok (.iload_n 2, 1) := by decide +kernel
theorem dX11_ring_8 : decode cX11_ring 8 = .ok (.sipush 400, 3) := by decide +kernel
theorem dX11_ring_11 : decode cX11_ring 11 = .ok (.if_icmp .gt 34, 3) := by decide +kernel
theorem dX11_ring_14 : decode cX11_ring 14 = .ok (.aload_n 1, 1) := by decide +kernel
theorem dX11_ring_15 : decode cX11_ring 15 = .ok (.aload_n 0, 1) := by decide +kernel
theorem dX11_ring_16 : decode cX11_ring 16 = .ok (.getfield 19, 3) := by decide +kernel
theorem dX11_ring_19 : decode cX11_ring 19 = .ok (.invokevirtual 198, 3) := by decide +kernel
theorem dX11_ring_22 : decode cX11_ring 22 = .ok (.aload_n 1, 1) := by decide +kernel
theorem dX11_ring_23 : decode cX11_ring 23 = .ok (.aload_n 0, 1) := by decide +kernel
theorem dX11_ring_24 : decode cX11_ring 24 = .ok (.getfield 19, 3) := by decide +kernel
theorem dX11_ring_27 : decode cX11_ring 27 = .ok (.aload_n 0, 1) := by decide +kernel
theorem dX11_ring_28 : decode cX11_ring 28 = .ok (.getfield 29, 3) := by decide +kernel
theorem dX11_ring_31 : decode cX11_ring 31 = .ok (.invokevirtual 201, 3) := by decide +kernel
theorem dX11_ring_34 : decode cX11_ring 34 = .ok (.ifCond .eq 5, 3) := by decide +kernel
theorem dX11_ring_37 : decode cX11_ring 37 = .ok (.iload_n 2, 1) := by decide +kernel
theorem dX11_ring_38 : decode cX11_ring 38 = .ok (.ireturn, 1) := by decide +kernel
theorem dX11_ring_39 : decode cX11_ring 39 = .ok (.iinc 2 1, 3) := by decide +kernel
theorem dX11_ring_42 : decode cX11_ring 42 = .ok (.goto (-35), 3) := by decide +kernel
theorem dX11_ring_45 : decode cX11_ring 45 = .ok (.bipush (-9), 2) := by decide +kernel
theorem dX11_ring_47 : decode cX11_ring 47 = .ok (.ireturn, 1) := by decide +kernel
theorem dX11_drift_0 : decode cX11_drift 0 = .ok (.aload_n 0, 1) := by decide +kernel
theorem dX11_drift_1 : decode cX11_drift 1 = .ok (.invokevirtual 181, 3) := by decide +kernel
theorem dX11_drift_4 : decode cX11_drift 4 = .ok (.astore_n 1, 1) := by decide +kernel
theorem dX11_drift_5 : decode cX11_drift 5 = .ok (.iconst 1, 1) := by decide +kernel
theorem dX11_drift_6 : decode cX11_drift 6 = .ok (.istore_n 2, 1) := by decide +kernel
theorem dX11_drift_7 : decode cX11_drift 7 = .ok (.iload_n 2, 1) := by decide +kernel
theorem dX11_drift_8 : decode cX11_drift 8 = .ok (.sipush 400, 3) := by decide +kernel
theorem dX11_drift_11 : decode cX11_drift 11 = .ok (.if_icmp .gt 47, 3) := by decide +kernel
theorem dX11_drift_14 : decode cX11_drift 14 = .ok (.aload_n 0, 1) := by decide +kernel
theorem dX11_drift_15 : decode cX11_drift 15 = .ok (.getfield 19, 3) := by decide +kernel
theorem dX11_drift_18 : decode cX11_drift 18 = .ok (.aload_n 1, 1) := by decide +kernel
theorem dX11_drift_19 : decode cX11_drift 19 = .ok (.getfield 140, 3) := by decide +kernel
theorem dX11_drift_22 : decode cX11_drift 22 = .ok (.invokevirtual 175, 3) := by decide +kernel
theorem dX11_drift_25 : decode cX11_drift 25 = .ok (.ifCond .ne 33, 3) := by decide +kernel
theorem dX11_drift_28 : decode cX11_drift 28 = .ok (.aload_n 1, 1) := by decide +kernel
theorem dX11_drift_29 : decode cX11_drift 29 = .ok (.aload_n 0, 1) := by decide +kernel
theorem dX11_drift_30 : decode cX11_drift 30 = .ok (.getfield 19, 3) := by decide +kernel
theorem dX11_drift_33 : decode cX11_drift 33 = .ok (.invokevirtual 161, 3) := by decide +kernel
theorem dX11_drift_36 : decode cX11_drift 36 = .ok (.aload_n 1, 1) := by decide +kernel
theorem dX11_drift_37 : decode cX11_drift 37 = .ok (.getfield 140, 3) := by decide +kernel
theorem dX11_drift_40 : decode cX11_drift 40 = .ok (.aload_n 0, 1) := by decide +kernel
theorem dX11_drift_41 : decode cX11_drift 41 = .ok (.getfield 29, 3) := by decide +kernel
theorem dX11_drift_44 : decode cX11_drift 44 = .ok (.getfield 140, 3) := by decide +kernel
theorem dX11_drift_47 : decode cX11_drift 47 = .ok (.if_icmp .ge 5, 3) := by decide +kernel
theorem dX11_drift_50 : decode cX11_drift 50 = .ok (.iload_n 2, 1) := by decide +kernel
theorem dX11_drift_51 : decode cX11_drift 51 = .ok (.ireturn, 1) := by decide +kernel
theorem dX11_drift_52 : decode cX11_drift 52 = .ok (.iinc 2 1, 3) := by decide +kernel
theorem dX11_drift_55 : decode cX11_drift 55 = .ok (.goto (-48), 3) := by decide +kernel
theorem dX11_drift_58 : decode cX11_drift 58 = .ok (.bipush (-9), 2) := by decide +kernel
theorem dX11_drift_60 : decode cX11_drift 60 = .ok (.ireturn, 1) := by decide +kernel
theorem dX11_copyOfNow_0 : decode cX11_copyOfNow 0 = .ok (.aload_n 0, 1) := by decide +kernel
theorem dX11_copyOfNow_1 : decode cX11_copyOfNow 1 = .ok (.getfield 51, 3) := by decide +kernel
theorem dX11_copyOfNow_4 : decode cX11_copyOfNow 4 = .ok (.iconst 0, 1) := by decide +kernel
theorem dX11_copyOfNow_5 : decode cX11_copyOfNow 5 = .ok (.aaload, 1) := by decide +kernel
theorem dX11_copyOfNow_6 : decode cX11_copyOfNow 6 = .ok (.aload_n 0, 1) := by decide +kernel
theorem dX11_copyOfNow_7 : decode cX11_copyOfNow 7 = .ok (.getfield 29, 3) := by decide +kernel
theorem dX11_copyOfNow_10 : decode cX11_copyOfNow 10 = .ok (.invokevirtual 205, 3) := by decide +kernel
theorem dX11_copyOfNow_13 : decode cX11_copyOfNow 13 = .ok (.aload_n 0, 1) := by decide +kernel
theorem dX11_copyOfNow_14 : decode cX11_copyOfNow 14 = .ok (.getfield 51, 3) := by decide +kernel
theorem dX11_copyOfNow_17 : decode cX11_copyOfNow 17 = .ok (.iconst 0, 1) := by decide +kernel
theorem dX11_copyOfNow_18 : decode cX11_copyOfNow 18 = .ok (.aaload, 1) := by decide +kernel
theorem dX11_copyOfNow_19 : decode cX11_copyOfNow 19 = .ok (.areturn, 1) := by decide +kernel
theorem dX11_countPinchable_0 : decode cX11_countPinchable 0 = .ok (.aload_n 0, 1) := by decide +kernel
theorem dX11_countPinchable_1 : decode cX11_countPinchable 1 = .ok (.invokevirtual 146, 3) := by decide +kernel
theorem dX11_countPinchable_4 : decode cX11_countPinchable 4 = .ok (.ifCond .eq 7, 3) := by decide +kernel
theorem dX11_countPinchable_7 : decode cX11_countPinchable 7 = .ok (.iconst 0, 1) := by decide +kernel
theorem dX11_countPinchable_8 : decode cX11_countPinchable 8 = .ok (.goto 10, 3) := by decide +kernel
theorem dX11_countPinchable_11 : decode cX11_countPinchable 11 = .ok (.aload_n 0, 1) := by decide +kernel
theorem dX11_countPinchable_12 : decode cX11_countPinchable 12 = .ok (.getfield 19, 3) := by decide +kernel
theorem dX11_countPinchable_15 : decode cX11_countPinchable 15 = .ok (.getfield 189, 3) := by decide +kernel
theorem dX11_countPinchable_18 : decode cX11_countPinchable 18 = .ok (.ireturn, 1) := by decide +kernel
theorem dX11_copyWherePinched_0 : decode cX11_copyWherePinched 0 = .ok (.aload_n 0, 1) := by decide +kernel
theorem dX11_copyWherePinched_1 : decode cX11_copyWherePinched 1 = .ok (.invokevirtual 181, 3) := by decide +kernel
theorem dX11_copyWherePinched_4 : decode cX11_copyWherePinched 4 = .ok (.astore_n 2, 1) := by decide +kernel
theorem dX11_copyWherePinched_5 : decode cX11_copyWherePinched 5 = .ok (.aload_n 2, 1) := by decide +kernel
theorem dX11_copyWherePinched_6 : decode cX11_copyWherePinched 6 = .ok (.aload_n 0, 1) := by decide +kernel
theorem dX11_copyWherePinched_7 : decode cX11_copyWherePinched 7 = .ok (.getfield 19, 3) := by decide +kernel
theorem dX11_copyWherePinched_10 : decode cX11_copyWherePinched 10 = .ok (.iconst 1, 1) := by decide +kernel
theorem dX11_copyWherePinched_11 : decode cX11_copyWherePinched 11 = .ok (.iload_n 1, 1) := by decide +kernel
theorem dX11_copyWherePinched_12 : decode cX11_copyWherePinched 12 = .ok (.ishl, 1) := by decide +kernel
theorem dX11_copyWherePinched_13 : decode cX11_copyWherePinched 13 = .ok (.invokevirtual 177, 3) := by decide +kernel
theorem dX11_copyWherePinched_16 : decode cX11_copyWherePinched 16 = .ok (.aload_n 2, 1) := by decide +kernel
theorem dX11_copyWherePinched_17 : decode cX11_copyWherePinched 17 = .ok (.areturn, 1) := by decide +kernel
theorem dX11_plan_0 : decode cX11_plan 0 = .ok (.iload_n 1, 1) := by decide +kernel
theorem dX11_plan_1 : decode cX11_plan 1 = .ok (.iconst 1, 1) := by decide +kernel
theorem dX11_plan_2 : decode cX11_plan 2 = .ok (.if_icmp .lt 28, 3) := by decide +kernel
theorem dX11_plan_5 : decode cX11_plan 5 = .ok (.iload_n 1, 1) := by decide +kernel
theorem dX11_plan_6 : decode cX11_plan 6 = .ok (.iconst 3, 1) := by decide +kernel
theorem dX11_plan_7 : decode cX11_plan 7 = .ok (.if_icmp .gt 23, 3) := by decide +kernel
theorem dX11_plan_10 : decode cX11_plan 10 = .ok (.iload_n 2, 1) := by decide +kernel
theorem dX11_plan_11 : decode cX11_plan 11 = .ok (.ifCond .lt 19, 3) := by decide +kernel
theorem dX11_plan_14 : decode cX11_plan 14 = .ok (.iload_n 2, 1) := by decide +kernel
theorem dX11_plan_15 : decode cX11_plan 15 = .ok (.bipush 60, 2) := by decide +kernel
theorem dX11_plan_17 : decode cX11_plan 17 = .ok (.if_icmp .gt 13, 3) := by decide +kernel
theorem dX11_plan_20 : decode cX11_plan 20 = .ok (.iload_n 3, 1) := by decide +kernel
theorem dX11_plan_21 : decode cX11_plan 21 = .ok (.iconst (-1), 1) := by decide +kernel
theorem dX11_plan_22 : decode cX11_plan 22 = .ok (.if_icmp .lt 8, 3) := by decide +kernel
theorem dX11_plan_25 : decode cX11_plan 25 = .ok (.iload_n 3, 1) := by decide +kernel
theorem dX11_plan_26 : decode cX11_plan 26 = .ok (.iconst 3, 1) := by decide +kernel
theorem dX11_plan_27 : decode cX11_plan 27 = .ok (.if_icmp .lt 5, 3) := by decide +kernel
theorem dX11_plan_30 : decode cX11_plan 30 = .ok (.iconst (-1), 1) := by decide +kernel
theorem dX11_plan_31 : decode cX11_plan 31 = .ok (.ireturn, 1) := by decide +kernel
theorem dX11_plan_32 : decode cX11_plan 32 = .ok (.iload_n 3, 1) := by decide +kernel
theorem dX11_plan_33 : decode cX11_plan 33 = .ok (.iload_n 1, 1) := by decide +kernel
theorem dX11_plan_34 : decode cX11_plan 34 = .ok (.if_icmp .lt 6, 3) := by decide +kernel
theorem dX11_plan_37 : decode cX11_plan 37 = .ok (.bipush (-9), 2) := by decide +kernel
theorem dX11_plan_39 : decode cX11_plan 39 = .ok (.ireturn, 1) := by decide +kernel
theorem dX11_plan_40 : decode cX11_plan 40 = .ok (.aload_n 0, 1) := by decide +kernel
theorem dX11_plan_41 : decode cX11_plan 41 = .ok (.getfield 57, 3) := by decide +kernel
theorem dX11_plan_44 : decode cX11_plan 44 = .ok (.aload_n 0, 1) := by decide +kernel
theorem dX11_plan_45 : decode cX11_plan 45 = .ok (.getfield 19, 3) := by decide +kernel
theorem dX11_plan_48 : decode cX11_plan 48 = .ok (.aload_n 0, 1) := by decide +kernel
theorem dX11_plan_49 : decode cX11_plan 49 = .ok (.getfield 29, 3) := by decide +kernel
theorem dX11_plan_52 : decode cX11_plan 52 = .ok (.iload_n 1, 1) := by decide +kernel
theorem dX11_plan_53 : decode cX11_plan 53 = .ok (.iload_n 2, 1) := by decide +kernel
theorem dX11_plan_54 : decode cX11_plan 54 = .ok (.invokevirtual 208, 3) := by decide +kernel
theorem dX11_plan_57 : decode cX11_plan 57 = .ok (.aload_n 0, 1) := by decide +kernel
theorem dX11_plan_58 : decode cX11_plan 58 = .ok (.getfield 57, 3) := by decide +kernel
theorem dX11_plan_61 : decode cX11_plan 61 = .ok (.getfield 212, 3) := by decide +kernel
theorem dX11_plan_64 : decode cX11_plan 64 = .ok (.sipush 400, 3) := by decide +kernel
theorem dX11_plan_67 : decode cX11_plan 67 = .ok (.if_icmp .le 6, 3) := by decide +kernel
theorem dX11_plan_70 : decode cX11_plan 70 = .ok (.bipush (-9), 2) := by decide +kernel
theorem dX11_plan_72 : decode cX11_plan 72 = .ok (.ireturn, 1) := by decide +kernel
theorem dX11_plan_73 : decode cX11_plan 73 = .ok (.iload_n 3, 1) := by decide +kernel
theorem dX11_plan_74 : decode cX11_plan 74 = .ok (.ifCond .ge 13, 3) := by decide +kernel
theorem dX11_plan_77 : decode cX11_plan 77 = .ok (.aload_n 0, 1) := by decide +kernel
theorem dX11_plan_78 : decode cX11_plan 78 = .ok (.getfield 57, 3) := by decide +kernel
theorem dX11_plan_81 : decode cX11_plan 81 = .ok (.getfield 212, 3) := by decide +kernel
theorem dX11_plan_84 : decode cX11_plan 84 = .ok (.goto 12, 3) := by decide +kernel
theorem dX11_plan_87 : decode cX11_plan 87 = .ok (.aload_n 0, 1) := by decide +kernel
theorem dX11_plan_88 : decode cX11_plan 88 = .ok (.getfield 57, 3) := by decide +kernel
theorem dX11_plan_91 : decode cX11_plan 91 = .ok (.getfield 215, 3) := by decide +kernel
theorem dX11_plan_94 : decode cX11_plan 94 = .ok (.iload_n 3, 1) := by decide +kernel
theorem dX11_plan_95 : decode cX11_plan 95 = .ok (.iaload, 1) := by decide +kernel
theorem dX11_plan_96 : decode cX11_plan 96 = .ok (.ireturn, 1) := by decide +kernel
theorem dX11_best_0 : decode cX11_best 0 = .ok (.bipush (-9), 2) := by decide +kernel
theorem dX11_best_2 : decode cX11_best 2 = .ok (.istore_n 1, 1) := by decide +kernel
theorem dX11_best_3 : decode cX11_best 3 = .ok (.sipush 401, 3) := by decide +kernel
theorem dX11_best_6 : decode cX11_best 6 = .ok (.istore_n 2, 1) := by decide +kernel
theorem dX11_best_7 : decode cX11_best 7 = .ok (.aload_n 0, 1) := by decide +kernel
theorem dX11_best_8 : decode cX11_best 8 = .ok (.invokevirtual 218, 3) := by decide +kernel
theorem dX11_best_11 : decode cX11_best 11 = .ok (.istore_n 3, 1) := by decide +kernel
theorem dX11_best_12 : decode cX11_best 12 = .ok (.iconst 0, 1) := by decide +kernel
theorem dX11_best_13 : decode cX11_best 13 = .ok (.istore 4, 2) := by decide +kernel
theorem dX11_best_15 : decode cX11_best 15 = .ok (.iload 4, 2) := by decide +kernel
theorem dX11_best_17 : decode cX11_best 17 = .ok (.iload_n 3, 1) := by decide +kernel
theorem dX11_best_18 : decode cX11_best 18 = .ok (.if_icmp .ge 40, 3) := by decide +kernel
theorem dX11_best_21 : decode cX11_best 21 = .ok (.aload_n 0, 1) := by decide +kernel
theorem dX11_best_22 : decode cX11_best 22 = .ok (.iload 4, 2) := by decide +kernel
theorem dX11_best_24 : decode cX11_best 24 = .ok (.invokevirtual 221, 3) := by decide +kernel
theorem dX11_best_27 : decode cX11_best 27 = .ok (.aload_n 0, 1) := by decide +kernel
theorem dX11_best_28 : decode cX11_best 28 = .ok (.getfield 19, 3) := by decide +kernel
theorem dX11_best_31 : decode cX11_best 31 = .ok (.iload_n 2, 1) := by decide +kernel
theorem dX11_best_32 : decode cX11_best 32 = .ok (.iconst 1, 1) := by decide +kernel
theorem dX11_best_33 : decode cX11_best 33 = .ok (.isub, 1) := by decide +kernel
theorem dX11_best_34 : decode cX11_best 34 = .ok (.invokevirtual 185, 3) := by decide +kernel
theorem dX11_best_37 : decode cX11_best 37 = .ok (.istore 5, 2) := by decide +kernel
theorem dX11_best_39 : decode cX11_best 39 = .ok (.iload 5, 2) := by decide +kernel
theorem dX11_best_41 : decode cX11_best 41 = .ok (.bipush (-9), 2) := by decide +kernel
theorem dX11_best_43 : decode cX11_best 43 = .ok (.if_icmp .eq 9, 3) := by decide +kernel
theorem dX11_best_46 : decode cX11_best 46 = .ok (.iload 5, 2) := by decide +kernel
theorem dX11_best_48 : decode cX11_best 48 = .ok (.istore_n 2, 1) := by decide +kernel
theorem dX11_best_49 : decode cX11_best 49 = .ok (.iload 4, 2) := by decide +kernel
theorem dX11_best_51 : decode cX11_best 51 = .ok (.istore_n 1, 1) := by decide +kernel
theorem dX11_best_52 : decode cX11_best 52 = .ok (.iinc 4 1, 3) := by decide +kernel
theorem dX11_best_55 : decode cX11_best 55 = .ok (.goto (-40), 3) := by decide +kernel
theorem dX11_best_58 : decode cX11_best 58 = .ok (.iload_n 1, 1) := by decide +kernel
theorem dX11_best_59 : decode cX11_best 59 = .ok (.ireturn, 1) := by decide +kernel
theorem dX11_mute_0 : decode cX11_mute 0 = .ok (.iload_n 1, 1) := by decide +kernel
theorem dX11_mute_1 : decode cX11_mute 1 = .ok (.ifCond .lt 10, 3) := by decide +kernel
theorem dX11_mute_4 : decode cX11_mute 4 = .ok (.iload_n 1, 1) := by decide +kernel
theorem dX11_mute_5 : decode cX11_mute 5 = .ok (.sipush 200, 3) := by decide +kernel
theorem dX11_mute_8 : decode cX11_mute 8 = .ok (.if_icmp .le 5, 3) := by decide +kernel
theorem dX11_mute_11 : decode cX11_mute 11 = .ok (.iconst (-1), 1) := by decide +kernel
theorem dX11_mute_12 : decode cX11_mute 12 = .ok (.ireturn, 1) := by decide +kernel
theorem dX11_mute_13 : decode cX11_mute 13 = .ok (.aload_n 0, 1) := by decide +kernel
theorem dX11_mute_14 : decode cX11_mute 14 = .ok (.invokevirtual 181, 3) := by decide +kernel
theorem dX11_mute_17 : decode cX11_mute 17 = .ok (.astore_n 2, 1) := by decide +kernel
theorem dX11_mute_18 : decode cX11_mute 18 = .ok (.aload_n 2, 1) := by decide +kernel
theorem dX11_mute_19 : decode cX11_mute 19 = .ok (.getfield 131, 3) := by decide +kernel
theorem dX11_mute_22 : decode cX11_mute 22 = .ok (.istore_n 3, 1) := by decide +kernel
theorem dX11_mute_23 : decode cX11_mute 23 = .ok (.iconst 0, 1) := by decide +kernel
theorem dX11_mute_24 : decode cX11_mute 24 = .ok (.istore 4, 2) := by decide +kernel
theorem dX11_mute_26 : decode cX11_mute 26 = .ok (.iload 4, 2) := by decide +kernel
theorem dX11_mute_28 : decode cX11_mute 28 = .ok (.iload_n 1, 1) := by decide +kernel
theorem dX11_mute_29 : decode cX11_mute 29 = .ok (.if_icmp .ge 24, 3) := by decide +kernel
theorem dX11_mute_32 : decode cX11_mute 32 = .ok (.aload_n 2, 1) := by decide +kernel
theorem dX11_mute_33 : decode cX11_mute 33 = .ok (.aload_n 0, 1) := by decide +kernel
theorem dX11_mute_34 : decode cX11_mute 34 = .ok (.getfield 19, 3) := by decide +kernel
theorem dX11_mute_37 : decode cX11_mute 37 = .ok (.invokevirtual 161, 3) := by decide +kernel
theorem dX11_mute_40 : decode cX11_mute 40 = .ok (.iload_n 3, 1) := by decide +kernel
theorem dX11_mute_41 : decode cX11_mute 41 = .ok (.aload_n 2, 1) := by decide +kernel
theorem dX11_mute_42 : decode cX11_mute 42 = .ok (.getfield 131, 3) := by decide +kernel
theorem dX11_mute_45 : decode cX11_mute 45 = .ok (.ior, 1) := by decide +kernel
theorem dX11_mute_46 : decode cX11_mute 46 = .ok (.istore_n 3, 1) := by decide +kernel
theorem dX11_mute_47 : decode cX11_mute 47 = .ok (.iinc 4 1, 3) := by decide +kernel
theorem dX11_mute_50 : decode cX11_mute 50 = .ok (.goto (-24), 3) := by decide +kernel
theorem dX11_mute_53 : decode cX11_mute 53 = .ok (.aload_n 0, 1) := by decide +kernel
theorem dX11_mute_54 : decode cX11_mute 54 = .ok (.getfield 19, 3) := by decide +kernel
theorem dX11_mute_57 : decode cX11_mute 57 = .ok (.invokevirtual 225, 3) := by decide +kernel
theorem dX11_mute_60 : decode cX11_mute 60 = .ok (.iload_n 3, 1) := by decide +kernel
theorem dX11_mute_61 : decode cX11_mute 61 = .ok (.iconst (-1), 1) := by decide +kernel
theorem dX11_mute_62 : decode cX11_mute 62 = .ok (.ixor, 1) := by decide +kernel
theorem dX11_mute_63 : decode cX11_mute 63 = .ok (.iand, 1) := by decide +kernel
theorem dX11_mute_64 : decode cX11_mute 64 = .ok (.ireturn, 1) := by decide +kernel
theorem dX11_seen_0 : decode cX11_seen 0 = .ok (.iload_n 1, 1) := by decide +kernel
theorem dX11_seen_1 : decode cX11_seen 1 = .ok (.ifCond .lt 24, 3) := by decide +kernel
theorem dX11_seen_4 : decode cX11_seen 4 = .ok (.iload_n 1, 1) := by decide +kernel
theorem dX11_seen_5 : decode cX11_seen 5 = .ok (.bipush 60, 2) := by decide +kernel
theorem dX11_seen_7 : decode cX11_seen 7 = .ok (.if_icmp .gt 18, 3) := by decide +kernel
theorem dX11_seen_10 : decode cX11_seen 10 = .ok (.iload_n 2, 1) := by decide +kernel
theorem dX11_seen_11 : decode cX11_seen 11 = .ok (.ifCond .lt 14, 3) := by decide +kernel
theorem dX11_seen_14 : decode cX11_seen 14 = .ok (.iload_n 2, 1) := by decide +kernel
theorem dX11_seen_15 : decode cX11_seen 15 = .ok (.aload_n 0, 1) := by decide +kernel
theorem dX11_seen_16 : decode cX11_seen 16 = .ok (.getfield 19, 3) := by decide +kernel
theorem dX11_seen_19 : decode cX11_seen 19 = .ok (.invokevirtual 225, 3) := by decide +kernel
theorem dX11_seen_22 : decode cX11_seen 22 = .ok (.if_icmp .le 5, 3) := by decide +kernel
theorem dX11_seen_25 : decode cX11_seen 25 = .ok (.iconst (-1), 1) := by decide +kernel
theorem dX11_seen_26 : decode cX11_seen 26 = .ok (.ireturn, 1) := by decide +kernel
theorem dX11_seen_27 : decode cX11_seen 27 = .ok (.aload_n 0, 1) := by decide +kernel
theorem dX11_seen_28 : decode cX11_seen 28 = .ok (.getfield 109, 3) := by decide +kernel
theorem dX11_seen_31 : decode cX11_seen 31 = .ok (.iconst 5, 1) := by decide +kernel
theorem dX11_seen_32 : decode cX11_seen 32 = .ok (.if_icmp .lt 6, 3) := by decide +kernel
theorem dX11_seen_35 : decode cX11_seen 35 = .ok (.bipush (-3), 2) := by decide +kernel
theorem dX11_seen_37 : decode cX11_seen 37 = .ok (.ireturn, 1) := by decide +kernel
theorem dX11_seen_38 : decode cX11_seen 38 = .ok (.aload_n 0, 1) := by decide +kernel
theorem dX11_seen_39 : decode cX11_seen 39 = .ok (.getfield 44, 3) := by decide +kernel
theorem dX11_seen_42 : decode cX11_seen 42 = .ok (.aload_n 0, 1) := by decide +kernel
theorem dX11_seen_43 : decode cX11_seen 43 = .ok (.getfield 109, 3) := by decide +kernel
theorem dX11_seen_46 : decode cX11_seen 46 = .ok (.iload_n 1, 1) := by decide +kernel
theorem dX11_seen_47 : decode cX11_seen 47 = .ok (.iastore, 1) := by decide +kernel
theorem dX11_seen_48 : decode cX11_seen 48 = .ok (.aload_n 0, 1) := by decide +kernel
theorem dX11_seen_49 : decode cX11_seen 49 = .ok (.getfield 48, 3) := by decide +kernel
theorem dX11_seen_52 : decode cX11_seen 52 = .ok (.aload_n 0, 1) := by decide +kernel
theorem dX11_seen_53 : decode cX11_seen 53 = .ok (.getfield 109, 3) := by decide +kernel
theorem dX11_seen_56 : decode cX11_seen 56 = .ok (.iload_n 2, 1) := by decide +kernel
theorem dX11_seen_57 : decode cX11_seen 57 = .ok (.iastore, 1) := by decide +kernel
theorem dX11_seen_58 : decode cX11_seen 58 = .ok (.aload_n 0, 1) := by decide +kernel
theorem dX11_seen_59 : decode cX11_seen 59 = .ok (.dup, 1) := by decide +kernel
theorem dX11_seen_60 : decode cX11_seen 60 = .ok (.getfield 109, 3) := by decide +kernel
theorem dX11_seen_63 : decode cX11_seen 63 = .ok (.iconst 1, 1) := by decide +kernel
theorem dX11_seen_64 : decode cX11_seen 64 = .ok (.iadd, 1) := by decide +kernel
theorem dX11_seen_65 : decode cX11_seen 65 = .ok (.putfield 109, 3) := by decide +kernel
theorem dX11_seen_68 : decode cX11_seen 68 = .ok (.aload_n 0, 1) := by decide +kernel
theorem dX11_seen_69 : decode cX11_seen 69 = .ok (.getfield 109, 3) := by decide +kernel
theorem dX11_seen_72 : decode cX11_seen 72 = .ok (.ireturn, 1) := by decide +kernel
theorem dX11_forget_0 : decode cX11_forget 0 = .ok (.aload_n 0, 1) := by decide +kernel
theorem dX11_forget_1 : decode cX11_forget 1 = .ok (.getfield 109, 3) := by decide +kernel
theorem dX11_forget_4 : decode cX11_forget 4 = .ok (.istore_n 1, 1) := by decide +kernel
theorem dX11_forget_5 : decode cX11_forget 5 = .ok (.aload_n 0, 1) := by decide +kernel
theorem dX11_forget_6 : decode cX11_forget 6 = .ok (.iconst 0, 1) := by decide +kernel
theorem dX11_forget_7 : decode cX11_forget 7 = .ok (.putfield 109, 3) := by decide +kernel
theorem dX11_forget_10 : decode cX11_forget 10 = .ok (.iload_n 1, 1) := by decide +kernel
theorem dX11_forget_11 : decode cX11_forget 11 = .ok (.ireturn, 1) := by decide +kernel
theorem dX11_who_0 : decode cX11_who 0 = .ok (.aload_n 0, 1) := by decide +kernel
theorem dX11_who_1 : decode cX11_who 1 = .ok (.aload_n 0, 1) := by decide +kernel
theorem dX11_who_2 : decode cX11_who 2 = .ok (.invokevirtual 181, 3) := by decide +kernel
theorem dX11_who_5 : decode cX11_who 5 = .ok (.invokevirtual 228, 3) := by decide +kernel
theorem dX11_who_8 : decode cX11_who 8 = .ok (.ifCond .eq 8, 3) := by decide +kernel
theorem dX11_who_11 : decode cX11_who 11 = .ok (.bipush 64, 2) := by decide +kernel
theorem dX11_who_13 : decode cX11_who 13 = .ok (.goto 4, 3) := by decide +kernel
theorem dX11_who_16 : decode cX11_who 16 = .ok (.iconst 0, 1) := by decide +kernel
theorem dX11_who_17 : decode cX11_who 17 = .ok (.istore_n 1, 1) := by decide +kernel
theorem dX11_who_18 : decode cX11_who 18 = .ok (.aload_n 0, 1) := by decide +kernel
theorem dX11_who_19 : decode cX11_who 19 = .ok (.invokevirtual 218, 3) := by decide +kernel
theorem dX11_who_22 : decode cX11_who 22 = .ok (.istore_n 2, 1) := by decide +kernel
theorem dX11_who_23 : decode cX11_who 23 = .ok (.iconst 0, 1) := by decide +kernel
theorem dX11_who_24 : decode cX11_who 24 = .ok (.istore_n 3, 1) := by decide +kernel
theorem dX11_who_25 : decode cX11_who 25 = .ok (.iload_n 3, 1) := by decide +kernel
theorem dX11_who_26 : decode cX11_who 26 = .ok (.iload_n 2, 1) := by decide +kernel
theorem dX11_who_27 : decode cX11_who 27 = .ok (.if_icmp .ge 27, 3) := by decide +kernel
theorem dX11_who_30 : decode cX11_who 30 = .ok (.aload_n 0, 1) := by decide +kernel
theorem dX11_who_31 : decode cX11_who 31 = .ok (.aload_n 0, 1) := by decide +kernel
theorem dX11_who_32 : decode cX11_who 32 = .ok (.iload_n 3, 1) := by decide +kernel
theorem dX11_who_33 : decode cX11_who 33 = .ok (.invokevirtual 221, 3) := by decide +kernel
theorem dX11_who_36 : decode cX11_who 36 = .ok (.invokevirtual 228, 3) := by decide +kernel
theorem dX11_who_39 : decode cX11_who 39 = .ok (.ifCond .eq 9, 3) := by decide +kernel
theorem dX11_who_42 : decode cX11_who 42 = .ok (.iload_n 1, 1) := by decide +kernel
theorem dX11_who_43 : decode cX11_who 43 = .ok (.iconst 1, 1) := by decide +kernel
theorem dX11_who_44 : decode cX11_who 44 = .ok (.iload_n 3, 1) := by decide +kernel
theorem dX11_who_45 : decode cX11_who 45 = .ok (.ishl, 1) := by decide +kernel
theorem dX11_who_46 : decode cX11_who 46 = .ok (.ior, 1) := by decide +kernel
theorem dX11_who_47 : decode cX11_who 47 = .ok (.istore_n 1, 1) := by decide +kernel
theorem dX11_who_48 : decode cX11_who 48 = .ok (.iinc 3 1, 3) := by decide +kernel
theorem dX11_who_51 : decode cX11_who 51 = .ok (.goto (-26), 3) := by decide +kernel
theorem dX11_who_54 : decode cX11_who 54 = .ok (.iload_n 1, 1) := by decide +kernel
theorem dX11_who_55 : decode cX11_who 55 = .ok (.ireturn, 1) := by decide +kernel
theorem dX11_odds_0 : decode cX11_odds 0 = .ok (.aload_n 0, 1) := by decide +kernel
theorem dX11_odds_1 : decode cX11_odds 1 = .ok (.getfield 19, 3) := by decide +kernel
theorem dX11_odds_4 : decode cX11_odds 4 = .ok (.iload_n 1, 1) := by decide +kernel
theorem dX11_odds_5 : decode cX11_odds 5 = .ok (.invokevirtual 112, 3) := by decide +kernel
theorem dX11_odds_8 : decode cX11_odds 8 = .ok (.ifCond .eq 34, 3) := by decide +kernel
theorem dX11_odds_11 : decode cX11_odds 11 = .ok (.iload_n 2, 1) := by decide +kernel
theorem dX11_odds_12 : decode cX11_odds 12 = .ok (.ifCond .lt 30, 3) := by decide +kernel
theorem dX11_odds_15 : decode cX11_odds 15 = .ok (.iload_n 2, 1) := by decide +kernel
theorem dX11_odds_16 : decode cX11_odds 16 = .ok (.bipush 10, 2) := by decide +kernel
theorem dX11_odds_18 : decode cX11_odds 18 = .ok (.if_icmp .gt 24, 3) := by decide +kernel
theorem dX11_odds_21 : decode cX11_odds 21 = .ok (.iload_n 3, 1) := by decide +kernel
theorem dX11_odds_22 : decode cX11_odds 22 = .ok (.ifCond .lt 20, 3) := by decide +kernel
theorem dX11_odds_25 : decode cX11_odds 25 = .ok (.iload_n 3, 1) := by decide +kernel
theorem dX11_odds_26 : decode cX11_odds 26 = .ok (.bipush 6, 2) := by decide +kernel
theorem dX11_odds_28 : decode cX11_odds 28 = .ok (.if_icmp .gt 14, 3) := by decide +kernel
theorem dX11_odds_31 : decode cX11_odds 31 = .ok (.iload 4, 2) := by decide +kernel
theorem dX11_odds_33 : decode cX11_odds 33 = .ok (.ifCond .lt 9, 3) := by decide +kernel
theorem dX11_odds_36 : decode cX11_odds 36 = .ok (.iload 4, 2) := by decide +kernel
theorem dX11_odds_38 : decode cX11_odds 38 = .ok (.iconst 1, 1) := by decide +kernel
theorem dX11_odds_39 : decode cX11_odds 39 = .ok (.if_icmp .le 5, 3) := by decide +kernel
theorem dX11_odds_42 : decode cX11_odds 42 = .ok (.iconst (-1), 1) := by decide +kernel
theorem dX11_odds_43 : decode cX11_odds 43 = .ok (.ireturn, 1) := by decide +kernel
theorem dX11_odds_44 : decode cX11_odds 44 = .ok (.aload_n 0, 1) := by decide +kernel
theorem dX11_odds_45 : decode cX11_odds 45 = .ok (.invokevirtual 181, 3) := by decide +kernel
theorem dX11_odds_48 : decode cX11_odds 48 = .ok (.pop, 1) := by decide +kernel
theorem dX11_odds_49 : decode cX11_odds 49 = .ok (.aload_n 0, 1) := by decide +kernel
theorem dX11_odds_50 : decode cX11_odds 50 = .ok (.iload_n 1, 1) := by decide +kernel
theorem dX11_odds_51 : decode cX11_odds 51 = .ok (.iload_n 2, 1) := by decide +kernel
theorem dX11_odds_52 : decode cX11_odds 52 = .ok (.iconst 0, 1) := by decide +kernel
theorem dX11_odds_53 : decode cX11_odds 53 = .ok (.iload_n 3, 1) := by decide +kernel
theorem dX11_odds_54 : decode cX11_odds 54 = .ok (.invokevirtual 231, 3) := by decide +kernel
theorem dX11_odds_57 : decode cX11_odds 57 = .ok (.istore 5, 2) := by decide +kernel
theorem dX11_odds_59 : decode cX11_odds 59 = .ok (.iload_n 3, 1) := by decide +kernel
theorem dX11_odds_60 : decode cX11_odds 60 = .ok (.invokestatic 235, 3) := by decide +kernel
theorem dX11_odds_63 : decode cX11_odds 63 = .ok (.istore 6, 2) := by decide +kernel
theorem dX11_odds_65 : decode cX11_odds 65 = .ok (.iload 5, 2) := by decide +kernel
theorem dX11_odds_67 : decode cX11_odds 67 = .ok (.iload 6, 2) := by decide +kernel
theorem dX11_odds_69 : decode cX11_odds 69 = .ok (.invokestatic 238, 3) := by decide +kernel
theorem dX11_odds_72 : decode cX11_odds 72 = .ok (.istore 7, 2) := by decide +kernel
theorem dX11_odds_74 : decode cX11_odds 74 = .ok (.iload 4, 2) := by decide +kernel
theorem dX11_odds_76 : decode cX11_odds 76 = .ok (.ifCond .ne 8, 3) := by decide +kernel
theorem dX11_odds_79 : decode cX11_odds 79 = .ok (.iload 5, 2) := by decide +kernel
theorem dX11_odds_81 : decode cX11_odds 81 = .ok (.goto 5, 3) := by decide +kernel
theorem dX11_odds_84 : decode cX11_odds 84 = .ok (.iload 6, 2) := by decide +kernel
theorem dX11_odds_86 : decode cX11_odds 86 = .ok (.iload 7, 2) := by decide +kernel
theorem dX11_odds_88 : decode cX11_odds 88 = .ok (.iconst 1, 1) := by decide +kernel
theorem dX11_odds_89 : decode cX11_odds 89 = .ok (.invokestatic 242, 3) := by decide +kernel
theorem dX11_odds_92 : decode cX11_odds 92 = .ok (.idiv, 1) := by decide +kernel
theorem dX11_odds_93 : decode cX11_odds 93 = .ok (.ireturn, 1) := by decide +kernel
theorem dX11_agreesWithSeen_0 : decode cX11_agreesWithSeen 0 = .ok (.aload_n 0, 1) := by decide +kernel
theorem dX11_agreesWithSeen_1 : decode cX11_agreesWithSeen 1 = .ok (.invokevirtual 247, 3) := by decide +kernel
theorem dX11_agreesWithSeen_4 : decode cX11_agreesWithSeen 4 = .ok (.istore_n 2, 1) := by decide +kernel
theorem dX11_agreesWithSeen_5 : decode cX11_agreesWithSeen 5 = .ok (.iconst 0, 1) := by decide +kernel
theorem dX11_agreesWithSeen_6 : decode cX11_agreesWithSeen 6 = .ok (.istore_n 3, 1) := by decide +kernel
theorem dX11_agreesWithSeen_7 : decode cX11_agreesWithSeen 7 = .ok (.iload_n 3, 1) := by decide +kernel
theorem dX11_agreesWithSeen_8 : decode cX11_agreesWithSeen 8 = .ok (.iload_n 2, 1) := by decide +kernel
theorem dX11_agreesWithSeen_9 : decode cX11_agreesWithSeen 9 = .ok (.if_icmp .gt 31, 3) := by decide +kernel
theorem dX11_agreesWithSeen_12 : decode cX11_agreesWithSeen 12 = .ok (.aload_n 0, 1) := by decide +kernel
theorem dX11_agreesWithSeen_13 : decode cX11_agreesWithSeen 13 = .ok (.iload_n 3, 1) := by decide +kernel
theorem dX11_agreesWithSeen_14 : decode cX11_agreesWithSeen 14 = .ok (.aload_n 1, 1) := by decide +kernel
theorem dX11_agreesWithSeen_15 : decode cX11_agreesWithSeen 15 = .ok (.getfield 131, 3) := by decide +kernel
theorem dX11_agreesWithSeen_18 : decode cX11_agreesWithSeen 18 = .ok (.invokevirtual 250, 3) := by decide +kernel
theorem dX11_agreesWithSeen_21 : decode cX11_agreesWithSeen 21 = .ok (.ifCond .eq 5, 3) := by decide +kernel
theorem dX11_agreesWithSeen_24 : decode cX11_agreesWithSeen 24 = .ok (.iconst 0, 1) := by decide +kernel
theorem dX11_agreesWithSeen_25 : decode cX11_agreesWithSeen 25 = .ok (.ireturn, 1) := by decide +kernel
theorem dX11_agreesWithSeen_26 : decode cX11_agreesWithSeen 26 = .ok (.aload_n 1, 1) := by decide +kernel
theorem dX11_agreesWithSeen_27 : decode cX11_agreesWithSeen 27 = .ok (.aload_n 0, 1) := by decide +kernel
theorem dX11_agreesWithSeen_28 : decode cX11_agreesWithSeen 28 = .ok (.getfield 19, 3) := by decide +kernel
theorem dX11_agreesWithSeen_31 : decode cX11_agreesWithSeen 31 = .ok (.invokevirtual 161, 3) := by decide +kernel
theorem dX11_agreesWithSeen_34 : decode cX11_agreesWithSeen 34 = .ok (.iinc 3 1, 3) := by decide +kernel
theorem dX11_agreesWithSeen_37 : decode cX11_agreesWithSeen 37 = .ok (.goto (-30), 3) := by decide +kernel
theorem dX11_agreesWithSeen_40 : decode cX11_agreesWithSeen 40 = .ok (.iconst 1, 1) := by decide +kernel
theorem dX11_agreesWithSeen_41 : decode cX11_agreesWithSeen 41 = .ok (.ireturn, 1) := by decide +kernel
theorem dX11_latestSeen_0 : decode cX11_latestSeen 0 = .ok (.iconst (-1), 1) := by decide +kernel
theorem dX11_latestSeen_1 : decode cX11_latestSeen 1 = .ok (.istore_n 1, 1) := by decide +kernel
theorem dX11_latestSeen_2 : decode cX11_latestSeen 2 = .ok (.iconst 0, 1) := by decide +kernel
theorem dX11_latestSeen_3 : decode cX11_latestSeen 3 = .ok (.istore_n 2, 1) := by decide +kernel
theorem dX11_latestSeen_4 : decode cX11_latestSeen 4 = .ok (.iload_n 2, 1) := by decide +kernel
theorem dX11_latestSeen_5 : decode cX11_latestSeen 5 = .ok (.aload_n 0, 1) := by decide +kernel
theorem dX11_latestSeen_6 : decode cX11_latestSeen 6 = .ok (.getfield 109, 3) := by decide +kernel
theorem dX11_latestSeen_9 : decode cX11_latestSeen 9 = .ok (.if_icmp .ge 25, 3) := by decide +kernel
theorem dX11_latestSeen_12 : decode cX11_latestSeen 12 = .ok (.iload_n 2, 1) := by decide +kernel
theorem dX11_latestSeen_13 : decode cX11_latestSeen 13 = .ok (.iconst 5, 1) := by decide +kernel
theorem dX11_latestSeen_14 : decode cX11_latestSeen 14 = .ok (.if_icmp .ge 20, 3) := by decide +kernel
theorem dX11_latestSeen_17 : decode cX11_latestSeen 17 = .ok (.iload_n 1, 1) := by decide +kernel
theorem dX11_latestSeen_18 : decode cX11_latestSeen 18 = .ok (.aload_n 0, 1) := by decide +kernel
theorem dX11_latestSeen_19 : decode cX11_latestSeen 19 = .ok (.getfield 44, 3) := by decide +kernel
theorem dX11_latestSeen_22 : decode cX11_latestSeen 22 = .ok (.iload_n 2, 1) := by decide +kernel
theorem dX11_latestSeen_23 : decode cX11_latestSeen 23 = .ok (.iaload, 1) := by decide +kernel
theorem dX11_latestSeen_24 : decode cX11_latestSeen 24 = .ok (.invokestatic 242, 3) := by decide +kernel
theorem dX11_latestSeen_27 : decode cX11_latestSeen 27 = .ok (.istore_n 1, 1) := by decide +kernel
theorem dX11_latestSeen_28 : decode cX11_latestSeen 28 = .ok (.iinc 2 1, 3) := by decide +kernel
theorem dX11_latestSeen_31 : decode cX11_latestSeen 31 = .ok (.goto (-27), 3) := by decide +kernel
theorem dX11_latestSeen_34 : decode cX11_latestSeen 34 = .ok (.iload_n 1, 1) := by decide +kernel
theorem dX11_latestSeen_35 : decode cX11_latestSeen 35 = .ok (.ireturn, 1) := by decide +kernel
theorem dX11_contradictsSeen_0 : decode cX11_contradictsSeen 0 = .ok (.iconst 0, 1) := by decide +kernel
theorem dX11_contradictsSeen_1 : decode cX11_contradictsSeen 1 = .ok (.istore_n 3, 1) := by decide +kernel
theorem dX11_contradictsSeen_2 : decode cX11_contradictsSeen 2 = .ok (.iload_n 3, 1) := by decide +kernel
theorem dX11_contradictsSeen_3 : decode cX11_contradictsSeen 3 = .ok (.aload_n 0, 1) := by decide +kernel
theorem dX11_contradictsSeen_4 : decode cX11_contradictsSeen 4 = .ok (.getfield 109, 3) := by decide +kernel
theorem dX11_contradictsSeen_7 : decode cX11_contradictsSeen 7 = .ok (.if_icmp .ge 36, 3) := by decide +kernel
theorem dX11_contradictsSeen_10 : decode cX11_contradictsSeen 10 = .ok (.iload_n 3, 1) := by decide +kernel
theorem dX11_contradictsSeen_11 : decode cX11_contradictsSeen 11 = .ok (.iconst 5, 1) := by decide +kernel
theorem dX11_contradictsSeen_12 : decode cX11_contradictsSeen 12 = .ok (.if_icmp .ge 31, 3) := by decide +kernel
theorem dX11_contradictsSeen_15 : decode cX11_contradictsSeen 15 = .ok (.aload_n 0, 1) := by decide +kernel
theorem dX11_contradictsSeen_16 : decode cX11_contradictsSeen 16 = .ok (.getfield 44, 3) := by decide +kernel
theorem dX11_contradictsSeen_19 : decode cX11_contradictsSeen 19 = .ok (.iload_n 3, 1) := by decide +kernel
theorem dX11_contradictsSeen_20 : decode cX11_contradictsSeen 20 = .ok (.iaload, 1) := by decide +kernel
theorem dX11_contradictsSeen_21 : decode cX11_contradictsSeen 21 = .ok (.iload_n 1, 1) := by decide +kernel
theorem dX11_contradictsSeen_22 : decode cX11_contradictsSeen 22 = .ok (.if_icmp .ne 15, 3) := by decide +kernel
theorem dX11_contradictsSeen_25 : decode cX11_contradictsSeen 25 = .ok (.aload_n 0, 1) := by decide +kernel
theorem dX11_contradictsSeen_26 : decode cX11_contradictsSeen 26 = .ok (.getfield 48, 3) := by decide +kernel
theorem dX11_contradictsSeen_29 : decode cX11_contradictsSeen 29 = .ok (.iload_n 3, 1) := by decide +kernel
theorem dX11_contradictsSeen_30 : decode cX11_contradictsSeen 30 = .ok (.iaload, 1) := by decide +kernel
theorem dX11_contradictsSeen_31 : decode cX11_contradictsSeen 31 = .ok (.iload_n 2, 1) := by decide +kernel
theorem dX11_contradictsSeen_32 : decode cX11_contradictsSeen 32 = .ok (.if_icmp .eq 5, 3) := by decide +kernel
theorem dX11_contradictsSeen_35 : decode cX11_contradictsSeen 35 = .ok (.iconst 1, 1) := by decide +kernel
theorem dX11_contradictsSeen_36 : decode cX11_contradictsSeen 36 = .ok (.ireturn, 1) := by decide +kernel
theorem dX11_contradictsSeen_37 : decode cX11_contradictsSeen 37 = .ok (.iinc 3 1, 3) := by decide +kernel
theorem dX11_contradictsSeen_40 : decode cX11_contradictsSeen 40 = .ok (.goto (-38), 3) := by decide +kernel
theorem dX11_contradictsSeen_43 : decode cX11_contradictsSeen 43 = .ok (.iconst 0, 1) := by decide +kernel
theorem dX11_contradictsSeen_44 : decode cX11_contradictsSeen 44 = .ok (.ireturn, 1) := by decide +kernel
theorem dX11_waysOver_0 : decode cX11_waysOver 0 = .ok (.iload_n 3, 1) := by decide +kernel
theorem dX11_waysOver_1 : decode cX11_waysOver 1 = .ok (.ifCond .lt 12, 3) := by decide +kernel
theorem dX11_waysOver_4 : decode cX11_waysOver 4 = .ok (.iload_n 3, 1) := by decide +kernel
theorem dX11_waysOver_5 : decode cX11_waysOver 5 = .ok (.aload_n 0, 1) := by decide +kernel
theorem dX11_waysOver_6 : decode cX11_waysOver 6 = .ok (.getfield 51, 3) := by decide +kernel
theorem dX11_waysOver_9 : decode cX11_waysOver 9 = .ok (.arraylength, 1) := by decide +kernel
theorem dX11_waysOver_10 : decode cX11_waysOver 10 = .ok (.if_icmp .lt 5, 3) := by decide +kernel
theorem dX11_waysOver_13 : decode cX11_waysOver 13 = .ok (.iconst 0, 1) := by decide +kernel
theorem dX11_waysOver_14 : decode cX11_waysOver 14 = .ok (.ireturn, 1) := by decide +kernel
theorem dX11_waysOver_15 : decode cX11_waysOver 15 = .ok (.aload_n 0, 1) := by decide +kernel
theorem dX11_waysOver_16 : decode cX11_waysOver 16 = .ok (.getfield 19, 3) := by decide +kernel
theorem dX11_waysOver_19 : decode cX11_waysOver 19 = .ok (.aload_n 0, 1) := by decide +kernel
theorem dX11_waysOver_20 : decode cX11_waysOver 20 = .ok (.getfield 51, 3) := by decide +kernel
theorem dX11_waysOver_23 : decode cX11_waysOver 23 = .ok (.iload_n 3, 1) := by decide +kernel
theorem dX11_waysOver_24 : decode cX11_waysOver 24 = .ok (.aaload, 1) := by decide +kernel
theorem dX11_waysOver_25 : decode cX11_waysOver 25 = .ok (.getfield 140, 3) := by decide +kernel
theorem dX11_waysOver_28 : decode cX11_waysOver 28 = .ok (.invokevirtual 175, 3) := by decide +kernel
theorem dX11_waysOver_31 : decode cX11_waysOver 31 = .ok (.ifCond .eq 9, 3) := by decide +kernel
theorem dX11_waysOver_34 : decode cX11_waysOver 34 = .ok (.iload 4, 2) := by decide +kernel
theorem dX11_waysOver_36 : decode cX11_waysOver 36 = .ok (.invokestatic 235, 3) := by decide +kernel
theorem dX11_waysOver_39 : decode cX11_waysOver 39 = .ok (.ireturn, 1) := by decide +kernel
theorem dX11_waysOver_40 : decode cX11_waysOver 40 = .ok (.iload 4, 2) := by decide +kernel
theorem dX11_waysOver_42 : decode cX11_waysOver 42 = .ok (.ifCond .le 14, 3) := by decide +kernel
theorem dX11_waysOver_45 : decode cX11_waysOver 45 = .ok (.iload_n 3, 1) := by decide +kernel
theorem dX11_waysOver_46 : decode cX11_waysOver 46 = .ok (.iconst 1, 1) := by decide +kernel
theorem dX11_waysOver_47 : decode cX11_waysOver 47 = .ok (.iadd, 1) := by decide +kernel
theorem dX11_waysOver_48 : decode cX11_waysOver 48 = .ok (.aload_n 0, 1) := by decide +kernel
theorem dX11_waysOver_49 : decode cX11_waysOver 49 = .ok (.getfield 51, 3) := by decide +kernel
theorem dX11_waysOver_52 : decode cX11_waysOver 52 = .ok (.arraylength, 1) := by decide +kernel
theorem dX11_waysOver_53 : decode cX11_waysOver 53 = .ok (.if_icmp .lt 5, 3) := by decide +kernel
theorem dX11_waysOver_56 : decode cX11_waysOver 56 = .ok (.iconst 0, 1) := by decide +kernel
theorem dX11_waysOver_57 : decode cX11_waysOver 57 = .ok (.ireturn, 1) := by decide +kernel
theorem dX11_waysOver_58 : decode cX11_waysOver 58 = .ok (.aload_n 0, 1) := by decide +kernel
theorem dX11_waysOver_59 : decode cX11_waysOver 59 = .ok (.getfield 51, 3) := by decide +kernel
theorem dX11_waysOver_62 : decode cX11_waysOver 62 = .ok (.iload_n 3, 1) := by decide +kernel
theorem dX11_waysOver_63 : decode cX11_waysOver 63 = .ok (.iconst 1, 1) := by decide +kernel
theorem dX11_waysOver_64 : decode cX11_waysOver 64 = .ok (.iadd, 1) := by decide +kernel
theorem dX11_waysOver_65 : decode cX11_waysOver 65 = .ok (.aaload, 1) := by decide +kernel
theorem dX11_waysOver_66 : decode cX11_waysOver 66 = .ok (.astore 5, 2) := by decide +kernel
theorem dX11_waysOver_68 : decode cX11_waysOver 68 = .ok (.aload 5, 2) := by decide +kernel
theorem dX11_waysOver_70 : decode cX11_waysOver 70 = .ok (.aload_n 0, 1) := by decide +kernel
theorem dX11_waysOver_71 : decode cX11_waysOver 71 = .ok (.getfield 51, 3) := by decide +kernel
theorem dX11_waysOver_74 : decode cX11_waysOver 74 = .ok (.iload_n 3, 1) := by decide +kernel
theorem dX11_waysOver_75 : decode cX11_waysOver 75 = .ok (.aaload, 1) := by decide +kernel
theorem dX11_waysOver_76 : decode cX11_waysOver 76 = .ok (.invokevirtual 205, 3) := by decide +kernel
theorem dX11_waysOver_79 : decode cX11_waysOver 79 = .ok (.aload 5, 2) := by decide +kernel
theorem dX11_waysOver_81 : decode cX11_waysOver 81 = .ok (.aload_n 0, 1) := by decide +kernel
theorem dX11_waysOver_82 : decode cX11_waysOver 82 = .ok (.getfield 19, 3) := by decide +kernel
theorem dX11_waysOver_85 : decode cX11_waysOver 85 = .ok (.iconst 1, 1) := by decide +kernel
theorem dX11_waysOver_86 : decode cX11_waysOver 86 = .ok (.iload_n 1, 1) := by decide +kernel
theorem dX11_waysOver_87 : decode cX11_waysOver 87 = .ok (.ishl, 1) := by decide +kernel
theorem dX11_waysOver_88 : decode cX11_waysOver 88 = .ok (.invokevirtual 177, 3) := by decide +kernel
theorem dX11_waysOver_91 : decode cX11_waysOver 91 = .ok (.aload 5, 2) := by decide +kernel
theorem dX11_waysOver_93 : decode cX11_waysOver 93 = .ok (.aload_n 0, 1) := by decide +kernel
theorem dX11_waysOver_94 : decode cX11_waysOver 94 = .ok (.getfield 19, 3) := by decide +kernel
theorem dX11_waysOver_97 : decode cX11_waysOver 97 = .ok (.invokevirtual 161, 3) := by decide +kernel
theorem dX11_waysOver_100 : decode cX11_waysOver 100 = .ok (.iload_n 2, 1) := by decide +kernel
theorem dX11_waysOver_101 : decode cX11_waysOver 101 = .ok (.aload_n 0, 1) := by decide +kernel
theorem dX11_waysOver_102 : decode cX11_waysOver 102 = .ok (.iload_n 1, 1) := by decide +kernel
theorem dX11_waysOver_103 : decode cX11_waysOver 103 = .ok (.iload_n 2, 1) := by decide +kernel
theorem dX11_waysOver_104 : decode cX11_waysOver 104 = .ok (.iload_n 3, 1) := by decide +kernel
theorem dX11_waysOver_105 : decode cX11_waysOver 105 = .ok (.iconst 1, 1) := by decide +kernel
theorem dX11_waysOver_106 : decode cX11_waysOver 106 = .ok (.iadd, 1) := by decide +kernel
theorem dX11_waysOver_107 : decode cX11_waysOver 107 = .ok (.iload 4, 2) := by decide +kernel
theorem dX11_waysOver_109 : decode cX11_waysOver 109 = .ok (.iconst 1, 1) := by decide +kernel
theorem dX11_waysOver_110 : decode cX11_waysOver 110 = .ok (.isub, 1) := by decide +kernel
theorem dX11_waysOver_111 : decode cX11_waysOver 111 = .ok (.invokevirtual 231, 3) := by decide +kernel
theorem dX11_waysOver_114 : decode cX11_waysOver 114 = .ok (.imul, 1) := by decide +kernel
theorem dX11_waysOver_115 : decode cX11_waysOver 115 = .ok (.istore 6, 2) := by decide +kernel
theorem dX11_waysOver_117 : decode cX11_waysOver 117 = .ok (.aload 5, 2) := by decide +kernel
theorem dX11_waysOver_119 : decode cX11_waysOver 119 = .ok (.aload_n 0, 1) := by decide +kernel
theorem dX11_waysOver_120 : decode cX11_waysOver 120 = .ok (.getfield 51, 3) := by decide +kernel
theorem dX11_waysOver_123 : decode cX11_waysOver 123 = .ok (.iload_n 3, 1) := by decide +kernel
theorem dX11_waysOver_124 : decode cX11_waysOver 124 = .ok (.aaload, 1) := by decide +kernel
theorem dX11_waysOver_125 : decode cX11_waysOver 125 = .ok (.invokevirtual 205, 3) := by decide +kernel
theorem dX11_waysOver_128 : decode cX11_waysOver 128 = .ok (.aload 5, 2) := by decide +kernel
theorem dX11_waysOver_130 : decode cX11_waysOver 130 = .ok (.aload_n 0, 1) := by decide +kernel
theorem dX11_waysOver_131 : decode cX11_waysOver 131 = .ok (.getfield 19, 3) := by decide +kernel
theorem dX11_waysOver_134 : decode cX11_waysOver 134 = .ok (.invokevirtual 161, 3) := by decide +kernel
theorem dX11_waysOver_137 : decode cX11_waysOver 137 = .ok (.iload 6, 2) := by decide +kernel
theorem dX11_waysOver_139 : decode cX11_waysOver 139 = .ok (.bipush 10, 2) := by decide +kernel
theorem dX11_waysOver_141 : decode cX11_waysOver 141 = .ok (.iload_n 2, 1) := by decide +kernel
theorem dX11_waysOver_142 : decode cX11_waysOver 142 = .ok (.isub, 1) := by decide +kernel
theorem dX11_waysOver_143 : decode cX11_waysOver 143 = .ok (.aload_n 0, 1) := by decide +kernel
theorem dX11_waysOver_144 : decode cX11_waysOver 144 = .ok (.iload_n 1, 1) := by decide +kernel
theorem dX11_waysOver_145 : decode cX11_waysOver 145 = .ok (.iload_n 2, 1) := by decide +kernel
theorem dX11_waysOver_146 : decode cX11_waysOver 146 = .ok (.iload_n 3, 1) := by decide +kernel
theorem dX11_waysOver_147 : decode cX11_waysOver 147 = .ok (.iconst 1, 1) := by decide +kernel
theorem dX11_waysOver_148 : decode cX11_waysOver 148 = .ok (.iadd, 1) := by decide +kernel
theorem dX11_waysOver_149 : decode cX11_waysOver 149 = .ok (.iload 4, 2) := by decide +kernel
theorem dX11_waysOver_151 : decode cX11_waysOver 151 = .ok (.iconst 1, 1) := by decide +kernel
theorem dX11_waysOver_152 : decode cX11_waysOver 152 = .ok (.isub, 1) := by decide +kernel
theorem dX11_waysOver_153 : decode cX11_waysOver 153 = .ok (.invokevirtual 231, 3) := by decide +kernel
theorem dX11_waysOver_156 : decode cX11_waysOver 156 = .ok (.imul, 1) := by decide +kernel
theorem dX11_waysOver_157 : decode cX11_waysOver 157 = .ok (.iadd, 1) := by decide +kernel
theorem dX11_waysOver_158 : decode cX11_waysOver 158 = .ok (.ireturn, 1) := by decide +kernel
theorem dX11_powerOfTen_0 : decode cX11_powerOfTen 0 = .ok (.iconst 1, 1) := by decide +kernel
theorem dX11_powerOfTen_1 : decode cX11_powerOfTen 1 = .ok (.istore_n 1, 1) := by decide +kernel
theorem dX11_powerOfTen_2 : decode cX11_powerOfTen 2 = .ok (.iconst 0, 1) := by decide +kernel
theorem dX11_powerOfTen_3 : decode cX11_powerOfTen 3 = .ok (.istore_n 2, 1) := by decide +kernel
theorem dX11_powerOfTen_4 : decode cX11_powerOfTen 4 = .ok (.iload_n 2, 1) := by decide +kernel
theorem dX11_powerOfTen_5 : decode cX11_powerOfTen 5 = .ok (.iload_n 0, 1) := by decide +kernel
theorem dX11_powerOfTen_6 : decode cX11_powerOfTen 6 = .ok (.if_icmp .ge 14, 3) := by decide +kernel
theorem dX11_powerOfTen_9 : decode cX11_powerOfTen 9 = .ok (.iload_n 1, 1) := by decide +kernel
theorem dX11_powerOfTen_10 : decode cX11_powerOfTen 10 = .ok (.bipush 10, 2) := by decide +kernel
theorem dX11_powerOfTen_12 : decode cX11_powerOfTen 12 = .ok (.imul, 1) := by decide +kernel
theorem dX11_powerOfTen_13 : decode cX11_powerOfTen 13 = .ok (.istore_n 1, 1) := by decide +kernel
theorem dX11_powerOfTen_14 : decode cX11_powerOfTen 14 = .ok (.iinc 2 1, 3) := by decide +kernel
theorem dX11_powerOfTen_17 : decode cX11_powerOfTen 17 = .ok (.goto (-13), 3) := by decide +kernel
theorem dX11_powerOfTen_20 : decode cX11_powerOfTen 20 = .ok (.iload_n 1, 1) := by decide +kernel
theorem dX11_powerOfTen_21 : decode cX11_powerOfTen 21 = .ok (.ireturn, 1) := by decide +kernel
theorem dX11_greatestShared_0 : decode cX11_greatestShared 0 = .ok (.iload_n 0, 1) := by decide +kernel
theorem dX11_greatestShared_1 : decode cX11_greatestShared 1 = .ok (.istore_n 2, 1) := by decide +kernel
theorem dX11_greatestShared_2 : decode cX11_greatestShared 2 = .ok (.iload_n 1, 1) := by decide +kernel
theorem dX11_greatestShared_3 : decode cX11_greatestShared 3 = .ok (.istore_n 3, 1) := by decide +kernel
theorem dX11_greatestShared_4 : decode cX11_greatestShared 4 = .ok (.iconst 0, 1) := by decide +kernel
theorem dX11_greatestShared_5 : decode cX11_greatestShared 5 = .ok (.istore 4, 2) := by decide +kernel
theorem dX11_greatestShared_7 : decode cX11_greatestShared 7 = .ok (.iload 4, 2) := by decide +kernel
theorem dX11_greatestShared_9 : decode cX11_greatestShared 9 = .ok (.bipush 64, 2) := by decide +kernel
theorem dX11_greatestShared_11 : decode cX11_greatestShared 11 = .ok (.if_icmp .ge 23, 3) := by decide +kernel
theorem dX11_greatestShared_14 : decode cX11_greatestShared 14 = .ok (.iload_n 3, 1) := by decide +kernel
theorem dX11_greatestShared_15 : decode cX11_greatestShared 15 = .ok (.ifCond .eq 19, 3) := by decide +kernel
theorem dX11_greatestShared_18 : decode cX11_greatestShared 18 = .ok (.iload_n 2, 1) := by decide +kernel
theorem dX11_greatestShared_19 : decode cX11_greatestShared 19 = .ok (.iload_n 3, 1) := by decide +kernel
theorem dX11_greatestShared_20 : decode cX11_greatestShared 20 = .ok (.irem, 1) := by decide +kernel
theorem dX11_greatestShared_21 : decode cX11_greatestShared 21 = .ok (.istore 5, 2) := by decide +kernel
theorem dX11_greatestShared_23 : decode cX11_greatestShared 23 = .ok (.iload_n 3, 1) := by decide +kernel
theorem dX11_greatestShared_24 : decode cX11_greatestShared 24 = .ok (.istore_n 2, 1) := by decide +kernel
theorem dX11_greatestShared_25 : decode cX11_greatestShared 25 = .ok (.iload 5, 2) := by decide +kernel
theorem dX11_greatestShared_27 : decode cX11_greatestShared 27 = .ok (.istore_n 3, 1) := by decide +kernel
theorem dX11_greatestShared_28 : decode cX11_greatestShared 28 = .ok (.iinc 4 1, 3) := by decide +kernel
theorem dX11_greatestShared_31 : decode cX11_greatestShared 31 = .ok (.goto (-24), 3) := by decide +kernel
theorem dX11_greatestShared_34 : decode cX11_greatestShared 34 = .ok (.iload_n 2, 1) := by decide +kernel
theorem dX11_greatestShared_35 : decode cX11_greatestShared 35 = .ok (.ireturn, 1) := by decide +kernel
theorem dX11_rate_0 : decode cX11_rate 0 = .ok (.iload_n 1, 1) := by decide +kernel
theorem dX11_rate_1 : decode cX11_rate 1 = .ok (.ifCond .lt 23, 3) := by decide +kernel
theorem dX11_rate_4 : decode cX11_rate 4 = .ok (.iload_n 1, 1) := by decide +kernel
theorem dX11_rate_5 : decode cX11_rate 5 = .ok (.aload_n 0, 1) := by decide +kernel
theorem dX11_rate_6 : decode cX11_rate 6 = .ok (.getfield 63, 3) := by decide +kernel
theorem dX11_rate_9 : decode cX11_rate 9 = .ok (.arraylength, 1) := by decide +kernel
theorem dX11_rate_10 : decode cX11_rate 10 = .ok (.if_icmp .ge 14, 3) := by decide +kernel
theorem dX11_rate_13 : decode cX11_rate 13 = .ok (.aload_n 0, 1) := by decide +kernel
theorem dX11_rate_14 : decode cX11_rate 14 = .ok (.getfield 19, 3) := by decide +kernel
theorem dX11_rate_17 : decode cX11_rate 17 = .ok (.iload_n 2, 1) := by decide +kernel
theorem dX11_rate_18 : decode cX11_rate 18 = .ok (.invokevirtual 112, 3) := by decide +kernel
theorem dX11_rate_21 : decode cX11_rate 21 = .ok (.ifCond .ne 6, 3) := by decide +kernel
theorem dX11_rate_24 : decode cX11_rate 24 = .ok (.ldc 254, 2) := by decide +kernel
theorem dX11_rate_26 : decode cX11_rate 26 = .ok (.ireturn, 1) := by decide +kernel
theorem dX11_rate_27 : decode cX11_rate 27 = .ok (.aload_n 0, 1) := by decide +kernel
theorem dX11_rate_28 : decode cX11_rate 28 = .ok (.getfield 63, 3) := by decide +kernel
theorem dX11_rate_31 : decode cX11_rate 31 = .ok (.iload_n 1, 1) := by decide +kernel
theorem dX11_rate_32 : decode cX11_rate 32 = .ok (.aaload, 1) := by decide +kernel
theorem dX11_rate_33 : decode cX11_rate 33 = .ok (.aload_n 0, 1) := by decide +kernel
theorem dX11_rate_34 : decode cX11_rate 34 = .ok (.getfield 19, 3) := by decide +kernel
theorem dX11_rate_37 : decode cX11_rate 37 = .ok (.aload_n 0, 1) := by decide +kernel
theorem dX11_rate_38 : decode cX11_rate 38 = .ok (.getfield 29, 3) := by decide +kernel
theorem dX11_rate_41 : decode cX11_rate 41 = .ok (.iload_n 2, 1) := by decide +kernel
theorem dX11_rate_42 : decode cX11_rate 42 = .ok (.aload_n 0, 1) := by decide +kernel
theorem dX11_rate_43 : decode cX11_rate 43 = .ok (.getfield 67, 3) := by decide +kernel
theorem dX11_rate_46 : decode cX11_rate 46 = .ok (.invokevirtual 255, 3) := by decide +kernel
theorem dX11_rate_49 : decode cX11_rate 49 = .ok (.ireturn, 1) := by decide +kernel
theorem dX11_keep_0 : decode cX11_keep 0 = .ok (.iload_n 1, 1) := by decide +kernel
theorem dX11_keep_1 : decode cX11_keep 1 = .ok (.ifCond .lt 8, 3) := by decide +kernel
theorem dX11_keep_4 : decode cX11_keep 4 = .ok (.iload_n 1, 1) := by decide +kernel
theorem dX11_keep_5 : decode cX11_keep 5 = .ok (.iconst 2, 1) := by decide +kernel
theorem dX11_keep_6 : decode cX11_keep 6 = .ok (.if_icmp .lt 5, 3) := by decide +kernel
theorem dX11_keep_9 : decode cX11_keep 9 = .ok (.iconst (-1), 1) := by decide +kernel
theorem dX11_keep_10 : decode cX11_keep 10 = .ok (.ireturn, 1) := by decide +kernel
theorem dX11_keep_11 : decode cX11_keep 11 = .ok (.aload_n 0, 1) := by decide +kernel
theorem dX11_keep_12 : decode cX11_keep 12 = .ok (.getfield 40, 3) := by decide +kernel
theorem dX11_keep_15 : decode cX11_keep 15 = .ok (.iload_n 1, 1) := by decide +kernel
theorem dX11_keep_16 : decode cX11_keep 16 = .ok (.aaload, 1) := by decide +kernel
theorem dX11_keep_17 : decode cX11_keep 17 = .ok (.aload_n 0, 1) := by decide +kernel
theorem dX11_keep_18 : decode cX11_keep 18 = .ok (.getfield 29, 3) := by decide +kernel
theorem dX11_keep_21 : decode cX11_keep 21 = .ok (.invokevirtual 205, 3) := by decide +kernel
theorem dX11_keep_24 : decode cX11_keep 24 = .ok (.aload_n 0, 1) := by decide +kernel
theorem dX11_keep_25 : decode cX11_keep 25 = .ok (.dup, 1) := by decide +kernel
theorem dX11_keep_26 : decode cX11_keep 26 = .ok (.getfield 106, 3) := by decide +kernel
theorem dX11_keep_29 : decode cX11_keep 29 = .ok (.iconst 1, 1) := by decide +kernel
theorem dX11_keep_30 : decode cX11_keep 30 = .ok (.iload_n 1, 1) := by decide +kernel
theorem dX11_keep_31 : decode cX11_keep 31 = .ok (.ishl, 1) := by decide +kernel
theorem dX11_keep_32 : decode cX11_keep 32 = .ok (.ior, 1) := by decide +kernel
theorem dX11_keep_33 : decode cX11_keep 33 = .ok (.putfield 106, 3) := by decide +kernel
theorem dX11_keep_36 : decode cX11_keep 36 = .ok (.aload_n 0, 1) := by decide +kernel
theorem dX11_keep_37 : decode cX11_keep 37 = .ok (.getfield 29, 3) := by decide +kernel
theorem dX11_keep_40 : decode cX11_keep 40 = .ok (.getfield 137, 3) := by decide +kernel
theorem dX11_keep_43 : decode cX11_keep 43 = .ok (.ireturn, 1) := by decide +kernel
theorem dX11_back_0 : decode cX11_back 0 = .ok (.iload_n 1, 1) := by decide +kernel
theorem dX11_back_1 : decode cX11_back 1 = .ok (.ifCond .lt 8, 3) := by decide +kernel
theorem dX11_back_4 : decode cX11_back 4 = .ok (.iload_n 1, 1) := by decide +kernel
theorem dX11_back_5 : decode cX11_back 5 = .ok (.iconst 2, 1) := by decide +kernel
theorem dX11_back_6 : decode cX11_back 6 = .ok (.if_icmp .lt 5, 3) := by decide +kernel
theorem dX11_back_9 : decode cX11_back 9 = .ok (.iconst (-1), 1) := by decide +kernel
theorem dX11_back_10 : decode cX11_back 10 = .ok (.ireturn, 1) := by decide +kernel
theorem dX11_back_11 : decode cX11_back 11 = .ok (.aload_n 0, 1) := by decide +kernel
theorem dX11_back_12 : decode cX11_back 12 = .ok (.getfield 106, 3) := by decide +kernel
theorem dX11_back_15 : decode cX11_back 15 = .ok (.iload_n 1, 1) := by decide +kernel
theorem dX11_back_16 : decode cX11_back 16 = .ok (.ishr, 1) := by decide +kernel
theorem dX11_back_17 : decode cX11_back 17 = .ok (.iconst 1, 1) := by decide +kernel
theorem dX11_back_18 : decode cX11_back 18 = .ok (.iand, 1) := by decide +kernel
theorem dX11_back_19 : decode cX11_back 19 = .ok (.ifCond .ne 6, 3) := by decide +kernel
theorem dX11_back_22 : decode cX11_back 22 = .ok (.bipush (-2), 2) := by decide +kernel
theorem dX11_back_24 : decode cX11_back 24 = .ok (.ireturn, 1) := by decide +kernel
theorem dX11_back_25 : decode cX11_back 25 = .ok (.aload_n 0, 1) := by decide +kernel
theorem dX11_back_26 : decode cX11_back 26 = .ok (.getfield 29, 3) := by decide +kernel
theorem dX11_back_29 : decode cX11_back 29 = .ok (.aload_n 0, 1) := by decide +kernel
theorem dX11_back_30 : decode cX11_back 30 = .ok (.getfield 40, 3) := by decide +kernel
theorem dX11_back_33 : decode cX11_back 33 = .ok (.iload_n 1, 1) := by decide +kernel
theorem dX11_back_34 : decode cX11_back 34 = .ok (.aaload, 1) := by decide +kernel
theorem dX11_back_35 : decode cX11_back 35 = .ok (.invokevirtual 205, 3) := by decide +kernel
theorem dX11_back_38 : decode cX11_back 38 = .ok (.aload_n 0, 1) := by decide +kernel
theorem dX11_back_39 : decode cX11_back 39 = .ok (.getfield 36, 3) := by decide +kernel
theorem dX11_back_42 : decode cX11_back 42 = .ok (.invokevirtual 103, 3) := by decide +kernel
theorem dX11_back_45 : decode cX11_back 45 = .ok (.aload_n 0, 1) := by decide +kernel
theorem dX11_back_46 : decode cX11_back 46 = .ok (.getfield 29, 3) := by decide +kernel
theorem dX11_back_49 : decode cX11_back 49 = .ok (.getfield 137, 3) := by decide +kernel
theorem dX11_back_52 : decode cX11_back 52 = .ok (.ireturn, 1) := by decide +kernel
theorem dX11_count_0 : decode cX11_count 0 = .ok (.iload_n 1, 1) := by decide +kernel
theorem dX11_count_1 : decode cX11_count 1 = .ok (.tableswitch 72 0 4 #[35, 43, 51, 59, 64], 35) := by decide +kernel
theorem dX11_count_36 : decode cX11_count 36 = .ok (.aload_n 0, 1) := by decide +kernel
theorem dX11_count_37 : decode cX11_count 37 = .ok (.getfield 19, 3) := by decide +kernel
theorem dX11_count_40 : decode cX11_count 40 = .ok (.getfield 189, 3) := by decide +kernel
theorem dX11_count_43 : decode cX11_count 43 = .ok (.ireturn, 1) := by decide +kernel
theorem dX11_count_44 : decode cX11_count 44 = .ok (.aload_n 0, 1) := by decide +kernel
theorem dX11_count_45 : decode cX11_count 45 = .ok (.getfield 19, 3) := by decide +kernel
theorem dX11_count_48 : decode cX11_count 48 = .ok (.getfield 259, 3) := by decide +kernel
theorem dX11_count_51 : decode cX11_count 51 = .ok (.ireturn, 1) := by decide +kernel
theorem dX11_count_52 : decode cX11_count 52 = .ok (.aload_n 0, 1) := by decide +kernel
theorem dX11_count_53 : decode cX11_count 53 = .ok (.getfield 19, 3) := by decide +kernel
theorem dX11_count_56 : decode cX11_count 56 = .ok (.getfield 262, 3) := by decide +kernel
theorem dX11_count_59 : decode cX11_count 59 = .ok (.ireturn, 1) := by decide +kernel
theorem dX11_count_60 : decode cX11_count 60 = .ok (.aload_n 0, 1) := by decide +kernel
theorem dX11_count_61 : decode cX11_count 61 = .ok (.getfield 109, 3) := by decide +kernel
theorem dX11_count_64 : decode cX11_count 64 = .ok (.ireturn, 1) := by decide +kernel
theorem dX11_count_65 : decode cX11_count 65 = .ok (.aload_n 0, 1) := by decide +kernel
theorem dX11_count_66 : decode cX11_count 66 = .ok (.getfield 10, 3) := by decide +kernel
theorem dX11_count_69 : decode cX11_count 69 = .ok (.getfield 91, 3) := by decide +kernel
theorem dX11_count_72 : decode cX11_count 72 = .ok (.ireturn, 1) := by decide +kernel
theorem dX11_count_73 : decode cX11_count 73 = .ok (.iconst (-1), 1) := by decide +kernel
theorem dX11_count_74 : decode cX11_count 74 = .ok (.ireturn, 1) := by decide +kernel
theorem dX11_trace_0 : decode cX11_trace 0 = .ok (.aload_n 0, 1) := by decide +kernel
theorem dX11_trace_1 : decode cX11_trace 1 = .ok (.getfield 67, 3) := by decide +kernel
theorem dX11_trace_4 : decode cX11_trace 4 = .ok (.iconst 0, 1) := by decide +kernel
theorem dX11_trace_5 : decode cX11_trace 5 = .ok (.laload, 1) := by decide +kernel
theorem dX11_trace_6 : decode cX11_trace 6 = .ok (.lreturn, 1) := by decide +kernel
theorem dX12_init_0 : decode cX12_init 0 = .ok (.aload_n 0, 1) := by decide +kernel
theorem dX12_init_1 : decode cX12_init 1 = .ok (.invokespecial 1, 3) := by decide +kernel
theorem dX12_init_4 : decode cX12_init 4 = .ok (.aload_n 0, 1) := by decide +kernel
theorem dX12_init_5 : decode cX12_init 5 = .ok (.sipush 200, 3) := by decide +kernel
theorem dX12_init_8 : decode cX12_init 8 = .ok (.newarray .int, 2) := by decide +kernel
theorem dX12_init_10 : decode cX12_init 10 = .ok (.putfield 7, 3) := by decide +kernel
theorem dX12_init_13 : decode cX12_init 13 = .ok (.aload_n 0, 1) := by decide +kernel
theorem dX12_init_14 : decode cX12_init 14 = .ok (.bipush 6, 2) := by decide +kernel
theorem dX12_init_16 : decode cX12_init 16 = .ok (.newarray .int, 2) := by decide +kernel
theorem dX12_init_18 : decode cX12_init 18 = .ok (.putfield 13, 3) := by decide +kernel
theorem dX12_init_21 : decode cX12_init 21 = .ok (.aload_n 0, 1) := by decide +kernel
theorem dX12_init_22 : decode cX12_init 22 = .ok (.bipush 12, 2) := by decide +kernel
theorem dX12_init_24 : decode cX12_init 24 = .ok (.newarray .int, 2) := by decide +kernel
theorem dX12_init_26 : decode cX12_init 26 = .ok (.putfield 16, 3) := by decide +kernel
theorem dX12_init_29 : decode cX12_init 29 = .ok (.aload_n 0, 1) := by decide +kernel
theorem dX12_init_30 : decode cX12_init 30 = .ok (.bipush 12, 2) := by decide +kernel
theorem dX12_init_32 : decode cX12_init 32 = .ok (.newarray .int, 2) := by decide +kernel
theorem dX12_init_34 : decode cX12_init 34 = .ok (.putfield 19, 3) := by decide +kernel
theorem dX12_init_37 : decode cX12_init 37 = .ok (.aload_n 0, 1) := by decide +kernel
theorem dX12_init_38 : decode cX12_init 38 = .ok (.bipush 12, 2) := by decide +kernel
theorem dX12_init_40 : decode cX12_init 40 = .ok (.newarray .int, 2) := by decide +kernel
theorem dX12_init_42 : decode cX12_init 42 = .ok (.putfield 22, 3) := by decide +kernel
theorem dX12_init_45 : decode cX12_init 45 = .ok (.aload_n 0, 1) := by decide +kernel
theorem dX12_init_46 : decode cX12_init 46 = .ok (.bipush 8, 2) := by decide +kernel
theorem dX12_init_48 : decode cX12_init 48 = .ok (.newarray .int, 2) := by decide +kernel
theorem dX12_init_50 : decode cX12_init 50 = .ok (.putfield 25, 3) := by decide +kernel
theorem dX12_init_53 : decode cX12_init 53 = .ok (.aload_n 0, 1) := by decide +kernel
theorem dX12_init_54 : decode cX12_init 54 = .ok (.bipush 8, 2) := by decide +kernel
theorem dX12_init_56 : decode cX12_init 56 = .ok (.newarray .int, 2) := by decide +kernel
theorem dX12_init_58 : decode cX12_init 58 = .ok (.putfield 28, 3) := by decide +kernel
theorem dX12_init_61 : decode cX12_init 61 = .ok (.aload_n 0, 1) := by decide +kernel
theorem dX12_init_62 : decode cX12_init 62 = .ok (.bipush 15, 2) := by decide +kernel
theorem dX12_init_64 : decode cX12_init 64 = .ok (.newarray .int, 2) := by decide +kernel
theorem dX12_init_66 : decode cX12_init 66 = .ok (.putfield 31, 3) := by decide +kernel
theorem dX12_init_69 : decode cX12_init 69 = .ok (.aload_n 0, 1) := by decide +kernel
theorem dX12_init_70 : decode cX12_init 70 = .ok (.bipush 15, 2) := by decide +kernel
theorem dX12_init_72 : decode cX12_init 72 = .ok (.newarray .int, 2) := by decide +kernel
theorem dX12_init_74 : decode cX12_init 74 = .ok (.putfield 34, 3) := by decide +kernel
theorem dX12_init_77 : decode cX12_init 77 = .ok (.aload_n 0, 1) := by decide +kernel
theorem dX12_init_78 : decode cX12_init 78 = .ok (.bipush 30, 2) := by decide +kernel
theorem dX12_init_80 : decode cX12_init 80 = .ok (.newarray .int, 2) := by decide +kernel
theorem dX12_init_82 : decode cX12_init 82 = .ok (.putfield 37, 3) := by decide +kernel
theorem dX12_init_85 : decode cX12_init 85 = .ok (.aload_n 0, 1) := by decide +kernel
theorem dX12_init_86 : decode cX12_init 86 = .ok (.iconst 2, 1) := by decide +kernel
theorem dX12_init_87 : decode cX12_init 87 = .ok (.newarray .boolean, 2) := by decide +kernel
theorem dX12_init_89 : decode cX12_init 89 = .ok (.putfield 40, 3) := by decide +kernel
theorem dX12_init_92 : decode cX12_init 92 = .ok (.aload_n 0, 1) := by decide +kernel
theorem dX12_init_93 : decode cX12_init 93 = .ok (.sipush 150, 3) := by decide +kernel
theorem dX12_init_96 : decode cX12_init 96 = .ok (.newarray .int, 2) := by decide +kernel
theorem dX12_init_98 : decode cX12_init 98 = .ok (.putfield 44, 3) := by decide +kernel
theorem dX12_init_101 : decode cX12_init 101 = .ok (.aload_n 0, 1) := by decide +kernel
theorem dX12_init_102 : decode cX12_init 102 = .ok (.iconst 5, 1) := by decide +kernel
theorem dX12_init_103 : decode cX12_init 103 = .ok (.newarray .int, 2) := by decide +kernel
theorem dX12_init_105 : decode cX12_init 105 = .ok (.putfield 47, 3) := by decide +kernel
theorem dX12_init_108 : decode cX12_init 108 = .ok (.aload_n 0, 1) := by decide +kernel
theorem dX12_init_109 : decode cX12_init 109 = .ok (.iconst 5, 1) := by decide +kernel
theorem dX12_init_110 : decode cX12_init 110 = .ok (.newarray .int, 2) := by decide +kernel
theorem dX12_init_112 : decode cX12_init 112 = .ok (.putfield 50, 3) := by decide +kernel
theorem dX12_init_115 : decode cX12_init 115 = .ok (.aload_n 0, 1) := by decide +kernel
theorem dX12_init_116 : decode cX12_init 116 = .ok (.iconst 3, 1) := by decide +kernel
theorem dX12_init_117 : decode cX12_init 117 = .ok (.newarray .int, 2) := by decide +kernel
theorem dX12_init_119 : decode cX12_init 119 = .ok (.putfield 53, 3) := by decide +kernel
theorem dX12_init_122 : decode cX12_init 122 = .ok (.aload_n 0, 1) := by decide +kernel
theorem dX12_init_123 : decode cX12_init 123 = .ok (.iconst 3, 1) := by decide +kernel
theorem dX12_init_124 : decode cX12_init 124 = .ok (.newarray .int, 2) := by decide +kernel
theorem dX12_init_126 : decode cX12_init 126 = .ok (.putfield 56, 3) := by decide +kernel
theorem dX12_init_129 : decode cX12_init 129 = .ok (.aload_n 0, 1) := by decide +kernel
theorem dX12_init_130 : decode cX12_init 130 = .ok (.getfield 13, 3) := by decide +kernel
theorem dX12_init_133 : decode cX12_init 133 = .ok (.iconst 1, 1) := by decide +kernel
theorem dX12_init_134 : decode cX12_init 134 = .ok (.bipush 60, 2) := by decide +kernel
theorem dX12_init_136 : decode cX12_init 136 = .ok (.iastore, 1) := by decide +kernel
theorem dX12_init_137 : decode cX12_init 137 = .ok (.return_, 1) := by decide +kernel
theorem dX12_in_0 : decode cX12_in 0 = .ok (.iload_n 0, 1) := by decide +kernel
theorem dX12_in_1 : decode cX12_in 1 = .ok (.iload_n 1, 1) := by decide +kernel
theorem dX12_in_2 : decode cX12_in 2 = .ok (.if_icmp .lt 12, 3) := by decide +kernel
theorem dX12_in_5 : decode cX12_in 5 = .ok (.iload_n 0, 1) := by decide +kernel
theorem dX12_in_6 : decode cX12_in 6 = .ok (.iload_n 2, 1) := by decide +kernel
theorem dX12_in_7 : decode cX12_in 7 = .ok (.if_icmp .gt 7, 3) := by decide +kernel
theorem dX12_in_10 : decode cX12_in 10 = .ok (.iconst 1, 1) := by decide +kernel
theorem dX12_in_11 : decode cX12_in 11 = .ok (.goto 4, 3) := by decide +kernel
theorem dX12_in_14 : decode cX12_in 14 = .ok (.iconst 0, 1) := by decide +kernel
theorem dX12_in_15 : decode cX12_in 15 = .ok (.ireturn, 1) := by decide +kernel
theorem dX12_type_0 : decode cX12_type 0 = .ok (.aload_n 0, 1) := by decide +kernel
theorem dX12_type_1 : decode cX12_type 1 = .ok (.iconst 0, 1) := by decide +kernel
theorem dX12_type_2 : decode cX12_type 2 = .ok (.putfield 59, 3) := by decide +kernel
theorem dX12_type_5 : decode cX12_type 5 = .ok (.iload_n 1, 1) := by decide +kernel
theorem dX12_type_6 : decode cX12_type 6 = .ok (.iconst 0, 1) := by decide +kernel
theorem dX12_type_7 : decode cX12_type 7 = .ok (.sipush 255, 3) := by decide +kernel
theorem dX12_type_10 : decode cX12_type 10 = .ok (.invokestatic 63, 3) := by decide +kernel
theorem dX12_type_13 : decode cX12_type 13 = .ok (.ifCond .ne 5, 3) := by decide +kernel
theorem dX12_type_16 : decode cX12_type 16 = .ok (.iconst (-1), 1) := by decide +kernel
theorem dX12_type_17 : decode cX12_type 17 = .ok (.ireturn, 1) := by decide +kernel
theorem dX12_type_18 : decode cX12_type 18 = .ok (.aload_n 0, 1) := by decide +kernel
theorem dX12_type_19 : decode cX12_type 19 = .ok (.getfield 67, 3) := by decide +kernel
theorem dX12_type_22 : decode cX12_type 22 = .ok (.sipush 200, 3) := by decide +kernel
theorem dX12_type_25 : decode cX12_type 25 = .ok (.if_icmp .ne 6, 3) := by decide +kernel
theorem dX12_type_28 : decode cX12_type 28 = .ok (.bipush (-3), 2) := by decide +kernel
theorem dX12_type_30 : decode cX12_type 30 = .ok (.ireturn, 1) := by decide +kernel
theorem dX12_type_31 : decode cX12_type 31 = .ok (.aload_n 0, 1) := by decide +kernel
theorem dX12_type_32 : decode cX12_type 32 = .ok (.getfield 7, 3) := by decide +kernel
theorem dX12_type_35 : decode cX12_type 35 = .ok (.aload_n 0, 1) := by decide +kernel
theorem dX12_type_36 : decode cX12_type 36 = .ok (.getfield 67, 3) := by decide +kernel
theorem dX12_type_39 : decode cX12_type 39 = .ok (.iload_n 1, 1) := by decide +kernel
theorem dX12_type_40 : decode cX12_type 40 = .ok (.iastore, 1) := by decide +kernel
theorem dX12_type_41 : decode cX12_type 41 = .ok (.aload_n 0, 1) := by decide +kernel
theorem dX12_type_42 : decode cX12_type 42 = .ok (.dup, 1) := by decide +kernel
theorem dX12_type_43 : decode cX12_type 43 = .ok (.getfield 67, 3) := by decide +kernel
theorem dX12_type_46 : decode cX12_type 46 = .ok (.iconst 1, 1) := by decide +kernel
theorem dX12_type_47 : decode cX12_type 47 = .ok (.iadd, 1) := by decide +kernel
theorem dX12_type_48 : decode cX12_type 48 = .ok (.putfield 67, 3) := by decide +kernel
theorem dX12_type_51 : decode cX12_type 51 = .ok (.aload_n 0, 1) := by decide +kernel
theorem dX12_type_52 : decode cX12_type 52 = .ok (.getfield 67, 3) := by decide +kernel
theorem dX12_type_55 : decode cX12_type 55 = .ok (.ireturn, 1) := by decide +kernel
theorem dX12_clear_0 : decode cX12_clear 0 = .ok (.aload_n 0, 1) := by decide +kernel
theorem dX12_clear_1 : decode cX12_clear 1 = .ok (.iconst 0, 1) := by decide +kernel
theorem dX12_clear_2 : decode cX12_clear 2 = .ok (.putfield 59, 3) := by decide +kernel
theorem dX12_clear_5 : decode cX12_clear 5 = .ok (.aload_n 0, 1) := by decide +kernel
theorem dX12_clear_6 : decode cX12_clear 6 = .ok (.getfield 67, 3) := by decide +kernel
theorem dX12_clear_9 : decode cX12_clear 9 = .ok (.istore_n 1, 1) := by decide +kernel
theorem dX12_clear_10 : decode cX12_clear 10 = .ok (.aload_n 0, 1) := by decide +kernel
theorem dX12_clear_11 : decode cX12_clear 11 = .ok (.iconst 0, 1) := by decide +kernel
theorem dX12_clear_12 : decode cX12_clear 12 = .ok (.putfield 67, 3) := by decide +kernel
theorem dX12_clear_15 : decode cX12_clear 15 = .ok (.iload_n 1, 1) := by decide +kernel
theorem dX12_clear_16 : decode cX12_clear 16 = .ok (.ireturn, 1) := by decide +kernel
theorem dX12_letterAt_0 : decode cX12_letterAt 0 = .ok (.iload_n 1, 1) := by decide +kernel
theorem dX12_letterAt_1 : decode cX12_letterAt 1 = .ok (.aload_n 0, 1) := by decide +kernel
theorem dX12_letterAt_2 : decode cX12_letterAt 2 = .ok (.getfield 67, 3) := by decide +kernel
theorem dX12_letterAt_5 : decode cX12_letterAt 5 = .ok (.if_icmp .ge 12, 3) := by decide +kernel
theorem dX12_letterAt_8 : decode cX12_letterAt 8 = .ok (.aload_n 0, 1) := by decide +kernel
theorem dX12_letterAt_9 : decode cX12_letterAt 9 = .ok (.getfield 7, 3) := by decide +kernel
theorem dX12_letterAt_12 : decode cX12_letterAt 12 = .ok (.iload_n 1, 1) := by decide +kernel
theorem dX12_letterAt_13 : decode cX12_letterAt 13 = .ok (.iaload, 1) := by decide +kernel
theorem dX12_letterAt_14 : decode cX12_letterAt 14 = .ok (.goto 4, 3) := by decide +kernel
theorem dX12_letterAt_17 : decode cX12_letterAt 17 = .ok (.iconst (-1), 1) := by decide +kernel
theorem dX12_letterAt_18 : decode cX12_letterAt 18 = .ok (.ireturn, 1) := by decide +kernel
theorem dX12_advances_0 : decode cX12_advances 0 = .ok (.aload_n 0, 1) := by decide +kernel
theorem dX12_advances_1 : decode cX12_advances 1 = .ok (.aload_n 0, 1) := by decide +kernel
theorem dX12_advances_2 : decode cX12_advances 2 = .ok (.getfield 70, 3) := by decide +kernel
theorem dX12_advances_5 : decode cX12_advances 5 = .ok (.invokevirtual 73, 3) := by decide +kernel
theorem dX12_advances_8 : decode cX12_advances 8 = .ok (.bipush 32, 2) := by decide +kernel
theorem dX12_advances_10 : decode cX12_advances 10 = .ok (.if_icmp .ne 16, 3) := by decide +kernel
theorem dX12_advances_13 : decode cX12_advances 13 = .ok (.aload_n 0, 1) := by decide +kernel
theorem dX12_advances_14 : decode cX12_advances 14 = .ok (.dup, 1) := by decide +kernel
theorem dX12_advances_15 : decode cX12_advances 15 = .ok (.getfield 70, 3) := by decide +kernel
theorem dX12_advances_18 : decode cX12_advances 18 = .ok (.iconst 1, 1) := by decide +kernel
theorem dX12_advances_19 : decode cX12_advances 19 = .ok (.iadd, 1) := by decide +kernel
theorem dX12_advances_20 : decode cX12_advances 20 = .ok (.putfield 70, 3) := by decide +kernel
theorem dX12_advances_23 : decode cX12_advances 23 = .ok (.goto (-23), 3) := by decide +kernel
theorem dX12_advances_26 : decode cX12_advances 26 = .ok (.aload_n 0, 1) := by decide +kernel
theorem dX12_advances_27 : decode cX12_advances 27 = .ok (.aload_n 0, 1) := by decide +kernel
theorem dX12_advances_28 : decode cX12_advances 28 = .ok (.getfield 70, 3) := by decide +kernel
theorem dX12_advances_31 : decode cX12_advances 31 = .ok (.putfield 77, 3) := by decide +kernel
theorem dX12_advances_34 : decode cX12_advances 34 = .ok (.aload_n 0, 1) := by decide +kernel
theorem dX12_advances_35 : decode cX12_advances 35 = .ok (.aload_n 0, 1) := by decide +kernel
theorem dX12_advances_36 : decode cX12_advances 36 = .ok (.getfield 70, 3) := by decide +kernel
theorem dX12_advances_39 : decode cX12_advances 39 = .ok (.invokevirtual 73, 3) := by decide +kernel
theorem dX12_advances_42 : decode cX12_advances 42 = .ok (.istore_n 1, 1) := by decide +kernel
theorem dX12_advances_43 : decode cX12_advances 43 = .ok (.iload_n 1, 1) := by decide +kernel
theorem dX12_advances_44 : decode cX12_advances 44 = .ok (.ifCond .ge 11, 3) := by decide +kernel
theorem dX12_advances_47 : decode cX12_advances 47 = .ok (.aload_n 0, 1) := by decide +kernel
theorem dX12_advances_48 : decode cX12_advances 48 = .ok (.iconst 0, 1) := by decide +kernel
theorem dX12_advances_49 : decode cX12_advances 49 = .ok (.putfield 80, 3) := by decide +kernel
theorem dX12_advances_52 : decode cX12_advances 52 = .ok (.goto 183, 3) := by decide +kernel
theorem dX12_advances_55 : decode cX12_advances 55 = .ok (.iload_n 1, 1) := by decide +kernel
theorem dX12_advances_56 : decode cX12_advances 56 = .ok (.bipush 48, 2) := by decide +kernel
theorem dX12_advances_58 : decode cX12_advances 58 = .ok (.bipush 57, 2) := by decide +kernel
theorem dX12_advances_60 : decode cX12_advances 60 = .ok (.invokestatic 63, 3) := by decide +kernel
theorem dX12_advances_63 : decode cX12_advances 63 = .ok (.ifCond .eq 120, 3) := by decide +kernel
theorem dX12_advances_66 : decode cX12_advances 66 = .ok (.aload_n 0, 1) := by decide +kernel
theorem dX12_advances_67 : decode cX12_advances 67 = .ok (.iconst 0, 1) := by decide +kernel
theorem dX12_advances_68 : decode cX12_advances 68 = .ok (.putfield 83, 3) := by decide +kernel
theorem dX12_advances_71 : decode cX12_advances 71 = .ok (.aload_n 0, 1) := by decide +kernel
theorem dX12_advances_72 : decode cX12_advances 72 = .ok (.aload_n 0, 1) := by decide +kernel
theorem dX12_advances_73 : decode cX12_advances 73 = .ok (.getfield 70, 3) := by decide +kernel
theorem dX12_advances_76 : decode cX12_advances 76 = .ok (.invokevirtual 73, 3) := by decide +kernel
theorem dX12_advances_79 : decode cX12_advances 79 = .ok (.bipush 48, 2) := by decide +kernel
theorem dX12_advances_81 : decode cX12_advances 81 = .ok (.bipush 57, 2) := by decide +kernel
theorem dX12_advances_83 : decode cX12_advances 83 = .ok (.invokestatic 63, 3) := by decide +kernel
theorem dX12_advances_86 : decode cX12_advances 86 = .ok (.ifCond .eq 56, 3) := by decide +kernel
theorem dX12_advances_89 : decode cX12_advances 89 = .ok (.aload_n 0, 1) := by decide +kernel
theorem dX12_advances_90 : decode cX12_advances 90 = .ok (.aload_n 0, 1) := by decide +kernel
theorem dX12_advances_91 : decode cX12_advances 91 = .ok (.getfield 83, 3) := by decide +kernel
theorem dX12_advances_94 : decode cX12_advances 94 = .ok (.sipush 200, 3) := by decide +kernel
theorem dX12_advances_97 : decode cX12_advances 97 = .ok (.if_icmp .le 10, 3) := by decide +kernel
theorem dX12_advances_100 : decode cX12_advances 100 = .ok (.aload_n 0, 1) := by decide +kernel
theorem dX12_advances_101 : decode cX12_advances 101 = .ok (.getfield 83, 3) := by decide +kernel
theorem dX12_advances_104 : decode cX12_advances 104 = .ok (.goto 22, 3) := by decide +kernel
theorem dX12_advances_107 : decode cX12_advances 107 = .ok (.bipush 10, 2) := by decide +kernel
theorem dX12_advances_109 : decode cX12_advances 109 = .ok (.aload_n 0, 1) := by decide +kernel
theorem dX12_advances_110 : decode cX12_advances 110 = .ok (.getfield 83, 3) := by decide +kernel
theorem dX12_advances_113 : decode cX12_advances 113 = .ok (.imul, 1) := by decide +kernel
theorem dX12_advances_114 : decode cX12_advances 114 = .ok (.aload_n 0, 1) := by decide +kernel
theorem dX12_advances_115 : decode cX12_advances 115 = .ok (.aload_n 0, 1) := by decide +kernel
theorem dX12_advances_116 : decode cX12_advances 116 = .ok (.getfield 70, 3) := by decide +kernel
theorem dX12_advances_119 : decode cX12_advances 119 = .ok (.invokevirtual 73, 3) := by decide +kernel
theorem dX12_advances_122 : decode cX12_advances 122 = .ok (.iadd, 1) := by decide +kernel
theorem dX12_advances_123 : decode cX12_advances 123 = .ok (.bipush 48, 2) := by decide +kernel
theorem dX12_advances_125 : decode cX12_advances 125 = .ok (.isub, 1) := by decide +kernel
theorem dX12_advances_126 : decode cX12_advances 126 = .ok (.putfield 83, 3) := by decide +kernel
theorem dX12_advances_129 : decode cX12_advances 129 = .ok (.aload_n 0, 1) := by decide +kernel
theorem dX12_advances_130 : decode cX12_advances 130 = .ok (.dup, 1) := by decide +kernel
theorem dX12_advances_131 : decode cX12_advances 131 = .ok (.getfield 70, 3) := by decide +kernel
theorem dX12_advances_134 : decode cX12_advances 134 = .ok (.iconst 1, 1) := by decide +kernel
theorem dX12_advances_135 : decode cX12_advances 135 = .ok (.iadd, 1) := by decide +kernel
theorem dX12_advances_136 : decode cX12_advances 136 = .ok (.putfield 70, 3) := by decide +kernel
theorem dX12_advances_139 : decode cX12_advances 139 = .ok (.goto (-68), 3) := by decide +kernel
theorem dX12_advances_142 : decode cX12_advances 142 = .ok (.aload_n 0, 1) := by decide +kernel
theorem dX12_advances_143 : decode cX12_advances 143 = .ok (.aload_n 0, 1) := by decide +kernel
theorem dX12_advances_144 : decode cX12_advances 144 = .ok (.getfield 83, 3) := by decide +kernel
theorem dX12_advances_147 : decode cX12_advances 147 = .ok (.sipush 200, 3) := by decide +kernel
theorem dX12_advances_150 : decode cX12_advances 150 = .ok (.if_icmp .gt 22, 3) := by decide +kernel
theorem dX12_advances_153 : decode cX12_advances 153 = .ok (.iload_n 1, 1) := by decide +kernel
theorem dX12_advances_154 : decode cX12_advances 154 = .ok (.bipush 48, 2) := by decide +kernel
theorem dX12_advances_156 : decode cX12_advances 156 = .ok (.if_icmp .ne 20, 3) := by decide +kernel
theorem dX12_advances_159 : decode cX12_advances 159 = .ok (.aload_n 0, 1) := by decide +kernel
theorem dX12_advances_160 : decode cX12_advances 160 = .ok (.getfield 70, 3) := by decide +kernel
theorem dX12_advances_163 : decode cX12_advances 163 = .ok (.aload_n 0, 1) := by decide +kernel
theorem dX12_advances_164 : decode cX12_advances 164 = .ok (.getfield 77, 3) := by decide +kernel
theorem dX12_advances_167 : decode cX12_advances 167 = .ok (.isub, 1) := by decide +kernel
theorem dX12_advances_168 : decode cX12_advances 168 = .ok (.iconst 1, 1) := by decide +kernel
theorem dX12_advances_169 : decode cX12_advances 169 = .ok (.if_icmp .le 7, 3) := by decide +kernel
theorem dX12_advances_172 : decode cX12_advances 172 = .ok (.iconst 4, 1) := by decide +kernel
theorem dX12_advances_173 : decode cX12_advances 173 = .ok (.goto 4, 3) := by decide +kernel
theorem dX12_advances_176 : decode cX12_advances 176 = .ok (.iconst 2, 1) := by decide +kernel
theorem dX12_advances_177 : decode cX12_advances 177 = .ok (.putfield 80, 3) := by decide +kernel
theorem dX12_advances_180 : decode cX12_advances 180 = .ok (.goto 55, 3) := by decide +kernel
theorem dX12_advances_183 : decode cX12_advances 183 = .ok (.aload_n 0, 1) := by decide +kernel
theorem dX12_advances_184 : decode cX12_advances 184 = .ok (.dup, 1) := by decide +kernel
theorem dX12_advances_185 : decode cX12_advances 185 = .ok (.getfield 70, 3) := by decide +kernel
theorem dX12_advances_188 : decode cX12_advances 188 = .ok (.iconst 1, 1) := by decide +kernel
theorem dX12_advances_189 : decode cX12_advances 189 = .ok (.iadd, 1) := by decide +kernel
theorem dX12_advances_190 : decode cX12_advances 190 = .ok (.putfield 70, 3) := by decide +kernel
theorem dX12_advances_193 : decode cX12_advances 193 = .ok (.aload_n 0, 1) := by decide +kernel
theorem dX12_advances_194 : decode cX12_advances 194 = .ok (.iload_n 1, 1) := by decide +kernel
theorem dX12_advances_195 : decode cX12_advances 195 = .ok (.putfield 83, 3) := by decide +kernel
theorem dX12_advances_198 : decode cX12_advances 198 = .ok (.aload_n 0, 1) := by decide +kernel
theorem dX12_advances_199 : decode cX12_advances 199 = .ok (.iload_n 1, 1) := by decide +kernel
theorem dX12_advances_200 : decode cX12_advances 200 = .ok (.bipush 59, 2) := by decide +kernel
theorem dX12_advances_202 : decode cX12_advances 202 = .ok (.if_icmp .ne 7, 3) := by decide +kernel
theorem dX12_advances_205 : decode cX12_advances 205 = .ok (.iconst 3, 1) := by decide +kernel
theorem dX12_advances_206 : decode cX12_advances 206 = .ok (.goto 26, 3) := by decide +kernel
theorem dX12_advances_209 : decode cX12_advances 209 = .ok (.iload_n 1, 1) := by decide +kernel
theorem dX12_advances_210 : decode cX12_advances 210 = .ok (.bipush 112, 2) := by decide +kernel
theorem dX12_advances_212 : decode cX12_advances 212 = .ok (.if_icmp .eq 15, 3) := by decide +kernel
theorem dX12_advances_215 : decode cX12_advances 215 = .ok (.iload_n 1, 1) := by decide +kernel
theorem dX12_advances_216 : decode cX12_advances 216 = .ok (.bipush 99, 2) := by decide +kernel
theorem dX12_advances_218 : decode cX12_advances 218 = .ok (.if_icmp .eq 9, 3) := by decide +kernel
theorem dX12_advances_221 : decode cX12_advances 221 = .ok (.iload_n 1, 1) := by decide +kernel
theorem dX12_advances_222 : decode cX12_advances 222 = .ok (.bipush 119, 2) := by decide +kernel
theorem dX12_advances_224 : decode cX12_advances 224 = .ok (.if_icmp .ne 7, 3) := by decide +kernel
theorem dX12_advances_227 : decode cX12_advances 227 = .ok (.iconst 1, 1) := by decide +kernel
theorem dX12_advances_228 : decode cX12_advances 228 = .ok (.goto 4, 3) := by decide +kernel
