theorem dX12_advances_231 : decode cX12_advances 231 = .ok (.iconst 4, 1) := by decide +kernel
theorem dX12_advances_232 : decode cX12_advances 232 = .ok (.putfield 80, 3) := by decide +kernel
theorem dX12_advances_235 : decode cX12_advances 235 = .ok (.return_, 1) := by decide +kernel
theorem dX12_isWell_0 : decode cX12_isWell 0 = .ok (.aload_n 0, 1) := by decide +kernel
theorem dX12_isWell_1 : decode cX12_isWell 1 = .ok (.getfield 86, 3) := by decide +kernel
theorem dX12_isWell_4 : decode cX12_isWell 4 = .ok (.ifCond .ge 7, 3) := by decide +kernel
theorem dX12_isWell_7 : decode cX12_isWell 7 = .ok (.iconst 1, 1) := by decide +kernel
theorem dX12_isWell_8 : decode cX12_isWell 8 = .ok (.goto 4, 3) := by decide +kernel
theorem dX12_isWell_11 : decode cX12_isWell 11 = .ok (.iconst 0, 1) := by decide +kernel
theorem dX12_isWell_12 : decode cX12_isWell 12 = .ok (.ireturn, 1) := by decide +kernel
theorem dX12_takes_0 : decode cX12_takes 0 = .ok (.aload_n 0, 1) := by decide +kernel
theorem dX12_takes_1 : decode cX12_takes 1 = .ok (.invokevirtual 89, 3) := by decide +kernel
theorem dX12_takes_4 : decode cX12_takes 4 = .ok (.ifCond .ne 5, 3) := by decide +kernel
theorem dX12_takes_7 : decode cX12_takes 7 = .ok (.iconst 0, 1) := by decide +kernel
theorem dX12_takes_8 : decode cX12_takes 8 = .ok (.ireturn, 1) := by decide +kernel
theorem dX12_takes_9 : decode cX12_takes 9 = .ok (.iload_n 1, 1) := by decide +kernel
theorem dX12_takes_10 : decode cX12_takes 10 = .ok (.ifCond .ne 13, 3) := by decide +kernel
theorem dX12_takes_13 : decode cX12_takes 13 = .ok (.aload_n 0, 1) := by decide +kernel
theorem dX12_takes_14 : decode cX12_takes 14 = .ok (.aload_n 0, 1) := by decide +kernel
theorem dX12_takes_15 : decode cX12_takes 15 = .ok (.getfield 77, 3) := by decide +kernel
theorem dX12_takes_18 : decode cX12_takes 18 = .ok (.putfield 86, 3) := by decide +kernel
theorem dX12_takes_21 : decode cX12_takes 21 = .ok (.iconst 0, 1) := by decide +kernel
theorem dX12_takes_22 : decode cX12_takes 22 = .ok (.ireturn, 1) := by decide +kernel
theorem dX12_takes_23 : decode cX12_takes 23 = .ok (.aload_n 0, 1) := by decide +kernel
theorem dX12_takes_24 : decode cX12_takes 24 = .ok (.getfield 83, 3) := by decide +kernel
theorem dX12_takes_27 : decode cX12_takes 27 = .ok (.istore_n 2, 1) := by decide +kernel
theorem dX12_takes_28 : decode cX12_takes 28 = .ok (.aload_n 0, 1) := by decide +kernel
theorem dX12_takes_29 : decode cX12_takes 29 = .ok (.invokevirtual 93, 3) := by decide +kernel
theorem dX12_takes_32 : decode cX12_takes 32 = .ok (.iload_n 2, 1) := by decide +kernel
theorem dX12_takes_33 : decode cX12_takes 33 = .ok (.ireturn, 1) := by decide +kernel
theorem dX12_number_0 : decode cX12_number 0 = .ok (.aload_n 0, 1) := by decide +kernel
theorem dX12_number_1 : decode cX12_number 1 = .ok (.aload_n 0, 1) := by decide +kernel
theorem dX12_number_2 : decode cX12_number 2 = .ok (.getfield 80, 3) := by decide +kernel
theorem dX12_number_5 : decode cX12_number 5 = .ok (.iconst 2, 1) := by decide +kernel
theorem dX12_number_6 : decode cX12_number 6 = .ok (.if_icmp .ne 19, 3) := by decide +kernel
theorem dX12_number_9 : decode cX12_number 9 = .ok (.aload_n 0, 1) := by decide +kernel
theorem dX12_number_10 : decode cX12_number 10 = .ok (.getfield 83, 3) := by decide +kernel
theorem dX12_number_13 : decode cX12_number 13 = .ok (.iload_n 1, 1) := by decide +kernel
theorem dX12_number_14 : decode cX12_number 14 = .ok (.iload_n 2, 1) := by decide +kernel
theorem dX12_number_15 : decode cX12_number 15 = .ok (.invokestatic 63, 3) := by decide +kernel
theorem dX12_number_18 : decode cX12_number 18 = .ok (.ifCond .eq 7, 3) := by decide +kernel
theorem dX12_number_21 : decode cX12_number 21 = .ok (.iconst 1, 1) := by decide +kernel
theorem dX12_number_22 : decode cX12_number 22 = .ok (.goto 4, 3) := by decide +kernel
theorem dX12_number_25 : decode cX12_number 25 = .ok (.iconst 0, 1) := by decide +kernel
theorem dX12_number_26 : decode cX12_number 26 = .ok (.invokevirtual 96, 3) := by decide +kernel
theorem dX12_number_29 : decode cX12_number 29 = .ok (.ireturn, 1) := by decide +kernel
theorem dX12_isNewYard_0 : decode cX12_isNewYard 0 = .ok (.iconst 1, 1) := by decide +kernel
theorem dX12_isNewYard_1 : decode cX12_isNewYard 1 = .ok (.istore_n 1, 1) := by decide +kernel
theorem dX12_isNewYard_2 : decode cX12_isNewYard 2 = .ok (.iconst 0, 1) := by decide +kernel
theorem dX12_isNewYard_3 : decode cX12_isNewYard 3 = .ok (.istore_n 2, 1) := by decide +kernel
theorem dX12_isNewYard_4 : decode cX12_isNewYard 4 = .ok (.iload_n 2, 1) := by decide +kernel
theorem dX12_isNewYard_5 : decode cX12_isNewYard 5 = .ok (.aload_n 0, 1) := by decide +kernel
theorem dX12_isNewYard_6 : decode cX12_isNewYard 6 = .ok (.getfield 13, 3) := by decide +kernel
theorem dX12_isNewYard_9 : decode cX12_isNewYard 9 = .ok (.iconst 5, 1) := by decide +kernel
theorem dX12_isNewYard_10 : decode cX12_isNewYard 10 = .ok (.iaload, 1) := by decide +kernel
theorem dX12_isNewYard_11 : decode cX12_isNewYard 11 = .ok (.if_icmp .ge 34, 3) := by decide +kernel
theorem dX12_isNewYard_14 : decode cX12_isNewYard 14 = .ok (.iload_n 1, 1) := by decide +kernel
theorem dX12_isNewYard_15 : decode cX12_isNewYard 15 = .ok (.ifCond .eq 22, 3) := by decide +kernel
theorem dX12_isNewYard_18 : decode cX12_isNewYard 18 = .ok (.aload_n 0, 1) := by decide +kernel
theorem dX12_isNewYard_19 : decode cX12_isNewYard 19 = .ok (.getfield 25, 3) := by decide +kernel
theorem dX12_isNewYard_22 : decode cX12_isNewYard 22 = .ok (.iconst 4, 1) := by decide +kernel
theorem dX12_isNewYard_23 : decode cX12_isNewYard 23 = .ok (.iload_n 2, 1) := by decide +kernel
theorem dX12_isNewYard_24 : decode cX12_isNewYard 24 = .ok (.iadd, 1) := by decide +kernel
theorem dX12_isNewYard_25 : decode cX12_isNewYard 25 = .ok (.iaload, 1) := by decide +kernel
theorem dX12_isNewYard_26 : decode cX12_isNewYard 26 = .ok (.aload_n 0, 1) := by decide +kernel
theorem dX12_isNewYard_27 : decode cX12_isNewYard 27 = .ok (.getfield 83, 3) := by decide +kernel
theorem dX12_isNewYard_30 : decode cX12_isNewYard 30 = .ok (.if_icmp .eq 7, 3) := by decide +kernel
theorem dX12_isNewYard_33 : decode cX12_isNewYard 33 = .ok (.iconst 1, 1) := by decide +kernel
theorem dX12_isNewYard_34 : decode cX12_isNewYard 34 = .ok (.goto 4, 3) := by decide +kernel
theorem dX12_isNewYard_37 : decode cX12_isNewYard 37 = .ok (.iconst 0, 1) := by decide +kernel
theorem dX12_isNewYard_38 : decode cX12_isNewYard 38 = .ok (.istore_n 1, 1) := by decide +kernel
theorem dX12_isNewYard_39 : decode cX12_isNewYard 39 = .ok (.iinc 2 1, 3) := by decide +kernel
theorem dX12_isNewYard_42 : decode cX12_isNewYard 42 = .ok (.goto (-38), 3) := by decide +kernel
theorem dX12_isNewYard_45 : decode cX12_isNewYard 45 = .ok (.iload_n 1, 1) := by decide +kernel
theorem dX12_isNewYard_46 : decode cX12_isNewYard 46 = .ok (.ireturn, 1) := by decide +kernel
theorem dX12_readsItem_0 : decode cX12_readsItem 0 = .ok (.iload_n 1, 1) := by decide +kernel
theorem dX12_readsItem_1 : decode cX12_readsItem 1 = .ok (.bipush 112, 2) := by decide +kernel
theorem dX12_readsItem_3 : decode cX12_readsItem 3 = .ok (.if_icmp .ne 64, 3) := by decide +kernel
theorem dX12_readsItem_6 : decode cX12_readsItem 6 = .ok (.bipush 6, 2) := by decide +kernel
theorem dX12_readsItem_8 : decode cX12_readsItem 8 = .ok (.aload_n 0, 1) := by decide +kernel
theorem dX12_readsItem_9 : decode cX12_readsItem 9 = .ok (.getfield 13, 3) := by decide +kernel
theorem dX12_readsItem_12 : decode cX12_readsItem 12 = .ok (.iconst 3, 1) := by decide +kernel
theorem dX12_readsItem_13 : decode cX12_readsItem 13 = .ok (.iaload, 1) := by decide +kernel
theorem dX12_readsItem_14 : decode cX12_readsItem 14 = .ok (.iadd, 1) := by decide +kernel
theorem dX12_readsItem_15 : decode cX12_readsItem 15 = .ok (.istore_n 2, 1) := by decide +kernel
theorem dX12_readsItem_16 : decode cX12_readsItem 16 = .ok (.aload_n 0, 1) := by decide +kernel
theorem dX12_readsItem_17 : decode cX12_readsItem 17 = .ok (.getfield 16, 3) := by decide +kernel
theorem dX12_readsItem_20 : decode cX12_readsItem 20 = .ok (.iload_n 2, 1) := by decide +kernel
theorem dX12_readsItem_21 : decode cX12_readsItem 21 = .ok (.aload_n 0, 1) := by decide +kernel
theorem dX12_readsItem_22 : decode cX12_readsItem 22 = .ok (.iconst 1, 1) := by decide +kernel
theorem dX12_readsItem_23 : decode cX12_readsItem 23 = .ok (.bipush 9, 2) := by decide +kernel
theorem dX12_readsItem_25 : decode cX12_readsItem 25 = .ok (.invokevirtual 100, 3) := by decide +kernel
theorem dX12_readsItem_28 : decode cX12_readsItem 28 = .ok (.iastore, 1) := by decide +kernel
theorem dX12_readsItem_29 : decode cX12_readsItem 29 = .ok (.aload_n 0, 1) := by decide +kernel
theorem dX12_readsItem_30 : decode cX12_readsItem 30 = .ok (.getfield 19, 3) := by decide +kernel
theorem dX12_readsItem_33 : decode cX12_readsItem 33 = .ok (.iload_n 2, 1) := by decide +kernel
theorem dX12_readsItem_34 : decode cX12_readsItem 34 = .ok (.aload_n 0, 1) := by decide +kernel
theorem dX12_readsItem_35 : decode cX12_readsItem 35 = .ok (.iconst 1, 1) := by decide +kernel
theorem dX12_readsItem_36 : decode cX12_readsItem 36 = .ok (.bipush 30, 2) := by decide +kernel
theorem dX12_readsItem_38 : decode cX12_readsItem 38 = .ok (.invokevirtual 100, 3) := by decide +kernel
theorem dX12_readsItem_41 : decode cX12_readsItem 41 = .ok (.iastore, 1) := by decide +kernel
theorem dX12_readsItem_42 : decode cX12_readsItem 42 = .ok (.aload_n 0, 1) := by decide +kernel
theorem dX12_readsItem_43 : decode cX12_readsItem 43 = .ok (.getfield 22, 3) := by decide +kernel
theorem dX12_readsItem_46 : decode cX12_readsItem 46 = .ok (.iload_n 2, 1) := by decide +kernel
theorem dX12_readsItem_47 : decode cX12_readsItem 47 = .ok (.aload_n 0, 1) := by decide +kernel
theorem dX12_readsItem_48 : decode cX12_readsItem 48 = .ok (.iconst 0, 1) := by decide +kernel
theorem dX12_readsItem_49 : decode cX12_readsItem 49 = .ok (.iconst 3, 1) := by decide +kernel
theorem dX12_readsItem_50 : decode cX12_readsItem 50 = .ok (.invokevirtual 100, 3) := by decide +kernel
theorem dX12_readsItem_53 : decode cX12_readsItem 53 = .ok (.iastore, 1) := by decide +kernel
theorem dX12_readsItem_54 : decode cX12_readsItem 54 = .ok (.aload_n 0, 1) := by decide +kernel
theorem dX12_readsItem_55 : decode cX12_readsItem 55 = .ok (.getfield 13, 3) := by decide +kernel
theorem dX12_readsItem_58 : decode cX12_readsItem 58 = .ok (.iconst 3, 1) := by decide +kernel
theorem dX12_readsItem_59 : decode cX12_readsItem 59 = .ok (.dup2, 1) := by decide +kernel
theorem dX12_readsItem_60 : decode cX12_readsItem 60 = .ok (.iaload, 1) := by decide +kernel
theorem dX12_readsItem_61 : decode cX12_readsItem 61 = .ok (.iconst 1, 1) := by decide +kernel
theorem dX12_readsItem_62 : decode cX12_readsItem 62 = .ok (.iadd, 1) := by decide +kernel
theorem dX12_readsItem_63 : decode cX12_readsItem 63 = .ok (.iastore, 1) := by decide +kernel
theorem dX12_readsItem_64 : decode cX12_readsItem 64 = .ok (.goto 113, 3) := by decide +kernel
theorem dX12_readsItem_67 : decode cX12_readsItem 67 = .ok (.iload_n 1, 1) := by decide +kernel
theorem dX12_readsItem_68 : decode cX12_readsItem 68 = .ok (.bipush 99, 2) := by decide +kernel
theorem dX12_readsItem_70 : decode cX12_readsItem 70 = .ok (.if_icmp .ne 87, 3) := by decide +kernel
theorem dX12_readsItem_73 : decode cX12_readsItem 73 = .ok (.aload_n 0, 1) := by decide +kernel
theorem dX12_readsItem_74 : decode cX12_readsItem 74 = .ok (.getfield 25, 3) := by decide +kernel
theorem dX12_readsItem_77 : decode cX12_readsItem 77 = .ok (.iconst 4, 1) := by decide +kernel
theorem dX12_readsItem_78 : decode cX12_readsItem 78 = .ok (.aload_n 0, 1) := by decide +kernel
theorem dX12_readsItem_79 : decode cX12_readsItem 79 = .ok (.getfield 13, 3) := by decide +kernel
theorem dX12_readsItem_82 : decode cX12_readsItem 82 = .ok (.iconst 5, 1) := by decide +kernel
theorem dX12_readsItem_83 : decode cX12_readsItem 83 = .ok (.iaload, 1) := by decide +kernel
theorem dX12_readsItem_84 : decode cX12_readsItem 84 = .ok (.iadd, 1) := by decide +kernel
theorem dX12_readsItem_85 : decode cX12_readsItem 85 = .ok (.aload_n 0, 1) := by decide +kernel
theorem dX12_readsItem_86 : decode cX12_readsItem 86 = .ok (.aload_n 0, 1) := by decide +kernel
theorem dX12_readsItem_87 : decode cX12_readsItem 87 = .ok (.getfield 80, 3) := by decide +kernel
theorem dX12_readsItem_90 : decode cX12_readsItem 90 = .ok (.iconst 2, 1) := by decide +kernel
theorem dX12_readsItem_91 : decode cX12_readsItem 91 = .ok (.if_icmp .ne 28, 3) := by decide +kernel
theorem dX12_readsItem_94 : decode cX12_readsItem 94 = .ok (.aload_n 0, 1) := by decide +kernel
theorem dX12_readsItem_95 : decode cX12_readsItem 95 = .ok (.getfield 83, 3) := by decide +kernel
theorem dX12_readsItem_98 : decode cX12_readsItem 98 = .ok (.iconst 0, 1) := by decide +kernel
theorem dX12_readsItem_99 : decode cX12_readsItem 99 = .ok (.sipush 199, 3) := by decide +kernel
theorem dX12_readsItem_102 : decode cX12_readsItem 102 = .ok (.invokestatic 63, 3) := by decide +kernel
theorem dX12_readsItem_105 : decode cX12_readsItem 105 = .ok (.ifCond .eq 14, 3) := by decide +kernel
theorem dX12_readsItem_108 : decode cX12_readsItem 108 = .ok (.aload_n 0, 1) := by decide +kernel
theorem dX12_readsItem_109 : decode cX12_readsItem 109 = .ok (.invokevirtual 104, 3) := by decide +kernel
theorem dX12_readsItem_112 : decode cX12_readsItem 112 = .ok (.ifCond .eq 7, 3) := by decide +kernel
theorem dX12_readsItem_115 : decode cX12_readsItem 115 = .ok (.iconst 1, 1) := by decide +kernel
theorem dX12_readsItem_116 : decode cX12_readsItem 116 = .ok (.goto 4, 3) := by decide +kernel
theorem dX12_readsItem_119 : decode cX12_readsItem 119 = .ok (.iconst 0, 1) := by decide +kernel
theorem dX12_readsItem_120 : decode cX12_readsItem 120 = .ok (.invokevirtual 96, 3) := by decide +kernel
theorem dX12_readsItem_123 : decode cX12_readsItem 123 = .ok (.iastore, 1) := by decide +kernel
theorem dX12_readsItem_124 : decode cX12_readsItem 124 = .ok (.aload_n 0, 1) := by decide +kernel
theorem dX12_readsItem_125 : decode cX12_readsItem 125 = .ok (.getfield 28, 3) := by decide +kernel
theorem dX12_readsItem_128 : decode cX12_readsItem 128 = .ok (.iconst 4, 1) := by decide +kernel
theorem dX12_readsItem_129 : decode cX12_readsItem 129 = .ok (.aload_n 0, 1) := by decide +kernel
theorem dX12_readsItem_130 : decode cX12_readsItem 130 = .ok (.getfield 13, 3) := by decide +kernel
theorem dX12_readsItem_133 : decode cX12_readsItem 133 = .ok (.iconst 5, 1) := by decide +kernel
theorem dX12_readsItem_134 : decode cX12_readsItem 134 = .ok (.iaload, 1) := by decide +kernel
theorem dX12_readsItem_135 : decode cX12_readsItem 135 = .ok (.iadd, 1) := by decide +kernel
theorem dX12_readsItem_136 : decode cX12_readsItem 136 = .ok (.aload_n 0, 1) := by decide +kernel
theorem dX12_readsItem_137 : decode cX12_readsItem 137 = .ok (.iconst 0, 1) := by decide +kernel
theorem dX12_readsItem_138 : decode cX12_readsItem 138 = .ok (.bipush 8, 2) := by decide +kernel
theorem dX12_readsItem_140 : decode cX12_readsItem 140 = .ok (.invokevirtual 100, 3) := by decide +kernel
theorem dX12_readsItem_143 : decode cX12_readsItem 143 = .ok (.iastore, 1) := by decide +kernel
theorem dX12_readsItem_144 : decode cX12_readsItem 144 = .ok (.aload_n 0, 1) := by decide +kernel
theorem dX12_readsItem_145 : decode cX12_readsItem 145 = .ok (.getfield 13, 3) := by decide +kernel
theorem dX12_readsItem_148 : decode cX12_readsItem 148 = .ok (.iconst 5, 1) := by decide +kernel
theorem dX12_readsItem_149 : decode cX12_readsItem 149 = .ok (.dup2, 1) := by decide +kernel
theorem dX12_readsItem_150 : decode cX12_readsItem 150 = .ok (.iaload, 1) := by decide +kernel
theorem dX12_readsItem_151 : decode cX12_readsItem 151 = .ok (.iconst 1, 1) := by decide +kernel
theorem dX12_readsItem_152 : decode cX12_readsItem 152 = .ok (.iadd, 1) := by decide +kernel
theorem dX12_readsItem_153 : decode cX12_readsItem 153 = .ok (.iastore, 1) := by decide +kernel
theorem dX12_readsItem_154 : decode cX12_readsItem 154 = .ok (.goto 23, 3) := by decide +kernel
theorem dX12_readsItem_157 : decode cX12_readsItem 157 = .ok (.aload_n 0, 1) := by decide +kernel
theorem dX12_readsItem_158 : decode cX12_readsItem 158 = .ok (.getfield 13, 3) := by decide +kernel
theorem dX12_readsItem_161 : decode cX12_readsItem 161 = .ok (.iconst 4, 1) := by decide +kernel
theorem dX12_readsItem_162 : decode cX12_readsItem 162 = .ok (.aload_n 0, 1) := by decide +kernel
theorem dX12_readsItem_163 : decode cX12_readsItem 163 = .ok (.bipush 10, 2) := by decide +kernel
theorem dX12_readsItem_165 : decode cX12_readsItem 165 = .ok (.sipush 200, 3) := by decide +kernel
theorem dX12_readsItem_168 : decode cX12_readsItem 168 = .ok (.invokevirtual 100, 3) := by decide +kernel
theorem dX12_readsItem_171 : decode cX12_readsItem 171 = .ok (.iastore, 1) := by decide +kernel
theorem dX12_readsItem_172 : decode cX12_readsItem 172 = .ok (.aload_n 0, 1) := by decide +kernel
theorem dX12_readsItem_173 : decode cX12_readsItem 173 = .ok (.iconst 1, 1) := by decide +kernel
theorem dX12_readsItem_174 : decode cX12_readsItem 174 = .ok (.putfield 107, 3) := by decide +kernel
theorem dX12_readsItem_177 : decode cX12_readsItem 177 = .ok (.return_, 1) := by decide +kernel
theorem dX12_ferry_0 : decode cX12_ferry 0 = .ok (.aload_n 0, 1) := by decide +kernel
theorem dX12_ferry_1 : decode cX12_ferry 1 = .ok (.iconst 0, 1) := by decide +kernel
theorem dX12_ferry_2 : decode cX12_ferry 2 = .ok (.putfield 59, 3) := by decide +kernel
theorem dX12_ferry_5 : decode cX12_ferry 5 = .ok (.aload_n 0, 1) := by decide +kernel
theorem dX12_ferry_6 : decode cX12_ferry 6 = .ok (.iconst (-1), 1) := by decide +kernel
theorem dX12_ferry_7 : decode cX12_ferry 7 = .ok (.putfield 86, 3) := by decide +kernel
theorem dX12_ferry_10 : decode cX12_ferry 10 = .ok (.aload_n 0, 1) := by decide +kernel
theorem dX12_ferry_11 : decode cX12_ferry 11 = .ok (.iconst 0, 1) := by decide +kernel
theorem dX12_ferry_12 : decode cX12_ferry 12 = .ok (.putfield 70, 3) := by decide +kernel
theorem dX12_ferry_15 : decode cX12_ferry 15 = .ok (.iconst 0, 1) := by decide +kernel
theorem dX12_ferry_16 : decode cX12_ferry 16 = .ok (.istore_n 1, 1) := by decide +kernel
theorem dX12_ferry_17 : decode cX12_ferry 17 = .ok (.aload_n 0, 1) := by decide +kernel
theorem dX12_ferry_18 : decode cX12_ferry 18 = .ok (.getfield 13, 3) := by decide +kernel
theorem dX12_ferry_21 : decode cX12_ferry 21 = .ok (.iconst 3, 1) := by decide +kernel
theorem dX12_ferry_22 : decode cX12_ferry 22 = .ok (.iconst 0, 1) := by decide +kernel
theorem dX12_ferry_23 : decode cX12_ferry 23 = .ok (.iastore, 1) := by decide +kernel
theorem dX12_ferry_24 : decode cX12_ferry 24 = .ok (.aload_n 0, 1) := by decide +kernel
theorem dX12_ferry_25 : decode cX12_ferry 25 = .ok (.getfield 13, 3) := by decide +kernel
theorem dX12_ferry_28 : decode cX12_ferry 28 = .ok (.iconst 4, 1) := by decide +kernel
theorem dX12_ferry_29 : decode cX12_ferry 29 = .ok (.bipush 60, 2) := by decide +kernel
theorem dX12_ferry_31 : decode cX12_ferry 31 = .ok (.iastore, 1) := by decide +kernel
theorem dX12_ferry_32 : decode cX12_ferry 32 = .ok (.aload_n 0, 1) := by decide +kernel
theorem dX12_ferry_33 : decode cX12_ferry 33 = .ok (.getfield 13, 3) := by decide +kernel
theorem dX12_ferry_36 : decode cX12_ferry 36 = .ok (.iconst 5, 1) := by decide +kernel
theorem dX12_ferry_37 : decode cX12_ferry 37 = .ok (.iconst 0, 1) := by decide +kernel
theorem dX12_ferry_38 : decode cX12_ferry 38 = .ok (.iastore, 1) := by decide +kernel
theorem dX12_ferry_39 : decode cX12_ferry 39 = .ok (.aload_n 0, 1) := by decide +kernel
theorem dX12_ferry_40 : decode cX12_ferry 40 = .ok (.iconst 0, 1) := by decide +kernel
theorem dX12_ferry_41 : decode cX12_ferry 41 = .ok (.putfield 107, 3) := by decide +kernel
theorem dX12_ferry_44 : decode cX12_ferry 44 = .ok (.aload_n 0, 1) := by decide +kernel
theorem dX12_ferry_45 : decode cX12_ferry 45 = .ok (.invokevirtual 93, 3) := by decide +kernel
theorem dX12_ferry_48 : decode cX12_ferry 48 = .ok (.aload_n 0, 1) := by decide +kernel
theorem dX12_ferry_49 : decode cX12_ferry 49 = .ok (.invokevirtual 89, 3) := by decide +kernel
theorem dX12_ferry_52 : decode cX12_ferry 52 = .ok (.ifCond .eq 116, 3) := by decide +kernel
theorem dX12_ferry_55 : decode cX12_ferry 55 = .ok (.aload_n 0, 1) := by decide +kernel
theorem dX12_ferry_56 : decode cX12_ferry 56 = .ok (.getfield 80, 3) := by decide +kernel
theorem dX12_ferry_59 : decode cX12_ferry 59 = .ok (.ifCond .eq 109, 3) := by decide +kernel
theorem dX12_ferry_62 : decode cX12_ferry 62 = .ok (.aload_n 0, 1) := by decide +kernel
theorem dX12_ferry_63 : decode cX12_ferry 63 = .ok (.aload_n 0, 1) := by decide +kernel
theorem dX12_ferry_64 : decode cX12_ferry 64 = .ok (.getfield 80, 3) := by decide +kernel
theorem dX12_ferry_67 : decode cX12_ferry 67 = .ok (.iconst 1, 1) := by decide +kernel
theorem dX12_ferry_68 : decode cX12_ferry 68 = .ok (.if_icmp .ne 59, 3) := by decide +kernel
theorem dX12_ferry_71 : decode cX12_ferry 71 = .ok (.aload_n 0, 1) := by decide +kernel
theorem dX12_ferry_72 : decode cX12_ferry 72 = .ok (.getfield 83, 3) := by decide +kernel
theorem dX12_ferry_75 : decode cX12_ferry 75 = .ok (.bipush 112, 2) := by decide +kernel
theorem dX12_ferry_77 : decode cX12_ferry 77 = .ok (.if_icmp .ne 17, 3) := by decide +kernel
theorem dX12_ferry_80 : decode cX12_ferry 80 = .ok (.aload_n 0, 1) := by decide +kernel
theorem dX12_ferry_81 : decode cX12_ferry 81 = .ok (.getfield 13, 3) := by decide +kernel
theorem dX12_ferry_84 : decode cX12_ferry 84 = .ok (.iconst 3, 1) := by decide +kernel
theorem dX12_ferry_85 : decode cX12_ferry 85 = .ok (.iaload, 1) := by decide +kernel
theorem dX12_ferry_86 : decode cX12_ferry 86 = .ok (.bipush 6, 2) := by decide +kernel
theorem dX12_ferry_88 : decode cX12_ferry 88 = .ok (.if_icmp .ge 39, 3) := by decide +kernel
theorem dX12_ferry_91 : decode cX12_ferry 91 = .ok (.goto 32, 3) := by decide +kernel
theorem dX12_ferry_94 : decode cX12_ferry 94 = .ok (.aload_n 0, 1) := by decide +kernel
theorem dX12_ferry_95 : decode cX12_ferry 95 = .ok (.getfield 83, 3) := by decide +kernel
theorem dX12_ferry_98 : decode cX12_ferry 98 = .ok (.bipush 99, 2) := by decide +kernel
theorem dX12_ferry_100 : decode cX12_ferry 100 = .ok (.if_icmp .ne 16, 3) := by decide +kernel
theorem dX12_ferry_103 : decode cX12_ferry 103 = .ok (.aload_n 0, 1) := by decide +kernel
theorem dX12_ferry_104 : decode cX12_ferry 104 = .ok (.getfield 13, 3) := by decide +kernel
theorem dX12_ferry_107 : decode cX12_ferry 107 = .ok (.iconst 5, 1) := by decide +kernel
theorem dX12_ferry_108 : decode cX12_ferry 108 = .ok (.iaload, 1) := by decide +kernel
theorem dX12_ferry_109 : decode cX12_ferry 109 = .ok (.iconst 4, 1) := by decide +kernel
theorem dX12_ferry_110 : decode cX12_ferry 110 = .ok (.if_icmp .ge 17, 3) := by decide +kernel
theorem dX12_ferry_113 : decode cX12_ferry 113 = .ok (.goto 10, 3) := by decide +kernel
theorem dX12_ferry_116 : decode cX12_ferry 116 = .ok (.aload_n 0, 1) := by decide +kernel
theorem dX12_ferry_117 : decode cX12_ferry 117 = .ok (.getfield 107, 3) := by decide +kernel
theorem dX12_ferry_120 : decode cX12_ferry 120 = .ok (.ifCond .ne 7, 3) := by decide +kernel
theorem dX12_ferry_123 : decode cX12_ferry 123 = .ok (.iconst 1, 1) := by decide +kernel
theorem dX12_ferry_124 : decode cX12_ferry 124 = .ok (.goto 4, 3) := by decide +kernel
theorem dX12_ferry_127 : decode cX12_ferry 127 = .ok (.iconst 0, 1) := by decide +kernel
theorem dX12_ferry_128 : decode cX12_ferry 128 = .ok (.invokevirtual 96, 3) := by decide +kernel
theorem dX12_ferry_131 : decode cX12_ferry 131 = .ok (.istore_n 2, 1) := by decide +kernel
theorem dX12_ferry_132 : decode cX12_ferry 132 = .ok (.aload_n 0, 1) := by decide +kernel
theorem dX12_ferry_133 : decode cX12_ferry 133 = .ok (.invokevirtual 89, 3) := by decide +kernel
theorem dX12_ferry_136 : decode cX12_ferry 136 = .ok (.ifCond .eq 8, 3) := by decide +kernel
theorem dX12_ferry_139 : decode cX12_ferry 139 = .ok (.aload_n 0, 1) := by decide +kernel
theorem dX12_ferry_140 : decode cX12_ferry 140 = .ok (.iload_n 2, 1) := by decide +kernel
theorem dX12_ferry_141 : decode cX12_ferry 141 = .ok (.invokevirtual 111, 3) := by decide +kernel
theorem dX12_ferry_144 : decode cX12_ferry 144 = .ok (.aload_n 0, 1) := by decide +kernel
theorem dX12_ferry_145 : decode cX12_ferry 145 = .ok (.aload_n 0, 1) := by decide +kernel
theorem dX12_ferry_146 : decode cX12_ferry 146 = .ok (.getfield 80, 3) := by decide +kernel
theorem dX12_ferry_149 : decode cX12_ferry 149 = .ok (.iconst 3, 1) := by decide +kernel
theorem dX12_ferry_150 : decode cX12_ferry 150 = .ok (.if_icmp .ne 7, 3) := by decide +kernel
theorem dX12_ferry_153 : decode cX12_ferry 153 = .ok (.iconst 1, 1) := by decide +kernel
theorem dX12_ferry_154 : decode cX12_ferry 154 = .ok (.goto 4, 3) := by decide +kernel
theorem dX12_ferry_157 : decode cX12_ferry 157 = .ok (.iconst 0, 1) := by decide +kernel
theorem dX12_ferry_158 : decode cX12_ferry 158 = .ok (.invokevirtual 96, 3) := by decide +kernel
theorem dX12_ferry_161 : decode cX12_ferry 161 = .ok (.pop, 1) := by decide +kernel
theorem dX12_ferry_162 : decode cX12_ferry 162 = .ok (.iinc 1 1, 3) := by decide +kernel
theorem dX12_ferry_165 : decode cX12_ferry 165 = .ok (.goto (-117), 3) := by decide +kernel
theorem dX12_ferry_168 : decode cX12_ferry 168 = .ok (.aload_n 0, 1) := by decide +kernel
theorem dX12_ferry_169 : decode cX12_ferry 169 = .ok (.invokevirtual 89, 3) := by decide +kernel
theorem dX12_ferry_172 : decode cX12_ferry 172 = .ok (.ifCond .ne 11, 3) := by decide +kernel
theorem dX12_ferry_175 : decode cX12_ferry 175 = .ok (.bipush (-10), 2) := by decide +kernel
theorem dX12_ferry_177 : decode cX12_ferry 177 = .ok (.aload_n 0, 1) := by decide +kernel
theorem dX12_ferry_178 : decode cX12_ferry 178 = .ok (.getfield 86, 3) := by decide +kernel
theorem dX12_ferry_181 : decode cX12_ferry 181 = .ok (.isub, 1) := by decide +kernel
theorem dX12_ferry_182 : decode cX12_ferry 182 = .ok (.ireturn, 1) := by decide +kernel
theorem dX12_ferry_183 : decode cX12_ferry 183 = .ok (.aload_n 0, 1) := by decide +kernel
theorem dX12_ferry_184 : decode cX12_ferry 184 = .ok (.invokevirtual 115, 3) := by decide +kernel
theorem dX12_ferry_187 : decode cX12_ferry 187 = .ok (.iload_n 1, 1) := by decide +kernel
theorem dX12_ferry_188 : decode cX12_ferry 188 = .ok (.ireturn, 1) := by decide +kernel
theorem dX12_settles_0 : decode cX12_settles 0 = .ok (.iconst 0, 1) := by decide +kernel
theorem dX12_settles_1 : decode cX12_settles 1 = .ok (.istore_n 1, 1) := by decide +kernel
theorem dX12_settles_2 : decode cX12_settles 2 = .ok (.iload_n 1, 1) := by decide +kernel
theorem dX12_settles_3 : decode cX12_settles 3 = .ok (.iconst 3, 1) := by decide +kernel
theorem dX12_settles_4 : decode cX12_settles 4 = .ok (.if_icmp .ge 23, 3) := by decide +kernel
theorem dX12_settles_7 : decode cX12_settles 7 = .ok (.aload_n 0, 1) := by decide +kernel
theorem dX12_settles_8 : decode cX12_settles 8 = .ok (.getfield 13, 3) := by decide +kernel
theorem dX12_settles_11 : decode cX12_settles 11 = .ok (.iload_n 1, 1) := by decide +kernel
theorem dX12_settles_12 : decode cX12_settles 12 = .ok (.aload_n 0, 1) := by decide +kernel
theorem dX12_settles_13 : decode cX12_settles 13 = .ok (.getfield 13, 3) := by decide +kernel
theorem dX12_settles_16 : decode cX12_settles 16 = .ok (.iconst 3, 1) := by decide +kernel
theorem dX12_settles_17 : decode cX12_settles 17 = .ok (.iload_n 1, 1) := by decide +kernel
theorem dX12_settles_18 : decode cX12_settles 18 = .ok (.iadd, 1) := by decide +kernel
theorem dX12_settles_19 : decode cX12_settles 19 = .ok (.iaload, 1) := by decide +kernel
theorem dX12_settles_20 : decode cX12_settles 20 = .ok (.iastore, 1) := by decide +kernel
theorem dX12_settles_21 : decode cX12_settles 21 = .ok (.iinc 1 1, 3) := by decide +kernel
theorem dX12_settles_24 : decode cX12_settles 24 = .ok (.goto (-22), 3) := by decide +kernel
theorem dX12_settles_27 : decode cX12_settles 27 = .ok (.iconst 0, 1) := by decide +kernel
theorem dX12_settles_28 : decode cX12_settles 28 = .ok (.istore_n 1, 1) := by decide +kernel
theorem dX12_settles_29 : decode cX12_settles 29 = .ok (.iload_n 1, 1) := by decide +kernel
theorem dX12_settles_30 : decode cX12_settles 30 = .ok (.bipush 6, 2) := by decide +kernel
theorem dX12_settles_32 : decode cX12_settles 32 = .ok (.if_icmp .ge 54, 3) := by decide +kernel
theorem dX12_settles_35 : decode cX12_settles 35 = .ok (.aload_n 0, 1) := by decide +kernel
theorem dX12_settles_36 : decode cX12_settles 36 = .ok (.getfield 16, 3) := by decide +kernel
theorem dX12_settles_39 : decode cX12_settles 39 = .ok (.iload_n 1, 1) := by decide +kernel
theorem dX12_settles_40 : decode cX12_settles 40 = .ok (.aload_n 0, 1) := by decide +kernel
theorem dX12_settles_41 : decode cX12_settles 41 = .ok (.getfield 16, 3) := by decide +kernel
theorem dX12_settles_44 : decode cX12_settles 44 = .ok (.bipush 6, 2) := by decide +kernel
theorem dX12_settles_46 : decode cX12_settles 46 = .ok (.iload_n 1, 1) := by decide +kernel
theorem dX12_settles_47 : decode cX12_settles 47 = .ok (.iadd, 1) := by decide +kernel
theorem dX12_settles_48 : decode cX12_settles 48 = .ok (.iaload, 1) := by decide +kernel
theorem dX12_settles_49 : decode cX12_settles 49 = .ok (.iastore, 1) := by decide +kernel
theorem dX12_settles_50 : decode cX12_settles 50 = .ok (.aload_n 0, 1) := by decide +kernel
theorem dX12_settles_51 : decode cX12_settles 51 = .ok (.getfield 19, 3) := by decide +kernel
theorem dX12_settles_54 : decode cX12_settles 54 = .ok (.iload_n 1, 1) := by decide +kernel
theorem dX12_settles_55 : decode cX12_settles 55 = .ok (.aload_n 0, 1) := by decide +kernel
theorem dX12_settles_56 : decode cX12_settles 56 = .ok (.getfield 19, 3) := by decide +kernel
theorem dX12_settles_59 : decode cX12_settles 59 = .ok (.bipush 6, 2) := by decide +kernel
theorem dX12_settles_61 : decode cX12_settles 61 = .ok (.iload_n 1, 1) := by decide +kernel
theorem dX12_settles_62 : decode cX12_settles 62 = .ok (.iadd, 1) := by decide +kernel
theorem dX12_settles_63 : decode cX12_settles 63 = .ok (.iaload, 1) := by decide +kernel
theorem dX12_settles_64 : decode cX12_settles 64 = .ok (.iastore, 1) := by decide +kernel
theorem dX12_settles_65 : decode cX12_settles 65 = .ok (.aload_n 0, 1) := by decide +kernel
theorem dX12_settles_66 : decode cX12_settles 66 = .ok (.getfield 22, 3) := by decide +kernel
theorem dX12_settles_69 : decode cX12_settles 69 = .ok (.iload_n 1, 1) := by decide +kernel
theorem dX12_settles_70 : decode cX12_settles 70 = .ok (.aload_n 0, 1) := by decide +kernel
theorem dX12_settles_71 : decode cX12_settles 71 = .ok (.getfield 22, 3) := by decide +kernel
theorem dX12_settles_74 : decode cX12_settles 74 = .ok (.bipush 6, 2) := by decide +kernel
theorem dX12_settles_76 : decode cX12_settles 76 = .ok (.iload_n 1, 1) := by decide +kernel
theorem dX12_settles_77 : decode cX12_settles 77 = .ok (.iadd, 1) := by decide +kernel
theorem dX12_settles_78 : decode cX12_settles 78 = .ok (.iaload, 1) := by decide +kernel
theorem dX12_settles_79 : decode cX12_settles 79 = .ok (.iastore, 1) := by decide +kernel
theorem dX12_settles_80 : decode cX12_settles 80 = .ok (.iinc 1 1, 3) := by decide +kernel
theorem dX12_settles_83 : decode cX12_settles 83 = .ok (.goto (-54), 3) := by decide +kernel
theorem dX12_settles_86 : decode cX12_settles 86 = .ok (.iconst 0, 1) := by decide +kernel
theorem dX12_settles_87 : decode cX12_settles 87 = .ok (.istore_n 1, 1) := by decide +kernel
theorem dX12_settles_88 : decode cX12_settles 88 = .ok (.iload_n 1, 1) := by decide +kernel
theorem dX12_settles_89 : decode cX12_settles 89 = .ok (.iconst 4, 1) := by decide +kernel
theorem dX12_settles_90 : decode cX12_settles 90 = .ok (.if_icmp .ge 37, 3) := by decide +kernel
theorem dX12_settles_93 : decode cX12_settles 93 = .ok (.aload_n 0, 1) := by decide +kernel
theorem dX12_settles_94 : decode cX12_settles 94 = .ok (.getfield 25, 3) := by decide +kernel
theorem dX12_settles_97 : decode cX12_settles 97 = .ok (.iload_n 1, 1) := by decide +kernel
theorem dX12_settles_98 : decode cX12_settles 98 = .ok (.aload_n 0, 1) := by decide +kernel
theorem dX12_settles_99 : decode cX12_settles 99 = .ok (.getfield 25, 3) := by decide +kernel
theorem dX12_settles_102 : decode cX12_settles 102 = .ok (.iconst 4, 1) := by decide +kernel
theorem dX12_settles_103 : decode cX12_settles 103 = .ok (.iload_n 1, 1) := by decide +kernel
theorem dX12_settles_104 : decode cX12_settles 104 = .ok (.iadd, 1) := by decide +kernel
theorem dX12_settles_105 : decode cX12_settles 105 = .ok (.iaload, 1) := by decide +kernel
theorem dX12_settles_106 : decode cX12_settles 106 = .ok (.iastore, 1) := by decide +kernel
theorem dX12_settles_107 : decode cX12_settles 107 = .ok (.aload_n 0, 1) := by decide +kernel
theorem dX12_settles_108 : decode cX12_settles 108 = .ok (.getfield 28, 3) := by decide +kernel
theorem dX12_settles_111 : decode cX12_settles 111 = .ok (.iload_n 1, 1) := by decide +kernel
theorem dX12_settles_112 : decode cX12_settles 112 = .ok (.aload_n 0, 1) := by decide +kernel
theorem dX12_settles_113 : decode cX12_settles 113 = .ok (.getfield 28, 3) := by decide +kernel
theorem dX12_settles_116 : decode cX12_settles 116 = .ok (.iconst 4, 1) := by decide +kernel
theorem dX12_settles_117 : decode cX12_settles 117 = .ok (.iload_n 1, 1) := by decide +kernel
theorem dX12_settles_118 : decode cX12_settles 118 = .ok (.iadd, 1) := by decide +kernel
theorem dX12_settles_119 : decode cX12_settles 119 = .ok (.iaload, 1) := by decide +kernel
theorem dX12_settles_120 : decode cX12_settles 120 = .ok (.iastore, 1) := by decide +kernel
theorem dX12_settles_121 : decode cX12_settles 121 = .ok (.iinc 1 1, 3) := by decide +kernel
theorem dX12_settles_124 : decode cX12_settles 124 = .ok (.goto (-36), 3) := by decide +kernel
theorem dX12_settles_127 : decode cX12_settles 127 = .ok (.iconst 0, 1) := by decide +kernel
theorem dX12_settles_128 : decode cX12_settles 128 = .ok (.istore_n 1, 1) := by decide +kernel
theorem dX12_settles_129 : decode cX12_settles 129 = .ok (.iload_n 1, 1) := by decide +kernel
theorem dX12_settles_130 : decode cX12_settles 130 = .ok (.bipush 15, 2) := by decide +kernel
theorem dX12_settles_132 : decode cX12_settles 132 = .ok (.if_icmp .ge 16, 3) := by decide +kernel
theorem dX12_settles_135 : decode cX12_settles 135 = .ok (.aload_n 0, 1) := by decide +kernel
theorem dX12_settles_136 : decode cX12_settles 136 = .ok (.getfield 31, 3) := by decide +kernel
theorem dX12_settles_139 : decode cX12_settles 139 = .ok (.iload_n 1, 1) := by decide +kernel
theorem dX12_settles_140 : decode cX12_settles 140 = .ok (.iconst 0, 1) := by decide +kernel
theorem dX12_settles_141 : decode cX12_settles 141 = .ok (.iastore, 1) := by decide +kernel
theorem dX12_settles_142 : decode cX12_settles 142 = .ok (.iinc 1 1, 3) := by decide +kernel
theorem dX12_settles_145 : decode cX12_settles 145 = .ok (.goto (-16), 3) := by decide +kernel
theorem dX12_settles_148 : decode cX12_settles 148 = .ok (.aload_n 0, 1) := by decide +kernel
theorem dX12_settles_149 : decode cX12_settles 149 = .ok (.iconst 0, 1) := by decide +kernel
theorem dX12_settles_150 : decode cX12_settles 150 = .ok (.putfield 67, 3) := by decide +kernel
theorem dX12_settles_153 : decode cX12_settles 153 = .ok (.aload_n 0, 1) := by decide +kernel
theorem dX12_settles_154 : decode cX12_settles 154 = .ok (.iconst 0, 1) := by decide +kernel
theorem dX12_settles_155 : decode cX12_settles 155 = .ok (.putfield 118, 3) := by decide +kernel
theorem dX12_settles_158 : decode cX12_settles 158 = .ok (.aload_n 0, 1) := by decide +kernel
theorem dX12_settles_159 : decode cX12_settles 159 = .ok (.iconst 0, 1) := by decide +kernel
theorem dX12_settles_160 : decode cX12_settles 160 = .ok (.putfield 121, 3) := by decide +kernel
theorem dX12_settles_163 : decode cX12_settles 163 = .ok (.aload_n 0, 1) := by decide +kernel
theorem dX12_settles_164 : decode cX12_settles 164 = .ok (.getfield 40, 3) := by decide +kernel
theorem dX12_settles_167 : decode cX12_settles 167 = .ok (.iconst 0, 1) := by decide +kernel
theorem dX12_settles_168 : decode cX12_settles 168 = .ok (.iconst 0, 1) := by decide +kernel
theorem dX12_settles_169 : decode cX12_settles 169 = .ok (.bastore, 1) := by decide +kernel
theorem dX12_settles_170 : decode cX12_settles 170 = .ok (.aload_n 0, 1) := by decide +kernel
theorem dX12_settles_171 : decode cX12_settles 171 = .ok (.getfield 40, 3) := by decide +kernel
theorem dX12_settles_174 : decode cX12_settles 174 = .ok (.iconst 1, 1) := by decide +kernel
theorem dX12_settles_175 : decode cX12_settles 175 = .ok (.iconst 0, 1) := by decide +kernel
theorem dX12_settles_176 : decode cX12_settles 176 = .ok (.bastore, 1) := by decide +kernel
theorem dX12_settles_177 : decode cX12_settles 177 = .ok (.return_, 1) := by decide +kernel
theorem dX12_isPassenger_0 : decode cX12_isPassenger 0 = .ok (.iload_n 1, 1) := by decide +kernel
theorem dX12_isPassenger_1 : decode cX12_isPassenger 1 = .ok (.iconst 0, 1) := by decide +kernel
theorem dX12_isPassenger_2 : decode cX12_isPassenger 2 = .ok (.aload_n 0, 1) := by decide +kernel
theorem dX12_isPassenger_3 : decode cX12_isPassenger 3 = .ok (.getfield 13, 3) := by decide +kernel
theorem dX12_isPassenger_6 : decode cX12_isPassenger 6 = .ok (.iconst 0, 1) := by decide +kernel
theorem dX12_isPassenger_7 : decode cX12_isPassenger 7 = .ok (.iaload, 1) := by decide +kernel
theorem dX12_isPassenger_8 : decode cX12_isPassenger 8 = .ok (.iconst 1, 1) := by decide +kernel
theorem dX12_isPassenger_9 : decode cX12_isPassenger 9 = .ok (.isub, 1) := by decide +kernel
theorem dX12_isPassenger_10 : decode cX12_isPassenger 10 = .ok (.invokestatic 63, 3) := by decide +kernel
theorem dX12_isPassenger_13 : decode cX12_isPassenger 13 = .ok (.ireturn, 1) := by decide +kernel
theorem dX12_passenger_0 : decode cX12_passenger 0 = .ok (.aload_n 0, 1) := by decide +kernel
theorem dX12_passenger_1 : decode cX12_passenger 1 = .ok (.iconst 0, 1) := by decide +kernel
theorem dX12_passenger_2 : decode cX12_passenger 2 = .ok (.putfield 59, 3) := by decide +kernel
theorem dX12_passenger_5 : decode cX12_passenger 5 = .ok (.aload_n 0, 1) := by decide +kernel
theorem dX12_passenger_6 : decode cX12_passenger 6 = .ok (.iload_n 1, 1) := by decide +kernel
theorem dX12_passenger_7 : decode cX12_passenger 7 = .ok (.invokevirtual 124, 3) := by decide +kernel
theorem dX12_passenger_10 : decode cX12_passenger 10 = .ok (.ifCond .eq 12, 3) := by decide +kernel
theorem dX12_passenger_13 : decode cX12_passenger 13 = .ok (.iload_n 2, 1) := by decide +kernel
theorem dX12_passenger_14 : decode cX12_passenger 14 = .ok (.iconst 0, 1) := by decide +kernel
theorem dX12_passenger_15 : decode cX12_passenger 15 = .ok (.iconst 5, 1) := by decide +kernel
theorem dX12_passenger_16 : decode cX12_passenger 16 = .ok (.invokestatic 63, 3) := by decide +kernel
theorem dX12_passenger_19 : decode cX12_passenger 19 = .ok (.ifCond .ne 5, 3) := by decide +kernel
theorem dX12_passenger_22 : decode cX12_passenger 22 = .ok (.iconst (-1), 1) := by decide +kernel
theorem dX12_passenger_23 : decode cX12_passenger 23 = .ok (.ireturn, 1) := by decide +kernel
theorem dX12_passenger_24 : decode cX12_passenger 24 = .ok (.iload_n 2, 1) := by decide +kernel
theorem dX12_passenger_25 : decode cX12_passenger 25 = .ok (.iconst 3, 1) := by decide +kernel
theorem dX12_passenger_26 : decode cX12_passenger 26 = .ok (.if_icmp .ge 37, 3) := by decide +kernel
theorem dX12_passenger_29 : decode cX12_passenger 29 = .ok (.iload_n 2, 1) := by decide +kernel
theorem dX12_passenger_30 : decode cX12_passenger 30 = .ok (.ifCond .ne 12, 3) := by decide +kernel
theorem dX12_passenger_33 : decode cX12_passenger 33 = .ok (.aload_n 0, 1) := by decide +kernel
theorem dX12_passenger_34 : decode cX12_passenger 34 = .ok (.getfield 16, 3) := by decide +kernel
theorem dX12_passenger_37 : decode cX12_passenger 37 = .ok (.iload_n 1, 1) := by decide +kernel
theorem dX12_passenger_38 : decode cX12_passenger 38 = .ok (.iaload, 1) := by decide +kernel
theorem dX12_passenger_39 : decode cX12_passenger 39 = .ok (.goto 23, 3) := by decide +kernel
theorem dX12_passenger_42 : decode cX12_passenger 42 = .ok (.iload_n 2, 1) := by decide +kernel
theorem dX12_passenger_43 : decode cX12_passenger 43 = .ok (.iconst 1, 1) := by decide +kernel
theorem dX12_passenger_44 : decode cX12_passenger 44 = .ok (.if_icmp .ne 12, 3) := by decide +kernel
theorem dX12_passenger_47 : decode cX12_passenger 47 = .ok (.aload_n 0, 1) := by decide +kernel
theorem dX12_passenger_48 : decode cX12_passenger 48 = .ok (.getfield 19, 3) := by decide +kernel
theorem dX12_passenger_51 : decode cX12_passenger 51 = .ok (.iload_n 1, 1) := by decide +kernel
theorem dX12_passenger_52 : decode cX12_passenger 52 = .ok (.iaload, 1) := by decide +kernel
theorem dX12_passenger_53 : decode cX12_passenger 53 = .ok (.goto 9, 3) := by decide +kernel
theorem dX12_passenger_56 : decode cX12_passenger 56 = .ok (.aload_n 0, 1) := by decide +kernel
theorem dX12_passenger_57 : decode cX12_passenger 57 = .ok (.getfield 22, 3) := by decide +kernel
theorem dX12_passenger_60 : decode cX12_passenger 60 = .ok (.iload_n 1, 1) := by decide +kernel
theorem dX12_passenger_61 : decode cX12_passenger 61 = .ok (.iaload, 1) := by decide +kernel
theorem dX12_passenger_62 : decode cX12_passenger 62 = .ok (.ireturn, 1) := by decide +kernel
theorem dX12_passenger_63 : decode cX12_passenger 63 = .ok (.iload_n 2, 1) := by decide +kernel
theorem dX12_passenger_64 : decode cX12_passenger 64 = .ok (.iconst 3, 1) := by decide +kernel
theorem dX12_passenger_65 : decode cX12_passenger 65 = .ok (.if_icmp .ne 14, 3) := by decide +kernel
theorem dX12_passenger_68 : decode cX12_passenger 68 = .ok (.aload_n 0, 1) := by decide +kernel
theorem dX12_passenger_69 : decode cX12_passenger 69 = .ok (.getfield 31, 3) := by decide +kernel
theorem dX12_passenger_72 : decode cX12_passenger 72 = .ok (.iconst 3, 1) := by decide +kernel
theorem dX12_passenger_73 : decode cX12_passenger 73 = .ok (.iload_n 1, 1) := by decide +kernel
theorem dX12_passenger_74 : decode cX12_passenger 74 = .ok (.iadd, 1) := by decide +kernel
theorem dX12_passenger_75 : decode cX12_passenger 75 = .ok (.iaload, 1) := by decide +kernel
theorem dX12_passenger_76 : decode cX12_passenger 76 = .ok (.goto 30, 3) := by decide +kernel
theorem dX12_passenger_79 : decode cX12_passenger 79 = .ok (.iload_n 2, 1) := by decide +kernel
theorem dX12_passenger_80 : decode cX12_passenger 80 = .ok (.iconst 4, 1) := by decide +kernel
theorem dX12_passenger_81 : decode cX12_passenger 81 = .ok (.if_icmp .ne 15, 3) := by decide +kernel
theorem dX12_passenger_84 : decode cX12_passenger 84 = .ok (.aload_n 0, 1) := by decide +kernel
theorem dX12_passenger_85 : decode cX12_passenger 85 = .ok (.getfield 31, 3) := by decide +kernel
theorem dX12_passenger_88 : decode cX12_passenger 88 = .ok (.bipush 9, 2) := by decide +kernel
theorem dX12_passenger_90 : decode cX12_passenger 90 = .ok (.iload_n 1, 1) := by decide +kernel
theorem dX12_passenger_91 : decode cX12_passenger 91 = .ok (.iadd, 1) := by decide +kernel
theorem dX12_passenger_92 : decode cX12_passenger 92 = .ok (.iaload, 1) := by decide +kernel
theorem dX12_passenger_93 : decode cX12_passenger 93 = .ok (.goto 13, 3) := by decide +kernel
theorem dX12_passenger_96 : decode cX12_passenger 96 = .ok (.aload_n 0, 1) := by decide +kernel
theorem dX12_passenger_97 : decode cX12_passenger 97 = .ok (.getfield 31, 3) := by decide +kernel
theorem dX12_passenger_100 : decode cX12_passenger 100 = .ok (.iconst 2, 1) := by decide +kernel
theorem dX12_passenger_101 : decode cX12_passenger 101 = .ok (.iaload, 1) := by decide +kernel
theorem dX12_passenger_102 : decode cX12_passenger 102 = .ok (.iload_n 1, 1) := by decide +kernel
theorem dX12_passenger_103 : decode cX12_passenger 103 = .ok (.ishr, 1) := by decide +kernel
theorem dX12_passenger_104 : decode cX12_passenger 104 = .ok (.iconst 1, 1) := by decide +kernel
theorem dX12_passenger_105 : decode cX12_passenger 105 = .ok (.iand, 1) := by decide +kernel
theorem dX12_passenger_106 : decode cX12_passenger 106 = .ok (.ireturn, 1) := by decide +kernel
theorem dX12_flowAt_0 : decode cX12_flowAt 0 = .ok (.bipush (-9), 2) := by decide +kernel
theorem dX12_flowAt_2 : decode cX12_flowAt 2 = .ok (.istore_n 2, 1) := by decide +kernel
theorem dX12_flowAt_3 : decode cX12_flowAt 3 = .ok (.iconst 0, 1) := by decide +kernel
theorem dX12_flowAt_4 : decode cX12_flowAt 4 = .ok (.istore_n 3, 1) := by decide +kernel
theorem dX12_flowAt_5 : decode cX12_flowAt 5 = .ok (.iconst 0, 1) := by decide +kernel
theorem dX12_flowAt_6 : decode cX12_flowAt 6 = .ok (.istore 4, 2) := by decide +kernel
theorem dX12_flowAt_8 : decode cX12_flowAt 8 = .ok (.iload 4, 2) := by decide +kernel
theorem dX12_flowAt_10 : decode cX12_flowAt 10 = .ok (.aload_n 0, 1) := by decide +kernel
theorem dX12_flowAt_11 : decode cX12_flowAt 11 = .ok (.getfield 13, 3) := by decide +kernel
theorem dX12_flowAt_14 : decode cX12_flowAt 14 = .ok (.iconst 2, 1) := by decide +kernel
theorem dX12_flowAt_15 : decode cX12_flowAt 15 = .ok (.iaload, 1) := by decide +kernel
theorem dX12_flowAt_16 : decode cX12_flowAt 16 = .ok (.if_icmp .ge 47, 3) := by decide +kernel
theorem dX12_flowAt_19 : decode cX12_flowAt 19 = .ok (.aload_n 0, 1) := by decide +kernel
theorem dX12_flowAt_20 : decode cX12_flowAt 20 = .ok (.getfield 25, 3) := by decide +kernel
theorem dX12_flowAt_23 : decode cX12_flowAt 23 = .ok (.iload 4, 2) := by decide +kernel
theorem dX12_flowAt_25 : decode cX12_flowAt 25 = .ok (.iaload, 1) := by decide +kernel
theorem dX12_flowAt_26 : decode cX12_flowAt 26 = .ok (.iload_n 1, 1) := by decide +kernel
theorem dX12_flowAt_27 : decode cX12_flowAt 27 = .ok (.if_icmp .gt 30, 3) := by decide +kernel
theorem dX12_flowAt_30 : decode cX12_flowAt 30 = .ok (.aload_n 0, 1) := by decide +kernel
theorem dX12_flowAt_31 : decode cX12_flowAt 31 = .ok (.getfield 25, 3) := by decide +kernel
theorem dX12_flowAt_34 : decode cX12_flowAt 34 = .ok (.iload 4, 2) := by decide +kernel
theorem dX12_flowAt_36 : decode cX12_flowAt 36 = .ok (.iaload, 1) := by decide +kernel
theorem dX12_flowAt_37 : decode cX12_flowAt 37 = .ok (.iload_n 2, 1) := by decide +kernel
theorem dX12_flowAt_38 : decode cX12_flowAt 38 = .ok (.if_icmp .le 19, 3) := by decide +kernel
theorem dX12_flowAt_41 : decode cX12_flowAt 41 = .ok (.aload_n 0, 1) := by decide +kernel
theorem dX12_flowAt_42 : decode cX12_flowAt 42 = .ok (.getfield 25, 3) := by decide +kernel
theorem dX12_flowAt_45 : decode cX12_flowAt 45 = .ok (.iload 4, 2) := by decide +kernel
theorem dX12_flowAt_47 : decode cX12_flowAt 47 = .ok (.iaload, 1) := by decide +kernel
theorem dX12_flowAt_48 : decode cX12_flowAt 48 = .ok (.istore_n 2, 1) := by decide +kernel
theorem dX12_flowAt_49 : decode cX12_flowAt 49 = .ok (.aload_n 0, 1) := by decide +kernel
theorem dX12_flowAt_50 : decode cX12_flowAt 50 = .ok (.getfield 28, 3) := by decide +kernel
theorem dX12_flowAt_53 : decode cX12_flowAt 53 = .ok (.iload 4, 2) := by decide +kernel
theorem dX12_flowAt_55 : decode cX12_flowAt 55 = .ok (.iaload, 1) := by decide +kernel
theorem dX12_flowAt_56 : decode cX12_flowAt 56 = .ok (.istore_n 3, 1) := by decide +kernel
theorem dX12_flowAt_57 : decode cX12_flowAt 57 = .ok (.iinc 4 1, 3) := by decide +kernel
theorem dX12_flowAt_60 : decode cX12_flowAt 60 = .ok (.goto (-52), 3) := by decide +kernel
theorem dX12_flowAt_63 : decode cX12_flowAt 63 = .ok (.iload_n 3, 1) := by decide +kernel
theorem dX12_flowAt_64 : decode cX12_flowAt 64 = .ok (.ireturn, 1) := by decide +kernel
theorem dX12_current_0 : decode cX12_current 0 = .ok (.aload_n 0, 1) := by decide +kernel
theorem dX12_current_1 : decode cX12_current 1 = .ok (.iconst 0, 1) := by decide +kernel
theorem dX12_current_2 : decode cX12_current 2 = .ok (.putfield 59, 3) := by decide +kernel
theorem dX12_current_5 : decode cX12_current 5 = .ok (.iload_n 1, 1) := by decide +kernel
theorem dX12_current_6 : decode cX12_current 6 = .ok (.iconst 0, 1) := by decide +kernel
theorem dX12_current_7 : decode cX12_current 7 = .ok (.sipush 400, 3) := by decide +kernel
theorem dX12_current_10 : decode cX12_current 10 = .ok (.invokestatic 63, 3) := by decide +kernel
theorem dX12_current_13 : decode cX12_current 13 = .ok (.ifCond .eq 11, 3) := by decide +kernel
theorem dX12_current_16 : decode cX12_current 16 = .ok (.aload_n 0, 1) := by decide +kernel
theorem dX12_current_17 : decode cX12_current 17 = .ok (.iload_n 1, 1) := by decide +kernel
theorem dX12_current_18 : decode cX12_current 18 = .ok (.invokevirtual 128, 3) := by decide +kernel
theorem dX12_current_21 : decode cX12_current 21 = .ok (.goto 4, 3) := by decide +kernel
theorem dX12_current_24 : decode cX12_current 24 = .ok (.iconst (-1), 1) := by decide +kernel
theorem dX12_current_25 : decode cX12_current 25 = .ok (.ireturn, 1) := by decide +kernel
theorem dX12_pullOf_0 : decode cX12_pullOf 0 = .ok (.iconst 0, 1) := by decide +kernel
theorem dX12_pullOf_1 : decode cX12_pullOf 1 = .ok (.istore_n 2, 1) := by decide +kernel
theorem dX12_pullOf_2 : decode cX12_pullOf 2 = .ok (.iconst 0, 1) := by decide +kernel
theorem dX12_pullOf_3 : decode cX12_pullOf 3 = .ok (.istore_n 3, 1) := by decide +kernel
theorem dX12_pullOf_4 : decode cX12_pullOf 4 = .ok (.bipush (-9), 2) := by decide +kernel
theorem dX12_pullOf_6 : decode cX12_pullOf 6 = .ok (.istore 4, 2) := by decide +kernel
theorem dX12_pullOf_8 : decode cX12_pullOf 8 = .ok (.iconst 1, 1) := by decide +kernel
theorem dX12_pullOf_9 : decode cX12_pullOf 9 = .ok (.istore 5, 2) := by decide +kernel
theorem dX12_pullOf_11 : decode cX12_pullOf 11 = .ok (.iconst 0, 1) := by decide +kernel
theorem dX12_pullOf_12 : decode cX12_pullOf 12 = .ok (.istore 6, 2) := by decide +kernel
theorem dX12_pullOf_14 : decode cX12_pullOf 14 = .ok (.iload 6, 2) := by decide +kernel
theorem dX12_pullOf_16 : decode cX12_pullOf 16 = .ok (.aload_n 0, 1) := by decide +kernel
theorem dX12_pullOf_17 : decode cX12_pullOf 17 = .ok (.getfield 13, 3) := by decide +kernel
theorem dX12_pullOf_20 : decode cX12_pullOf 20 = .ok (.iconst 0, 1) := by decide +kernel
theorem dX12_pullOf_21 : decode cX12_pullOf 21 = .ok (.iaload, 1) := by decide +kernel
theorem dX12_pullOf_22 : decode cX12_pullOf 22 = .ok (.if_icmp .ge 82, 3) := by decide +kernel
theorem dX12_pullOf_25 : decode cX12_pullOf 25 = .ok (.iload_n 1, 1) := by decide +kernel
theorem dX12_pullOf_26 : decode cX12_pullOf 26 = .ok (.iload 6, 2) := by decide +kernel
theorem dX12_pullOf_28 : decode cX12_pullOf 28 = .ok (.ishr, 1) := by decide +kernel
theorem dX12_pullOf_29 : decode cX12_pullOf 29 = .ok (.iconst 1, 1) := by decide +kernel
theorem dX12_pullOf_30 : decode cX12_pullOf 30 = .ok (.iand, 1) := by decide +kernel
theorem dX12_pullOf_31 : decode cX12_pullOf 31 = .ok (.iconst 1, 1) := by decide +kernel
theorem dX12_pullOf_32 : decode cX12_pullOf 32 = .ok (.if_icmp .ne 66, 3) := by decide +kernel
theorem dX12_pullOf_35 : decode cX12_pullOf 35 = .ok (.iinc 2 1, 3) := by decide +kernel
theorem dX12_pullOf_38 : decode cX12_pullOf 38 = .ok (.iload_n 3, 1) := by decide +kernel
theorem dX12_pullOf_39 : decode cX12_pullOf 39 = .ok (.aload_n 0, 1) := by decide +kernel
theorem dX12_pullOf_40 : decode cX12_pullOf 40 = .ok (.getfield 16, 3) := by decide +kernel
theorem dX12_pullOf_43 : decode cX12_pullOf 43 = .ok (.iload 6, 2) := by decide +kernel
theorem dX12_pullOf_45 : decode cX12_pullOf 45 = .ok (.iaload, 1) := by decide +kernel
theorem dX12_pullOf_46 : decode cX12_pullOf 46 = .ok (.iadd, 1) := by decide +kernel
theorem dX12_pullOf_47 : decode cX12_pullOf 47 = .ok (.istore_n 3, 1) := by decide +kernel
theorem dX12_pullOf_48 : decode cX12_pullOf 48 = .ok (.iload 5, 2) := by decide +kernel
theorem dX12_pullOf_50 : decode cX12_pullOf 50 = .ok (.ifCond .eq 36, 3) := by decide +kernel
theorem dX12_pullOf_53 : decode cX12_pullOf 53 = .ok (.aload_n 0, 1) := by decide +kernel
theorem dX12_pullOf_54 : decode cX12_pullOf 54 = .ok (.getfield 22, 3) := by decide +kernel
theorem dX12_pullOf_57 : decode cX12_pullOf 57 = .ok (.iload 6, 2) := by decide +kernel
theorem dX12_pullOf_59 : decode cX12_pullOf 59 = .ok (.iaload, 1) := by decide +kernel
theorem dX12_pullOf_60 : decode cX12_pullOf 60 = .ok (.ifCond .le 26, 3) := by decide +kernel
theorem dX12_pullOf_63 : decode cX12_pullOf 63 = .ok (.iload 4, 2) := by decide +kernel
theorem dX12_pullOf_65 : decode cX12_pullOf 65 = .ok (.bipush (-9), 2) := by decide +kernel
theorem dX12_pullOf_67 : decode cX12_pullOf 67 = .ok (.if_icmp .eq 15, 3) := by decide +kernel
theorem dX12_pullOf_70 : decode cX12_pullOf 70 = .ok (.aload_n 0, 1) := by decide +kernel
theorem dX12_pullOf_71 : decode cX12_pullOf 71 = .ok (.getfield 22, 3) := by decide +kernel
theorem dX12_pullOf_74 : decode cX12_pullOf 74 = .ok (.iload 6, 2) := by decide +kernel
theorem dX12_pullOf_76 : decode cX12_pullOf 76 = .ok (.iaload, 1) := by decide +kernel
theorem dX12_pullOf_77 : decode cX12_pullOf 77 = .ok (.iload 4, 2) := by decide +kernel
theorem dX12_pullOf_79 : decode cX12_pullOf 79 = .ok (.if_icmp .ne 7, 3) := by decide +kernel
theorem dX12_pullOf_82 : decode cX12_pullOf 82 = .ok (.iconst 1, 1) := by decide +kernel
theorem dX12_pullOf_83 : decode cX12_pullOf 83 = .ok (.goto 4, 3) := by decide +kernel
theorem dX12_pullOf_86 : decode cX12_pullOf 86 = .ok (.iconst 0, 1) := by decide +kernel
theorem dX12_pullOf_87 : decode cX12_pullOf 87 = .ok (.istore 5, 2) := by decide +kernel
theorem dX12_pullOf_89 : decode cX12_pullOf 89 = .ok (.aload_n 0, 1) := by decide +kernel
theorem dX12_pullOf_90 : decode cX12_pullOf 90 = .ok (.getfield 22, 3) := by decide +kernel
theorem dX12_pullOf_93 : decode cX12_pullOf 93 = .ok (.iload 6, 2) := by decide +kernel
theorem dX12_pullOf_95 : decode cX12_pullOf 95 = .ok (.iaload, 1) := by decide +kernel
theorem dX12_pullOf_96 : decode cX12_pullOf 96 = .ok (.istore 4, 2) := by decide +kernel
theorem dX12_pullOf_98 : decode cX12_pullOf 98 = .ok (.iinc 6 1, 3) := by decide +kernel
theorem dX12_pullOf_101 : decode cX12_pullOf 101 = .ok (.goto (-87), 3) := by decide +kernel
theorem dX12_pullOf_104 : decode cX12_pullOf 104 = .ok (.iload_n 2, 1) := by decide +kernel
theorem dX12_pullOf_105 : decode cX12_pullOf 105 = .ok (.iconst 2, 1) := by decide +kernel
theorem dX12_pullOf_106 : decode cX12_pullOf 106 = .ok (.if_icmp .lt 8, 3) := by decide +kernel
theorem dX12_pullOf_109 : decode cX12_pullOf 109 = .ok (.iload 5, 2) := by decide +kernel
theorem dX12_pullOf_111 : decode cX12_pullOf 111 = .ok (.ifCond .eq 7, 3) := by decide +kernel
theorem dX12_pullOf_114 : decode cX12_pullOf 114 = .ok (.iload_n 3, 1) := by decide +kernel
theorem dX12_pullOf_115 : decode cX12_pullOf 115 = .ok (.goto 5, 3) := by decide +kernel
theorem dX12_pullOf_118 : decode cX12_pullOf 118 = .ok (.bipush (-9), 2) := by decide +kernel
theorem dX12_pullOf_120 : decode cX12_pullOf 120 = .ok (.ireturn, 1) := by decide +kernel
theorem dX12_isOver_0 : decode cX12_isOver 0 = .ok (.aload_n 1, 1) := by decide +kernel
theorem dX12_isOver_1 : decode cX12_isOver 1 = .ok (.iconst 1, 1) := by decide +kernel
theorem dX12_isOver_2 : decode cX12_isOver 2 = .ok (.iaload, 1) := by decide +kernel
theorem dX12_isOver_3 : decode cX12_isOver 3 = .ok (.aload_n 0, 1) := by decide +kernel
theorem dX12_isOver_4 : decode cX12_isOver 4 = .ok (.getfield 13, 3) := by decide +kernel
theorem dX12_isOver_7 : decode cX12_isOver 7 = .ok (.iconst 1, 1) := by decide +kernel
theorem dX12_isOver_8 : decode cX12_isOver 8 = .ok (.iaload, 1) := by decide +kernel
theorem dX12_isOver_9 : decode cX12_isOver 9 = .ok (.if_icmp .lt 7, 3) := by decide +kernel
theorem dX12_isOver_12 : decode cX12_isOver 12 = .ok (.iconst 1, 1) := by decide +kernel
theorem dX12_isOver_13 : decode cX12_isOver 13 = .ok (.goto 4, 3) := by decide +kernel
theorem dX12_isOver_16 : decode cX12_isOver 16 = .ok (.iconst 0, 1) := by decide +kernel
theorem dX12_isOver_17 : decode cX12_isOver 17 = .ok (.ireturn, 1) := by decide +kernel
theorem dX12_wordsOf_0 : decode cX12_wordsOf 0 = .ok (.iconst 0, 1) := by decide +kernel
theorem dX12_wordsOf_1 : decode cX12_wordsOf 1 = .ok (.istore_n 2, 1) := by decide +kernel
theorem dX12_wordsOf_2 : decode cX12_wordsOf 2 = .ok (.iconst 0, 1) := by decide +kernel
theorem dX12_wordsOf_3 : decode cX12_wordsOf 3 = .ok (.istore_n 3, 1) := by decide +kernel
theorem dX12_wordsOf_4 : decode cX12_wordsOf 4 = .ok (.iload_n 3, 1) := by decide +kernel
theorem dX12_wordsOf_5 : decode cX12_wordsOf 5 = .ok (.aload_n 0, 1) := by decide +kernel
theorem dX12_wordsOf_6 : decode cX12_wordsOf 6 = .ok (.getfield 13, 3) := by decide +kernel
theorem dX12_wordsOf_9 : decode cX12_wordsOf 9 = .ok (.iconst 0, 1) := by decide +kernel
theorem dX12_wordsOf_10 : decode cX12_wordsOf 10 = .ok (.iaload, 1) := by decide +kernel
theorem dX12_wordsOf_11 : decode cX12_wordsOf 11 = .ok (.if_icmp .ge 18, 3) := by decide +kernel
theorem dX12_wordsOf_14 : decode cX12_wordsOf 14 = .ok (.iload_n 2, 1) := by decide +kernel
theorem dX12_wordsOf_15 : decode cX12_wordsOf 15 = .ok (.aload_n 1, 1) := by decide +kernel
theorem dX12_wordsOf_16 : decode cX12_wordsOf 16 = .ok (.bipush 9, 2) := by decide +kernel
theorem dX12_wordsOf_18 : decode cX12_wordsOf 18 = .ok (.iload_n 3, 1) := by decide +kernel
theorem dX12_wordsOf_19 : decode cX12_wordsOf 19 = .ok (.iadd, 1) := by decide +kernel
theorem dX12_wordsOf_20 : decode cX12_wordsOf 20 = .ok (.iaload, 1) := by decide +kernel
theorem dX12_wordsOf_21 : decode cX12_wordsOf 21 = .ok (.iadd, 1) := by decide +kernel
theorem dX12_wordsOf_22 : decode cX12_wordsOf 22 = .ok (.istore_n 2, 1) := by decide +kernel
theorem dX12_wordsOf_23 : decode cX12_wordsOf 23 = .ok (.iinc 3 1, 3) := by decide +kernel
theorem dX12_wordsOf_26 : decode cX12_wordsOf 26 = .ok (.goto (-22), 3) := by decide +kernel
theorem dX12_wordsOf_29 : decode cX12_wordsOf 29 = .ok (.iload_n 2, 1) := by decide +kernel
theorem dX12_wordsOf_30 : decode cX12_wordsOf 30 = .ok (.ireturn, 1) := by decide +kernel
theorem dX12_now_0 : decode cX12_now 0 = .ok (.aload_n 0, 1) := by decide +kernel
theorem dX12_now_1 : decode cX12_now 1 = .ok (.iconst 0, 1) := by decide +kernel
theorem dX12_now_2 : decode cX12_now 2 = .ok (.putfield 59, 3) := by decide +kernel
theorem dX12_now_5 : decode cX12_now 5 = .ok (.iload_n 1, 1) := by decide +kernel
theorem dX12_now_6 : decode cX12_now 6 = .ok (.iconst 0, 1) := by decide +kernel
theorem dX12_now_7 : decode cX12_now 7 = .ok (.bipush 6, 2) := by decide +kernel
theorem dX12_now_9 : decode cX12_now 9 = .ok (.invokestatic 63, 3) := by decide +kernel
theorem dX12_now_12 : decode cX12_now 12 = .ok (.ifCond .ne 5, 3) := by decide +kernel
theorem dX12_now_15 : decode cX12_now 15 = .ok (.iconst (-1), 1) := by decide +kernel
theorem dX12_now_16 : decode cX12_now 16 = .ok (.ireturn, 1) := by decide +kernel
theorem dX12_now_17 : decode cX12_now 17 = .ok (.iload_n 1, 1) := by decide +kernel
theorem dX12_now_18 : decode cX12_now 18 = .ok (.iconst 3, 1) := by decide +kernel
theorem dX12_now_19 : decode cX12_now 19 = .ok (.if_icmp .ge 10, 3) := by decide +kernel
theorem dX12_now_22 : decode cX12_now 22 = .ok (.aload_n 0, 1) := by decide +kernel
theorem dX12_now_23 : decode cX12_now 23 = .ok (.getfield 31, 3) := by decide +kernel
theorem dX12_now_26 : decode cX12_now 26 = .ok (.iload_n 1, 1) := by decide +kernel
theorem dX12_now_27 : decode cX12_now 27 = .ok (.iaload, 1) := by decide +kernel
theorem dX12_now_28 : decode cX12_now 28 = .ok (.ireturn, 1) := by decide +kernel
theorem dX12_now_29 : decode cX12_now 29 = .ok (.iload_n 1, 1) := by decide +kernel
theorem dX12_now_30 : decode cX12_now 30 = .ok (.iconst 3, 1) := by decide +kernel
theorem dX12_now_31 : decode cX12_now 31 = .ok (.if_icmp .ne 16, 3) := by decide +kernel
theorem dX12_now_34 : decode cX12_now 34 = .ok (.aload_n 0, 1) := by decide +kernel
theorem dX12_now_35 : decode cX12_now 35 = .ok (.aload_n 0, 1) := by decide +kernel
theorem dX12_now_36 : decode cX12_now 36 = .ok (.getfield 31, 3) := by decide +kernel
theorem dX12_now_39 : decode cX12_now 39 = .ok (.iconst 2, 1) := by decide +kernel
theorem dX12_now_40 : decode cX12_now 40 = .ok (.iaload, 1) := by decide +kernel
theorem dX12_now_41 : decode cX12_now 41 = .ok (.invokevirtual 131, 3) := by decide +kernel
theorem dX12_now_44 : decode cX12_now 44 = .ok (.goto 47, 3) := by decide +kernel
theorem dX12_now_47 : decode cX12_now 47 = .ok (.iload_n 1, 1) := by decide +kernel
theorem dX12_now_48 : decode cX12_now 48 = .ok (.iconst 4, 1) := by decide +kernel
theorem dX12_now_49 : decode cX12_now 49 = .ok (.if_icmp .ne 22, 3) := by decide +kernel
theorem dX12_now_52 : decode cX12_now 52 = .ok (.aload_n 0, 1) := by decide +kernel
theorem dX12_now_53 : decode cX12_now 53 = .ok (.aload_n 0, 1) := by decide +kernel
theorem dX12_now_54 : decode cX12_now 54 = .ok (.getfield 31, 3) := by decide +kernel
theorem dX12_now_57 : decode cX12_now 57 = .ok (.invokevirtual 134, 3) := by decide +kernel
theorem dX12_now_60 : decode cX12_now 60 = .ok (.ifCond .eq 7, 3) := by decide +kernel
theorem dX12_now_63 : decode cX12_now 63 = .ok (.iconst 1, 1) := by decide +kernel
theorem dX12_now_64 : decode cX12_now 64 = .ok (.goto 27, 3) := by decide +kernel
theorem dX12_now_67 : decode cX12_now 67 = .ok (.iconst 0, 1) := by decide +kernel
theorem dX12_now_68 : decode cX12_now 68 = .ok (.goto 23, 3) := by decide +kernel
theorem dX12_now_71 : decode cX12_now 71 = .ok (.iload_n 1, 1) := by decide +kernel
theorem dX12_now_72 : decode cX12_now 72 = .ok (.iconst 5, 1) := by decide +kernel
theorem dX12_now_73 : decode cX12_now 73 = .ok (.if_icmp .ne 14, 3) := by decide +kernel
theorem dX12_now_76 : decode cX12_now 76 = .ok (.aload_n 0, 1) := by decide +kernel
theorem dX12_now_77 : decode cX12_now 77 = .ok (.aload_n 0, 1) := by decide +kernel
theorem dX12_now_78 : decode cX12_now 78 = .ok (.getfield 31, 3) := by decide +kernel
theorem dX12_now_81 : decode cX12_now 81 = .ok (.invokevirtual 138, 3) := by decide +kernel
theorem dX12_now_84 : decode cX12_now 84 = .ok (.goto 7, 3) := by decide +kernel
theorem dX12_now_87 : decode cX12_now 87 = .ok (.aload_n 0, 1) := by decide +kernel
theorem dX12_now_88 : decode cX12_now 88 = .ok (.getfield 121, 3) := by decide +kernel
theorem dX12_now_91 : decode cX12_now 91 = .ok (.ireturn, 1) := by decide +kernel
theorem dX12_notes_0 : decode cX12_notes 0 = .ok (.aload_n 0, 1) := by decide +kernel
theorem dX12_notes_1 : decode cX12_notes 1 = .ok (.getfield 121, 3) := by decide +kernel
theorem dX12_notes_4 : decode cX12_notes 4 = .ok (.bipush 10, 2) := by decide +kernel
theorem dX12_notes_6 : decode cX12_notes 6 = .ok (.if_icmp .ne 39, 3) := by decide +kernel
theorem dX12_notes_9 : decode cX12_notes 9 = .ok (.iconst 0, 1) := by decide +kernel
theorem dX12_notes_10 : decode cX12_notes 10 = .ok (.istore_n 1, 1) := by decide +kernel
theorem dX12_notes_11 : decode cX12_notes 11 = .ok (.iload_n 1, 1) := by decide +kernel
theorem dX12_notes_12 : decode cX12_notes 12 = .ok (.sipush 135, 3) := by decide +kernel
theorem dX12_notes_15 : decode cX12_notes 15 = .ok (.if_icmp .ge 24, 3) := by decide +kernel
theorem dX12_notes_18 : decode cX12_notes 18 = .ok (.aload_n 0, 1) := by decide +kernel
theorem dX12_notes_19 : decode cX12_notes 19 = .ok (.getfield 44, 3) := by decide +kernel
theorem dX12_notes_22 : decode cX12_notes 22 = .ok (.iload_n 1, 1) := by decide +kernel
theorem dX12_notes_23 : decode cX12_notes 23 = .ok (.aload_n 0, 1) := by decide +kernel
theorem dX12_notes_24 : decode cX12_notes 24 = .ok (.getfield 44, 3) := by decide +kernel
theorem dX12_notes_27 : decode cX12_notes 27 = .ok (.iload_n 1, 1) := by decide +kernel
theorem dX12_notes_28 : decode cX12_notes 28 = .ok (.bipush 15, 2) := by decide +kernel
theorem dX12_notes_30 : decode cX12_notes 30 = .ok (.iadd, 1) := by decide +kernel
theorem dX12_notes_31 : decode cX12_notes 31 = .ok (.iaload, 1) := by decide +kernel
theorem dX12_notes_32 : decode cX12_notes 32 = .ok (.iastore, 1) := by decide +kernel
theorem dX12_notes_33 : decode cX12_notes 33 = .ok (.iinc 1 1, 3) := by decide +kernel
theorem dX12_notes_36 : decode cX12_notes 36 = .ok (.goto (-25), 3) := by decide +kernel
theorem dX12_notes_39 : decode cX12_notes 39 = .ok (.aload_n 0, 1) := by decide +kernel
theorem dX12_notes_40 : decode cX12_notes 40 = .ok (.bipush 9, 2) := by decide +kernel
theorem dX12_notes_42 : decode cX12_notes 42 = .ok (.putfield 121, 3) := by decide +kernel
theorem dX12_notes_45 : decode cX12_notes 45 = .ok (.iconst 0, 1) := by decide +kernel
theorem dX12_notes_46 : decode cX12_notes 46 = .ok (.istore_n 1, 1) := by decide +kernel
theorem dX12_notes_47 : decode cX12_notes 47 = .ok (.iload_n 1, 1) := by decide +kernel
theorem dX12_notes_48 : decode cX12_notes 48 = .ok (.bipush 15, 2) := by decide +kernel
theorem dX12_notes_50 : decode cX12_notes 50 = .ok (.if_icmp .ge 29, 3) := by decide +kernel
theorem dX12_notes_53 : decode cX12_notes 53 = .ok (.aload_n 0, 1) := by decide +kernel
theorem dX12_notes_54 : decode cX12_notes 54 = .ok (.getfield 44, 3) := by decide +kernel
theorem dX12_notes_57 : decode cX12_notes 57 = .ok (.bipush 15, 2) := by decide +kernel
theorem dX12_notes_59 : decode cX12_notes 59 = .ok (.aload_n 0, 1) := by decide +kernel
theorem dX12_notes_60 : decode cX12_notes 60 = .ok (.getfield 121, 3) := by decide +kernel
theorem dX12_notes_63 : decode cX12_notes 63 = .ok (.imul, 1) := by decide +kernel
theorem dX12_notes_64 : decode cX12_notes 64 = .ok (.iload_n 1, 1) := by decide +kernel
theorem dX12_notes_65 : decode cX12_notes 65 = .ok (.iadd, 1) := by decide +kernel
theorem dX12_notes_66 : decode cX12_notes 66 = .ok (.aload_n 0, 1) := by decide +kernel
theorem dX12_notes_67 : decode cX12_notes 67 = .ok (.getfield 31, 3) := by decide +kernel
theorem dX12_notes_70 : decode cX12_notes 70 = .ok (.iload_n 1, 1) := by decide +kernel
theorem dX12_notes_71 : decode cX12_notes 71 = .ok (.iaload, 1) := by decide +kernel
theorem dX12_notes_72 : decode cX12_notes 72 = .ok (.iastore, 1) := by decide +kernel
theorem dX12_notes_73 : decode cX12_notes 73 = .ok (.iinc 1 1, 3) := by decide +kernel
theorem dX12_notes_76 : decode cX12_notes 76 = .ok (.goto (-29), 3) := by decide +kernel
theorem dX12_notes_79 : decode cX12_notes 79 = .ok (.aload_n 0, 1) := by decide +kernel
theorem dX12_notes_80 : decode cX12_notes 80 = .ok (.dup, 1) := by decide +kernel
theorem dX12_notes_81 : decode cX12_notes 81 = .ok (.getfield 121, 3) := by decide +kernel
theorem dX12_notes_84 : decode cX12_notes 84 = .ok (.iconst 1, 1) := by decide +kernel
theorem dX12_notes_85 : decode cX12_notes 85 = .ok (.iadd, 1) := by decide +kernel
theorem dX12_notes_86 : decode cX12_notes 86 = .ok (.putfield 121, 3) := by decide +kernel
theorem dX12_notes_89 : decode cX12_notes 89 = .ok (.return_, 1) := by decide +kernel
theorem dX12_speak_0 : decode cX12_speak 0 = .ok (.aload_n 1, 1) := by decide +kernel
theorem dX12_speak_1 : decode cX12_speak 1 = .ok (.iconst 2, 1) := by decide +kernel
theorem dX12_speak_2 : decode cX12_speak 2 = .ok (.iload_n 2, 1) := by decide +kernel
theorem dX12_speak_3 : decode cX12_speak 3 = .ok (.iastore, 1) := by decide +kernel
theorem dX12_speak_4 : decode cX12_speak 4 = .ok (.iconst 0, 1) := by decide +kernel
theorem dX12_speak_5 : decode cX12_speak 5 = .ok (.istore_n 3, 1) := by decide +kernel
theorem dX12_speak_6 : decode cX12_speak 6 = .ok (.iload_n 3, 1) := by decide +kernel
theorem dX12_speak_7 : decode cX12_speak 7 = .ok (.aload_n 0, 1) := by decide +kernel
theorem dX12_speak_8 : decode cX12_speak 8 = .ok (.getfield 13, 3) := by decide +kernel
theorem dX12_speak_11 : decode cX12_speak 11 = .ok (.iconst 0, 1) := by decide +kernel
theorem dX12_speak_12 : decode cX12_speak 12 = .ok (.iaload, 1) := by decide +kernel
theorem dX12_speak_13 : decode cX12_speak 13 = .ok (.if_icmp .ge 46, 3) := by decide +kernel
theorem dX12_speak_16 : decode cX12_speak 16 = .ok (.aload_n 1, 1) := by decide +kernel
theorem dX12_speak_17 : decode cX12_speak 17 = .ok (.iconst 3, 1) := by decide +kernel
theorem dX12_speak_18 : decode cX12_speak 18 = .ok (.iload_n 3, 1) := by decide +kernel
theorem dX12_speak_19 : decode cX12_speak 19 = .ok (.iadd, 1) := by decide +kernel
theorem dX12_speak_20 : decode cX12_speak 20 = .ok (.iload_n 2, 1) := by decide +kernel
theorem dX12_speak_21 : decode cX12_speak 21 = .ok (.iload_n 3, 1) := by decide +kernel
theorem dX12_speak_22 : decode cX12_speak 22 = .ok (.ishr, 1) := by decide +kernel
theorem dX12_speak_23 : decode cX12_speak 23 = .ok (.iconst 1, 1) := by decide +kernel
theorem dX12_speak_24 : decode cX12_speak 24 = .ok (.iand, 1) := by decide +kernel
theorem dX12_speak_25 : decode cX12_speak 25 = .ok (.iconst 1, 1) := by decide +kernel
theorem dX12_speak_26 : decode cX12_speak 26 = .ok (.if_icmp .ne 7, 3) := by decide +kernel
theorem dX12_speak_29 : decode cX12_speak 29 = .ok (.iconst 0, 1) := by decide +kernel
theorem dX12_speak_30 : decode cX12_speak 30 = .ok (.goto 8, 3) := by decide +kernel
theorem dX12_speak_33 : decode cX12_speak 33 = .ok (.aload_n 1, 1) := by decide +kernel
theorem dX12_speak_34 : decode cX12_speak 34 = .ok (.iconst 3, 1) := by decide +kernel
theorem dX12_speak_35 : decode cX12_speak 35 = .ok (.iload_n 3, 1) := by decide +kernel
theorem dX12_speak_36 : decode cX12_speak 36 = .ok (.iadd, 1) := by decide +kernel
theorem dX12_speak_37 : decode cX12_speak 37 = .ok (.iaload, 1) := by decide +kernel
theorem dX12_speak_38 : decode cX12_speak 38 = .ok (.iastore, 1) := by decide +kernel
theorem dX12_speak_39 : decode cX12_speak 39 = .ok (.aload_n 1, 1) := by decide +kernel
theorem dX12_speak_40 : decode cX12_speak 40 = .ok (.bipush 9, 2) := by decide +kernel
theorem dX12_speak_42 : decode cX12_speak 42 = .ok (.iload_n 3, 1) := by decide +kernel
theorem dX12_speak_43 : decode cX12_speak 43 = .ok (.iadd, 1) := by decide +kernel
theorem dX12_speak_44 : decode cX12_speak 44 = .ok (.dup2, 1) := by decide +kernel
theorem dX12_speak_45 : decode cX12_speak 45 = .ok (.iaload, 1) := by decide +kernel
theorem dX12_speak_46 : decode cX12_speak 46 = .ok (.iload_n 2, 1) := by decide +kernel
theorem dX12_speak_47 : decode cX12_speak 47 = .ok (.iload_n 3, 1) := by decide +kernel
theorem dX12_speak_48 : decode cX12_speak 48 = .ok (.ishr, 1) := by decide +kernel
theorem dX12_speak_49 : decode cX12_speak 49 = .ok (.iconst 1, 1) := by decide +kernel
theorem dX12_speak_50 : decode cX12_speak 50 = .ok (.iand, 1) := by decide +kernel
theorem dX12_speak_51 : decode cX12_speak 51 = .ok (.iadd, 1) := by decide +kernel
theorem dX12_speak_52 : decode cX12_speak 52 = .ok (.iastore, 1) := by decide +kernel
theorem dX12_speak_53 : decode cX12_speak 53 = .ok (.iinc 3 1, 3) := by decide +kernel
theorem dX12_speak_56 : decode cX12_speak 56 = .ok (.goto (-50), 3) := by decide +kernel
theorem dX12_speak_59 : decode cX12_speak 59 = .ok (.return_, 1) := by decide +kernel
theorem dX12_hushes_0 : decode cX12_hushes 0 = .ok (.iconst 0, 1) := by decide +kernel
theorem dX12_hushes_1 : decode cX12_hushes 1 = .ok (.istore_n 2, 1) := by decide +kernel
theorem dX12_hushes_2 : decode cX12_hushes 2 = .ok (.iconst 0, 1) := by decide +kernel
theorem dX12_hushes_3 : decode cX12_hushes 3 = .ok (.istore_n 3, 1) := by decide +kernel
theorem dX12_hushes_4 : decode cX12_hushes 4 = .ok (.iload_n 3, 1) := by decide +kernel
theorem dX12_hushes_5 : decode cX12_hushes 5 = .ok (.aload_n 0, 1) := by decide +kernel
theorem dX12_hushes_6 : decode cX12_hushes 6 = .ok (.getfield 13, 3) := by decide +kernel
theorem dX12_hushes_9 : decode cX12_hushes 9 = .ok (.iconst 0, 1) := by decide +kernel
theorem dX12_hushes_10 : decode cX12_hushes 10 = .ok (.iaload, 1) := by decide +kernel
theorem dX12_hushes_11 : decode cX12_hushes 11 = .ok (.if_icmp .ge 42, 3) := by decide +kernel
theorem dX12_hushes_14 : decode cX12_hushes 14 = .ok (.aload_n 1, 1) := by decide +kernel
theorem dX12_hushes_15 : decode cX12_hushes 15 = .ok (.iconst 3, 1) := by decide +kernel
theorem dX12_hushes_16 : decode cX12_hushes 16 = .ok (.iload_n 3, 1) := by decide +kernel
theorem dX12_hushes_17 : decode cX12_hushes 17 = .ok (.iadd, 1) := by decide +kernel
theorem dX12_hushes_18 : decode cX12_hushes 18 = .ok (.dup2, 1) := by decide +kernel
theorem dX12_hushes_19 : decode cX12_hushes 19 = .ok (.iaload, 1) := by decide +kernel
theorem dX12_hushes_20 : decode cX12_hushes 20 = .ok (.iconst 1, 1) := by decide +kernel
theorem dX12_hushes_21 : decode cX12_hushes 21 = .ok (.iadd, 1) := by decide +kernel
theorem dX12_hushes_22 : decode cX12_hushes 22 = .ok (.iastore, 1) := by decide +kernel
theorem dX12_hushes_23 : decode cX12_hushes 23 = .ok (.iload_n 2, 1) := by decide +kernel
theorem dX12_hushes_24 : decode cX12_hushes 24 = .ok (.aload_n 1, 1) := by decide +kernel
theorem dX12_hushes_25 : decode cX12_hushes 25 = .ok (.iconst 3, 1) := by decide +kernel
theorem dX12_hushes_26 : decode cX12_hushes 26 = .ok (.iload_n 3, 1) := by decide +kernel
theorem dX12_hushes_27 : decode cX12_hushes 27 = .ok (.iadd, 1) := by decide +kernel
theorem dX12_hushes_28 : decode cX12_hushes 28 = .ok (.iaload, 1) := by decide +kernel
theorem dX12_hushes_29 : decode cX12_hushes 29 = .ok (.aload_n 0, 1) := by decide +kernel
theorem dX12_hushes_30 : decode cX12_hushes 30 = .ok (.getfield 19, 3) := by decide +kernel
theorem dX12_hushes_33 : decode cX12_hushes 33 = .ok (.iload_n 3, 1) := by decide +kernel
theorem dX12_hushes_34 : decode cX12_hushes 34 = .ok (.iaload, 1) := by decide +kernel
theorem dX12_hushes_35 : decode cX12_hushes 35 = .ok (.if_icmp .ne 9, 3) := by decide +kernel
theorem dX12_hushes_38 : decode cX12_hushes 38 = .ok (.iconst 1, 1) := by decide +kernel
theorem dX12_hushes_39 : decode cX12_hushes 39 = .ok (.iload_n 3, 1) := by decide +kernel
theorem dX12_hushes_40 : decode cX12_hushes 40 = .ok (.ishl, 1) := by decide +kernel
theorem dX12_hushes_41 : decode cX12_hushes 41 = .ok (.goto 4, 3) := by decide +kernel
theorem dX12_hushes_44 : decode cX12_hushes 44 = .ok (.iconst 0, 1) := by decide +kernel
theorem dX12_hushes_45 : decode cX12_hushes 45 = .ok (.ior, 1) := by decide +kernel
theorem dX12_hushes_46 : decode cX12_hushes 46 = .ok (.istore_n 2, 1) := by decide +kernel
theorem dX12_hushes_47 : decode cX12_hushes 47 = .ok (.iinc 3 1, 3) := by decide +kernel
theorem dX12_hushes_50 : decode cX12_hushes 50 = .ok (.goto (-46), 3) := by decide +kernel
theorem dX12_hushes_53 : decode cX12_hushes 53 = .ok (.iload_n 2, 1) := by decide +kernel
theorem dX12_hushes_54 : decode cX12_hushes 54 = .ok (.ifCond .eq 9, 3) := by decide +kernel
theorem dX12_hushes_57 : decode cX12_hushes 57 = .ok (.aload_n 0, 1) := by decide +kernel
theorem dX12_hushes_58 : decode cX12_hushes 58 = .ok (.aload_n 1, 1) := by decide +kernel
theorem dX12_hushes_59 : decode cX12_hushes 59 = .ok (.iload_n 2, 1) := by decide +kernel
theorem dX12_hushes_60 : decode cX12_hushes 60 = .ok (.invokevirtual 142, 3) := by decide +kernel
theorem dX12_hushes_63 : decode cX12_hushes 63 = .ok (.return_, 1) := by decide +kernel
theorem dX12_goes_0 : decode cX12_goes 0 = .ok (.aload_n 0, 1) := by decide +kernel
theorem dX12_goes_1 : decode cX12_goes 1 = .ok (.aload_n 1, 1) := by decide +kernel
theorem dX12_goes_2 : decode cX12_goes 2 = .ok (.invokevirtual 134, 3) := by decide +kernel
theorem dX12_goes_5 : decode cX12_goes 5 = .ok (.ifCond .ne 61, 3) := by decide +kernel
theorem dX12_goes_8 : decode cX12_goes 8 = .ok (.aload_n 0, 1) := by decide +kernel
theorem dX12_goes_9 : decode cX12_goes 9 = .ok (.aload_n 1, 1) := by decide +kernel
theorem dX12_goes_10 : decode cX12_goes 10 = .ok (.iconst 2, 1) := by decide +kernel
theorem dX12_goes_11 : decode cX12_goes 11 = .ok (.iaload, 1) := by decide +kernel
theorem dX12_goes_12 : decode cX12_goes 12 = .ok (.invokevirtual 131, 3) := by decide +kernel
theorem dX12_goes_15 : decode cX12_goes 15 = .ok (.istore_n 2, 1) := by decide +kernel
theorem dX12_goes_16 : decode cX12_goes 16 = .ok (.iload_n 2, 1) := by decide +kernel
theorem dX12_goes_17 : decode cX12_goes 17 = .ok (.bipush (-9), 2) := by decide +kernel
theorem dX12_goes_19 : decode cX12_goes 19 = .ok (.if_icmp .ne 9, 3) := by decide +kernel
theorem dX12_goes_22 : decode cX12_goes 22 = .ok (.aload_n 1, 1) := by decide +kernel
theorem dX12_goes_23 : decode cX12_goes 23 = .ok (.iconst 1, 1) := by decide +kernel
theorem dX12_goes_24 : decode cX12_goes 24 = .ok (.iaload, 1) := by decide +kernel
theorem dX12_goes_25 : decode cX12_goes 25 = .ok (.goto 16, 3) := by decide +kernel
theorem dX12_goes_28 : decode cX12_goes 28 = .ok (.aload_n 1, 1) := by decide +kernel
theorem dX12_goes_29 : decode cX12_goes 29 = .ok (.iconst 1, 1) := by decide +kernel
theorem dX12_goes_30 : decode cX12_goes 30 = .ok (.iaload, 1) := by decide +kernel
theorem dX12_goes_31 : decode cX12_goes 31 = .ok (.iload_n 2, 1) := by decide +kernel
theorem dX12_goes_32 : decode cX12_goes 32 = .ok (.iadd, 1) := by decide +kernel
theorem dX12_goes_33 : decode cX12_goes 33 = .ok (.aload_n 0, 1) := by decide +kernel
theorem dX12_goes_34 : decode cX12_goes 34 = .ok (.aload_n 1, 1) := by decide +kernel
theorem dX12_goes_35 : decode cX12_goes 35 = .ok (.iconst 1, 1) := by decide +kernel
theorem dX12_goes_36 : decode cX12_goes 36 = .ok (.iaload, 1) := by decide +kernel
theorem dX12_goes_37 : decode cX12_goes 37 = .ok (.invokevirtual 128, 3) := by decide +kernel
theorem dX12_goes_40 : decode cX12_goes 40 = .ok (.isub, 1) := by decide +kernel
theorem dX12_goes_41 : decode cX12_goes 41 = .ok (.istore_n 3, 1) := by decide +kernel
theorem dX12_goes_42 : decode cX12_goes 42 = .ok (.aload_n 1, 1) := by decide +kernel
theorem dX12_goes_43 : decode cX12_goes 43 = .ok (.iconst 1, 1) := by decide +kernel
theorem dX12_goes_44 : decode cX12_goes 44 = .ok (.iload_n 3, 1) := by decide +kernel
theorem dX12_goes_45 : decode cX12_goes 45 = .ok (.ifCond .ge 7, 3) := by decide +kernel
theorem dX12_goes_48 : decode cX12_goes 48 = .ok (.iconst 0, 1) := by decide +kernel
theorem dX12_goes_49 : decode cX12_goes 49 = .ok (.goto 4, 3) := by decide +kernel
theorem dX12_goes_52 : decode cX12_goes 52 = .ok (.iload_n 3, 1) := by decide +kernel
theorem dX12_goes_53 : decode cX12_goes 53 = .ok (.iastore, 1) := by decide +kernel
theorem dX12_goes_54 : decode cX12_goes 54 = .ok (.aload_n 1, 1) := by decide +kernel
theorem dX12_goes_55 : decode cX12_goes 55 = .ok (.iconst 0, 1) := by decide +kernel
theorem dX12_goes_56 : decode cX12_goes 56 = .ok (.dup2, 1) := by decide +kernel
theorem dX12_goes_57 : decode cX12_goes 57 = .ok (.iaload, 1) := by decide +kernel
theorem dX12_goes_58 : decode cX12_goes 58 = .ok (.iconst 1, 1) := by decide +kernel
theorem dX12_goes_59 : decode cX12_goes 59 = .ok (.iadd, 1) := by decide +kernel
theorem dX12_goes_60 : decode cX12_goes 60 = .ok (.iastore, 1) := by decide +kernel
theorem dX12_goes_61 : decode cX12_goes 61 = .ok (.aload_n 0, 1) := by decide +kernel
theorem dX12_goes_62 : decode cX12_goes 62 = .ok (.aload_n 1, 1) := by decide +kernel
theorem dX12_goes_63 : decode cX12_goes 63 = .ok (.invokevirtual 146, 3) := by decide +kernel
theorem dX12_goes_66 : decode cX12_goes 66 = .ok (.return_, 1) := by decide +kernel
theorem dX12_beat_0 : decode cX12_beat 0 = .ok (.aload_n 0, 1) := by decide +kernel
theorem dX12_beat_1 : decode cX12_beat 1 = .ok (.iconst 0, 1) := by decide +kernel
theorem dX12_beat_2 : decode cX12_beat 2 = .ok (.putfield 59, 3) := by decide +kernel
theorem dX12_beat_5 : decode cX12_beat 5 = .ok (.aload_n 0, 1) := by decide +kernel
theorem dX12_beat_6 : decode cX12_beat 6 = .ok (.aload_n 0, 1) := by decide +kernel
theorem dX12_beat_7 : decode cX12_beat 7 = .ok (.getfield 31, 3) := by decide +kernel
theorem dX12_beat_10 : decode cX12_beat 10 = .ok (.invokevirtual 134, 3) := by decide +kernel
theorem dX12_beat_13 : decode cX12_beat 13 = .ok (.ifCond .ne 15, 3) := by decide +kernel
theorem dX12_beat_16 : decode cX12_beat 16 = .ok (.aload_n 0, 1) := by decide +kernel
theorem dX12_beat_17 : decode cX12_beat 17 = .ok (.getfield 31, 3) := by decide +kernel
theorem dX12_beat_20 : decode cX12_beat 20 = .ok (.iconst 0, 1) := by decide +kernel
theorem dX12_beat_21 : decode cX12_beat 21 = .ok (.iaload, 1) := by decide +kernel
theorem dX12_beat_22 : decode cX12_beat 22 = .ok (.sipush 9999, 3) := by decide +kernel
theorem dX12_beat_25 : decode cX12_beat 25 = .ok (.if_icmp .ne 6, 3) := by decide +kernel
theorem dX12_beat_28 : decode cX12_beat 28 = .ok (.bipush (-2), 2) := by decide +kernel
theorem dX12_beat_30 : decode cX12_beat 30 = .ok (.ireturn, 1) := by decide +kernel
theorem dX12_beat_31 : decode cX12_beat 31 = .ok (.aload_n 0, 1) := by decide +kernel
theorem dX12_beat_32 : decode cX12_beat 32 = .ok (.invokevirtual 150, 3) := by decide +kernel
theorem dX12_beat_35 : decode cX12_beat 35 = .ok (.aload_n 0, 1) := by decide +kernel
theorem dX12_beat_36 : decode cX12_beat 36 = .ok (.aload_n 0, 1) := by decide +kernel
theorem dX12_beat_37 : decode cX12_beat 37 = .ok (.getfield 31, 3) := by decide +kernel
theorem dX12_beat_40 : decode cX12_beat 40 = .ok (.invokevirtual 153, 3) := by decide +kernel
theorem dX12_beat_43 : decode cX12_beat 43 = .ok (.aload_n 0, 1) := by decide +kernel
theorem dX12_beat_44 : decode cX12_beat 44 = .ok (.getfield 31, 3) := by decide +kernel
theorem dX12_beat_47 : decode cX12_beat 47 = .ok (.iconst 1, 1) := by decide +kernel
theorem dX12_beat_48 : decode cX12_beat 48 = .ok (.iaload, 1) := by decide +kernel
theorem dX12_beat_49 : decode cX12_beat 49 = .ok (.ireturn, 1) := by decide +kernel
theorem dX12_pinches_0 : decode cX12_pinches 0 = .ok (.aload_n 0, 1) := by decide +kernel
theorem dX12_pinches_1 : decode cX12_pinches 1 = .ok (.iconst 0, 1) := by decide +kernel
theorem dX12_pinches_2 : decode cX12_pinches 2 = .ok (.putfield 59, 3) := by decide +kernel
theorem dX12_pinches_5 : decode cX12_pinches 5 = .ok (.aload_n 0, 1) := by decide +kernel
theorem dX12_pinches_6 : decode cX12_pinches 6 = .ok (.iload_n 1, 1) := by decide +kernel
theorem dX12_pinches_7 : decode cX12_pinches 7 = .ok (.invokevirtual 124, 3) := by decide +kernel
theorem dX12_pinches_10 : decode cX12_pinches 10 = .ok (.ifCond .ne 5, 3) := by decide +kernel
theorem dX12_pinches_13 : decode cX12_pinches 13 = .ok (.iconst (-1), 1) := by decide +kernel
theorem dX12_pinches_14 : decode cX12_pinches 14 = .ok (.ireturn, 1) := by decide +kernel
theorem dX12_pinches_15 : decode cX12_pinches 15 = .ok (.aload_n 0, 1) := by decide +kernel
theorem dX12_pinches_16 : decode cX12_pinches 16 = .ok (.aload_n 0, 1) := by decide +kernel
theorem dX12_pinches_17 : decode cX12_pinches 17 = .ok (.getfield 31, 3) := by decide +kernel
theorem dX12_pinches_20 : decode cX12_pinches 20 = .ok (.invokevirtual 134, 3) := by decide +kernel
theorem dX12_pinches_23 : decode cX12_pinches 23 = .ok (.ifCond .eq 6, 3) := by decide +kernel
theorem dX12_pinches_26 : decode cX12_pinches 26 = .ok (.bipush (-2), 2) := by decide +kernel
theorem dX12_pinches_28 : decode cX12_pinches 28 = .ok (.ireturn, 1) := by decide +kernel
theorem dX12_pinches_29 : decode cX12_pinches 29 = .ok (.aload_n 0, 1) := by decide +kernel
theorem dX12_pinches_30 : decode cX12_pinches 30 = .ok (.invokevirtual 150, 3) := by decide +kernel
theorem dX12_pinches_33 : decode cX12_pinches 33 = .ok (.aload_n 0, 1) := by decide +kernel
theorem dX12_pinches_34 : decode cX12_pinches 34 = .ok (.aload_n 0, 1) := by decide +kernel
theorem dX12_pinches_35 : decode cX12_pinches 35 = .ok (.getfield 31, 3) := by decide +kernel
theorem dX12_pinches_38 : decode cX12_pinches 38 = .ok (.iconst 1, 1) := by decide +kernel
theorem dX12_pinches_39 : decode cX12_pinches 39 = .ok (.iload_n 1, 1) := by decide +kernel
theorem dX12_pinches_40 : decode cX12_pinches 40 = .ok (.ishl, 1) := by decide +kernel
theorem dX12_pinches_41 : decode cX12_pinches 41 = .ok (.invokevirtual 142, 3) := by decide +kernel
theorem dX12_pinches_44 : decode cX12_pinches 44 = .ok (.aload_n 0, 1) := by decide +kernel
theorem dX12_pinches_45 : decode cX12_pinches 45 = .ok (.getfield 31, 3) := by decide +kernel
theorem dX12_pinches_48 : decode cX12_pinches 48 = .ok (.bipush 9, 2) := by decide +kernel
theorem dX12_pinches_50 : decode cX12_pinches 50 = .ok (.iload_n 1, 1) := by decide +kernel
theorem dX12_pinches_51 : decode cX12_pinches 51 = .ok (.iadd, 1) := by decide +kernel
theorem dX12_pinches_52 : decode cX12_pinches 52 = .ok (.iaload, 1) := by decide +kernel
theorem dX12_pinches_53 : decode cX12_pinches 53 = .ok (.ireturn, 1) := by decide +kernel
theorem dX12_quarrels_0 : decode cX12_quarrels 0 = .ok (.aload_n 0, 1) := by decide +kernel
theorem dX12_quarrels_1 : decode cX12_quarrels 1 = .ok (.iconst 0, 1) := by decide +kernel
theorem dX12_quarrels_2 : decode cX12_quarrels 2 = .ok (.putfield 59, 3) := by decide +kernel
theorem dX12_quarrels_5 : decode cX12_quarrels 5 = .ok (.aload_n 0, 1) := by decide +kernel
theorem dX12_quarrels_6 : decode cX12_quarrels 6 = .ok (.iload_n 1, 1) := by decide +kernel
theorem dX12_quarrels_7 : decode cX12_quarrels 7 = .ok (.invokevirtual 124, 3) := by decide +kernel
theorem dX12_quarrels_10 : decode cX12_quarrels 10 = .ok (.ifCond .eq 16, 3) := by decide +kernel
theorem dX12_quarrels_13 : decode cX12_quarrels 13 = .ok (.aload_n 0, 1) := by decide +kernel
theorem dX12_quarrels_14 : decode cX12_quarrels 14 = .ok (.iload_n 2, 1) := by decide +kernel
theorem dX12_quarrels_15 : decode cX12_quarrels 15 = .ok (.invokevirtual 124, 3) := by decide +kernel
theorem dX12_quarrels_18 : decode cX12_quarrels 18 = .ok (.ifCond .eq 8, 3) := by decide +kernel
theorem dX12_quarrels_21 : decode cX12_quarrels 21 = .ok (.iload_n 1, 1) := by decide +kernel
theorem dX12_quarrels_22 : decode cX12_quarrels 22 = .ok (.iload_n 2, 1) := by decide +kernel
theorem dX12_quarrels_23 : decode cX12_quarrels 23 = .ok (.if_icmp .ne 5, 3) := by decide +kernel
theorem dX12_quarrels_26 : decode cX12_quarrels 26 = .ok (.iconst (-1), 1) := by decide +kernel
theorem dX12_quarrels_27 : decode cX12_quarrels 27 = .ok (.ireturn, 1) := by decide +kernel
theorem dX12_quarrels_28 : decode cX12_quarrels 28 = .ok (.aload_n 0, 1) := by decide +kernel
theorem dX12_quarrels_29 : decode cX12_quarrels 29 = .ok (.aload_n 0, 1) := by decide +kernel
theorem dX12_quarrels_30 : decode cX12_quarrels 30 = .ok (.getfield 31, 3) := by decide +kernel
theorem dX12_quarrels_33 : decode cX12_quarrels 33 = .ok (.invokevirtual 134, 3) := by decide +kernel
theorem dX12_quarrels_36 : decode cX12_quarrels 36 = .ok (.ifCond .eq 6, 3) := by decide +kernel
theorem dX12_quarrels_39 : decode cX12_quarrels 39 = .ok (.bipush (-2), 2) := by decide +kernel
theorem dX12_quarrels_41 : decode cX12_quarrels 41 = .ok (.ireturn, 1) := by decide +kernel
theorem dX12_quarrels_42 : decode cX12_quarrels 42 = .ok (.aload_n 0, 1) := by decide +kernel
theorem dX12_quarrels_43 : decode cX12_quarrels 43 = .ok (.invokevirtual 150, 3) := by decide +kernel
theorem dX12_quarrels_46 : decode cX12_quarrels 46 = .ok (.aload_n 0, 1) := by decide +kernel
theorem dX12_quarrels_47 : decode cX12_quarrels 47 = .ok (.aload_n 0, 1) := by decide +kernel
theorem dX12_quarrels_48 : decode cX12_quarrels 48 = .ok (.getfield 31, 3) := by decide +kernel
theorem dX12_quarrels_51 : decode cX12_quarrels 51 = .ok (.iconst 1, 1) := by decide +kernel
theorem dX12_quarrels_52 : decode cX12_quarrels 52 = .ok (.iload_n 1, 1) := by decide +kernel
theorem dX12_quarrels_53 : decode cX12_quarrels 53 = .ok (.ishl, 1) := by decide +kernel
theorem dX12_quarrels_54 : decode cX12_quarrels 54 = .ok (.iconst 1, 1) := by decide +kernel
theorem dX12_quarrels_55 : decode cX12_quarrels 55 = .ok (.iload_n 2, 1) := by decide +kernel
theorem dX12_quarrels_56 : decode cX12_quarrels 56 = .ok (.ishl, 1) := by decide +kernel
theorem dX12_quarrels_57 : decode cX12_quarrels 57 = .ok (.ior, 1) := by decide +kernel
theorem dX12_quarrels_58 : decode cX12_quarrels 58 = .ok (.invokevirtual 142, 3) := by decide +kernel
theorem dX12_quarrels_61 : decode cX12_quarrels 61 = .ok (.aload_n 0, 1) := by decide +kernel
theorem dX12_quarrels_62 : decode cX12_quarrels 62 = .ok (.aload_n 0, 1) := by decide +kernel
theorem dX12_quarrels_63 : decode cX12_quarrels 63 = .ok (.getfield 31, 3) := by decide +kernel
theorem dX12_quarrels_66 : decode cX12_quarrels 66 = .ok (.iconst 2, 1) := by decide +kernel
theorem dX12_quarrels_67 : decode cX12_quarrels 67 = .ok (.iaload, 1) := by decide +kernel
theorem dX12_quarrels_68 : decode cX12_quarrels 68 = .ok (.invokevirtual 131, 3) := by decide +kernel
theorem dX12_quarrels_71 : decode cX12_quarrels 71 = .ok (.ireturn, 1) := by decide +kernel
theorem dX12_sings_0 : decode cX12_sings 0 = .ok (.aload_n 0, 1) := by decide +kernel
theorem dX12_sings_1 : decode cX12_sings 1 = .ok (.iconst 0, 1) := by decide +kernel
theorem dX12_sings_2 : decode cX12_sings 2 = .ok (.putfield 59, 3) := by decide +kernel
theorem dX12_sings_5 : decode cX12_sings 5 = .ok (.iload_n 1, 1) := by decide +kernel
theorem dX12_sings_6 : decode cX12_sings 6 = .ok (.iconst 1, 1) := by decide +kernel
theorem dX12_sings_7 : decode cX12_sings 7 = .ok (.iconst 3, 1) := by decide +kernel
theorem dX12_sings_8 : decode cX12_sings 8 = .ok (.invokestatic 63, 3) := by decide +kernel
theorem dX12_sings_11 : decode cX12_sings 11 = .ok (.ifCond .ne 5, 3) := by decide +kernel
theorem dX12_sings_14 : decode cX12_sings 14 = .ok (.iconst (-1), 1) := by decide +kernel
theorem dX12_sings_15 : decode cX12_sings 15 = .ok (.ireturn, 1) := by decide +kernel
theorem dX12_sings_16 : decode cX12_sings 16 = .ok (.iconst 0, 1) := by decide +kernel
theorem dX12_sings_17 : decode cX12_sings 17 = .ok (.istore_n 2, 1) := by decide +kernel
theorem dX12_sings_18 : decode cX12_sings 18 = .ok (.iconst 0, 1) := by decide +kernel
theorem dX12_sings_19 : decode cX12_sings 19 = .ok (.istore_n 3, 1) := by decide +kernel
theorem dX12_sings_20 : decode cX12_sings 20 = .ok (.iload_n 3, 1) := by decide +kernel
theorem dX12_sings_21 : decode cX12_sings 21 = .ok (.aload_n 0, 1) := by decide +kernel
theorem dX12_sings_22 : decode cX12_sings 22 = .ok (.getfield 13, 3) := by decide +kernel
theorem dX12_sings_25 : decode cX12_sings 25 = .ok (.iconst 0, 1) := by decide +kernel
theorem dX12_sings_26 : decode cX12_sings 26 = .ok (.iaload, 1) := by decide +kernel
theorem dX12_sings_27 : decode cX12_sings 27 = .ok (.if_icmp .ge 29, 3) := by decide +kernel
theorem dX12_sings_30 : decode cX12_sings 30 = .ok (.iload_n 2, 1) := by decide +kernel
theorem dX12_sings_31 : decode cX12_sings 31 = .ok (.aload_n 0, 1) := by decide +kernel
theorem dX12_sings_32 : decode cX12_sings 32 = .ok (.getfield 22, 3) := by decide +kernel
theorem dX12_sings_35 : decode cX12_sings 35 = .ok (.iload_n 3, 1) := by decide +kernel
theorem dX12_sings_36 : decode cX12_sings 36 = .ok (.iaload, 1) := by decide +kernel
theorem dX12_sings_37 : decode cX12_sings 37 = .ok (.iload_n 1, 1) := by decide +kernel
theorem dX12_sings_38 : decode cX12_sings 38 = .ok (.if_icmp .ne 9, 3) := by decide +kernel
theorem dX12_sings_41 : decode cX12_sings 41 = .ok (.iconst 1, 1) := by decide +kernel
theorem dX12_sings_42 : decode cX12_sings 42 = .ok (.iload_n 3, 1) := by decide +kernel
theorem dX12_sings_43 : decode cX12_sings 43 = .ok (.ishl, 1) := by decide +kernel
theorem dX12_sings_44 : decode cX12_sings 44 = .ok (.goto 4, 3) := by decide +kernel
theorem dX12_sings_47 : decode cX12_sings 47 = .ok (.iconst 0, 1) := by decide +kernel
theorem dX12_sings_48 : decode cX12_sings 48 = .ok (.ior, 1) := by decide +kernel
theorem dX12_sings_49 : decode cX12_sings 49 = .ok (.istore_n 2, 1) := by decide +kernel
theorem dX12_sings_50 : decode cX12_sings 50 = .ok (.iinc 3 1, 3) := by decide +kernel
theorem dX12_sings_53 : decode cX12_sings 53 = .ok (.goto (-33), 3) := by decide +kernel
theorem dX12_sings_56 : decode cX12_sings 56 = .ok (.aload_n 0, 1) := by decide +kernel
theorem dX12_sings_57 : decode cX12_sings 57 = .ok (.aload_n 0, 1) := by decide +kernel
theorem dX12_sings_58 : decode cX12_sings 58 = .ok (.getfield 31, 3) := by decide +kernel
theorem dX12_sings_61 : decode cX12_sings 61 = .ok (.invokevirtual 134, 3) := by decide +kernel
theorem dX12_sings_64 : decode cX12_sings 64 = .ok (.ifCond .ne 7, 3) := by decide +kernel
theorem dX12_sings_67 : decode cX12_sings 67 = .ok (.iload_n 2, 1) := by decide +kernel
theorem dX12_sings_68 : decode cX12_sings 68 = .ok (.ifCond .ne 6, 3) := by decide +kernel
theorem dX12_sings_71 : decode cX12_sings 71 = .ok (.bipush (-2), 2) := by decide +kernel
theorem dX12_sings_73 : decode cX12_sings 73 = .ok (.ireturn, 1) := by decide +kernel
theorem dX12_sings_74 : decode cX12_sings 74 = .ok (.aload_n 0, 1) := by decide +kernel
theorem dX12_sings_75 : decode cX12_sings 75 = .ok (.invokevirtual 150, 3) := by decide +kernel
theorem dX12_sings_78 : decode cX12_sings 78 = .ok (.aload_n 0, 1) := by decide +kernel
theorem dX12_sings_79 : decode cX12_sings 79 = .ok (.aload_n 0, 1) := by decide +kernel
theorem dX12_sings_80 : decode cX12_sings 80 = .ok (.getfield 31, 3) := by decide +kernel
theorem dX12_sings_83 : decode cX12_sings 83 = .ok (.iload_n 2, 1) := by decide +kernel
theorem dX12_sings_84 : decode cX12_sings 84 = .ok (.invokevirtual 142, 3) := by decide +kernel
theorem dX12_sings_87 : decode cX12_sings 87 = .ok (.aload_n 0, 1) := by decide +kernel
theorem dX12_sings_88 : decode cX12_sings 88 = .ok (.iload_n 2, 1) := by decide +kernel
theorem dX12_sings_89 : decode cX12_sings 89 = .ok (.invokevirtual 131, 3) := by decide +kernel
theorem dX12_sings_92 : decode cX12_sings 92 = .ok (.ireturn, 1) := by decide +kernel
theorem dX12_undo_0 : decode cX12_undo 0 = .ok (.aload_n 0, 1) := by decide +kernel
theorem dX12_undo_1 : decode cX12_undo 1 = .ok (.iconst 0, 1) := by decide +kernel
theorem dX12_undo_2 : decode cX12_undo 2 = .ok (.putfield 59, 3) := by decide +kernel
theorem dX12_undo_5 : decode cX12_undo 5 = .ok (.aload_n 0, 1) := by decide +kernel
theorem dX12_undo_6 : decode cX12_undo 6 = .ok (.getfield 121, 3) := by decide +kernel
theorem dX12_undo_9 : decode cX12_undo 9 = .ok (.ifCond .ne 6, 3) := by decide +kernel
theorem dX12_undo_12 : decode cX12_undo 12 = .ok (.bipush (-2), 2) := by decide +kernel
theorem dX12_undo_14 : decode cX12_undo 14 = .ok (.ireturn, 1) := by decide +kernel
theorem dX12_undo_15 : decode cX12_undo 15 = .ok (.aload_n 0, 1) := by decide +kernel
theorem dX12_undo_16 : decode cX12_undo 16 = .ok (.dup, 1) := by decide +kernel
theorem dX12_undo_17 : decode cX12_undo 17 = .ok (.getfield 121, 3) := by decide +kernel
theorem dX12_undo_20 : decode cX12_undo 20 = .ok (.iconst 1, 1) := by decide +kernel
theorem dX12_undo_21 : decode cX12_undo 21 = .ok (.isub, 1) := by decide +kernel
theorem dX12_undo_22 : decode cX12_undo 22 = .ok (.putfield 121, 3) := by decide +kernel
theorem dX12_undo_25 : decode cX12_undo 25 = .ok (.iconst 0, 1) := by decide +kernel
theorem dX12_undo_26 : decode cX12_undo 26 = .ok (.istore_n 1, 1) := by decide +kernel
theorem dX12_undo_27 : decode cX12_undo 27 = .ok (.iload_n 1, 1) := by decide +kernel
theorem dX12_undo_28 : decode cX12_undo 28 = .ok (.bipush 15, 2) := by decide +kernel
theorem dX12_undo_30 : decode cX12_undo 30 = .ok (.if_icmp .ge 29, 3) := by decide +kernel
theorem dX12_undo_33 : decode cX12_undo 33 = .ok (.aload_n 0, 1) := by decide +kernel
theorem dX12_undo_34 : decode cX12_undo 34 = .ok (.getfield 31, 3) := by decide +kernel
theorem dX12_undo_37 : decode cX12_undo 37 = .ok (.iload_n 1, 1) := by decide +kernel
theorem dX12_undo_38 : decode cX12_undo 38 = .ok (.aload_n 0, 1) := by decide +kernel
theorem dX12_undo_39 : decode cX12_undo 39 = .ok (.getfield 44, 3) := by decide +kernel
theorem dX12_undo_42 : decode cX12_undo 42 = .ok (.bipush 15, 2) := by decide +kernel
theorem dX12_undo_44 : decode cX12_undo 44 = .ok (.aload_n 0, 1) := by decide +kernel
theorem dX12_undo_45 : decode cX12_undo 45 = .ok (.getfield 121, 3) := by decide +kernel
theorem dX12_undo_48 : decode cX12_undo 48 = .ok (.imul, 1) := by decide +kernel
theorem dX12_undo_49 : decode cX12_undo 49 = .ok (.iload_n 1, 1) := by decide +kernel
theorem dX12_undo_50 : decode cX12_undo 50 = .ok (.iadd, 1) := by decide +kernel
theorem dX12_undo_51 : decode cX12_undo 51 = .ok (.iaload, 1) := by decide +kernel
theorem dX12_undo_52 : decode cX12_undo 52 = .ok (.iastore, 1) := by decide +kernel
theorem dX12_undo_53 : decode cX12_undo 53 = .ok (.iinc 1 1, 3) := by decide +kernel
theorem dX12_undo_56 : decode cX12_undo 56 = .ok (.goto (-29), 3) := by decide +kernel
theorem dX12_undo_59 : decode cX12_undo 59 = .ok (.aload_n 0, 1) := by decide +kernel
theorem dX12_undo_60 : decode cX12_undo 60 = .ok (.getfield 121, 3) := by decide +kernel
theorem dX12_undo_63 : decode cX12_undo 63 = .ok (.ireturn, 1) := by decide +kernel
theorem dX12_asNow_0 : decode cX12_asNow 0 = .ok (.iconst 0, 1) := by decide +kernel
theorem dX12_asNow_1 : decode cX12_asNow 1 = .ok (.istore_n 1, 1) := by decide +kernel
theorem dX12_asNow_2 : decode cX12_asNow 2 = .ok (.iload_n 1, 1) := by decide +kernel
theorem dX12_asNow_3 : decode cX12_asNow 3 = .ok (.bipush 15, 2) := by decide +kernel
theorem dX12_asNow_5 : decode cX12_asNow 5 = .ok (.if_icmp .ge 21, 3) := by decide +kernel
theorem dX12_asNow_8 : decode cX12_asNow 8 = .ok (.aload_n 0, 1) := by decide +kernel
theorem dX12_asNow_9 : decode cX12_asNow 9 = .ok (.getfield 34, 3) := by decide +kernel
theorem dX12_asNow_12 : decode cX12_asNow 12 = .ok (.iload_n 1, 1) := by decide +kernel
theorem dX12_asNow_13 : decode cX12_asNow 13 = .ok (.aload_n 0, 1) := by decide +kernel
theorem dX12_asNow_14 : decode cX12_asNow 14 = .ok (.getfield 31, 3) := by decide +kernel
theorem dX12_asNow_17 : decode cX12_asNow 17 = .ok (.iload_n 1, 1) := by decide +kernel
theorem dX12_asNow_18 : decode cX12_asNow 18 = .ok (.iaload, 1) := by decide +kernel
theorem dX12_asNow_19 : decode cX12_asNow 19 = .ok (.iastore, 1) := by decide +kernel
theorem dX12_asNow_20 : decode cX12_asNow 20 = .ok (.iinc 1 1, 3) := by decide +kernel
theorem dX12_asNow_23 : decode cX12_asNow 23 = .ok (.goto (-21), 3) := by decide +kernel
theorem dX12_asNow_26 : decode cX12_asNow 26 = .ok (.return_, 1) := by decide +kernel
theorem dX12_inBeats_0 : decode cX12_inBeats 0 = .ok (.aload_n 0, 1) := by decide +kernel
theorem dX12_inBeats_1 : decode cX12_inBeats 1 = .ok (.iconst 0, 1) := by decide +kernel
theorem dX12_inBeats_2 : decode cX12_inBeats 2 = .ok (.putfield 59, 3) := by decide +kernel
theorem dX12_inBeats_5 : decode cX12_inBeats 5 = .ok (.iload_n 1, 1) := by decide +kernel
theorem dX12_inBeats_6 : decode cX12_inBeats 6 = .ok (.iconst 0, 1) := by decide +kernel
theorem dX12_inBeats_7 : decode cX12_inBeats 7 = .ok (.sipush 200, 3) := by decide +kernel
theorem dX12_inBeats_10 : decode cX12_inBeats 10 = .ok (.invokestatic 63, 3) := by decide +kernel
theorem dX12_inBeats_13 : decode cX12_inBeats 13 = .ok (.ifCond .eq 12, 3) := by decide +kernel
theorem dX12_inBeats_16 : decode cX12_inBeats 16 = .ok (.iload_n 2, 1) := by decide +kernel
theorem dX12_inBeats_17 : decode cX12_inBeats 17 = .ok (.iconst 0, 1) := by decide +kernel
theorem dX12_inBeats_18 : decode cX12_inBeats 18 = .ok (.iconst 2, 1) := by decide +kernel
theorem dX12_inBeats_19 : decode cX12_inBeats 19 = .ok (.invokestatic 63, 3) := by decide +kernel
theorem dX12_inBeats_22 : decode cX12_inBeats 22 = .ok (.ifCond .ne 5, 3) := by decide +kernel
theorem dX12_inBeats_25 : decode cX12_inBeats 25 = .ok (.iconst (-1), 1) := by decide +kernel
theorem dX12_inBeats_26 : decode cX12_inBeats 26 = .ok (.ireturn, 1) := by decide +kernel
theorem dX12_inBeats_27 : decode cX12_inBeats 27 = .ok (.aload_n 0, 1) := by decide +kernel
theorem dX12_inBeats_28 : decode cX12_inBeats 28 = .ok (.invokevirtual 156, 3) := by decide +kernel
theorem dX12_inBeats_31 : decode cX12_inBeats 31 = .ok (.iconst 0, 1) := by decide +kernel
theorem dX12_inBeats_32 : decode cX12_inBeats 32 = .ok (.istore_n 3, 1) := by decide +kernel
theorem dX12_inBeats_33 : decode cX12_inBeats 33 = .ok (.iload_n 3, 1) := by decide +kernel
theorem dX12_inBeats_34 : decode cX12_inBeats 34 = .ok (.iload_n 1, 1) := by decide +kernel
theorem dX12_inBeats_35 : decode cX12_inBeats 35 = .ok (.if_icmp .ge 17, 3) := by decide +kernel
theorem dX12_inBeats_38 : decode cX12_inBeats 38 = .ok (.aload_n 0, 1) := by decide +kernel
theorem dX12_inBeats_39 : decode cX12_inBeats 39 = .ok (.aload_n 0, 1) := by decide +kernel
theorem dX12_inBeats_40 : decode cX12_inBeats 40 = .ok (.getfield 34, 3) := by decide +kernel
theorem dX12_inBeats_43 : decode cX12_inBeats 43 = .ok (.invokevirtual 153, 3) := by decide +kernel
theorem dX12_inBeats_46 : decode cX12_inBeats 46 = .ok (.iinc 3 1, 3) := by decide +kernel
theorem dX12_inBeats_49 : decode cX12_inBeats 49 = .ok (.goto (-16), 3) := by decide +kernel
theorem dX12_inBeats_52 : decode cX12_inBeats 52 = .ok (.iload_n 2, 1) := by decide +kernel
theorem dX12_inBeats_53 : decode cX12_inBeats 53 = .ok (.ifCond .ne 12, 3) := by decide +kernel
theorem dX12_inBeats_56 : decode cX12_inBeats 56 = .ok (.aload_n 0, 1) := by decide +kernel
theorem dX12_inBeats_57 : decode cX12_inBeats 57 = .ok (.getfield 34, 3) := by decide +kernel
theorem dX12_inBeats_60 : decode cX12_inBeats 60 = .ok (.iconst 1, 1) := by decide +kernel
theorem dX12_inBeats_61 : decode cX12_inBeats 61 = .ok (.iaload, 1) := by decide +kernel
theorem dX12_inBeats_62 : decode cX12_inBeats 62 = .ok (.goto 34, 3) := by decide +kernel
theorem dX12_inBeats_65 : decode cX12_inBeats 65 = .ok (.iload_n 2, 1) := by decide +kernel
theorem dX12_inBeats_66 : decode cX12_inBeats 66 = .ok (.iconst 1, 1) := by decide +kernel
theorem dX12_inBeats_67 : decode cX12_inBeats 67 = .ok (.if_icmp .ne 12, 3) := by decide +kernel
theorem dX12_inBeats_70 : decode cX12_inBeats 70 = .ok (.aload_n 0, 1) := by decide +kernel
theorem dX12_inBeats_71 : decode cX12_inBeats 71 = .ok (.getfield 34, 3) := by decide +kernel
theorem dX12_inBeats_74 : decode cX12_inBeats 74 = .ok (.iconst 2, 1) := by decide +kernel
theorem dX12_inBeats_75 : decode cX12_inBeats 75 = .ok (.iaload, 1) := by decide +kernel
theorem dX12_inBeats_76 : decode cX12_inBeats 76 = .ok (.goto 20, 3) := by decide +kernel
theorem dX12_inBeats_79 : decode cX12_inBeats 79 = .ok (.aload_n 0, 1) := by decide +kernel
theorem dX12_inBeats_80 : decode cX12_inBeats 80 = .ok (.aload_n 0, 1) := by decide +kernel
theorem dX12_inBeats_81 : decode cX12_inBeats 81 = .ok (.getfield 34, 3) := by decide +kernel
theorem dX12_inBeats_84 : decode cX12_inBeats 84 = .ok (.invokevirtual 138, 3) := by decide +kernel
theorem dX12_inBeats_87 : decode cX12_inBeats 87 = .ok (.aload_n 0, 1) := by decide +kernel
theorem dX12_inBeats_88 : decode cX12_inBeats 88 = .ok (.aload_n 0, 1) := by decide +kernel
theorem dX12_inBeats_89 : decode cX12_inBeats 89 = .ok (.getfield 31, 3) := by decide +kernel
theorem dX12_inBeats_92 : decode cX12_inBeats 92 = .ok (.invokevirtual 138, 3) := by decide +kernel
theorem dX12_inBeats_95 : decode cX12_inBeats 95 = .ok (.isub, 1) := by decide +kernel
theorem dX12_inBeats_96 : decode cX12_inBeats 96 = .ok (.ireturn, 1) := by decide +kernel
theorem dX12_endsBehind_0 : decode cX12_endsBehind 0 = .ok (.iload_n 1, 1) := by decide +kernel
theorem dX12_endsBehind_1 : decode cX12_endsBehind 1 = .ok (.istore_n 2, 1) := by decide +kernel
theorem dX12_endsBehind_2 : decode cX12_endsBehind 2 = .ok (.iload_n 2, 1) := by decide +kernel
theorem dX12_endsBehind_3 : decode cX12_endsBehind 3 = .ok (.sipush 400, 3) := by decide +kernel
theorem dX12_endsBehind_6 : decode cX12_endsBehind 6 = .ok (.if_icmp .gt 30, 3) := by decide +kernel
theorem dX12_endsBehind_9 : decode cX12_endsBehind 9 = .ok (.aload_n 0, 1) := by decide +kernel
theorem dX12_endsBehind_10 : decode cX12_endsBehind 10 = .ok (.aload_n 0, 1) := by decide +kernel
theorem dX12_endsBehind_11 : decode cX12_endsBehind 11 = .ok (.getfield 34, 3) := by decide +kernel
theorem dX12_endsBehind_14 : decode cX12_endsBehind 14 = .ok (.invokevirtual 134, 3) := by decide +kernel
theorem dX12_endsBehind_17 : decode cX12_endsBehind 17 = .ok (.ifCond .eq 5, 3) := by decide +kernel
theorem dX12_endsBehind_20 : decode cX12_endsBehind 20 = .ok (.iload_n 2, 1) := by decide +kernel
theorem dX12_endsBehind_21 : decode cX12_endsBehind 21 = .ok (.ireturn, 1) := by decide +kernel
theorem dX12_endsBehind_22 : decode cX12_endsBehind 22 = .ok (.aload_n 0, 1) := by decide +kernel
theorem dX12_endsBehind_23 : decode cX12_endsBehind 23 = .ok (.aload_n 0, 1) := by decide +kernel
theorem dX12_endsBehind_24 : decode cX12_endsBehind 24 = .ok (.getfield 34, 3) := by decide +kernel
theorem dX12_endsBehind_27 : decode cX12_endsBehind 27 = .ok (.invokevirtual 153, 3) := by decide +kernel
theorem dX12_endsBehind_30 : decode cX12_endsBehind 30 = .ok (.iinc 2 1, 3) := by decide +kernel
theorem dX12_endsBehind_33 : decode cX12_endsBehind 33 = .ok (.goto (-31), 3) := by decide +kernel
theorem dX12_endsBehind_36 : decode cX12_endsBehind 36 = .ok (.bipush (-9), 2) := by decide +kernel
theorem dX12_endsBehind_38 : decode cX12_endsBehind 38 = .ok (.ireturn, 1) := by decide +kernel
theorem dX12_ends_0 : decode cX12_ends 0 = .ok (.aload_n 0, 1) := by decide +kernel
theorem dX12_ends_1 : decode cX12_ends 1 = .ok (.iconst 0, 1) := by decide +kernel
theorem dX12_ends_2 : decode cX12_ends 2 = .ok (.putfield 59, 3) := by decide +kernel
theorem dX12_ends_5 : decode cX12_ends 5 = .ok (.aload_n 0, 1) := by decide +kernel
theorem dX12_ends_6 : decode cX12_ends 6 = .ok (.invokevirtual 156, 3) := by decide +kernel
theorem dX12_ends_9 : decode cX12_ends 9 = .ok (.aload_n 0, 1) := by decide +kernel
theorem dX12_ends_10 : decode cX12_ends 10 = .ok (.iconst 0, 1) := by decide +kernel
theorem dX12_ends_11 : decode cX12_ends 11 = .ok (.invokevirtual 159, 3) := by decide +kernel
theorem dX12_ends_14 : decode cX12_ends 14 = .ok (.ireturn, 1) := by decide +kernel
theorem dX12_last_0 : decode cX12_last 0 = .ok (.aload_n 0, 1) := by decide +kernel
theorem dX12_last_1 : decode cX12_last 1 = .ok (.iconst 0, 1) := by decide +kernel
theorem dX12_last_2 : decode cX12_last 2 = .ok (.putfield 59, 3) := by decide +kernel
theorem dX12_last_5 : decode cX12_last 5 = .ok (.aload_n 0, 1) := by decide +kernel
theorem dX12_last_6 : decode cX12_last 6 = .ok (.invokevirtual 156, 3) := by decide +kernel
theorem dX12_last_9 : decode cX12_last 9 = .ok (.aload_n 0, 1) := by decide +kernel
theorem dX12_last_10 : decode cX12_last 10 = .ok (.iconst 0, 1) := by decide +kernel
theorem dX12_last_11 : decode cX12_last 11 = .ok (.invokevirtual 159, 3) := by decide +kernel
theorem dX12_last_14 : decode cX12_last 14 = .ok (.bipush (-9), 2) := by decide +kernel
theorem dX12_last_16 : decode cX12_last 16 = .ok (.if_icmp .ne 8, 3) := by decide +kernel
theorem dX12_last_19 : decode cX12_last 19 = .ok (.bipush (-9), 2) := by decide +kernel
theorem dX12_last_21 : decode cX12_last 21 = .ok (.goto 9, 3) := by decide +kernel
theorem dX12_last_24 : decode cX12_last 24 = .ok (.aload_n 0, 1) := by decide +kernel
theorem dX12_last_25 : decode cX12_last 25 = .ok (.getfield 34, 3) := by decide +kernel
theorem dX12_last_28 : decode cX12_last 28 = .ok (.iconst 2, 1) := by decide +kernel
theorem dX12_last_29 : decode cX12_last 29 = .ok (.iaload, 1) := by decide +kernel
theorem dX12_last_30 : decode cX12_last 30 = .ok (.ireturn, 1) := by decide +kernel
theorem dX12_first_0 : decode cX12_first 0 = .ok (.aload_n 0, 1) := by decide +kernel
theorem dX12_first_1 : decode cX12_first 1 = .ok (.iconst 0, 1) := by decide +kernel
theorem dX12_first_2 : decode cX12_first 2 = .ok (.putfield 59, 3) := by decide +kernel
theorem dX12_first_5 : decode cX12_first 5 = .ok (.iload_n 1, 1) := by decide +kernel
theorem dX12_first_6 : decode cX12_first 6 = .ok (.iconst 0, 1) := by decide +kernel
theorem dX12_first_7 : decode cX12_first 7 = .ok (.iconst 1, 1) := by decide +kernel
theorem dX12_first_8 : decode cX12_first 8 = .ok (.invokestatic 63, 3) := by decide +kernel
theorem dX12_first_11 : decode cX12_first 11 = .ok (.ifCond .ne 5, 3) := by decide +kernel
theorem dX12_first_14 : decode cX12_first 14 = .ok (.iconst (-1), 1) := by decide +kernel
theorem dX12_first_15 : decode cX12_first 15 = .ok (.ireturn, 1) := by decide +kernel
theorem dX12_first_16 : decode cX12_first 16 = .ok (.bipush (-9), 2) := by decide +kernel
theorem dX12_first_18 : decode cX12_first 18 = .ok (.istore_n 2, 1) := by decide +kernel
theorem dX12_first_19 : decode cX12_first 19 = .ok (.iconst 0, 1) := by decide +kernel
theorem dX12_first_20 : decode cX12_first 20 = .ok (.istore_n 3, 1) := by decide +kernel
theorem dX12_first_21 : decode cX12_first 21 = .ok (.iconst 0, 1) := by decide +kernel
theorem dX12_first_22 : decode cX12_first 22 = .ok (.istore 4, 2) := by decide +kernel
theorem dX12_first_24 : decode cX12_first 24 = .ok (.iload 4, 2) := by decide +kernel
theorem dX12_first_26 : decode cX12_first 26 = .ok (.aload_n 0, 1) := by decide +kernel
theorem dX12_first_27 : decode cX12_first 27 = .ok (.getfield 13, 3) := by decide +kernel
theorem dX12_first_30 : decode cX12_first 30 = .ok (.iconst 0, 1) := by decide +kernel
theorem dX12_first_31 : decode cX12_first 31 = .ok (.iaload, 1) := by decide +kernel
theorem dX12_first_32 : decode cX12_first 32 = .ok (.if_icmp .ge 83, 3) := by decide +kernel
theorem dX12_first_35 : decode cX12_first 35 = .ok (.aload_n 0, 1) := by decide +kernel
theorem dX12_first_36 : decode cX12_first 36 = .ok (.getfield 19, 3) := by decide +kernel
theorem dX12_first_39 : decode cX12_first 39 = .ok (.iload 4, 2) := by decide +kernel
theorem dX12_first_41 : decode cX12_first 41 = .ok (.iaload, 1) := by decide +kernel
theorem dX12_first_42 : decode cX12_first 42 = .ok (.aload_n 0, 1) := by decide +kernel
theorem dX12_first_43 : decode cX12_first 43 = .ok (.getfield 31, 3) := by decide +kernel
theorem dX12_first_46 : decode cX12_first 46 = .ok (.iconst 3, 1) := by decide +kernel
theorem dX12_first_47 : decode cX12_first 47 = .ok (.iload 4, 2) := by decide +kernel
theorem dX12_first_49 : decode cX12_first 49 = .ok (.iadd, 1) := by decide +kernel
theorem dX12_first_50 : decode cX12_first 50 = .ok (.iaload, 1) := by decide +kernel
theorem dX12_first_51 : decode cX12_first 51 = .ok (.isub, 1) := by decide +kernel
theorem dX12_first_52 : decode cX12_first 52 = .ok (.istore 5, 2) := by decide +kernel
theorem dX12_first_54 : decode cX12_first 54 = .ok (.iload_n 2, 1) := by decide +kernel
theorem dX12_first_55 : decode cX12_first 55 = .ok (.bipush (-9), 2) := by decide +kernel
theorem dX12_first_57 : decode cX12_first 57 = .ok (.if_icmp .eq 9, 3) := by decide +kernel
theorem dX12_first_60 : decode cX12_first 60 = .ok (.iload 5, 2) := by decide +kernel
theorem dX12_first_62 : decode cX12_first 62 = .ok (.iload_n 2, 1) := by decide +kernel
theorem dX12_first_63 : decode cX12_first 63 = .ok (.if_icmp .ge 10, 3) := by decide +kernel
theorem dX12_first_66 : decode cX12_first 66 = .ok (.iconst 1, 1) := by decide +kernel
theorem dX12_first_67 : decode cX12_first 67 = .ok (.iload 4, 2) := by decide +kernel
theorem dX12_first_69 : decode cX12_first 69 = .ok (.ishl, 1) := by decide +kernel
theorem dX12_first_70 : decode cX12_first 70 = .ok (.goto 19, 3) := by decide +kernel
theorem dX12_first_73 : decode cX12_first 73 = .ok (.iload 5, 2) := by decide +kernel
theorem dX12_first_75 : decode cX12_first 75 = .ok (.iload_n 2, 1) := by decide +kernel
theorem dX12_first_76 : decode cX12_first 76 = .ok (.if_icmp .ne 12, 3) := by decide +kernel
theorem dX12_first_79 : decode cX12_first 79 = .ok (.iload_n 3, 1) := by decide +kernel
theorem dX12_first_80 : decode cX12_first 80 = .ok (.iconst 1, 1) := by decide +kernel
theorem dX12_first_81 : decode cX12_first 81 = .ok (.iload 4, 2) := by decide +kernel
theorem dX12_first_83 : decode cX12_first 83 = .ok (.ishl, 1) := by decide +kernel
theorem dX12_first_84 : decode cX12_first 84 = .ok (.ior, 1) := by decide +kernel
theorem dX12_first_85 : decode cX12_first 85 = .ok (.goto 4, 3) := by decide +kernel
theorem dX12_first_88 : decode cX12_first 88 = .ok (.iload_n 3, 1) := by decide +kernel
theorem dX12_first_89 : decode cX12_first 89 = .ok (.istore_n 3, 1) := by decide +kernel
theorem dX12_first_90 : decode cX12_first 90 = .ok (.iload_n 2, 1) := by decide +kernel
theorem dX12_first_91 : decode cX12_first 91 = .ok (.bipush (-9), 2) := by decide +kernel
theorem dX12_first_93 : decode cX12_first 93 = .ok (.if_icmp .eq 9, 3) := by decide +kernel
theorem dX12_first_96 : decode cX12_first 96 = .ok (.iload 5, 2) := by decide +kernel
theorem dX12_first_98 : decode cX12_first 98 = .ok (.iload_n 2, 1) := by decide +kernel
theorem dX12_first_99 : decode cX12_first 99 = .ok (.if_icmp .ge 8, 3) := by decide +kernel
theorem dX12_first_102 : decode cX12_first 102 = .ok (.iload 5, 2) := by decide +kernel
theorem dX12_first_104 : decode cX12_first 104 = .ok (.goto 4, 3) := by decide +kernel
theorem dX12_first_107 : decode cX12_first 107 = .ok (.iload_n 2, 1) := by decide +kernel
theorem dX12_first_108 : decode cX12_first 108 = .ok (.istore_n 2, 1) := by decide +kernel
theorem dX12_first_109 : decode cX12_first 109 = .ok (.iinc 4 1, 3) := by decide +kernel
theorem dX12_first_112 : decode cX12_first 112 = .ok (.goto (-88), 3) := by decide +kernel
theorem dX12_first_115 : decode cX12_first 115 = .ok (.iload_n 2, 1) := by decide +kernel
theorem dX12_first_116 : decode cX12_first 116 = .ok (.bipush (-9), 2) := by decide +kernel
theorem dX12_first_118 : decode cX12_first 118 = .ok (.if_icmp .eq 7, 3) := by decide +kernel
theorem dX12_first_121 : decode cX12_first 121 = .ok (.iload_n 1, 1) := by decide +kernel
theorem dX12_first_122 : decode cX12_first 122 = .ok (.ifCond .ne 7, 3) := by decide +kernel
theorem dX12_first_125 : decode cX12_first 125 = .ok (.iload_n 2, 1) := by decide +kernel
theorem dX12_first_126 : decode cX12_first 126 = .ok (.goto 4, 3) := by decide +kernel
theorem dX12_first_129 : decode cX12_first 129 = .ok (.iload_n 3, 1) := by decide +kernel
theorem dX12_first_130 : decode cX12_first 130 = .ok (.ireturn, 1) := by decide +kernel
theorem dX12_ring_0 : decode cX12_ring 0 = .ok (.aload_n 0, 1) := by decide +kernel
theorem dX12_ring_1 : decode cX12_ring 1 = .ok (.iconst 0, 1) := by decide +kernel
theorem dX12_ring_2 : decode cX12_ring 2 = .ok (.putfield 59, 3) := by decide +kernel
theorem dX12_ring_5 : decode cX12_ring 5 = .ok (.aload_n 0, 1) := by decide +kernel
theorem dX12_ring_6 : decode cX12_ring 6 = .ok (.invokevirtual 156, 3) := by decide +kernel
theorem dX12_ring_9 : decode cX12_ring 9 = .ok (.iconst 1, 1) := by decide +kernel
theorem dX12_ring_10 : decode cX12_ring 10 = .ok (.istore_n 1, 1) := by decide +kernel
theorem dX12_ring_11 : decode cX12_ring 11 = .ok (.iload_n 1, 1) := by decide +kernel
theorem dX12_ring_12 : decode cX12_ring 12 = .ok (.sipush 400, 3) := by decide +kernel
theorem dX12_ring_15 : decode cX12_ring 15 = .ok (.if_icmp .gt 64, 3) := by decide +kernel
theorem dX12_ring_18 : decode cX12_ring 18 = .ok (.aload_n 0, 1) := by decide +kernel
theorem dX12_ring_19 : decode cX12_ring 19 = .ok (.aload_n 0, 1) := by decide +kernel
theorem dX12_ring_20 : decode cX12_ring 20 = .ok (.getfield 34, 3) := by decide +kernel
theorem dX12_ring_23 : decode cX12_ring 23 = .ok (.invokevirtual 146, 3) := by decide +kernel
theorem dX12_ring_26 : decode cX12_ring 26 = .ok (.iconst 1, 1) := by decide +kernel
theorem dX12_ring_27 : decode cX12_ring 27 = .ok (.istore_n 2, 1) := by decide +kernel
theorem dX12_ring_28 : decode cX12_ring 28 = .ok (.iconst 2, 1) := by decide +kernel
theorem dX12_ring_29 : decode cX12_ring 29 = .ok (.istore_n 3, 1) := by decide +kernel
theorem dX12_ring_30 : decode cX12_ring 30 = .ok (.iload_n 3, 1) := by decide +kernel
theorem dX12_ring_31 : decode cX12_ring 31 = .ok (.bipush 9, 2) := by decide +kernel
theorem dX12_ring_33 : decode cX12_ring 33 = .ok (.if_icmp .ge 34, 3) := by decide +kernel
theorem dX12_ring_36 : decode cX12_ring 36 = .ok (.iload_n 2, 1) := by decide +kernel
theorem dX12_ring_37 : decode cX12_ring 37 = .ok (.ifCond .eq 22, 3) := by decide +kernel
theorem dX12_ring_40 : decode cX12_ring 40 = .ok (.aload_n 0, 1) := by decide +kernel
theorem dX12_ring_41 : decode cX12_ring 41 = .ok (.getfield 34, 3) := by decide +kernel
theorem dX12_ring_44 : decode cX12_ring 44 = .ok (.iload_n 3, 1) := by decide +kernel
theorem dX12_ring_45 : decode cX12_ring 45 = .ok (.iaload, 1) := by decide +kernel
theorem dX12_ring_46 : decode cX12_ring 46 = .ok (.aload_n 0, 1) := by decide +kernel
theorem dX12_ring_47 : decode cX12_ring 47 = .ok (.getfield 31, 3) := by decide +kernel
theorem dX12_ring_50 : decode cX12_ring 50 = .ok (.iload_n 3, 1) := by decide +kernel
theorem dX12_ring_51 : decode cX12_ring 51 = .ok (.iaload, 1) := by decide +kernel
theorem dX12_ring_52 : decode cX12_ring 52 = .ok (.if_icmp .ne 7, 3) := by decide +kernel
theorem dX12_ring_55 : decode cX12_ring 55 = .ok (.iconst 1, 1) := by decide +kernel
theorem dX12_ring_56 : decode cX12_ring 56 = .ok (.goto 4, 3) := by decide +kernel
theorem dX12_ring_59 : decode cX12_ring 59 = .ok (.iconst 0, 1) := by decide +kernel
theorem dX12_ring_60 : decode cX12_ring 60 = .ok (.istore_n 2, 1) := by decide +kernel
theorem dX12_ring_61 : decode cX12_ring 61 = .ok (.iinc 3 1, 3) := by decide +kernel
theorem dX12_ring_64 : decode cX12_ring 64 = .ok (.goto (-34), 3) := by decide +kernel
theorem dX12_ring_67 : decode cX12_ring 67 = .ok (.iload_n 2, 1) := by decide +kernel
theorem dX12_ring_68 : decode cX12_ring 68 = .ok (.ifCond .eq 5, 3) := by decide +kernel
theorem dX12_ring_71 : decode cX12_ring 71 = .ok (.iload_n 1, 1) := by decide +kernel
theorem dX12_ring_72 : decode cX12_ring 72 = .ok (.ireturn, 1) := by decide +kernel
theorem dX12_ring_73 : decode cX12_ring 73 = .ok (.iinc 1 1, 3) := by decide +kernel
theorem dX12_ring_76 : decode cX12_ring 76 = .ok (.goto (-65), 3) := by decide +kernel
theorem dX12_ring_79 : decode cX12_ring 79 = .ok (.bipush (-9), 2) := by decide +kernel
theorem dX12_ring_81 : decode cX12_ring 81 = .ok (.ireturn, 1) := by decide +kernel
theorem dX12_drift_0 : decode cX12_drift 0 = .ok (.aload_n 0, 1) := by decide +kernel
theorem dX12_drift_1 : decode cX12_drift 1 = .ok (.iconst 0, 1) := by decide +kernel
theorem dX12_drift_2 : decode cX12_drift 2 = .ok (.putfield 59, 3) := by decide +kernel
theorem dX12_drift_5 : decode cX12_drift 5 = .ok (.aload_n 0, 1) := by decide +kernel
theorem dX12_drift_6 : decode cX12_drift 6 = .ok (.invokevirtual 156, 3) := by decide +kernel
theorem dX12_drift_9 : decode cX12_drift 9 = .ok (.iconst 1, 1) := by decide +kernel
theorem dX12_drift_10 : decode cX12_drift 10 = .ok (.istore_n 1, 1) := by decide +kernel
theorem dX12_drift_11 : decode cX12_drift 11 = .ok (.iload_n 1, 1) := by decide +kernel
theorem dX12_drift_12 : decode cX12_drift 12 = .ok (.sipush 400, 3) := by decide +kernel
theorem dX12_drift_15 : decode cX12_drift 15 = .ok (.if_icmp .gt 45, 3) := by decide +kernel
theorem dX12_drift_18 : decode cX12_drift 18 = .ok (.aload_n 0, 1) := by decide +kernel
theorem dX12_drift_19 : decode cX12_drift 19 = .ok (.aload_n 0, 1) := by decide +kernel
theorem dX12_drift_20 : decode cX12_drift 20 = .ok (.getfield 34, 3) := by decide +kernel
theorem dX12_drift_23 : decode cX12_drift 23 = .ok (.invokevirtual 134, 3) := by decide +kernel
theorem dX12_drift_26 : decode cX12_drift 26 = .ok (.ifCond .ne 34, 3) := by decide +kernel
theorem dX12_drift_29 : decode cX12_drift 29 = .ok (.aload_n 0, 1) := by decide +kernel
theorem dX12_drift_30 : decode cX12_drift 30 = .ok (.aload_n 0, 1) := by decide +kernel
theorem dX12_drift_31 : decode cX12_drift 31 = .ok (.getfield 34, 3) := by decide +kernel
theorem dX12_drift_34 : decode cX12_drift 34 = .ok (.invokevirtual 153, 3) := by decide +kernel
theorem dX12_drift_37 : decode cX12_drift 37 = .ok (.aload_n 0, 1) := by decide +kernel
theorem dX12_drift_38 : decode cX12_drift 38 = .ok (.getfield 34, 3) := by decide +kernel
theorem dX12_drift_41 : decode cX12_drift 41 = .ok (.iconst 1, 1) := by decide +kernel
theorem dX12_drift_42 : decode cX12_drift 42 = .ok (.iaload, 1) := by decide +kernel
theorem dX12_drift_43 : decode cX12_drift 43 = .ok (.aload_n 0, 1) := by decide +kernel
theorem dX12_drift_44 : decode cX12_drift 44 = .ok (.getfield 31, 3) := by decide +kernel
theorem dX12_drift_47 : decode cX12_drift 47 = .ok (.iconst 1, 1) := by decide +kernel
theorem dX12_drift_48 : decode cX12_drift 48 = .ok (.iaload, 1) := by decide +kernel
theorem dX12_drift_49 : decode cX12_drift 49 = .ok (.if_icmp .ge 5, 3) := by decide +kernel
theorem dX12_drift_52 : decode cX12_drift 52 = .ok (.iload_n 1, 1) := by decide +kernel
theorem dX12_drift_53 : decode cX12_drift 53 = .ok (.ireturn, 1) := by decide +kernel
theorem dX12_drift_54 : decode cX12_drift 54 = .ok (.iinc 1 1, 3) := by decide +kernel
theorem dX12_drift_57 : decode cX12_drift 57 = .ok (.goto (-46), 3) := by decide +kernel
theorem dX12_drift_60 : decode cX12_drift 60 = .ok (.bipush (-9), 2) := by decide +kernel
theorem dX12_drift_62 : decode cX12_drift 62 = .ok (.ireturn, 1) := by decide +kernel
theorem dX12_endsBy_0 : decode cX12_endsBy 0 = .ok (.aload_n 0, 1) := by decide +kernel
theorem dX12_endsBy_1 : decode cX12_endsBy 1 = .ok (.invokevirtual 156, 3) := by decide +kernel
theorem dX12_endsBy_4 : decode cX12_endsBy 4 = .ok (.iconst 0, 1) := by decide +kernel
theorem dX12_endsBy_5 : decode cX12_endsBy 5 = .ok (.istore_n 3, 1) := by decide +kernel
theorem dX12_endsBy_6 : decode cX12_endsBy 6 = .ok (.iload_n 3, 1) := by decide +kernel
theorem dX12_endsBy_7 : decode cX12_endsBy 7 = .ok (.iload_n 1, 1) := by decide +kernel
theorem dX12_endsBy_8 : decode cX12_endsBy 8 = .ok (.if_icmp .ge 75, 3) := by decide +kernel
theorem dX12_endsBy_11 : decode cX12_endsBy 11 = .ok (.aload_n 0, 1) := by decide +kernel
theorem dX12_endsBy_12 : decode cX12_endsBy 12 = .ok (.getfield 53, 3) := by decide +kernel
theorem dX12_endsBy_15 : decode cX12_endsBy 15 = .ok (.iload_n 3, 1) := by decide +kernel
theorem dX12_endsBy_16 : decode cX12_endsBy 16 = .ok (.iaload, 1) := by decide +kernel
theorem dX12_endsBy_17 : decode cX12_endsBy 17 = .ok (.ifCond .ne 7, 3) := by decide +kernel
theorem dX12_endsBy_20 : decode cX12_endsBy 20 = .ok (.iconst 1, 1) := by decide +kernel
theorem dX12_endsBy_21 : decode cX12_endsBy 21 = .ok (.goto 4, 3) := by decide +kernel
theorem dX12_endsBy_24 : decode cX12_endsBy 24 = .ok (.iconst 0, 1) := by decide +kernel
theorem dX12_endsBy_25 : decode cX12_endsBy 25 = .ok (.istore 4, 2) := by decide +kernel
theorem dX12_endsBy_27 : decode cX12_endsBy 27 = .ok (.aload_n 0, 1) := by decide +kernel
theorem dX12_endsBy_28 : decode cX12_endsBy 28 = .ok (.aload_n 0, 1) := by decide +kernel
theorem dX12_endsBy_29 : decode cX12_endsBy 29 = .ok (.getfield 34, 3) := by decide +kernel
theorem dX12_endsBy_32 : decode cX12_endsBy 32 = .ok (.invokevirtual 134, 3) := by decide +kernel
theorem dX12_endsBy_35 : decode cX12_endsBy 35 = .ok (.ifCond .eq 11, 3) := by decide +kernel
theorem dX12_endsBy_38 : decode cX12_endsBy 38 = .ok (.iload 4, 2) := by decide +kernel
theorem dX12_endsBy_40 : decode cX12_endsBy 40 = .ok (.ifCond .ne 6, 3) := by decide +kernel
theorem dX12_endsBy_43 : decode cX12_endsBy 43 = .ok (.bipush (-9), 2) := by decide +kernel
theorem dX12_endsBy_45 : decode cX12_endsBy 45 = .ok (.ireturn, 1) := by decide +kernel
theorem dX12_endsBy_46 : decode cX12_endsBy 46 = .ok (.iload 4, 2) := by decide +kernel
theorem dX12_endsBy_48 : decode cX12_endsBy 48 = .ok (.ifCond .ne 21, 3) := by decide +kernel
theorem dX12_endsBy_51 : decode cX12_endsBy 51 = .ok (.aload_n 0, 1) := by decide +kernel
theorem dX12_endsBy_52 : decode cX12_endsBy 52 = .ok (.aload_n 0, 1) := by decide +kernel
theorem dX12_endsBy_53 : decode cX12_endsBy 53 = .ok (.getfield 34, 3) := by decide +kernel
theorem dX12_endsBy_56 : decode cX12_endsBy 56 = .ok (.iconst 1, 1) := by decide +kernel
theorem dX12_endsBy_57 : decode cX12_endsBy 57 = .ok (.aload_n 0, 1) := by decide +kernel
theorem dX12_endsBy_58 : decode cX12_endsBy 58 = .ok (.getfield 53, 3) := by decide +kernel
theorem dX12_endsBy_61 : decode cX12_endsBy 61 = .ok (.iload_n 3, 1) := by decide +kernel
theorem dX12_endsBy_62 : decode cX12_endsBy 62 = .ok (.iaload, 1) := by decide +kernel
theorem dX12_endsBy_63 : decode cX12_endsBy 63 = .ok (.iconst 1, 1) := by decide +kernel
theorem dX12_endsBy_64 : decode cX12_endsBy 64 = .ok (.isub, 1) := by decide +kernel
theorem dX12_endsBy_65 : decode cX12_endsBy 65 = .ok (.ishl, 1) := by decide +kernel
theorem dX12_endsBy_66 : decode cX12_endsBy 66 = .ok (.invokevirtual 142, 3) := by decide +kernel
theorem dX12_endsBy_69 : decode cX12_endsBy 69 = .ok (.aload_n 0, 1) := by decide +kernel
theorem dX12_endsBy_70 : decode cX12_endsBy 70 = .ok (.aload_n 0, 1) := by decide +kernel
theorem dX12_endsBy_71 : decode cX12_endsBy 71 = .ok (.getfield 34, 3) := by decide +kernel
theorem dX12_endsBy_74 : decode cX12_endsBy 74 = .ok (.invokevirtual 153, 3) := by decide +kernel
theorem dX12_endsBy_77 : decode cX12_endsBy 77 = .ok (.iinc 3 1, 3) := by decide +kernel
theorem dX12_endsBy_80 : decode cX12_endsBy 80 = .ok (.goto (-74), 3) := by decide +kernel
theorem dX12_endsBy_83 : decode cX12_endsBy 83 = .ok (.aload_n 0, 1) := by decide +kernel
theorem dX12_endsBy_84 : decode cX12_endsBy 84 = .ok (.getfield 34, 3) := by decide +kernel
theorem dX12_endsBy_87 : decode cX12_endsBy 87 = .ok (.iconst 0, 1) := by decide +kernel
theorem dX12_endsBy_88 : decode cX12_endsBy 88 = .ok (.iaload, 1) := by decide +kernel
theorem dX12_endsBy_89 : decode cX12_endsBy 89 = .ok (.aload_n 0, 1) := by decide +kernel
theorem dX12_endsBy_90 : decode cX12_endsBy 90 = .ok (.getfield 31, 3) := by decide +kernel
theorem dX12_endsBy_93 : decode cX12_endsBy 93 = .ok (.iconst 0, 1) := by decide +kernel
theorem dX12_endsBy_94 : decode cX12_endsBy 94 = .ok (.iaload, 1) := by decide +kernel
theorem dX12_endsBy_95 : decode cX12_endsBy 95 = .ok (.isub, 1) := by decide +kernel
theorem dX12_endsBy_96 : decode cX12_endsBy 96 = .ok (.istore_n 3, 1) := by decide +kernel
theorem dX12_endsBy_97 : decode cX12_endsBy 97 = .ok (.aload_n 0, 1) := by decide +kernel
theorem dX12_endsBy_98 : decode cX12_endsBy 98 = .ok (.aload_n 0, 1) := by decide +kernel
theorem dX12_endsBy_99 : decode cX12_endsBy 99 = .ok (.getfield 34, 3) := by decide +kernel
theorem dX12_endsBy_102 : decode cX12_endsBy 102 = .ok (.invokevirtual 134, 3) := by decide +kernel
theorem dX12_endsBy_105 : decode cX12_endsBy 105 = .ok (.ifCond .eq 7, 3) := by decide +kernel
theorem dX12_endsBy_108 : decode cX12_endsBy 108 = .ok (.iload_n 3, 1) := by decide +kernel
theorem dX12_endsBy_109 : decode cX12_endsBy 109 = .ok (.goto 8, 3) := by decide +kernel
theorem dX12_endsBy_112 : decode cX12_endsBy 112 = .ok (.aload_n 0, 1) := by decide +kernel
theorem dX12_endsBy_113 : decode cX12_endsBy 113 = .ok (.iload_n 3, 1) := by decide +kernel
theorem dX12_endsBy_114 : decode cX12_endsBy 114 = .ok (.invokevirtual 159, 3) := by decide +kernel
