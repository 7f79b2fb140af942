theorem dX12_advances_191 : decode cX12_advances 191 = .ok (.aload_n 0, 1) := by decide +kernel
theorem dX12_advances_192 : decode cX12_advances 192 = .ok (.iload_n 1, 1) := by decide +kernel
theorem dX12_advances_193 : decode cX12_advances 193 = .ok (.putfield 86, 3) := by decide +kernel
theorem dX12_advances_196 : decode cX12_advances 196 = .ok (.aload_n 0, 1) := by decide +kernel
theorem dX12_advances_197 : decode cX12_advances 197 = .ok (.iload_n 1, 1) := by decide +kernel
theorem dX12_advances_198 : decode cX12_advances 198 = .ok (.bipush 59, 2) := by decide +kernel
theorem dX12_advances_200 : decode cX12_advances 200 = .ok (.if_icmp .ne 7, 3) := by decide +kernel
theorem dX12_advances_203 : decode cX12_advances 203 = .ok (.iconst 3, 1) := by decide +kernel
theorem dX12_advances_204 : decode cX12_advances 204 = .ok (.goto 32, 3) := by decide +kernel
theorem dX12_advances_207 : decode cX12_advances 207 = .ok (.iload_n 1, 1) := by decide +kernel
theorem dX12_advances_208 : decode cX12_advances 208 = .ok (.bipush 118, 2) := by decide +kernel
theorem dX12_advances_210 : decode cX12_advances 210 = .ok (.if_icmp .eq 21, 3) := by decide +kernel
theorem dX12_advances_213 : decode cX12_advances 213 = .ok (.iload_n 1, 1) := by decide +kernel
theorem dX12_advances_214 : decode cX12_advances 214 = .ok (.bipush 101, 2) := by decide +kernel
theorem dX12_advances_216 : decode cX12_advances 216 = .ok (.if_icmp .eq 15, 3) := by decide +kernel
theorem dX12_advances_219 : decode cX12_advances 219 = .ok (.iload_n 1, 1) := by decide +kernel
theorem dX12_advances_220 : decode cX12_advances 220 = .ok (.bipush 114, 2) := by decide +kernel
theorem dX12_advances_222 : decode cX12_advances 222 = .ok (.if_icmp .eq 9, 3) := by decide +kernel
theorem dX12_advances_225 : decode cX12_advances 225 = .ok (.iload_n 1, 1) := by decide +kernel
theorem dX12_advances_226 : decode cX12_advances 226 = .ok (.bipush 115, 2) := by decide +kernel
theorem dX12_advances_228 : decode cX12_advances 228 = .ok (.if_icmp .ne 7, 3) := by decide +kernel
theorem dX12_advances_231 : decode cX12_advances 231 = .ok (.iconst 1, 1) := by decide +kernel
theorem dX12_advances_232 : decode cX12_advances 232 = .ok (.goto 4, 3) := by decide +kernel
theorem dX12_advances_235 : decode cX12_advances 235 = .ok (.iconst 4, 1) := by decide +kernel
theorem dX12_advances_236 : decode cX12_advances 236 = .ok (.putfield 83, 3) := by decide +kernel
theorem dX12_advances_239 : decode cX12_advances 239 = .ok (.return_, 1) := by decide +kernel
theorem dX12_isWell_0 : decode cX12_isWell 0 = .ok (.aload_n 0, 1) := by decide +kernel
theorem dX12_isWell_1 : decode cX12_isWell 1 = .ok (.getfield 89, 3) := by decide +kernel
theorem dX12_isWell_4 : decode cX12_isWell 4 = .ok (.ifCond .ge 7, 3) := by decide +kernel
theorem dX12_isWell_7 : decode cX12_isWell 7 = .ok (.iconst 1, 1) := by decide +kernel
theorem dX12_isWell_8 : decode cX12_isWell 8 = .ok (.goto 4, 3) := by decide +kernel
theorem dX12_isWell_11 : decode cX12_isWell 11 = .ok (.iconst 0, 1) := by decide +kernel
theorem dX12_isWell_12 : decode cX12_isWell 12 = .ok (.ireturn, 1) := by decide +kernel
theorem dX12_takes_0 : decode cX12_takes 0 = .ok (.aload_n 0, 1) := by decide +kernel
theorem dX12_takes_1 : decode cX12_takes 1 = .ok (.invokevirtual 92, 3) := by decide +kernel
theorem dX12_takes_4 : decode cX12_takes 4 = .ok (.ifCond .ne 5, 3) := by decide +kernel
theorem dX12_takes_7 : decode cX12_takes 7 = .ok (.iconst 0, 1) := by decide +kernel
theorem dX12_takes_8 : decode cX12_takes 8 = .ok (.ireturn, 1) := by decide +kernel
theorem dX12_takes_9 : decode cX12_takes 9 = .ok (.iload_n 1, 1) := by decide +kernel
theorem dX12_takes_10 : decode cX12_takes 10 = .ok (.ifCond .ne 13, 3) := by decide +kernel
theorem dX12_takes_13 : decode cX12_takes 13 = .ok (.aload_n 0, 1) := by decide +kernel
theorem dX12_takes_14 : decode cX12_takes 14 = .ok (.aload_n 0, 1) := by decide +kernel
theorem dX12_takes_15 : decode cX12_takes 15 = .ok (.getfield 80, 3) := by decide +kernel
theorem dX12_takes_18 : decode cX12_takes 18 = .ok (.putfield 89, 3) := by decide +kernel
theorem dX12_takes_21 : decode cX12_takes 21 = .ok (.iconst 0, 1) := by decide +kernel
theorem dX12_takes_22 : decode cX12_takes 22 = .ok (.ireturn, 1) := by decide +kernel
theorem dX12_takes_23 : decode cX12_takes 23 = .ok (.aload_n 0, 1) := by decide +kernel
theorem dX12_takes_24 : decode cX12_takes 24 = .ok (.getfield 86, 3) := by decide +kernel
theorem dX12_takes_27 : decode cX12_takes 27 = .ok (.istore_n 2, 1) := by decide +kernel
theorem dX12_takes_28 : decode cX12_takes 28 = .ok (.aload_n 0, 1) := by decide +kernel
theorem dX12_takes_29 : decode cX12_takes 29 = .ok (.invokevirtual 96, 3) := by decide +kernel
theorem dX12_takes_32 : decode cX12_takes 32 = .ok (.iload_n 2, 1) := by decide +kernel
theorem dX12_takes_33 : decode cX12_takes 33 = .ok (.ireturn, 1) := by decide +kernel
theorem dX12_number_0 : decode cX12_number 0 = .ok (.aload_n 0, 1) := by decide +kernel
theorem dX12_number_1 : decode cX12_number 1 = .ok (.aload_n 0, 1) := by decide +kernel
theorem dX12_number_2 : decode cX12_number 2 = .ok (.getfield 83, 3) := by decide +kernel
theorem dX12_number_5 : decode cX12_number 5 = .ok (.iconst 2, 1) := by decide +kernel
theorem dX12_number_6 : decode cX12_number 6 = .ok (.if_icmp .ne 19, 3) := by decide +kernel
theorem dX12_number_9 : decode cX12_number 9 = .ok (.aload_n 0, 1) := by decide +kernel
theorem dX12_number_10 : decode cX12_number 10 = .ok (.getfield 86, 3) := by decide +kernel
theorem dX12_number_13 : decode cX12_number 13 = .ok (.iload_n 1, 1) := by decide +kernel
theorem dX12_number_14 : decode cX12_number 14 = .ok (.iload_n 2, 1) := by decide +kernel
theorem dX12_number_15 : decode cX12_number 15 = .ok (.invokestatic 66, 3) := by decide +kernel
theorem dX12_number_18 : decode cX12_number 18 = .ok (.ifCond .eq 7, 3) := by decide +kernel
theorem dX12_number_21 : decode cX12_number 21 = .ok (.iconst 1, 1) := by decide +kernel
theorem dX12_number_22 : decode cX12_number 22 = .ok (.goto 4, 3) := by decide +kernel
theorem dX12_number_25 : decode cX12_number 25 = .ok (.iconst 0, 1) := by decide +kernel
theorem dX12_number_26 : decode cX12_number 26 = .ok (.invokevirtual 99, 3) := by decide +kernel
theorem dX12_number_29 : decode cX12_number 29 = .ok (.ireturn, 1) := by decide +kernel
theorem dX12_mayBegin_0 : decode cX12_mayBegin 0 = .ok (.aload_n 0, 1) := by decide +kernel
theorem dX12_mayBegin_1 : decode cX12_mayBegin 1 = .ok (.getfield 86, 3) := by decide +kernel
theorem dX12_mayBegin_4 : decode cX12_mayBegin 4 = .ok (.bipush 118, 2) := by decide +kernel
theorem dX12_mayBegin_6 : decode cX12_mayBegin 6 = .ok (.if_icmp .ne 22, 3) := by decide +kernel
theorem dX12_mayBegin_9 : decode cX12_mayBegin 9 = .ok (.aload_n 0, 1) := by decide +kernel
theorem dX12_mayBegin_10 : decode cX12_mayBegin 10 = .ok (.getfield 13, 3) := by decide +kernel
theorem dX12_mayBegin_13 : decode cX12_mayBegin 13 = .ok (.iconst 3, 1) := by decide +kernel
theorem dX12_mayBegin_14 : decode cX12_mayBegin 14 = .ok (.iaload, 1) := by decide +kernel
theorem dX12_mayBegin_15 : decode cX12_mayBegin 15 = .ok (.bipush 6, 2) := by decide +kernel
theorem dX12_mayBegin_17 : decode cX12_mayBegin 17 = .ok (.if_icmp .ge 7, 3) := by decide +kernel
theorem dX12_mayBegin_20 : decode cX12_mayBegin 20 = .ok (.iconst 1, 1) := by decide +kernel
theorem dX12_mayBegin_21 : decode cX12_mayBegin 21 = .ok (.goto 51, 3) := by decide +kernel
theorem dX12_mayBegin_24 : decode cX12_mayBegin 24 = .ok (.iconst 0, 1) := by decide +kernel
theorem dX12_mayBegin_25 : decode cX12_mayBegin 25 = .ok (.goto 47, 3) := by decide +kernel
theorem dX12_mayBegin_28 : decode cX12_mayBegin 28 = .ok (.aload_n 0, 1) := by decide +kernel
theorem dX12_mayBegin_29 : decode cX12_mayBegin 29 = .ok (.getfield 86, 3) := by decide +kernel
theorem dX12_mayBegin_32 : decode cX12_mayBegin 32 = .ok (.bipush 101, 2) := by decide +kernel
theorem dX12_mayBegin_34 : decode cX12_mayBegin 34 = .ok (.if_icmp .eq 33, 3) := by decide +kernel
theorem dX12_mayBegin_37 : decode cX12_mayBegin 37 = .ok (.aload_n 0, 1) := by decide +kernel
theorem dX12_mayBegin_38 : decode cX12_mayBegin 38 = .ok (.getfield 86, 3) := by decide +kernel
theorem dX12_mayBegin_41 : decode cX12_mayBegin 41 = .ok (.bipush 114, 2) := by decide +kernel
theorem dX12_mayBegin_43 : decode cX12_mayBegin 43 = .ok (.if_icmp .ne 15, 3) := by decide +kernel
theorem dX12_mayBegin_46 : decode cX12_mayBegin 46 = .ok (.aload_n 0, 1) := by decide +kernel
theorem dX12_mayBegin_47 : decode cX12_mayBegin 47 = .ok (.getfield 103, 3) := by decide +kernel
theorem dX12_mayBegin_50 : decode cX12_mayBegin 50 = .ok (.iconst 1, 1) := by decide +kernel
theorem dX12_mayBegin_51 : decode cX12_mayBegin 51 = .ok (.iand, 1) := by decide +kernel
theorem dX12_mayBegin_52 : decode cX12_mayBegin 52 = .ok (.ifCond .ne 19, 3) := by decide +kernel
theorem dX12_mayBegin_55 : decode cX12_mayBegin 55 = .ok (.goto 12, 3) := by decide +kernel
theorem dX12_mayBegin_58 : decode cX12_mayBegin 58 = .ok (.aload_n 0, 1) := by decide +kernel
theorem dX12_mayBegin_59 : decode cX12_mayBegin 59 = .ok (.getfield 103, 3) := by decide +kernel
theorem dX12_mayBegin_62 : decode cX12_mayBegin 62 = .ok (.iconst 2, 1) := by decide +kernel
theorem dX12_mayBegin_63 : decode cX12_mayBegin 63 = .ok (.iand, 1) := by decide +kernel
theorem dX12_mayBegin_64 : decode cX12_mayBegin 64 = .ok (.ifCond .ne 7, 3) := by decide +kernel
theorem dX12_mayBegin_67 : decode cX12_mayBegin 67 = .ok (.iconst 1, 1) := by decide +kernel
theorem dX12_mayBegin_68 : decode cX12_mayBegin 68 = .ok (.goto 4, 3) := by decide +kernel
theorem dX12_mayBegin_71 : decode cX12_mayBegin 71 = .ok (.iconst 0, 1) := by decide +kernel
theorem dX12_mayBegin_72 : decode cX12_mayBegin 72 = .ok (.ireturn, 1) := by decide +kernel
theorem dX12_readsItem_0 : decode cX12_readsItem 0 = .ok (.iload_n 1, 1) := by decide +kernel
theorem dX12_readsItem_1 : decode cX12_readsItem 1 = .ok (.bipush 118, 2) := by decide +kernel
theorem dX12_readsItem_3 : decode cX12_readsItem 3 = .ok (.if_icmp .ne 57, 3) := by decide +kernel
theorem dX12_readsItem_6 : decode cX12_readsItem 6 = .ok (.aload_n 0, 1) := by decide +kernel
theorem dX12_readsItem_7 : decode cX12_readsItem 7 = .ok (.getfield 16, 3) := by decide +kernel
theorem dX12_readsItem_10 : decode cX12_readsItem 10 = .ok (.bipush 6, 2) := by decide +kernel
theorem dX12_readsItem_12 : decode cX12_readsItem 12 = .ok (.aload_n 0, 1) := by decide +kernel
theorem dX12_readsItem_13 : decode cX12_readsItem 13 = .ok (.getfield 13, 3) := by decide +kernel
theorem dX12_readsItem_16 : decode cX12_readsItem 16 = .ok (.iconst 3, 1) := by decide +kernel
theorem dX12_readsItem_17 : decode cX12_readsItem 17 = .ok (.iaload, 1) := by decide +kernel
theorem dX12_readsItem_18 : decode cX12_readsItem 18 = .ok (.iadd, 1) := by decide +kernel
theorem dX12_readsItem_19 : decode cX12_readsItem 19 = .ok (.aload_n 0, 1) := by decide +kernel
theorem dX12_readsItem_20 : decode cX12_readsItem 20 = .ok (.iconst 0, 1) := by decide +kernel
theorem dX12_readsItem_21 : decode cX12_readsItem 21 = .ok (.bipush 9, 2) := by decide +kernel
theorem dX12_readsItem_23 : decode cX12_readsItem 23 = .ok (.invokevirtual 106, 3) := by decide +kernel
theorem dX12_readsItem_26 : decode cX12_readsItem 26 = .ok (.iastore, 1) := by decide +kernel
theorem dX12_readsItem_27 : decode cX12_readsItem 27 = .ok (.aload_n 0, 1) := by decide +kernel
theorem dX12_readsItem_28 : decode cX12_readsItem 28 = .ok (.getfield 19, 3) := by decide +kernel
theorem dX12_readsItem_31 : decode cX12_readsItem 31 = .ok (.bipush 6, 2) := by decide +kernel
theorem dX12_readsItem_33 : decode cX12_readsItem 33 = .ok (.aload_n 0, 1) := by decide +kernel
theorem dX12_readsItem_34 : decode cX12_readsItem 34 = .ok (.getfield 13, 3) := by decide +kernel
theorem dX12_readsItem_37 : decode cX12_readsItem 37 = .ok (.iconst 3, 1) := by decide +kernel
theorem dX12_readsItem_38 : decode cX12_readsItem 38 = .ok (.iaload, 1) := by decide +kernel
theorem dX12_readsItem_39 : decode cX12_readsItem 39 = .ok (.iadd, 1) := by decide +kernel
theorem dX12_readsItem_40 : decode cX12_readsItem 40 = .ok (.aload_n 0, 1) := by decide +kernel
theorem dX12_readsItem_41 : decode cX12_readsItem 41 = .ok (.iconst 0, 1) := by decide +kernel
theorem dX12_readsItem_42 : decode cX12_readsItem 42 = .ok (.iconst 1, 1) := by decide +kernel
theorem dX12_readsItem_43 : decode cX12_readsItem 43 = .ok (.invokevirtual 106, 3) := by decide +kernel
theorem dX12_readsItem_46 : decode cX12_readsItem 46 = .ok (.iastore, 1) := by decide +kernel
theorem dX12_readsItem_47 : decode cX12_readsItem 47 = .ok (.aload_n 0, 1) := by decide +kernel
theorem dX12_readsItem_48 : decode cX12_readsItem 48 = .ok (.getfield 13, 3) := by decide +kernel
theorem dX12_readsItem_51 : decode cX12_readsItem 51 = .ok (.iconst 3, 1) := by decide +kernel
theorem dX12_readsItem_52 : decode cX12_readsItem 52 = .ok (.dup2, 1) := by decide +kernel
theorem dX12_readsItem_53 : decode cX12_readsItem 53 = .ok (.iaload, 1) := by decide +kernel
theorem dX12_readsItem_54 : decode cX12_readsItem 54 = .ok (.iconst 1, 1) := by decide +kernel
theorem dX12_readsItem_55 : decode cX12_readsItem 55 = .ok (.iadd, 1) := by decide +kernel
theorem dX12_readsItem_56 : decode cX12_readsItem 56 = .ok (.iastore, 1) := by decide +kernel
theorem dX12_readsItem_57 : decode cX12_readsItem 57 = .ok (.goto 180, 3) := by decide +kernel
theorem dX12_readsItem_60 : decode cX12_readsItem 60 = .ok (.iload_n 1, 1) := by decide +kernel
theorem dX12_readsItem_61 : decode cX12_readsItem 61 = .ok (.bipush 101, 2) := by decide +kernel
theorem dX12_readsItem_63 : decode cX12_readsItem 63 = .ok (.if_icmp .ne 113, 3) := by decide +kernel
theorem dX12_readsItem_66 : decode cX12_readsItem 66 = .ok (.aload_n 0, 1) := by decide +kernel
theorem dX12_readsItem_67 : decode cX12_readsItem 67 = .ok (.iconst 0, 1) := by decide +kernel
theorem dX12_readsItem_68 : decode cX12_readsItem 68 = .ok (.aload_n 0, 1) := by decide +kernel
theorem dX12_readsItem_69 : decode cX12_readsItem 69 = .ok (.getfield 13, 3) := by decide +kernel
theorem dX12_readsItem_72 : decode cX12_readsItem 72 = .ok (.iconst 3, 1) := by decide +kernel
theorem dX12_readsItem_73 : decode cX12_readsItem 73 = .ok (.iaload, 1) := by decide +kernel
theorem dX12_readsItem_74 : decode cX12_readsItem 74 = .ok (.iconst 1, 1) := by decide +kernel
theorem dX12_readsItem_75 : decode cX12_readsItem 75 = .ok (.isub, 1) := by decide +kernel
theorem dX12_readsItem_76 : decode cX12_readsItem 76 = .ok (.invokevirtual 106, 3) := by decide +kernel
theorem dX12_readsItem_79 : decode cX12_readsItem 79 = .ok (.istore_n 2, 1) := by decide +kernel
theorem dX12_readsItem_80 : decode cX12_readsItem 80 = .ok (.aload_n 0, 1) := by decide +kernel
theorem dX12_readsItem_81 : decode cX12_readsItem 81 = .ok (.aload_n 0, 1) := by decide +kernel
theorem dX12_readsItem_82 : decode cX12_readsItem 82 = .ok (.getfield 83, 3) := by decide +kernel
theorem dX12_readsItem_85 : decode cX12_readsItem 85 = .ok (.iconst 2, 1) := by decide +kernel
theorem dX12_readsItem_86 : decode cX12_readsItem 86 = .ok (.if_icmp .ne 34, 3) := by decide +kernel
theorem dX12_readsItem_89 : decode cX12_readsItem 89 = .ok (.aload_n 0, 1) := by decide +kernel
theorem dX12_readsItem_90 : decode cX12_readsItem 90 = .ok (.getfield 86, 3) := by decide +kernel
theorem dX12_readsItem_93 : decode cX12_readsItem 93 = .ok (.iconst 0, 1) := by decide +kernel
theorem dX12_readsItem_94 : decode cX12_readsItem 94 = .ok (.aload_n 0, 1) := by decide +kernel
theorem dX12_readsItem_95 : decode cX12_readsItem 95 = .ok (.getfield 13, 3) := by decide +kernel
theorem dX12_readsItem_98 : decode cX12_readsItem 98 = .ok (.iconst 3, 1) := by decide +kernel
theorem dX12_readsItem_99 : decode cX12_readsItem 99 = .ok (.iaload, 1) := by decide +kernel
theorem dX12_readsItem_100 : decode cX12_readsItem 100 = .ok (.iconst 1, 1) := by decide +kernel
theorem dX12_readsItem_101 : decode cX12_readsItem 101 = .ok (.isub, 1) := by decide +kernel
theorem dX12_readsItem_102 : decode cX12_readsItem 102 = .ok (.invokestatic 66, 3) := by decide +kernel
theorem dX12_readsItem_105 : decode cX12_readsItem 105 = .ok (.ifCond .eq 15, 3) := by decide +kernel
theorem dX12_readsItem_108 : decode cX12_readsItem 108 = .ok (.aload_n 0, 1) := by decide +kernel
theorem dX12_readsItem_109 : decode cX12_readsItem 109 = .ok (.getfield 86, 3) := by decide +kernel
theorem dX12_readsItem_112 : decode cX12_readsItem 112 = .ok (.iload_n 2, 1) := by decide +kernel
theorem dX12_readsItem_113 : decode cX12_readsItem 113 = .ok (.if_icmp .eq 7, 3) := by decide +kernel
theorem dX12_readsItem_116 : decode cX12_readsItem 116 = .ok (.iconst 1, 1) := by decide +kernel
theorem dX12_readsItem_117 : decode cX12_readsItem 117 = .ok (.goto 4, 3) := by decide +kernel
theorem dX12_readsItem_120 : decode cX12_readsItem 120 = .ok (.iconst 0, 1) := by decide +kernel
theorem dX12_readsItem_121 : decode cX12_readsItem 121 = .ok (.invokevirtual 99, 3) := by decide +kernel
theorem dX12_readsItem_124 : decode cX12_readsItem 124 = .ok (.istore_n 3, 1) := by decide +kernel
theorem dX12_readsItem_125 : decode cX12_readsItem 125 = .ok (.aload_n 0, 1) := by decide +kernel
theorem dX12_readsItem_126 : decode cX12_readsItem 126 = .ok (.iconst 1, 1) := by decide +kernel
theorem dX12_readsItem_127 : decode cX12_readsItem 127 = .ok (.bipush 9, 2) := by decide +kernel
theorem dX12_readsItem_129 : decode cX12_readsItem 129 = .ok (.invokevirtual 106, 3) := by decide +kernel
theorem dX12_readsItem_132 : decode cX12_readsItem 132 = .ok (.istore 4, 2) := by decide +kernel
theorem dX12_readsItem_134 : decode cX12_readsItem 134 = .ok (.aload_n 0, 1) := by decide +kernel
theorem dX12_readsItem_135 : decode cX12_readsItem 135 = .ok (.invokevirtual 92, 3) := by decide +kernel
theorem dX12_readsItem_138 : decode cX12_readsItem 138 = .ok (.ifCond .eq 35, 3) := by decide +kernel
theorem dX12_readsItem_141 : decode cX12_readsItem 141 = .ok (.aload_n 0, 1) := by decide +kernel
theorem dX12_readsItem_142 : decode cX12_readsItem 142 = .ok (.getfield 22, 3) := by decide +kernel
theorem dX12_readsItem_145 : decode cX12_readsItem 145 = .ok (.bipush 36, 2) := by decide +kernel
theorem dX12_readsItem_147 : decode cX12_readsItem 147 = .ok (.bipush 6, 2) := by decide +kernel
theorem dX12_readsItem_149 : decode cX12_readsItem 149 = .ok (.iload_n 2, 1) := by decide +kernel
theorem dX12_readsItem_150 : decode cX12_readsItem 150 = .ok (.imul, 1) := by decide +kernel
theorem dX12_readsItem_151 : decode cX12_readsItem 151 = .ok (.iadd, 1) := by decide +kernel
theorem dX12_readsItem_152 : decode cX12_readsItem 152 = .ok (.iload_n 3, 1) := by decide +kernel
theorem dX12_readsItem_153 : decode cX12_readsItem 153 = .ok (.iadd, 1) := by decide +kernel
theorem dX12_readsItem_154 : decode cX12_readsItem 154 = .ok (.iload 4, 2) := by decide +kernel
theorem dX12_readsItem_156 : decode cX12_readsItem 156 = .ok (.iastore, 1) := by decide +kernel
theorem dX12_readsItem_157 : decode cX12_readsItem 157 = .ok (.aload_n 0, 1) := by decide +kernel
theorem dX12_readsItem_158 : decode cX12_readsItem 158 = .ok (.getfield 22, 3) := by decide +kernel
theorem dX12_readsItem_161 : decode cX12_readsItem 161 = .ok (.bipush 36, 2) := by decide +kernel
theorem dX12_readsItem_163 : decode cX12_readsItem 163 = .ok (.bipush 6, 2) := by decide +kernel
theorem dX12_readsItem_165 : decode cX12_readsItem 165 = .ok (.iload_n 3, 1) := by decide +kernel
theorem dX12_readsItem_166 : decode cX12_readsItem 166 = .ok (.imul, 1) := by decide +kernel
theorem dX12_readsItem_167 : decode cX12_readsItem 167 = .ok (.iadd, 1) := by decide +kernel
theorem dX12_readsItem_168 : decode cX12_readsItem 168 = .ok (.iload_n 2, 1) := by decide +kernel
theorem dX12_readsItem_169 : decode cX12_readsItem 169 = .ok (.iadd, 1) := by decide +kernel
theorem dX12_readsItem_170 : decode cX12_readsItem 170 = .ok (.iload 4, 2) := by decide +kernel
theorem dX12_readsItem_172 : decode cX12_readsItem 172 = .ok (.iastore, 1) := by decide +kernel
theorem dX12_readsItem_173 : decode cX12_readsItem 173 = .ok (.goto 64, 3) := by decide +kernel
theorem dX12_readsItem_176 : decode cX12_readsItem 176 = .ok (.iload_n 1, 1) := by decide +kernel
theorem dX12_readsItem_177 : decode cX12_readsItem 177 = .ok (.bipush 114, 2) := by decide +kernel
theorem dX12_readsItem_179 : decode cX12_readsItem 179 = .ok (.if_icmp .ne 29, 3) := by decide +kernel
theorem dX12_readsItem_182 : decode cX12_readsItem 182 = .ok (.aload_n 0, 1) := by decide +kernel
theorem dX12_readsItem_183 : decode cX12_readsItem 183 = .ok (.getfield 13, 3) := by decide +kernel
theorem dX12_readsItem_186 : decode cX12_readsItem 186 = .ok (.iconst 4, 1) := by decide +kernel
theorem dX12_readsItem_187 : decode cX12_readsItem 187 = .ok (.aload_n 0, 1) := by decide +kernel
theorem dX12_readsItem_188 : decode cX12_readsItem 188 = .ok (.iconst 1, 1) := by decide +kernel
theorem dX12_readsItem_189 : decode cX12_readsItem 189 = .ok (.bipush 20, 2) := by decide +kernel
theorem dX12_readsItem_191 : decode cX12_readsItem 191 = .ok (.invokevirtual 106, 3) := by decide +kernel
theorem dX12_readsItem_194 : decode cX12_readsItem 194 = .ok (.iastore, 1) := by decide +kernel
theorem dX12_readsItem_195 : decode cX12_readsItem 195 = .ok (.aload_n 0, 1) := by decide +kernel
theorem dX12_readsItem_196 : decode cX12_readsItem 196 = .ok (.dup, 1) := by decide +kernel
theorem dX12_readsItem_197 : decode cX12_readsItem 197 = .ok (.getfield 103, 3) := by decide +kernel
theorem dX12_readsItem_200 : decode cX12_readsItem 200 = .ok (.iconst 1, 1) := by decide +kernel
theorem dX12_readsItem_201 : decode cX12_readsItem 201 = .ok (.ior, 1) := by decide +kernel
theorem dX12_readsItem_202 : decode cX12_readsItem 202 = .ok (.putfield 103, 3) := by decide +kernel
theorem dX12_readsItem_205 : decode cX12_readsItem 205 = .ok (.goto 32, 3) := by decide +kernel
theorem dX12_readsItem_208 : decode cX12_readsItem 208 = .ok (.aload_n 0, 1) := by decide +kernel
theorem dX12_readsItem_209 : decode cX12_readsItem 209 = .ok (.getfield 13, 3) := by decide +kernel
theorem dX12_readsItem_212 : decode cX12_readsItem 212 = .ok (.iconst 5, 1) := by decide +kernel
theorem dX12_readsItem_213 : decode cX12_readsItem 213 = .ok (.aload_n 0, 1) := by decide +kernel
theorem dX12_readsItem_214 : decode cX12_readsItem 214 = .ok (.iconst 0, 1) := by decide +kernel
theorem dX12_readsItem_215 : decode cX12_readsItem 215 = .ok (.aload_n 0, 1) := by decide +kernel
theorem dX12_readsItem_216 : decode cX12_readsItem 216 = .ok (.getfield 13, 3) := by decide +kernel
theorem dX12_readsItem_219 : decode cX12_readsItem 219 = .ok (.iconst 3, 1) := by decide +kernel
theorem dX12_readsItem_220 : decode cX12_readsItem 220 = .ok (.iaload, 1) := by decide +kernel
theorem dX12_readsItem_221 : decode cX12_readsItem 221 = .ok (.iconst 1, 1) := by decide +kernel
theorem dX12_readsItem_222 : decode cX12_readsItem 222 = .ok (.isub, 1) := by decide +kernel
theorem dX12_readsItem_223 : decode cX12_readsItem 223 = .ok (.invokevirtual 106, 3) := by decide +kernel
theorem dX12_readsItem_226 : decode cX12_readsItem 226 = .ok (.iastore, 1) := by decide +kernel
theorem dX12_readsItem_227 : decode cX12_readsItem 227 = .ok (.aload_n 0, 1) := by decide +kernel
theorem dX12_readsItem_228 : decode cX12_readsItem 228 = .ok (.dup, 1) := by decide +kernel
theorem dX12_readsItem_229 : decode cX12_readsItem 229 = .ok (.getfield 103, 3) := by decide +kernel
theorem dX12_readsItem_232 : decode cX12_readsItem 232 = .ok (.iconst 2, 1) := by decide +kernel
theorem dX12_readsItem_233 : decode cX12_readsItem 233 = .ok (.ior, 1) := by decide +kernel
theorem dX12_readsItem_234 : decode cX12_readsItem 234 = .ok (.putfield 103, 3) := by decide +kernel
theorem dX12_readsItem_237 : decode cX12_readsItem 237 = .ok (.return_, 1) := by decide +kernel
theorem dX12_valley_0 : decode cX12_valley 0 = .ok (.aload_n 0, 1) := by decide +kernel
theorem dX12_valley_1 : decode cX12_valley 1 = .ok (.iconst 0, 1) := by decide +kernel
theorem dX12_valley_2 : decode cX12_valley 2 = .ok (.putfield 62, 3) := by decide +kernel
theorem dX12_valley_5 : decode cX12_valley 5 = .ok (.aload_n 0, 1) := by decide +kernel
theorem dX12_valley_6 : decode cX12_valley 6 = .ok (.iconst (-1), 1) := by decide +kernel
theorem dX12_valley_7 : decode cX12_valley 7 = .ok (.putfield 89, 3) := by decide +kernel
theorem dX12_valley_10 : decode cX12_valley 10 = .ok (.aload_n 0, 1) := by decide +kernel
theorem dX12_valley_11 : decode cX12_valley 11 = .ok (.iconst 0, 1) := by decide +kernel
theorem dX12_valley_12 : decode cX12_valley 12 = .ok (.putfield 73, 3) := by decide +kernel
theorem dX12_valley_15 : decode cX12_valley 15 = .ok (.aload_n 0, 1) := by decide +kernel
theorem dX12_valley_16 : decode cX12_valley 16 = .ok (.iconst 0, 1) := by decide +kernel
theorem dX12_valley_17 : decode cX12_valley 17 = .ok (.putfield 103, 3) := by decide +kernel
theorem dX12_valley_20 : decode cX12_valley 20 = .ok (.aload_n 0, 1) := by decide +kernel
theorem dX12_valley_21 : decode cX12_valley 21 = .ok (.getfield 13, 3) := by decide +kernel
theorem dX12_valley_24 : decode cX12_valley 24 = .ok (.iconst 3, 1) := by decide +kernel
theorem dX12_valley_25 : decode cX12_valley 25 = .ok (.iconst 0, 1) := by decide +kernel
theorem dX12_valley_26 : decode cX12_valley 26 = .ok (.iastore, 1) := by decide +kernel
theorem dX12_valley_27 : decode cX12_valley 27 = .ok (.aload_n 0, 1) := by decide +kernel
theorem dX12_valley_28 : decode cX12_valley 28 = .ok (.getfield 13, 3) := by decide +kernel
theorem dX12_valley_31 : decode cX12_valley 31 = .ok (.iconst 4, 1) := by decide +kernel
theorem dX12_valley_32 : decode cX12_valley 32 = .ok (.bipush 20, 2) := by decide +kernel
theorem dX12_valley_34 : decode cX12_valley 34 = .ok (.iastore, 1) := by decide +kernel
theorem dX12_valley_35 : decode cX12_valley 35 = .ok (.aload_n 0, 1) := by decide +kernel
theorem dX12_valley_36 : decode cX12_valley 36 = .ok (.getfield 13, 3) := by decide +kernel
theorem dX12_valley_39 : decode cX12_valley 39 = .ok (.iconst 5, 1) := by decide +kernel
theorem dX12_valley_40 : decode cX12_valley 40 = .ok (.iconst 0, 1) := by decide +kernel
theorem dX12_valley_41 : decode cX12_valley 41 = .ok (.iastore, 1) := by decide +kernel
theorem dX12_valley_42 : decode cX12_valley 42 = .ok (.bipush 36, 2) := by decide +kernel
theorem dX12_valley_44 : decode cX12_valley 44 = .ok (.istore_n 1, 1) := by decide +kernel
theorem dX12_valley_45 : decode cX12_valley 45 = .ok (.iload_n 1, 1) := by decide +kernel
theorem dX12_valley_46 : decode cX12_valley 46 = .ok (.bipush 72, 2) := by decide +kernel
theorem dX12_valley_48 : decode cX12_valley 48 = .ok (.if_icmp .ge 16, 3) := by decide +kernel
theorem dX12_valley_51 : decode cX12_valley 51 = .ok (.aload_n 0, 1) := by decide +kernel
theorem dX12_valley_52 : decode cX12_valley 52 = .ok (.getfield 22, 3) := by decide +kernel
theorem dX12_valley_55 : decode cX12_valley 55 = .ok (.iload_n 1, 1) := by decide +kernel
theorem dX12_valley_56 : decode cX12_valley 56 = .ok (.iconst 0, 1) := by decide +kernel
theorem dX12_valley_57 : decode cX12_valley 57 = .ok (.iastore, 1) := by decide +kernel
theorem dX12_valley_58 : decode cX12_valley 58 = .ok (.iinc 1 1, 3) := by decide +kernel
theorem dX12_valley_61 : decode cX12_valley 61 = .ok (.goto (-16), 3) := by decide +kernel
theorem dX12_valley_64 : decode cX12_valley 64 = .ok (.iconst 0, 1) := by decide +kernel
theorem dX12_valley_65 : decode cX12_valley 65 = .ok (.istore_n 1, 1) := by decide +kernel
theorem dX12_valley_66 : decode cX12_valley 66 = .ok (.aload_n 0, 1) := by decide +kernel
theorem dX12_valley_67 : decode cX12_valley 67 = .ok (.invokevirtual 96, 3) := by decide +kernel
theorem dX12_valley_70 : decode cX12_valley 70 = .ok (.aload_n 0, 1) := by decide +kernel
theorem dX12_valley_71 : decode cX12_valley 71 = .ok (.invokevirtual 92, 3) := by decide +kernel
theorem dX12_valley_74 : decode cX12_valley 74 = .ok (.ifCond .eq 71, 3) := by decide +kernel
theorem dX12_valley_77 : decode cX12_valley 77 = .ok (.aload_n 0, 1) := by decide +kernel
theorem dX12_valley_78 : decode cX12_valley 78 = .ok (.getfield 83, 3) := by decide +kernel
theorem dX12_valley_81 : decode cX12_valley 81 = .ok (.ifCond .eq 64, 3) := by decide +kernel
theorem dX12_valley_84 : decode cX12_valley 84 = .ok (.aload_n 0, 1) := by decide +kernel
theorem dX12_valley_85 : decode cX12_valley 85 = .ok (.aload_n 0, 1) := by decide +kernel
theorem dX12_valley_86 : decode cX12_valley 86 = .ok (.getfield 83, 3) := by decide +kernel
theorem dX12_valley_89 : decode cX12_valley 89 = .ok (.iconst 1, 1) := by decide +kernel
theorem dX12_valley_90 : decode cX12_valley 90 = .ok (.if_icmp .ne 14, 3) := by decide +kernel
theorem dX12_valley_93 : decode cX12_valley 93 = .ok (.aload_n 0, 1) := by decide +kernel
theorem dX12_valley_94 : decode cX12_valley 94 = .ok (.invokevirtual 110, 3) := by decide +kernel
theorem dX12_valley_97 : decode cX12_valley 97 = .ok (.ifCond .eq 7, 3) := by decide +kernel
theorem dX12_valley_100 : decode cX12_valley 100 = .ok (.iconst 1, 1) := by decide +kernel
theorem dX12_valley_101 : decode cX12_valley 101 = .ok (.goto 4, 3) := by decide +kernel
theorem dX12_valley_104 : decode cX12_valley 104 = .ok (.iconst 0, 1) := by decide +kernel
theorem dX12_valley_105 : decode cX12_valley 105 = .ok (.invokevirtual 99, 3) := by decide +kernel
theorem dX12_valley_108 : decode cX12_valley 108 = .ok (.istore_n 2, 1) := by decide +kernel
theorem dX12_valley_109 : decode cX12_valley 109 = .ok (.aload_n 0, 1) := by decide +kernel
theorem dX12_valley_110 : decode cX12_valley 110 = .ok (.invokevirtual 92, 3) := by decide +kernel
theorem dX12_valley_113 : decode cX12_valley 113 = .ok (.ifCond .eq 8, 3) := by decide +kernel
theorem dX12_valley_116 : decode cX12_valley 116 = .ok (.aload_n 0, 1) := by decide +kernel
theorem dX12_valley_117 : decode cX12_valley 117 = .ok (.iload_n 2, 1) := by decide +kernel
theorem dX12_valley_118 : decode cX12_valley 118 = .ok (.invokevirtual 113, 3) := by decide +kernel
theorem dX12_valley_121 : decode cX12_valley 121 = .ok (.aload_n 0, 1) := by decide +kernel
theorem dX12_valley_122 : decode cX12_valley 122 = .ok (.aload_n 0, 1) := by decide +kernel
theorem dX12_valley_123 : decode cX12_valley 123 = .ok (.getfield 83, 3) := by decide +kernel
theorem dX12_valley_126 : decode cX12_valley 126 = .ok (.iconst 3, 1) := by decide +kernel
theorem dX12_valley_127 : decode cX12_valley 127 = .ok (.if_icmp .ne 7, 3) := by decide +kernel
theorem dX12_valley_130 : decode cX12_valley 130 = .ok (.iconst 1, 1) := by decide +kernel
theorem dX12_valley_131 : decode cX12_valley 131 = .ok (.goto 4, 3) := by decide +kernel
theorem dX12_valley_134 : decode cX12_valley 134 = .ok (.iconst 0, 1) := by decide +kernel
theorem dX12_valley_135 : decode cX12_valley 135 = .ok (.invokevirtual 99, 3) := by decide +kernel
theorem dX12_valley_138 : decode cX12_valley 138 = .ok (.pop, 1) := by decide +kernel
theorem dX12_valley_139 : decode cX12_valley 139 = .ok (.iinc 1 1, 3) := by decide +kernel
theorem dX12_valley_142 : decode cX12_valley 142 = .ok (.goto (-72), 3) := by decide +kernel
theorem dX12_valley_145 : decode cX12_valley 145 = .ok (.aload_n 0, 1) := by decide +kernel
theorem dX12_valley_146 : decode cX12_valley 146 = .ok (.invokevirtual 92, 3) := by decide +kernel
theorem dX12_valley_149 : decode cX12_valley 149 = .ok (.ifCond .ne 11, 3) := by decide +kernel
theorem dX12_valley_152 : decode cX12_valley 152 = .ok (.bipush (-10), 2) := by decide +kernel
theorem dX12_valley_154 : decode cX12_valley 154 = .ok (.aload_n 0, 1) := by decide +kernel
theorem dX12_valley_155 : decode cX12_valley 155 = .ok (.getfield 89, 3) := by decide +kernel
theorem dX12_valley_158 : decode cX12_valley 158 = .ok (.isub, 1) := by decide +kernel
theorem dX12_valley_159 : decode cX12_valley 159 = .ok (.ireturn, 1) := by decide +kernel
theorem dX12_valley_160 : decode cX12_valley 160 = .ok (.aload_n 0, 1) := by decide +kernel
theorem dX12_valley_161 : decode cX12_valley 161 = .ok (.invokevirtual 117, 3) := by decide +kernel
theorem dX12_valley_164 : decode cX12_valley 164 = .ok (.iload_n 1, 1) := by decide +kernel
theorem dX12_valley_165 : decode cX12_valley 165 = .ok (.ireturn, 1) := by decide +kernel
theorem dX12_settles_0 : decode cX12_settles 0 = .ok (.iconst 0, 1) := by decide +kernel
theorem dX12_settles_1 : decode cX12_settles 1 = .ok (.istore_n 1, 1) := by decide +kernel
theorem dX12_settles_2 : decode cX12_settles 2 = .ok (.iload_n 1, 1) := by decide +kernel
theorem dX12_settles_3 : decode cX12_settles 3 = .ok (.iconst 3, 1) := by decide +kernel
theorem dX12_settles_4 : decode cX12_settles 4 = .ok (.if_icmp .ge 23, 3) := by decide +kernel
theorem dX12_settles_7 : decode cX12_settles 7 = .ok (.aload_n 0, 1) := by decide +kernel
theorem dX12_settles_8 : decode cX12_settles 8 = .ok (.getfield 13, 3) := by decide +kernel
theorem dX12_settles_11 : decode cX12_settles 11 = .ok (.iload_n 1, 1) := by decide +kernel
theorem dX12_settles_12 : decode cX12_settles 12 = .ok (.aload_n 0, 1) := by decide +kernel
theorem dX12_settles_13 : decode cX12_settles 13 = .ok (.getfield 13, 3) := by decide +kernel
theorem dX12_settles_16 : decode cX12_settles 16 = .ok (.iconst 3, 1) := by decide +kernel
theorem dX12_settles_17 : decode cX12_settles 17 = .ok (.iload_n 1, 1) := by decide +kernel
theorem dX12_settles_18 : decode cX12_settles 18 = .ok (.iadd, 1) := by decide +kernel
theorem dX12_settles_19 : decode cX12_settles 19 = .ok (.iaload, 1) := by decide +kernel
theorem dX12_settles_20 : decode cX12_settles 20 = .ok (.iastore, 1) := by decide +kernel
theorem dX12_settles_21 : decode cX12_settles 21 = .ok (.iinc 1 1, 3) := by decide +kernel
theorem dX12_settles_24 : decode cX12_settles 24 = .ok (.goto (-22), 3) := by decide +kernel
theorem dX12_settles_27 : decode cX12_settles 27 = .ok (.iconst 0, 1) := by decide +kernel
theorem dX12_settles_28 : decode cX12_settles 28 = .ok (.istore_n 1, 1) := by decide +kernel
theorem dX12_settles_29 : decode cX12_settles 29 = .ok (.iload_n 1, 1) := by decide +kernel
theorem dX12_settles_30 : decode cX12_settles 30 = .ok (.bipush 36, 2) := by decide +kernel
theorem dX12_settles_32 : decode cX12_settles 32 = .ok (.if_icmp .ge 24, 3) := by decide +kernel
theorem dX12_settles_35 : decode cX12_settles 35 = .ok (.aload_n 0, 1) := by decide +kernel
theorem dX12_settles_36 : decode cX12_settles 36 = .ok (.getfield 22, 3) := by decide +kernel
theorem dX12_settles_39 : decode cX12_settles 39 = .ok (.iload_n 1, 1) := by decide +kernel
theorem dX12_settles_40 : decode cX12_settles 40 = .ok (.aload_n 0, 1) := by decide +kernel
theorem dX12_settles_41 : decode cX12_settles 41 = .ok (.getfield 22, 3) := by decide +kernel
theorem dX12_settles_44 : decode cX12_settles 44 = .ok (.bipush 36, 2) := by decide +kernel
theorem dX12_settles_46 : decode cX12_settles 46 = .ok (.iload_n 1, 1) := by decide +kernel
theorem dX12_settles_47 : decode cX12_settles 47 = .ok (.iadd, 1) := by decide +kernel
theorem dX12_settles_48 : decode cX12_settles 48 = .ok (.iaload, 1) := by decide +kernel
theorem dX12_settles_49 : decode cX12_settles 49 = .ok (.iastore, 1) := by decide +kernel
theorem dX12_settles_50 : decode cX12_settles 50 = .ok (.iinc 1 1, 3) := by decide +kernel
theorem dX12_settles_53 : decode cX12_settles 53 = .ok (.goto (-24), 3) := by decide +kernel
theorem dX12_settles_56 : decode cX12_settles 56 = .ok (.iconst 0, 1) := by decide +kernel
theorem dX12_settles_57 : decode cX12_settles 57 = .ok (.istore_n 1, 1) := by decide +kernel
theorem dX12_settles_58 : decode cX12_settles 58 = .ok (.iload_n 1, 1) := by decide +kernel
theorem dX12_settles_59 : decode cX12_settles 59 = .ok (.bipush 6, 2) := by decide +kernel
theorem dX12_settles_61 : decode cX12_settles 61 = .ok (.if_icmp .ge 39, 3) := by decide +kernel
theorem dX12_settles_64 : decode cX12_settles 64 = .ok (.aload_n 0, 1) := by decide +kernel
theorem dX12_settles_65 : decode cX12_settles 65 = .ok (.getfield 16, 3) := by decide +kernel
theorem dX12_settles_68 : decode cX12_settles 68 = .ok (.iload_n 1, 1) := by decide +kernel
theorem dX12_settles_69 : decode cX12_settles 69 = .ok (.aload_n 0, 1) := by decide +kernel
theorem dX12_settles_70 : decode cX12_settles 70 = .ok (.getfield 16, 3) := by decide +kernel
theorem dX12_settles_73 : decode cX12_settles 73 = .ok (.bipush 6, 2) := by decide +kernel
theorem dX12_settles_75 : decode cX12_settles 75 = .ok (.iload_n 1, 1) := by decide +kernel
theorem dX12_settles_76 : decode cX12_settles 76 = .ok (.iadd, 1) := by decide +kernel
theorem dX12_settles_77 : decode cX12_settles 77 = .ok (.iaload, 1) := by decide +kernel
theorem dX12_settles_78 : decode cX12_settles 78 = .ok (.iastore, 1) := by decide +kernel
theorem dX12_settles_79 : decode cX12_settles 79 = .ok (.aload_n 0, 1) := by decide +kernel
theorem dX12_settles_80 : decode cX12_settles 80 = .ok (.getfield 19, 3) := by decide +kernel
theorem dX12_settles_83 : decode cX12_settles 83 = .ok (.iload_n 1, 1) := by decide +kernel
theorem dX12_settles_84 : decode cX12_settles 84 = .ok (.aload_n 0, 1) := by decide +kernel
theorem dX12_settles_85 : decode cX12_settles 85 = .ok (.getfield 19, 3) := by decide +kernel
theorem dX12_settles_88 : decode cX12_settles 88 = .ok (.bipush 6, 2) := by decide +kernel
theorem dX12_settles_90 : decode cX12_settles 90 = .ok (.iload_n 1, 1) := by decide +kernel
theorem dX12_settles_91 : decode cX12_settles 91 = .ok (.iadd, 1) := by decide +kernel
theorem dX12_settles_92 : decode cX12_settles 92 = .ok (.iaload, 1) := by decide +kernel
theorem dX12_settles_93 : decode cX12_settles 93 = .ok (.iastore, 1) := by decide +kernel
theorem dX12_settles_94 : decode cX12_settles 94 = .ok (.iinc 1 1, 3) := by decide +kernel
theorem dX12_settles_97 : decode cX12_settles 97 = .ok (.goto (-39), 3) := by decide +kernel
theorem dX12_settles_100 : decode cX12_settles 100 = .ok (.aload_n 0, 1) := by decide +kernel
theorem dX12_settles_101 : decode cX12_settles 101 = .ok (.aload_n 0, 1) := by decide +kernel
theorem dX12_settles_102 : decode cX12_settles 102 = .ok (.getfield 25, 3) := by decide +kernel
theorem dX12_settles_105 : decode cX12_settles 105 = .ok (.aload_n 0, 1) := by decide +kernel
theorem dX12_settles_106 : decode cX12_settles 106 = .ok (.getfield 13, 3) := by decide +kernel
theorem dX12_settles_109 : decode cX12_settles 109 = .ok (.iconst 2, 1) := by decide +kernel
theorem dX12_settles_110 : decode cX12_settles 110 = .ok (.iaload, 1) := by decide +kernel
theorem dX12_settles_111 : decode cX12_settles 111 = .ok (.invokevirtual 120, 3) := by decide +kernel
theorem dX12_settles_114 : decode cX12_settles 114 = .ok (.aload_n 0, 1) := by decide +kernel
theorem dX12_settles_115 : decode cX12_settles 115 = .ok (.iconst 0, 1) := by decide +kernel
theorem dX12_settles_116 : decode cX12_settles 116 = .ok (.putfield 70, 3) := by decide +kernel
theorem dX12_settles_119 : decode cX12_settles 119 = .ok (.aload_n 0, 1) := by decide +kernel
theorem dX12_settles_120 : decode cX12_settles 120 = .ok (.iconst 0, 1) := by decide +kernel
theorem dX12_settles_121 : decode cX12_settles 121 = .ok (.putfield 124, 3) := by decide +kernel
theorem dX12_settles_124 : decode cX12_settles 124 = .ok (.aload_n 0, 1) := by decide +kernel
theorem dX12_settles_125 : decode cX12_settles 125 = .ok (.iconst 0, 1) := by decide +kernel
theorem dX12_settles_126 : decode cX12_settles 126 = .ok (.putfield 127, 3) := by decide +kernel
theorem dX12_settles_129 : decode cX12_settles 129 = .ok (.aload_n 0, 1) := by decide +kernel
theorem dX12_settles_130 : decode cX12_settles 130 = .ok (.iconst 0, 1) := by decide +kernel
theorem dX12_settles_131 : decode cX12_settles 131 = .ok (.putfield 130, 3) := by decide +kernel
theorem dX12_settles_134 : decode cX12_settles 134 = .ok (.aload_n 0, 1) := by decide +kernel
theorem dX12_settles_135 : decode cX12_settles 135 = .ok (.getfield 34, 3) := by decide +kernel
theorem dX12_settles_138 : decode cX12_settles 138 = .ok (.iconst 0, 1) := by decide +kernel
theorem dX12_settles_139 : decode cX12_settles 139 = .ok (.iconst 0, 1) := by decide +kernel
theorem dX12_settles_140 : decode cX12_settles 140 = .ok (.bastore, 1) := by decide +kernel
theorem dX12_settles_141 : decode cX12_settles 141 = .ok (.aload_n 0, 1) := by decide +kernel
theorem dX12_settles_142 : decode cX12_settles 142 = .ok (.getfield 34, 3) := by decide +kernel
theorem dX12_settles_145 : decode cX12_settles 145 = .ok (.iconst 1, 1) := by decide +kernel
theorem dX12_settles_146 : decode cX12_settles 146 = .ok (.iconst 0, 1) := by decide +kernel
theorem dX12_settles_147 : decode cX12_settles 147 = .ok (.bastore, 1) := by decide +kernel
theorem dX12_settles_148 : decode cX12_settles 148 = .ok (.return_, 1) := by decide +kernel
theorem dX12_asTold_0 : decode cX12_asTold 0 = .ok (.iconst 0, 1) := by decide +kernel
theorem dX12_asTold_1 : decode cX12_asTold 1 = .ok (.istore_n 3, 1) := by decide +kernel
theorem dX12_asTold_2 : decode cX12_asTold 2 = .ok (.iload_n 3, 1) := by decide +kernel
theorem dX12_asTold_3 : decode cX12_asTold 3 = .ok (.bipush 35, 2) := by decide +kernel
theorem dX12_asTold_5 : decode cX12_asTold 5 = .ok (.if_icmp .ge 13, 3) := by decide +kernel
theorem dX12_asTold_8 : decode cX12_asTold 8 = .ok (.aload_n 1, 1) := by decide +kernel
theorem dX12_asTold_9 : decode cX12_asTold 9 = .ok (.iload_n 3, 1) := by decide +kernel
theorem dX12_asTold_10 : decode cX12_asTold 10 = .ok (.iconst 0, 1) := by decide +kernel
theorem dX12_asTold_11 : decode cX12_asTold 11 = .ok (.iastore, 1) := by decide +kernel
theorem dX12_asTold_12 : decode cX12_asTold 12 = .ok (.iinc 3 1, 3) := by decide +kernel
theorem dX12_asTold_15 : decode cX12_asTold 15 = .ok (.goto (-13), 3) := by decide +kernel
theorem dX12_asTold_18 : decode cX12_asTold 18 = .ok (.iconst 0, 1) := by decide +kernel
theorem dX12_asTold_19 : decode cX12_asTold 19 = .ok (.istore_n 3, 1) := by decide +kernel
theorem dX12_asTold_20 : decode cX12_asTold 20 = .ok (.iload_n 3, 1) := by decide +kernel
theorem dX12_asTold_21 : decode cX12_asTold 21 = .ok (.aload_n 0, 1) := by decide +kernel
theorem dX12_asTold_22 : decode cX12_asTold 22 = .ok (.getfield 13, 3) := by decide +kernel
theorem dX12_asTold_25 : decode cX12_asTold 25 = .ok (.iconst 0, 1) := by decide +kernel
theorem dX12_asTold_26 : decode cX12_asTold 26 = .ok (.iaload, 1) := by decide +kernel
theorem dX12_asTold_27 : decode cX12_asTold 27 = .ok (.if_icmp .ge 32, 3) := by decide +kernel
theorem dX12_asTold_30 : decode cX12_asTold 30 = .ok (.aload_n 1, 1) := by decide +kernel
theorem dX12_asTold_31 : decode cX12_asTold 31 = .ok (.iconst 4, 1) := by decide +kernel
theorem dX12_asTold_32 : decode cX12_asTold 32 = .ok (.iload_n 3, 1) := by decide +kernel
theorem dX12_asTold_33 : decode cX12_asTold 33 = .ok (.iadd, 1) := by decide +kernel
theorem dX12_asTold_34 : decode cX12_asTold 34 = .ok (.aload_n 0, 1) := by decide +kernel
theorem dX12_asTold_35 : decode cX12_asTold 35 = .ok (.getfield 16, 3) := by decide +kernel
theorem dX12_asTold_38 : decode cX12_asTold 38 = .ok (.iload_n 3, 1) := by decide +kernel
theorem dX12_asTold_39 : decode cX12_asTold 39 = .ok (.iaload, 1) := by decide +kernel
theorem dX12_asTold_40 : decode cX12_asTold 40 = .ok (.iastore, 1) := by decide +kernel
theorem dX12_asTold_41 : decode cX12_asTold 41 = .ok (.aload_n 1, 1) := by decide +kernel
theorem dX12_asTold_42 : decode cX12_asTold 42 = .ok (.bipush 10, 2) := by decide +kernel
theorem dX12_asTold_44 : decode cX12_asTold 44 = .ok (.iload_n 3, 1) := by decide +kernel
theorem dX12_asTold_45 : decode cX12_asTold 45 = .ok (.iadd, 1) := by decide +kernel
theorem dX12_asTold_46 : decode cX12_asTold 46 = .ok (.aload_n 0, 1) := by decide +kernel
theorem dX12_asTold_47 : decode cX12_asTold 47 = .ok (.getfield 19, 3) := by decide +kernel
theorem dX12_asTold_50 : decode cX12_asTold 50 = .ok (.iload_n 3, 1) := by decide +kernel
theorem dX12_asTold_51 : decode cX12_asTold 51 = .ok (.iaload, 1) := by decide +kernel
theorem dX12_asTold_52 : decode cX12_asTold 52 = .ok (.iastore, 1) := by decide +kernel
theorem dX12_asTold_53 : decode cX12_asTold 53 = .ok (.iinc 3 1, 3) := by decide +kernel
theorem dX12_asTold_56 : decode cX12_asTold 56 = .ok (.goto (-36), 3) := by decide +kernel
theorem dX12_asTold_59 : decode cX12_asTold 59 = .ok (.aload_n 0, 1) := by decide +kernel
theorem dX12_asTold_60 : decode cX12_asTold 60 = .ok (.getfield 13, 3) := by decide +kernel
theorem dX12_asTold_63 : decode cX12_asTold 63 = .ok (.iconst 0, 1) := by decide +kernel
theorem dX12_asTold_64 : decode cX12_asTold 64 = .ok (.iaload, 1) := by decide +kernel
theorem dX12_asTold_65 : decode cX12_asTold 65 = .ok (.ifCond .le 18, 3) := by decide +kernel
theorem dX12_asTold_68 : decode cX12_asTold 68 = .ok (.aload_n 1, 1) := by decide +kernel
theorem dX12_asTold_69 : decode cX12_asTold 69 = .ok (.iconst 0, 1) := by decide +kernel
theorem dX12_asTold_70 : decode cX12_asTold 70 = .ok (.iconst 1, 1) := by decide +kernel
theorem dX12_asTold_71 : decode cX12_asTold 71 = .ok (.iastore, 1) := by decide +kernel
theorem dX12_asTold_72 : decode cX12_asTold 72 = .ok (.aload_n 1, 1) := by decide +kernel
theorem dX12_asTold_73 : decode cX12_asTold 73 = .ok (.iconst 2, 1) := by decide +kernel
theorem dX12_asTold_74 : decode cX12_asTold 74 = .ok (.iload_n 2, 1) := by decide +kernel
theorem dX12_asTold_75 : decode cX12_asTold 75 = .ok (.iastore, 1) := by decide +kernel
theorem dX12_asTold_76 : decode cX12_asTold 76 = .ok (.aload_n 1, 1) := by decide +kernel
theorem dX12_asTold_77 : decode cX12_asTold 77 = .ok (.bipush 29, 2) := by decide +kernel
theorem dX12_asTold_79 : decode cX12_asTold 79 = .ok (.iload_n 2, 1) := by decide +kernel
theorem dX12_asTold_80 : decode cX12_asTold 80 = .ok (.iadd, 1) := by decide +kernel
theorem dX12_asTold_81 : decode cX12_asTold 81 = .ok (.iconst 1, 1) := by decide +kernel
theorem dX12_asTold_82 : decode cX12_asTold 82 = .ok (.iastore, 1) := by decide +kernel
theorem dX12_asTold_83 : decode cX12_asTold 83 = .ok (.return_, 1) := by decide +kernel
theorem dX12_isVillage_0 : decode cX12_isVillage 0 = .ok (.iload_n 1, 1) := by decide +kernel
theorem dX12_isVillage_1 : decode cX12_isVillage 1 = .ok (.iconst 0, 1) := by decide +kernel
theorem dX12_isVillage_2 : decode cX12_isVillage 2 = .ok (.aload_n 0, 1) := by decide +kernel
theorem dX12_isVillage_3 : decode cX12_isVillage 3 = .ok (.getfield 13, 3) := by decide +kernel
theorem dX12_isVillage_6 : decode cX12_isVillage 6 = .ok (.iconst 0, 1) := by decide +kernel
theorem dX12_isVillage_7 : decode cX12_isVillage 7 = .ok (.iaload, 1) := by decide +kernel
theorem dX12_isVillage_8 : decode cX12_isVillage 8 = .ok (.iconst 1, 1) := by decide +kernel
theorem dX12_isVillage_9 : decode cX12_isVillage 9 = .ok (.isub, 1) := by decide +kernel
theorem dX12_isVillage_10 : decode cX12_isVillage 10 = .ok (.invokestatic 66, 3) := by decide +kernel
theorem dX12_isVillage_13 : decode cX12_isVillage 13 = .ok (.ireturn, 1) := by decide +kernel
theorem dX12_ways_0 : decode cX12_ways 0 = .ok (.iconst 0, 1) := by decide +kernel
theorem dX12_ways_1 : decode cX12_ways 1 = .ok (.istore_n 2, 1) := by decide +kernel
theorem dX12_ways_2 : decode cX12_ways 2 = .ok (.iconst 0, 1) := by decide +kernel
theorem dX12_ways_3 : decode cX12_ways 3 = .ok (.istore_n 3, 1) := by decide +kernel
theorem dX12_ways_4 : decode cX12_ways 4 = .ok (.iload_n 3, 1) := by decide +kernel
theorem dX12_ways_5 : decode cX12_ways 5 = .ok (.aload_n 0, 1) := by decide +kernel
theorem dX12_ways_6 : decode cX12_ways 6 = .ok (.getfield 13, 3) := by decide +kernel
theorem dX12_ways_9 : decode cX12_ways 9 = .ok (.iconst 0, 1) := by decide +kernel
theorem dX12_ways_10 : decode cX12_ways 10 = .ok (.iaload, 1) := by decide +kernel
theorem dX12_ways_11 : decode cX12_ways 11 = .ok (.if_icmp .ge 33, 3) := by decide +kernel
theorem dX12_ways_14 : decode cX12_ways 14 = .ok (.iload_n 2, 1) := by decide +kernel
theorem dX12_ways_15 : decode cX12_ways 15 = .ok (.aload_n 0, 1) := by decide +kernel
theorem dX12_ways_16 : decode cX12_ways 16 = .ok (.getfield 22, 3) := by decide +kernel
theorem dX12_ways_19 : decode cX12_ways 19 = .ok (.bipush 6, 2) := by decide +kernel
theorem dX12_ways_21 : decode cX12_ways 21 = .ok (.iload_n 1, 1) := by decide +kernel
theorem dX12_ways_22 : decode cX12_ways 22 = .ok (.imul, 1) := by decide +kernel
theorem dX12_ways_23 : decode cX12_ways 23 = .ok (.iload_n 3, 1) := by decide +kernel
theorem dX12_ways_24 : decode cX12_ways 24 = .ok (.iadd, 1) := by decide +kernel
theorem dX12_ways_25 : decode cX12_ways 25 = .ok (.iaload, 1) := by decide +kernel
theorem dX12_ways_26 : decode cX12_ways 26 = .ok (.ifCond .le 9, 3) := by decide +kernel
theorem dX12_ways_29 : decode cX12_ways 29 = .ok (.iconst 1, 1) := by decide +kernel
theorem dX12_ways_30 : decode cX12_ways 30 = .ok (.iload_n 3, 1) := by decide +kernel
theorem dX12_ways_31 : decode cX12_ways 31 = .ok (.ishl, 1) := by decide +kernel
theorem dX12_ways_32 : decode cX12_ways 32 = .ok (.goto 4, 3) := by decide +kernel
theorem dX12_ways_35 : decode cX12_ways 35 = .ok (.iconst 0, 1) := by decide +kernel
theorem dX12_ways_36 : decode cX12_ways 36 = .ok (.ior, 1) := by decide +kernel
theorem dX12_ways_37 : decode cX12_ways 37 = .ok (.istore_n 2, 1) := by decide +kernel
theorem dX12_ways_38 : decode cX12_ways 38 = .ok (.iinc 3 1, 3) := by decide +kernel
theorem dX12_ways_41 : decode cX12_ways 41 = .ok (.goto (-37), 3) := by decide +kernel
theorem dX12_ways_44 : decode cX12_ways 44 = .ok (.iload_n 2, 1) := by decide +kernel
theorem dX12_ways_45 : decode cX12_ways 45 = .ok (.ireturn, 1) := by decide +kernel
theorem dX12_village_0 : decode cX12_village 0 = .ok (.aload_n 0, 1) := by decide +kernel
theorem dX12_village_1 : decode cX12_village 1 = .ok (.iconst 0, 1) := by decide +kernel
theorem dX12_village_2 : decode cX12_village 2 = .ok (.putfield 62, 3) := by decide +kernel
theorem dX12_village_5 : decode cX12_village 5 = .ok (.aload_n 0, 1) := by decide +kernel
theorem dX12_village_6 : decode cX12_village 6 = .ok (.iload_n 1, 1) := by decide +kernel
theorem dX12_village_7 : decode cX12_village 7 = .ok (.invokevirtual 133, 3) := by decide +kernel
theorem dX12_village_10 : decode cX12_village 10 = .ok (.ifCond .eq 12, 3) := by decide +kernel
theorem dX12_village_13 : decode cX12_village 13 = .ok (.iload_n 2, 1) := by decide +kernel
theorem dX12_village_14 : decode cX12_village 14 = .ok (.iconst 0, 1) := by decide +kernel
theorem dX12_village_15 : decode cX12_village 15 = .ok (.iconst 3, 1) := by decide +kernel
theorem dX12_village_16 : decode cX12_village 16 = .ok (.invokestatic 66, 3) := by decide +kernel
theorem dX12_village_19 : decode cX12_village 19 = .ok (.ifCond .ne 5, 3) := by decide +kernel
theorem dX12_village_22 : decode cX12_village 22 = .ok (.iconst (-1), 1) := by decide +kernel
theorem dX12_village_23 : decode cX12_village 23 = .ok (.ireturn, 1) := by decide +kernel
theorem dX12_village_24 : decode cX12_village 24 = .ok (.iload_n 2, 1) := by decide +kernel
theorem dX12_village_25 : decode cX12_village 25 = .ok (.ifCond .ne 14, 3) := by decide +kernel
theorem dX12_village_28 : decode cX12_village 28 = .ok (.aload_n 0, 1) := by decide +kernel
theorem dX12_village_29 : decode cX12_village 29 = .ok (.getfield 25, 3) := by decide +kernel
theorem dX12_village_32 : decode cX12_village 32 = .ok (.iconst 4, 1) := by decide +kernel
theorem dX12_village_33 : decode cX12_village 33 = .ok (.iload_n 1, 1) := by decide +kernel
theorem dX12_village_34 : decode cX12_village 34 = .ok (.iadd, 1) := by decide +kernel
theorem dX12_village_35 : decode cX12_village 35 = .ok (.iaload, 1) := by decide +kernel
theorem dX12_village_36 : decode cX12_village 36 = .ok (.goto 42, 3) := by decide +kernel
theorem dX12_village_39 : decode cX12_village 39 = .ok (.iload_n 2, 1) := by decide +kernel
theorem dX12_village_40 : decode cX12_village 40 = .ok (.iconst 1, 1) := by decide +kernel
theorem dX12_village_41 : decode cX12_village 41 = .ok (.if_icmp .ne 15, 3) := by decide +kernel
theorem dX12_village_44 : decode cX12_village 44 = .ok (.aload_n 0, 1) := by decide +kernel
theorem dX12_village_45 : decode cX12_village 45 = .ok (.getfield 25, 3) := by decide +kernel
theorem dX12_village_48 : decode cX12_village 48 = .ok (.bipush 10, 2) := by decide +kernel
theorem dX12_village_50 : decode cX12_village 50 = .ok (.iload_n 1, 1) := by decide +kernel
theorem dX12_village_51 : decode cX12_village 51 = .ok (.iadd, 1) := by decide +kernel
theorem dX12_village_52 : decode cX12_village 52 = .ok (.iaload, 1) := by decide +kernel
theorem dX12_village_53 : decode cX12_village 53 = .ok (.goto 25, 3) := by decide +kernel
theorem dX12_village_56 : decode cX12_village 56 = .ok (.iload_n 2, 1) := by decide +kernel
theorem dX12_village_57 : decode cX12_village 57 = .ok (.iconst 2, 1) := by decide +kernel
theorem dX12_village_58 : decode cX12_village 58 = .ok (.if_icmp .ne 11, 3) := by decide +kernel
theorem dX12_village_61 : decode cX12_village 61 = .ok (.aload_n 0, 1) := by decide +kernel
theorem dX12_village_62 : decode cX12_village 62 = .ok (.iload_n 1, 1) := by decide +kernel
theorem dX12_village_63 : decode cX12_village 63 = .ok (.invokevirtual 137, 3) := by decide +kernel
theorem dX12_village_66 : decode cX12_village 66 = .ok (.goto 12, 3) := by decide +kernel
theorem dX12_village_69 : decode cX12_village 69 = .ok (.aload_n 0, 1) := by decide +kernel
theorem dX12_village_70 : decode cX12_village 70 = .ok (.getfield 25, 3) := by decide +kernel
theorem dX12_village_73 : decode cX12_village 73 = .ok (.bipush 29, 2) := by decide +kernel
theorem dX12_village_75 : decode cX12_village 75 = .ok (.iload_n 1, 1) := by decide +kernel
theorem dX12_village_76 : decode cX12_village 76 = .ok (.iadd, 1) := by decide +kernel
theorem dX12_village_77 : decode cX12_village 77 = .ok (.iaload, 1) := by decide +kernel
theorem dX12_village_78 : decode cX12_village 78 = .ok (.ireturn, 1) := by decide +kernel
theorem dX12_way_0 : decode cX12_way 0 = .ok (.aload_n 0, 1) := by decide +kernel
theorem dX12_way_1 : decode cX12_way 1 = .ok (.iconst 0, 1) := by decide +kernel
theorem dX12_way_2 : decode cX12_way 2 = .ok (.putfield 62, 3) := by decide +kernel
theorem dX12_way_5 : decode cX12_way 5 = .ok (.aload_n 0, 1) := by decide +kernel
theorem dX12_way_6 : decode cX12_way 6 = .ok (.iload_n 1, 1) := by decide +kernel
theorem dX12_way_7 : decode cX12_way 7 = .ok (.invokevirtual 133, 3) := by decide +kernel
theorem dX12_way_10 : decode cX12_way 10 = .ok (.ifCond .eq 11, 3) := by decide +kernel
theorem dX12_way_13 : decode cX12_way 13 = .ok (.aload_n 0, 1) := by decide +kernel
theorem dX12_way_14 : decode cX12_way 14 = .ok (.iload_n 2, 1) := by decide +kernel
theorem dX12_way_15 : decode cX12_way 15 = .ok (.invokevirtual 133, 3) := by decide +kernel
theorem dX12_way_18 : decode cX12_way 18 = .ok (.ifCond .ne 5, 3) := by decide +kernel
theorem dX12_way_21 : decode cX12_way 21 = .ok (.iconst (-1), 1) := by decide +kernel
theorem dX12_way_22 : decode cX12_way 22 = .ok (.ireturn, 1) := by decide +kernel
theorem dX12_way_23 : decode cX12_way 23 = .ok (.aload_n 0, 1) := by decide +kernel
theorem dX12_way_24 : decode cX12_way 24 = .ok (.getfield 22, 3) := by decide +kernel
theorem dX12_way_27 : decode cX12_way 27 = .ok (.bipush 6, 2) := by decide +kernel
theorem dX12_way_29 : decode cX12_way 29 = .ok (.iload_n 1, 1) := by decide +kernel
theorem dX12_way_30 : decode cX12_way 30 = .ok (.imul, 1) := by decide +kernel
theorem dX12_way_31 : decode cX12_way 31 = .ok (.iload_n 2, 1) := by decide +kernel
theorem dX12_way_32 : decode cX12_way 32 = .ok (.iadd, 1) := by decide +kernel
theorem dX12_way_33 : decode cX12_way 33 = .ok (.iaload, 1) := by decide +kernel
theorem dX12_way_34 : decode cX12_way 34 = .ok (.ifCond .ne 8, 3) := by decide +kernel
theorem dX12_way_37 : decode cX12_way 37 = .ok (.bipush (-9), 2) := by decide +kernel
theorem dX12_way_39 : decode cX12_way 39 = .ok (.goto 14, 3) := by decide +kernel
theorem dX12_way_42 : decode cX12_way 42 = .ok (.aload_n 0, 1) := by decide +kernel
theorem dX12_way_43 : decode cX12_way 43 = .ok (.getfield 22, 3) := by decide +kernel
theorem dX12_way_46 : decode cX12_way 46 = .ok (.bipush 6, 2) := by decide +kernel
theorem dX12_way_48 : decode cX12_way 48 = .ok (.iload_n 1, 1) := by decide +kernel
theorem dX12_way_49 : decode cX12_way 49 = .ok (.imul, 1) := by decide +kernel
theorem dX12_way_50 : decode cX12_way 50 = .ok (.iload_n 2, 1) := by decide +kernel
theorem dX12_way_51 : decode cX12_way 51 = .ok (.iadd, 1) := by decide +kernel
theorem dX12_way_52 : decode cX12_way 52 = .ok (.iaload, 1) := by decide +kernel
theorem dX12_way_53 : decode cX12_way 53 = .ok (.ireturn, 1) := by decide +kernel
theorem dX12_hearsIn_0 : decode cX12_hearsIn 0 = .ok (.iload_n 2, 1) := by decide +kernel
theorem dX12_hearsIn_1 : decode cX12_hearsIn 1 = .ok (.iload_n 3, 1) := by decide +kernel
theorem dX12_hearsIn_2 : decode cX12_hearsIn 2 = .ok (.if_icmp .eq 13, 3) := by decide +kernel
theorem dX12_hearsIn_5 : decode cX12_hearsIn 5 = .ok (.aload_n 1, 1) := by decide +kernel
theorem dX12_hearsIn_6 : decode cX12_hearsIn 6 = .ok (.bipush 10, 2) := by decide +kernel
theorem dX12_hearsIn_8 : decode cX12_hearsIn 8 = .ok (.iload_n 2, 1) := by decide +kernel
theorem dX12_hearsIn_9 : decode cX12_hearsIn 9 = .ok (.iadd, 1) := by decide +kernel
theorem dX12_hearsIn_10 : decode cX12_hearsIn 10 = .ok (.iaload, 1) := by decide +kernel
theorem dX12_hearsIn_11 : decode cX12_hearsIn 11 = .ok (.iconst 1, 1) := by decide +kernel
theorem dX12_hearsIn_12 : decode cX12_hearsIn 12 = .ok (.if_icmp .ne 6, 3) := by decide +kernel
theorem dX12_hearsIn_15 : decode cX12_hearsIn 15 = .ok (.bipush (-9), 2) := by decide +kernel
theorem dX12_hearsIn_17 : decode cX12_hearsIn 17 = .ok (.ireturn, 1) := by decide +kernel
theorem dX12_hearsIn_18 : decode cX12_hearsIn 18 = .ok (.aload_n 0, 1) := by decide +kernel
theorem dX12_hearsIn_19 : decode cX12_hearsIn 19 = .ok (.getfield 22, 3) := by decide +kernel
theorem dX12_hearsIn_22 : decode cX12_hearsIn 22 = .ok (.bipush 6, 2) := by decide +kernel
theorem dX12_hearsIn_24 : decode cX12_hearsIn 24 = .ok (.iload_n 2, 1) := by decide +kernel
theorem dX12_hearsIn_25 : decode cX12_hearsIn 25 = .ok (.imul, 1) := by decide +kernel
theorem dX12_hearsIn_26 : decode cX12_hearsIn 26 = .ok (.iload_n 3, 1) := by decide +kernel
theorem dX12_hearsIn_27 : decode cX12_hearsIn 27 = .ok (.iadd, 1) := by decide +kernel
theorem dX12_hearsIn_28 : decode cX12_hearsIn 28 = .ok (.iaload, 1) := by decide +kernel
theorem dX12_hearsIn_29 : decode cX12_hearsIn 29 = .ok (.iconst 1, 1) := by decide +kernel
theorem dX12_hearsIn_30 : decode cX12_hearsIn 30 = .ok (.aload_n 1, 1) := by decide +kernel
theorem dX12_hearsIn_31 : decode cX12_hearsIn 31 = .ok (.iconst 3, 1) := by decide +kernel
theorem dX12_hearsIn_32 : decode cX12_hearsIn 32 = .ok (.iaload, 1) := by decide +kernel
theorem dX12_hearsIn_33 : decode cX12_hearsIn 33 = .ok (.iadd, 1) := by decide +kernel
theorem dX12_hearsIn_34 : decode cX12_hearsIn 34 = .ok (.imul, 1) := by decide +kernel
theorem dX12_hearsIn_35 : decode cX12_hearsIn 35 = .ok (.istore 4, 2) := by decide +kernel
theorem dX12_hearsIn_37 : decode cX12_hearsIn 37 = .ok (.iload 4, 2) := by decide +kernel
theorem dX12_hearsIn_39 : decode cX12_hearsIn 39 = .ok (.ifCond .eq 14, 3) := by decide +kernel
theorem dX12_hearsIn_42 : decode cX12_hearsIn 42 = .ok (.iload 4, 2) := by decide +kernel
theorem dX12_hearsIn_44 : decode cX12_hearsIn 44 = .ok (.aload_n 0, 1) := by decide +kernel
theorem dX12_hearsIn_45 : decode cX12_hearsIn 45 = .ok (.getfield 13, 3) := by decide +kernel
theorem dX12_hearsIn_48 : decode cX12_hearsIn 48 = .ok (.iconst 1, 1) := by decide +kernel
theorem dX12_hearsIn_49 : decode cX12_hearsIn 49 = .ok (.iaload, 1) := by decide +kernel
theorem dX12_hearsIn_50 : decode cX12_hearsIn 50 = .ok (.if_icmp .le 8, 3) := by decide +kernel
theorem dX12_hearsIn_53 : decode cX12_hearsIn 53 = .ok (.bipush (-9), 2) := by decide +kernel
theorem dX12_hearsIn_55 : decode cX12_hearsIn 55 = .ok (.goto 5, 3) := by decide +kernel
theorem dX12_hearsIn_58 : decode cX12_hearsIn 58 = .ok (.iload 4, 2) := by decide +kernel
theorem dX12_hearsIn_60 : decode cX12_hearsIn 60 = .ok (.istore 4, 2) := by decide +kernel
theorem dX12_hearsIn_62 : decode cX12_hearsIn 62 = .ok (.iconst 0, 1) := by decide +kernel
theorem dX12_hearsIn_63 : decode cX12_hearsIn 63 = .ok (.istore 5, 2) := by decide +kernel
theorem dX12_hearsIn_65 : decode cX12_hearsIn 65 = .ok (.iload 5, 2) := by decide +kernel
theorem dX12_hearsIn_67 : decode cX12_hearsIn 67 = .ok (.aload_n 1, 1) := by decide +kernel
theorem dX12_hearsIn_68 : decode cX12_hearsIn 68 = .ok (.bipush 16, 2) := by decide +kernel
theorem dX12_hearsIn_70 : decode cX12_hearsIn 70 = .ok (.iaload, 1) := by decide +kernel
theorem dX12_hearsIn_71 : decode cX12_hearsIn 71 = .ok (.if_icmp .ge 67, 3) := by decide +kernel
theorem dX12_hearsIn_74 : decode cX12_hearsIn 74 = .ok (.bipush 17, 2) := by decide +kernel
theorem dX12_hearsIn_76 : decode cX12_hearsIn 76 = .ok (.iconst 3, 1) := by decide +kernel
theorem dX12_hearsIn_77 : decode cX12_hearsIn 77 = .ok (.iload 5, 2) := by decide +kernel
theorem dX12_hearsIn_79 : decode cX12_hearsIn 79 = .ok (.imul, 1) := by decide +kernel
theorem dX12_hearsIn_80 : decode cX12_hearsIn 80 = .ok (.iadd, 1) := by decide +kernel
theorem dX12_hearsIn_81 : decode cX12_hearsIn 81 = .ok (.istore 6, 2) := by decide +kernel
theorem dX12_hearsIn_83 : decode cX12_hearsIn 83 = .ok (.aload_n 1, 1) := by decide +kernel
theorem dX12_hearsIn_84 : decode cX12_hearsIn 84 = .ok (.iload 6, 2) := by decide +kernel
theorem dX12_hearsIn_86 : decode cX12_hearsIn 86 = .ok (.iaload, 1) := by decide +kernel
theorem dX12_hearsIn_87 : decode cX12_hearsIn 87 = .ok (.iload_n 3, 1) := by decide +kernel
theorem dX12_hearsIn_88 : decode cX12_hearsIn 88 = .ok (.if_icmp .ne 44, 3) := by decide +kernel
theorem dX12_hearsIn_91 : decode cX12_hearsIn 91 = .ok (.aload_n 1, 1) := by decide +kernel
theorem dX12_hearsIn_92 : decode cX12_hearsIn 92 = .ok (.iload 6, 2) := by decide +kernel
theorem dX12_hearsIn_94 : decode cX12_hearsIn 94 = .ok (.iconst 1, 1) := by decide +kernel
theorem dX12_hearsIn_95 : decode cX12_hearsIn 95 = .ok (.iadd, 1) := by decide +kernel
theorem dX12_hearsIn_96 : decode cX12_hearsIn 96 = .ok (.iaload, 1) := by decide +kernel
theorem dX12_hearsIn_97 : decode cX12_hearsIn 97 = .ok (.iload_n 2, 1) := by decide +kernel
theorem dX12_hearsIn_98 : decode cX12_hearsIn 98 = .ok (.if_icmp .ne 34, 3) := by decide +kernel
theorem dX12_hearsIn_101 : decode cX12_hearsIn 101 = .ok (.iload 4, 2) := by decide +kernel
theorem dX12_hearsIn_103 : decode cX12_hearsIn 103 = .ok (.bipush (-9), 2) := by decide +kernel
theorem dX12_hearsIn_105 : decode cX12_hearsIn 105 = .ok (.if_icmp .eq 14, 3) := by decide +kernel
theorem dX12_hearsIn_108 : decode cX12_hearsIn 108 = .ok (.aload_n 1, 1) := by decide +kernel
theorem dX12_hearsIn_109 : decode cX12_hearsIn 109 = .ok (.iload 6, 2) := by decide +kernel
theorem dX12_hearsIn_111 : decode cX12_hearsIn 111 = .ok (.iconst 2, 1) := by decide +kernel
theorem dX12_hearsIn_112 : decode cX12_hearsIn 112 = .ok (.iadd, 1) := by decide +kernel
theorem dX12_hearsIn_113 : decode cX12_hearsIn 113 = .ok (.iaload, 1) := by decide +kernel
theorem dX12_hearsIn_114 : decode cX12_hearsIn 114 = .ok (.iload 4, 2) := by decide +kernel
theorem dX12_hearsIn_116 : decode cX12_hearsIn 116 = .ok (.if_icmp .ge 12, 3) := by decide +kernel
theorem dX12_hearsIn_119 : decode cX12_hearsIn 119 = .ok (.aload_n 1, 1) := by decide +kernel
theorem dX12_hearsIn_120 : decode cX12_hearsIn 120 = .ok (.iload 6, 2) := by decide +kernel
theorem dX12_hearsIn_122 : decode cX12_hearsIn 122 = .ok (.iconst 2, 1) := by decide +kernel
theorem dX12_hearsIn_123 : decode cX12_hearsIn 123 = .ok (.iadd, 1) := by decide +kernel
theorem dX12_hearsIn_124 : decode cX12_hearsIn 124 = .ok (.iaload, 1) := by decide +kernel
theorem dX12_hearsIn_125 : decode cX12_hearsIn 125 = .ok (.goto 5, 3) := by decide +kernel
theorem dX12_hearsIn_128 : decode cX12_hearsIn 128 = .ok (.iload 4, 2) := by decide +kernel
theorem dX12_hearsIn_130 : decode cX12_hearsIn 130 = .ok (.istore 4, 2) := by decide +kernel
theorem dX12_hearsIn_132 : decode cX12_hearsIn 132 = .ok (.iinc 5 1, 3) := by decide +kernel
theorem dX12_hearsIn_135 : decode cX12_hearsIn 135 = .ok (.goto (-70), 3) := by decide +kernel
theorem dX12_hearsIn_138 : decode cX12_hearsIn 138 = .ok (.iload 4, 2) := by decide +kernel
theorem dX12_hearsIn_140 : decode cX12_hearsIn 140 = .ok (.ireturn, 1) := by decide +kernel
theorem dX12_hears_0 : decode cX12_hears 0 = .ok (.aload_n 0, 1) := by decide +kernel
theorem dX12_hears_1 : decode cX12_hears 1 = .ok (.iconst 0, 1) := by decide +kernel
theorem dX12_hears_2 : decode cX12_hears 2 = .ok (.putfield 62, 3) := by decide +kernel
theorem dX12_hears_5 : decode cX12_hears 5 = .ok (.aload_n 0, 1) := by decide +kernel
theorem dX12_hears_6 : decode cX12_hears 6 = .ok (.iload_n 1, 1) := by decide +kernel
theorem dX12_hears_7 : decode cX12_hears 7 = .ok (.invokevirtual 133, 3) := by decide +kernel
theorem dX12_hears_10 : decode cX12_hears 10 = .ok (.ifCond .eq 24, 3) := by decide +kernel
theorem dX12_hears_13 : decode cX12_hears 13 = .ok (.aload_n 0, 1) := by decide +kernel
theorem dX12_hears_14 : decode cX12_hears 14 = .ok (.iload_n 2, 1) := by decide +kernel
theorem dX12_hears_15 : decode cX12_hears 15 = .ok (.invokevirtual 133, 3) := by decide +kernel
theorem dX12_hears_18 : decode cX12_hears 18 = .ok (.ifCond .eq 16, 3) := by decide +kernel
theorem dX12_hears_21 : decode cX12_hears 21 = .ok (.aload_n 0, 1) := by decide +kernel
theorem dX12_hears_22 : decode cX12_hears 22 = .ok (.aload_n 0, 1) := by decide +kernel
theorem dX12_hears_23 : decode cX12_hears 23 = .ok (.getfield 25, 3) := by decide +kernel
theorem dX12_hears_26 : decode cX12_hears 26 = .ok (.iload_n 1, 1) := by decide +kernel
theorem dX12_hears_27 : decode cX12_hears 27 = .ok (.iload_n 2, 1) := by decide +kernel
theorem dX12_hears_28 : decode cX12_hears 28 = .ok (.invokevirtual 140, 3) := by decide +kernel
theorem dX12_hears_31 : decode cX12_hears 31 = .ok (.goto 4, 3) := by decide +kernel
theorem dX12_hears_34 : decode cX12_hears 34 = .ok (.iconst (-1), 1) := by decide +kernel
theorem dX12_hears_35 : decode cX12_hears 35 = .ok (.ireturn, 1) := by decide +kernel
theorem dX12_now_0 : decode cX12_now 0 = .ok (.aload_n 0, 1) := by decide +kernel
theorem dX12_now_1 : decode cX12_now 1 = .ok (.iconst 0, 1) := by decide +kernel
theorem dX12_now_2 : decode cX12_now 2 = .ok (.putfield 62, 3) := by decide +kernel
theorem dX12_now_5 : decode cX12_now 5 = .ok (.iload_n 1, 1) := by decide +kernel
theorem dX12_now_6 : decode cX12_now 6 = .ok (.iconst 0, 1) := by decide +kernel
theorem dX12_now_7 : decode cX12_now 7 = .ok (.iconst 5, 1) := by decide +kernel
theorem dX12_now_8 : decode cX12_now 8 = .ok (.invokestatic 66, 3) := by decide +kernel
theorem dX12_now_11 : decode cX12_now 11 = .ok (.ifCond .ne 5, 3) := by decide +kernel
theorem dX12_now_14 : decode cX12_now 14 = .ok (.iconst (-1), 1) := by decide +kernel
theorem dX12_now_15 : decode cX12_now 15 = .ok (.ireturn, 1) := by decide +kernel
theorem dX12_now_16 : decode cX12_now 16 = .ok (.iload_n 1, 1) := by decide +kernel
theorem dX12_now_17 : decode cX12_now 17 = .ok (.iconst 4, 1) := by decide +kernel
theorem dX12_now_18 : decode cX12_now 18 = .ok (.if_icmp .ge 12, 3) := by decide +kernel
theorem dX12_now_21 : decode cX12_now 21 = .ok (.aload_n 0, 1) := by decide +kernel
theorem dX12_now_22 : decode cX12_now 22 = .ok (.getfield 25, 3) := by decide +kernel
theorem dX12_now_25 : decode cX12_now 25 = .ok (.iload_n 1, 1) := by decide +kernel
theorem dX12_now_26 : decode cX12_now 26 = .ok (.iaload, 1) := by decide +kernel
theorem dX12_now_27 : decode cX12_now 27 = .ok (.goto 22, 3) := by decide +kernel
theorem dX12_now_30 : decode cX12_now 30 = .ok (.iload_n 1, 1) := by decide +kernel
theorem dX12_now_31 : decode cX12_now 31 = .ok (.iconst 4, 1) := by decide +kernel
theorem dX12_now_32 : decode cX12_now 32 = .ok (.if_icmp .ne 13, 3) := by decide +kernel
theorem dX12_now_35 : decode cX12_now 35 = .ok (.aload_n 0, 1) := by decide +kernel
theorem dX12_now_36 : decode cX12_now 36 = .ok (.getfield 25, 3) := by decide +kernel
theorem dX12_now_39 : decode cX12_now 39 = .ok (.bipush 16, 2) := by decide +kernel
theorem dX12_now_41 : decode cX12_now 41 = .ok (.iaload, 1) := by decide +kernel
theorem dX12_now_42 : decode cX12_now 42 = .ok (.goto 7, 3) := by decide +kernel
theorem dX12_now_45 : decode cX12_now 45 = .ok (.aload_n 0, 1) := by decide +kernel
theorem dX12_now_46 : decode cX12_now 46 = .ok (.getfield 130, 3) := by decide +kernel
theorem dX12_now_49 : decode cX12_now 49 = .ok (.ireturn, 1) := by decide +kernel
theorem dX12_notes_0 : decode cX12_notes 0 = .ok (.aload_n 0, 1) := by decide +kernel
theorem dX12_notes_1 : decode cX12_notes 1 = .ok (.getfield 130, 3) := by decide +kernel
theorem dX12_notes_4 : decode cX12_notes 4 = .ok (.bipush 10, 2) := by decide +kernel
theorem dX12_notes_6 : decode cX12_notes 6 = .ok (.if_icmp .ne 39, 3) := by decide +kernel
theorem dX12_notes_9 : decode cX12_notes 9 = .ok (.iconst 0, 1) := by decide +kernel
theorem dX12_notes_10 : decode cX12_notes 10 = .ok (.istore_n 1, 1) := by decide +kernel
theorem dX12_notes_11 : decode cX12_notes 11 = .ok (.iload_n 1, 1) := by decide +kernel
theorem dX12_notes_12 : decode cX12_notes 12 = .ok (.sipush 315, 3) := by decide +kernel
theorem dX12_notes_15 : decode cX12_notes 15 = .ok (.if_icmp .ge 24, 3) := by decide +kernel
theorem dX12_notes_18 : decode cX12_notes 18 = .ok (.aload_n 0, 1) := by decide +kernel
theorem dX12_notes_19 : decode cX12_notes 19 = .ok (.getfield 38, 3) := by decide +kernel
theorem dX12_notes_22 : decode cX12_notes 22 = .ok (.iload_n 1, 1) := by decide +kernel
theorem dX12_notes_23 : decode cX12_notes 23 = .ok (.aload_n 0, 1) := by decide +kernel
theorem dX12_notes_24 : decode cX12_notes 24 = .ok (.getfield 38, 3) := by decide +kernel
theorem dX12_notes_27 : decode cX12_notes 27 = .ok (.iload_n 1, 1) := by decide +kernel
theorem dX12_notes_28 : decode cX12_notes 28 = .ok (.bipush 35, 2) := by decide +kernel
theorem dX12_notes_30 : decode cX12_notes 30 = .ok (.iadd, 1) := by decide +kernel
theorem dX12_notes_31 : decode cX12_notes 31 = .ok (.iaload, 1) := by decide +kernel
theorem dX12_notes_32 : decode cX12_notes 32 = .ok (.iastore, 1) := by decide +kernel
theorem dX12_notes_33 : decode cX12_notes 33 = .ok (.iinc 1 1, 3) := by decide +kernel
theorem dX12_notes_36 : decode cX12_notes 36 = .ok (.goto (-25), 3) := by decide +kernel
theorem dX12_notes_39 : decode cX12_notes 39 = .ok (.aload_n 0, 1) := by decide +kernel
theorem dX12_notes_40 : decode cX12_notes 40 = .ok (.bipush 9, 2) := by decide +kernel
theorem dX12_notes_42 : decode cX12_notes 42 = .ok (.putfield 130, 3) := by decide +kernel
theorem dX12_notes_45 : decode cX12_notes 45 = .ok (.iconst 0, 1) := by decide +kernel
theorem dX12_notes_46 : decode cX12_notes 46 = .ok (.istore_n 1, 1) := by decide +kernel
theorem dX12_notes_47 : decode cX12_notes 47 = .ok (.iload_n 1, 1) := by decide +kernel
theorem dX12_notes_48 : decode cX12_notes 48 = .ok (.bipush 35, 2) := by decide +kernel
theorem dX12_notes_50 : decode cX12_notes 50 = .ok (.if_icmp .ge 29, 3) := by decide +kernel
theorem dX12_notes_53 : decode cX12_notes 53 = .ok (.aload_n 0, 1) := by decide +kernel
theorem dX12_notes_54 : decode cX12_notes 54 = .ok (.getfield 38, 3) := by decide +kernel
theorem dX12_notes_57 : decode cX12_notes 57 = .ok (.bipush 35, 2) := by decide +kernel
theorem dX12_notes_59 : decode cX12_notes 59 = .ok (.aload_n 0, 1) := by decide +kernel
theorem dX12_notes_60 : decode cX12_notes 60 = .ok (.getfield 130, 3) := by decide +kernel
theorem dX12_notes_63 : decode cX12_notes 63 = .ok (.imul, 1) := by decide +kernel
theorem dX12_notes_64 : decode cX12_notes 64 = .ok (.iload_n 1, 1) := by decide +kernel
theorem dX12_notes_65 : decode cX12_notes 65 = .ok (.iadd, 1) := by decide +kernel
theorem dX12_notes_66 : decode cX12_notes 66 = .ok (.aload_n 0, 1) := by decide +kernel
theorem dX12_notes_67 : decode cX12_notes 67 = .ok (.getfield 25, 3) := by decide +kernel
theorem dX12_notes_70 : decode cX12_notes 70 = .ok (.iload_n 1, 1) := by decide +kernel
theorem dX12_notes_71 : decode cX12_notes 71 = .ok (.iaload, 1) := by decide +kernel
theorem dX12_notes_72 : decode cX12_notes 72 = .ok (.iastore, 1) := by decide +kernel
theorem dX12_notes_73 : decode cX12_notes 73 = .ok (.iinc 1 1, 3) := by decide +kernel
theorem dX12_notes_76 : decode cX12_notes 76 = .ok (.goto (-29), 3) := by decide +kernel
theorem dX12_notes_79 : decode cX12_notes 79 = .ok (.aload_n 0, 1) := by decide +kernel
theorem dX12_notes_80 : decode cX12_notes 80 = .ok (.dup, 1) := by decide +kernel
theorem dX12_notes_81 : decode cX12_notes 81 = .ok (.getfield 130, 3) := by decide +kernel
theorem dX12_notes_84 : decode cX12_notes 84 = .ok (.iconst 1, 1) := by decide +kernel
theorem dX12_notes_85 : decode cX12_notes 85 = .ok (.iadd, 1) := by decide +kernel
theorem dX12_notes_86 : decode cX12_notes 86 = .ok (.putfield 130, 3) := by decide +kernel
theorem dX12_notes_89 : decode cX12_notes 89 = .ok (.return_, 1) := by decide +kernel
theorem dX12_lastOf_0 : decode cX12_lastOf 0 = .ok (.bipush (-9), 2) := by decide +kernel
theorem dX12_lastOf_2 : decode cX12_lastOf 2 = .ok (.istore_n 3, 1) := by decide +kernel
theorem dX12_lastOf_3 : decode cX12_lastOf 3 = .ok (.iconst 0, 1) := by decide +kernel
theorem dX12_lastOf_4 : decode cX12_lastOf 4 = .ok (.istore 4, 2) := by decide +kernel
theorem dX12_lastOf_6 : decode cX12_lastOf 6 = .ok (.iload 4, 2) := by decide +kernel
theorem dX12_lastOf_8 : decode cX12_lastOf 8 = .ok (.aload_n 0, 1) := by decide +kernel
theorem dX12_lastOf_9 : decode cX12_lastOf 9 = .ok (.getfield 13, 3) := by decide +kernel
theorem dX12_lastOf_12 : decode cX12_lastOf 12 = .ok (.iconst 0, 1) := by decide +kernel
theorem dX12_lastOf_13 : decode cX12_lastOf 13 = .ok (.iaload, 1) := by decide +kernel
theorem dX12_lastOf_14 : decode cX12_lastOf 14 = .ok (.if_icmp .ge 51, 3) := by decide +kernel
theorem dX12_lastOf_17 : decode cX12_lastOf 17 = .ok (.aload_n 0, 1) := by decide +kernel
theorem dX12_lastOf_18 : decode cX12_lastOf 18 = .ok (.aload_n 1, 1) := by decide +kernel
theorem dX12_lastOf_19 : decode cX12_lastOf 19 = .ok (.iload 4, 2) := by decide +kernel
theorem dX12_lastOf_21 : decode cX12_lastOf 21 = .ok (.iload_n 2, 1) := by decide +kernel
theorem dX12_lastOf_22 : decode cX12_lastOf 22 = .ok (.invokevirtual 140, 3) := by decide +kernel
theorem dX12_lastOf_25 : decode cX12_lastOf 25 = .ok (.istore 5, 2) := by decide +kernel
theorem dX12_lastOf_27 : decode cX12_lastOf 27 = .ok (.iload 5, 2) := by decide +kernel
theorem dX12_lastOf_29 : decode cX12_lastOf 29 = .ok (.bipush (-9), 2) := by decide +kernel
theorem dX12_lastOf_31 : decode cX12_lastOf 31 = .ok (.if_icmp .eq 26, 3) := by decide +kernel
theorem dX12_lastOf_34 : decode cX12_lastOf 34 = .ok (.iload_n 3, 1) := by decide +kernel
theorem dX12_lastOf_35 : decode cX12_lastOf 35 = .ok (.bipush (-9), 2) := by decide +kernel
theorem dX12_lastOf_37 : decode cX12_lastOf 37 = .ok (.if_icmp .eq 15, 3) := by decide +kernel
theorem dX12_lastOf_40 : decode cX12_lastOf 40 = .ok (.iload 5, 2) := by decide +kernel
theorem dX12_lastOf_42 : decode cX12_lastOf 42 = .ok (.aload_n 0, 1) := by decide +kernel
theorem dX12_lastOf_43 : decode cX12_lastOf 43 = .ok (.aload_n 1, 1) := by decide +kernel
theorem dX12_lastOf_44 : decode cX12_lastOf 44 = .ok (.iload_n 3, 1) := by decide +kernel
theorem dX12_lastOf_45 : decode cX12_lastOf 45 = .ok (.iload_n 2, 1) := by decide +kernel
theorem dX12_lastOf_46 : decode cX12_lastOf 46 = .ok (.invokevirtual 140, 3) := by decide +kernel
theorem dX12_lastOf_49 : decode cX12_lastOf 49 = .ok (.if_icmp .le 8, 3) := by decide +kernel
theorem dX12_lastOf_52 : decode cX12_lastOf 52 = .ok (.iload 4, 2) := by decide +kernel
theorem dX12_lastOf_54 : decode cX12_lastOf 54 = .ok (.goto 4, 3) := by decide +kernel
theorem dX12_lastOf_57 : decode cX12_lastOf 57 = .ok (.iload_n 3, 1) := by decide +kernel
theorem dX12_lastOf_58 : decode cX12_lastOf 58 = .ok (.istore_n 3, 1) := by decide +kernel
theorem dX12_lastOf_59 : decode cX12_lastOf 59 = .ok (.iinc 4 1, 3) := by decide +kernel
theorem dX12_lastOf_62 : decode cX12_lastOf 62 = .ok (.goto (-56), 3) := by decide +kernel
theorem dX12_lastOf_65 : decode cX12_lastOf 65 = .ok (.iload_n 3, 1) := by decide +kernel
theorem dX12_lastOf_66 : decode cX12_lastOf 66 = .ok (.ireturn, 1) := by decide +kernel
theorem dX12_goes_0 : decode cX12_goes 0 = .ok (.aload_n 0, 1) := by decide +kernel
theorem dX12_goes_1 : decode cX12_goes 1 = .ok (.getfield 13, 3) := by decide +kernel
theorem dX12_goes_4 : decode cX12_goes 4 = .ok (.iconst 0, 1) := by decide +kernel
theorem dX12_goes_5 : decode cX12_goes 5 = .ok (.iaload, 1) := by decide +kernel
theorem dX12_goes_6 : decode cX12_goes 6 = .ok (.ifCond .ne 5, 3) := by decide +kernel
theorem dX12_goes_9 : decode cX12_goes 9 = .ok (.iconst 0, 1) := by decide +kernel
theorem dX12_goes_10 : decode cX12_goes 10 = .ok (.ireturn, 1) := by decide +kernel
theorem dX12_goes_11 : decode cX12_goes 11 = .ok (.aload_n 0, 1) := by decide +kernel
theorem dX12_goes_12 : decode cX12_goes 12 = .ok (.aload_n 1, 1) := by decide +kernel
theorem dX12_goes_13 : decode cX12_goes 13 = .ok (.aload_n 1, 1) := by decide +kernel
theorem dX12_goes_14 : decode cX12_goes 14 = .ok (.iconst 2, 1) := by decide +kernel
theorem dX12_goes_15 : decode cX12_goes 15 = .ok (.iaload, 1) := by decide +kernel
theorem dX12_goes_16 : decode cX12_goes 16 = .ok (.invokevirtual 144, 3) := by decide +kernel
theorem dX12_goes_19 : decode cX12_goes 19 = .ok (.istore_n 2, 1) := by decide +kernel
theorem dX12_goes_20 : decode cX12_goes 20 = .ok (.iload_n 2, 1) := by decide +kernel
theorem dX12_goes_21 : decode cX12_goes 21 = .ok (.bipush (-9), 2) := by decide +kernel
theorem dX12_goes_23 : decode cX12_goes 23 = .ok (.if_icmp .ne 5, 3) := by decide +kernel
theorem dX12_goes_26 : decode cX12_goes 26 = .ok (.iconst 0, 1) := by decide +kernel
theorem dX12_goes_27 : decode cX12_goes 27 = .ok (.ireturn, 1) := by decide +kernel
theorem dX12_goes_28 : decode cX12_goes 28 = .ok (.aload_n 1, 1) := by decide +kernel
theorem dX12_goes_29 : decode cX12_goes 29 = .ok (.iconst 1, 1) := by decide +kernel
theorem dX12_goes_30 : decode cX12_goes 30 = .ok (.dup2, 1) := by decide +kernel
theorem dX12_goes_31 : decode cX12_goes 31 = .ok (.iaload, 1) := by decide +kernel
theorem dX12_goes_32 : decode cX12_goes 32 = .ok (.aload_n 0, 1) := by decide +kernel
theorem dX12_goes_33 : decode cX12_goes 33 = .ok (.aload_n 1, 1) := by decide +kernel
theorem dX12_goes_34 : decode cX12_goes 34 = .ok (.iload_n 2, 1) := by decide +kernel
theorem dX12_goes_35 : decode cX12_goes 35 = .ok (.aload_n 1, 1) := by decide +kernel
theorem dX12_goes_36 : decode cX12_goes 36 = .ok (.iconst 2, 1) := by decide +kernel
theorem dX12_goes_37 : decode cX12_goes 37 = .ok (.iaload, 1) := by decide +kernel
theorem dX12_goes_38 : decode cX12_goes 38 = .ok (.invokevirtual 140, 3) := by decide +kernel
theorem dX12_goes_41 : decode cX12_goes 41 = .ok (.aload_n 1, 1) := by decide +kernel
theorem dX12_goes_42 : decode cX12_goes 42 = .ok (.iconst 4, 1) := by decide +kernel
theorem dX12_goes_43 : decode cX12_goes 43 = .ok (.iload_n 2, 1) := by decide +kernel
theorem dX12_goes_44 : decode cX12_goes 44 = .ok (.iadd, 1) := by decide +kernel
theorem dX12_goes_45 : decode cX12_goes 45 = .ok (.iaload, 1) := by decide +kernel
theorem dX12_goes_46 : decode cX12_goes 46 = .ok (.iadd, 1) := by decide +kernel
theorem dX12_goes_47 : decode cX12_goes 47 = .ok (.iadd, 1) := by decide +kernel
theorem dX12_goes_48 : decode cX12_goes 48 = .ok (.iastore, 1) := by decide +kernel
theorem dX12_goes_49 : decode cX12_goes 49 = .ok (.aload_n 1, 1) := by decide +kernel
theorem dX12_goes_50 : decode cX12_goes 50 = .ok (.iconst 2, 1) := by decide +kernel
theorem dX12_goes_51 : decode cX12_goes 51 = .ok (.iload_n 2, 1) := by decide +kernel
theorem dX12_goes_52 : decode cX12_goes 52 = .ok (.iastore, 1) := by decide +kernel
theorem dX12_goes_53 : decode cX12_goes 53 = .ok (.aload_n 1, 1) := by decide +kernel
theorem dX12_goes_54 : decode cX12_goes 54 = .ok (.iconst 0, 1) := by decide +kernel
theorem dX12_goes_55 : decode cX12_goes 55 = .ok (.dup2, 1) := by decide +kernel
theorem dX12_goes_56 : decode cX12_goes 56 = .ok (.iaload, 1) := by decide +kernel
theorem dX12_goes_57 : decode cX12_goes 57 = .ok (.iconst 1, 1) := by decide +kernel
theorem dX12_goes_58 : decode cX12_goes 58 = .ok (.iadd, 1) := by decide +kernel
theorem dX12_goes_59 : decode cX12_goes 59 = .ok (.iastore, 1) := by decide +kernel
theorem dX12_goes_60 : decode cX12_goes 60 = .ok (.aload_n 1, 1) := by decide +kernel
theorem dX12_goes_61 : decode cX12_goes 61 = .ok (.bipush 29, 2) := by decide +kernel
theorem dX12_goes_63 : decode cX12_goes 63 = .ok (.iload_n 2, 1) := by decide +kernel
theorem dX12_goes_64 : decode cX12_goes 64 = .ok (.iadd, 1) := by decide +kernel
theorem dX12_goes_65 : decode cX12_goes 65 = .ok (.dup2, 1) := by decide +kernel
theorem dX12_goes_66 : decode cX12_goes 66 = .ok (.iaload, 1) := by decide +kernel
theorem dX12_goes_67 : decode cX12_goes 67 = .ok (.iconst 1, 1) := by decide +kernel
theorem dX12_goes_68 : decode cX12_goes 68 = .ok (.iadd, 1) := by decide +kernel
theorem dX12_goes_69 : decode cX12_goes 69 = .ok (.iastore, 1) := by decide +kernel
theorem dX12_goes_70 : decode cX12_goes 70 = .ok (.iconst 1, 1) := by decide +kernel
theorem dX12_goes_71 : decode cX12_goes 71 = .ok (.ireturn, 1) := by decide +kernel
theorem dX12_asNow_0 : decode cX12_asNow 0 = .ok (.iconst 0, 1) := by decide +kernel
theorem dX12_asNow_1 : decode cX12_asNow 1 = .ok (.istore_n 1, 1) := by decide +kernel
theorem dX12_asNow_2 : decode cX12_asNow 2 = .ok (.iload_n 1, 1) := by decide +kernel
theorem dX12_asNow_3 : decode cX12_asNow 3 = .ok (.bipush 35, 2) := by decide +kernel
theorem dX12_asNow_5 : decode cX12_asNow 5 = .ok (.if_icmp .ge 21, 3) := by decide +kernel
theorem dX12_asNow_8 : decode cX12_asNow 8 = .ok (.aload_n 0, 1) := by decide +kernel
theorem dX12_asNow_9 : decode cX12_asNow 9 = .ok (.getfield 28, 3) := by decide +kernel
theorem dX12_asNow_12 : decode cX12_asNow 12 = .ok (.iload_n 1, 1) := by decide +kernel
theorem dX12_asNow_13 : decode cX12_asNow 13 = .ok (.aload_n 0, 1) := by decide +kernel
theorem dX12_asNow_14 : decode cX12_asNow 14 = .ok (.getfield 25, 3) := by decide +kernel
theorem dX12_asNow_17 : decode cX12_asNow 17 = .ok (.iload_n 1, 1) := by decide +kernel
theorem dX12_asNow_18 : decode cX12_asNow 18 = .ok (.iaload, 1) := by decide +kernel
theorem dX12_asNow_19 : decode cX12_asNow 19 = .ok (.iastore, 1) := by decide +kernel
theorem dX12_asNow_20 : decode cX12_asNow 20 = .ok (.iinc 1 1, 3) := by decide +kernel
theorem dX12_asNow_23 : decode cX12_asNow 23 = .ok (.goto (-21), 3) := by decide +kernel
theorem dX12_asNow_26 : decode cX12_asNow 26 = .ok (.return_, 1) := by decide +kernel
theorem dX12_strikes_0 : decode cX12_strikes 0 = .ok (.aload_n 0, 1) := by decide +kernel
theorem dX12_strikes_1 : decode cX12_strikes 1 = .ok (.iconst 0, 1) := by decide +kernel
theorem dX12_strikes_2 : decode cX12_strikes 2 = .ok (.putfield 62, 3) := by decide +kernel
theorem dX12_strikes_5 : decode cX12_strikes 5 = .ok (.aload_n 0, 1) := by decide +kernel
theorem dX12_strikes_6 : decode cX12_strikes 6 = .ok (.invokevirtual 148, 3) := by decide +kernel
theorem dX12_strikes_9 : decode cX12_strikes 9 = .ok (.aload_n 0, 1) := by decide +kernel
theorem dX12_strikes_10 : decode cX12_strikes 10 = .ok (.getfield 25, 3) := by decide +kernel
theorem dX12_strikes_13 : decode cX12_strikes 13 = .ok (.iconst 0, 1) := by decide +kernel
theorem dX12_strikes_14 : decode cX12_strikes 14 = .ok (.iaload, 1) := by decide +kernel
theorem dX12_strikes_15 : decode cX12_strikes 15 = .ok (.sipush 9999, 3) := by decide +kernel
theorem dX12_strikes_18 : decode cX12_strikes 18 = .ok (.if_icmp .eq 14, 3) := by decide +kernel
theorem dX12_strikes_21 : decode cX12_strikes 21 = .ok (.aload_n 0, 1) := by decide +kernel
theorem dX12_strikes_22 : decode cX12_strikes 22 = .ok (.aload_n 0, 1) := by decide +kernel
theorem dX12_strikes_23 : decode cX12_strikes 23 = .ok (.getfield 28, 3) := by decide +kernel
theorem dX12_strikes_26 : decode cX12_strikes 26 = .ok (.invokevirtual 151, 3) := by decide +kernel
theorem dX12_strikes_29 : decode cX12_strikes 29 = .ok (.ifCond .ne 6, 3) := by decide +kernel
theorem dX12_strikes_32 : decode cX12_strikes 32 = .ok (.bipush (-2), 2) := by decide +kernel
theorem dX12_strikes_34 : decode cX12_strikes 34 = .ok (.ireturn, 1) := by decide +kernel
theorem dX12_strikes_35 : decode cX12_strikes 35 = .ok (.aload_n 0, 1) := by decide +kernel
theorem dX12_strikes_36 : decode cX12_strikes 36 = .ok (.invokevirtual 155, 3) := by decide +kernel
theorem dX12_strikes_39 : decode cX12_strikes 39 = .ok (.iconst 0, 1) := by decide +kernel
theorem dX12_strikes_40 : decode cX12_strikes 40 = .ok (.istore_n 1, 1) := by decide +kernel
theorem dX12_strikes_41 : decode cX12_strikes 41 = .ok (.iload_n 1, 1) := by decide +kernel
theorem dX12_strikes_42 : decode cX12_strikes 42 = .ok (.bipush 35, 2) := by decide +kernel
theorem dX12_strikes_44 : decode cX12_strikes 44 = .ok (.if_icmp .ge 21, 3) := by decide +kernel
theorem dX12_strikes_47 : decode cX12_strikes 47 = .ok (.aload_n 0, 1) := by decide +kernel
theorem dX12_strikes_48 : decode cX12_strikes 48 = .ok (.getfield 25, 3) := by decide +kernel
theorem dX12_strikes_51 : decode cX12_strikes 51 = .ok (.iload_n 1, 1) := by decide +kernel
theorem dX12_strikes_52 : decode cX12_strikes 52 = .ok (.aload_n 0, 1) := by decide +kernel
theorem dX12_strikes_53 : decode cX12_strikes 53 = .ok (.getfield 28, 3) := by decide +kernel
theorem dX12_strikes_56 : decode cX12_strikes 56 = .ok (.iload_n 1, 1) := by decide +kernel
theorem dX12_strikes_57 : decode cX12_strikes 57 = .ok (.iaload, 1) := by decide +kernel
theorem dX12_strikes_58 : decode cX12_strikes 58 = .ok (.iastore, 1) := by decide +kernel
theorem dX12_strikes_59 : decode cX12_strikes 59 = .ok (.iinc 1 1, 3) := by decide +kernel
theorem dX12_strikes_62 : decode cX12_strikes 62 = .ok (.goto (-21), 3) := by decide +kernel
theorem dX12_strikes_65 : decode cX12_strikes 65 = .ok (.aload_n 0, 1) := by decide +kernel
theorem dX12_strikes_66 : decode cX12_strikes 66 = .ok (.getfield 25, 3) := by decide +kernel
theorem dX12_strikes_69 : decode cX12_strikes 69 = .ok (.iconst 2, 1) := by decide +kernel
theorem dX12_strikes_70 : decode cX12_strikes 70 = .ok (.iaload, 1) := by decide +kernel
theorem dX12_strikes_71 : decode cX12_strikes 71 = .ok (.ireturn, 1) := by decide +kernel
theorem dX12_fog_0 : decode cX12_fog 0 = .ok (.aload_n 0, 1) := by decide +kernel
theorem dX12_fog_1 : decode cX12_fog 1 = .ok (.iconst 0, 1) := by decide +kernel
theorem dX12_fog_2 : decode cX12_fog 2 = .ok (.putfield 62, 3) := by decide +kernel
theorem dX12_fog_5 : decode cX12_fog 5 = .ok (.iload_n 1, 1) := by decide +kernel
theorem dX12_fog_6 : decode cX12_fog 6 = .ok (.iconst 0, 1) := by decide +kernel
theorem dX12_fog_7 : decode cX12_fog 7 = .ok (.iconst 1, 1) := by decide +kernel
theorem dX12_fog_8 : decode cX12_fog 8 = .ok (.invokestatic 66, 3) := by decide +kernel
theorem dX12_fog_11 : decode cX12_fog 11 = .ok (.ifCond .ne 5, 3) := by decide +kernel
theorem dX12_fog_14 : decode cX12_fog 14 = .ok (.iconst (-1), 1) := by decide +kernel
theorem dX12_fog_15 : decode cX12_fog 15 = .ok (.ireturn, 1) := by decide +kernel
theorem dX12_fog_16 : decode cX12_fog 16 = .ok (.aload_n 0, 1) := by decide +kernel
theorem dX12_fog_17 : decode cX12_fog 17 = .ok (.invokevirtual 155, 3) := by decide +kernel
theorem dX12_fog_20 : decode cX12_fog 20 = .ok (.aload_n 0, 1) := by decide +kernel
theorem dX12_fog_21 : decode cX12_fog 21 = .ok (.getfield 25, 3) := by decide +kernel
theorem dX12_fog_24 : decode cX12_fog 24 = .ok (.iconst 3, 1) := by decide +kernel
theorem dX12_fog_25 : decode cX12_fog 25 = .ok (.iaload, 1) := by decide +kernel
theorem dX12_fog_26 : decode cX12_fog 26 = .ok (.istore_n 2, 1) := by decide +kernel
theorem dX12_fog_27 : decode cX12_fog 27 = .ok (.aload_n 0, 1) := by decide +kernel
theorem dX12_fog_28 : decode cX12_fog 28 = .ok (.getfield 25, 3) := by decide +kernel
theorem dX12_fog_31 : decode cX12_fog 31 = .ok (.iconst 3, 1) := by decide +kernel
theorem dX12_fog_32 : decode cX12_fog 32 = .ok (.iload_n 1, 1) := by decide +kernel
theorem dX12_fog_33 : decode cX12_fog 33 = .ok (.iastore, 1) := by decide +kernel
theorem dX12_fog_34 : decode cX12_fog 34 = .ok (.iload_n 2, 1) := by decide +kernel
theorem dX12_fog_35 : decode cX12_fog 35 = .ok (.ireturn, 1) := by decide +kernel
theorem dX12_cold_0 : decode cX12_cold 0 = .ok (.aload_n 0, 1) := by decide +kernel
theorem dX12_cold_1 : decode cX12_cold 1 = .ok (.iconst 0, 1) := by decide +kernel
theorem dX12_cold_2 : decode cX12_cold 2 = .ok (.putfield 62, 3) := by decide +kernel
theorem dX12_cold_5 : decode cX12_cold 5 = .ok (.aload_n 0, 1) := by decide +kernel
theorem dX12_cold_6 : decode cX12_cold 6 = .ok (.iload_n 1, 1) := by decide +kernel
theorem dX12_cold_7 : decode cX12_cold 7 = .ok (.invokevirtual 133, 3) := by decide +kernel
theorem dX12_cold_10 : decode cX12_cold 10 = .ok (.ifCond .eq 13, 3) := by decide +kernel
theorem dX12_cold_13 : decode cX12_cold 13 = .ok (.iload_n 2, 1) := by decide +kernel
theorem dX12_cold_14 : decode cX12_cold 14 = .ok (.iconst 0, 1) := by decide +kernel
theorem dX12_cold_15 : decode cX12_cold 15 = .ok (.bipush 9, 2) := by decide +kernel
theorem dX12_cold_17 : decode cX12_cold 17 = .ok (.invokestatic 66, 3) := by decide +kernel
theorem dX12_cold_20 : decode cX12_cold 20 = .ok (.ifCond .ne 5, 3) := by decide +kernel
theorem dX12_cold_23 : decode cX12_cold 23 = .ok (.iconst (-1), 1) := by decide +kernel
theorem dX12_cold_24 : decode cX12_cold 24 = .ok (.ireturn, 1) := by decide +kernel
theorem dX12_cold_25 : decode cX12_cold 25 = .ok (.aload_n 0, 1) := by decide +kernel
theorem dX12_cold_26 : decode cX12_cold 26 = .ok (.invokevirtual 155, 3) := by decide +kernel
theorem dX12_cold_29 : decode cX12_cold 29 = .ok (.aload_n 0, 1) := by decide +kernel
theorem dX12_cold_30 : decode cX12_cold 30 = .ok (.getfield 25, 3) := by decide +kernel
theorem dX12_cold_33 : decode cX12_cold 33 = .ok (.iconst 4, 1) := by decide +kernel
theorem dX12_cold_34 : decode cX12_cold 34 = .ok (.iload_n 1, 1) := by decide +kernel
theorem dX12_cold_35 : decode cX12_cold 35 = .ok (.iadd, 1) := by decide +kernel
theorem dX12_cold_36 : decode cX12_cold 36 = .ok (.iaload, 1) := by decide +kernel
theorem dX12_cold_37 : decode cX12_cold 37 = .ok (.istore_n 3, 1) := by decide +kernel
theorem dX12_cold_38 : decode cX12_cold 38 = .ok (.aload_n 0, 1) := by decide +kernel
theorem dX12_cold_39 : decode cX12_cold 39 = .ok (.getfield 25, 3) := by decide +kernel
theorem dX12_cold_42 : decode cX12_cold 42 = .ok (.iconst 4, 1) := by decide +kernel
theorem dX12_cold_43 : decode cX12_cold 43 = .ok (.iload_n 1, 1) := by decide +kernel
theorem dX12_cold_44 : decode cX12_cold 44 = .ok (.iadd, 1) := by decide +kernel
theorem dX12_cold_45 : decode cX12_cold 45 = .ok (.iload_n 2, 1) := by decide +kernel
theorem dX12_cold_46 : decode cX12_cold 46 = .ok (.iastore, 1) := by decide +kernel
theorem dX12_cold_47 : decode cX12_cold 47 = .ok (.iload_n 3, 1) := by decide +kernel
theorem dX12_cold_48 : decode cX12_cold 48 = .ok (.ireturn, 1) := by decide +kernel
theorem dX12_deafens_0 : decode cX12_deafens 0 = .ok (.aload_n 0, 1) := by decide +kernel
theorem dX12_deafens_1 : decode cX12_deafens 1 = .ok (.iconst 0, 1) := by decide +kernel
theorem dX12_deafens_2 : decode cX12_deafens 2 = .ok (.putfield 62, 3) := by decide +kernel
theorem dX12_deafens_5 : decode cX12_deafens 5 = .ok (.aload_n 0, 1) := by decide +kernel
theorem dX12_deafens_6 : decode cX12_deafens 6 = .ok (.iload_n 1, 1) := by decide +kernel
theorem dX12_deafens_7 : decode cX12_deafens 7 = .ok (.invokevirtual 133, 3) := by decide +kernel
theorem dX12_deafens_10 : decode cX12_deafens 10 = .ok (.ifCond .eq 12, 3) := by decide +kernel
theorem dX12_deafens_13 : decode cX12_deafens 13 = .ok (.iload_n 2, 1) := by decide +kernel
theorem dX12_deafens_14 : decode cX12_deafens 14 = .ok (.iconst 0, 1) := by decide +kernel
theorem dX12_deafens_15 : decode cX12_deafens 15 = .ok (.iconst 1, 1) := by decide +kernel
theorem dX12_deafens_16 : decode cX12_deafens 16 = .ok (.invokestatic 66, 3) := by decide +kernel
theorem dX12_deafens_19 : decode cX12_deafens 19 = .ok (.ifCond .ne 5, 3) := by decide +kernel
theorem dX12_deafens_22 : decode cX12_deafens 22 = .ok (.iconst (-1), 1) := by decide +kernel
theorem dX12_deafens_23 : decode cX12_deafens 23 = .ok (.ireturn, 1) := by decide +kernel
theorem dX12_deafens_24 : decode cX12_deafens 24 = .ok (.aload_n 0, 1) := by decide +kernel
theorem dX12_deafens_25 : decode cX12_deafens 25 = .ok (.invokevirtual 155, 3) := by decide +kernel
theorem dX12_deafens_28 : decode cX12_deafens 28 = .ok (.aload_n 0, 1) := by decide +kernel
theorem dX12_deafens_29 : decode cX12_deafens 29 = .ok (.getfield 25, 3) := by decide +kernel
theorem dX12_deafens_32 : decode cX12_deafens 32 = .ok (.bipush 10, 2) := by decide +kernel
theorem dX12_deafens_34 : decode cX12_deafens 34 = .ok (.iload_n 1, 1) := by decide +kernel
theorem dX12_deafens_35 : decode cX12_deafens 35 = .ok (.iadd, 1) := by decide +kernel
theorem dX12_deafens_36 : decode cX12_deafens 36 = .ok (.iaload, 1) := by decide +kernel
theorem dX12_deafens_37 : decode cX12_deafens 37 = .ok (.istore_n 3, 1) := by decide +kernel
theorem dX12_deafens_38 : decode cX12_deafens 38 = .ok (.aload_n 0, 1) := by decide +kernel
theorem dX12_deafens_39 : decode cX12_deafens 39 = .ok (.getfield 25, 3) := by decide +kernel
theorem dX12_deafens_42 : decode cX12_deafens 42 = .ok (.bipush 10, 2) := by decide +kernel
theorem dX12_deafens_44 : decode cX12_deafens 44 = .ok (.iload_n 1, 1) := by decide +kernel
theorem dX12_deafens_45 : decode cX12_deafens 45 = .ok (.iadd, 1) := by decide +kernel
theorem dX12_deafens_46 : decode cX12_deafens 46 = .ok (.iload_n 2, 1) := by decide +kernel
theorem dX12_deafens_47 : decode cX12_deafens 47 = .ok (.iastore, 1) := by decide +kernel
theorem dX12_deafens_48 : decode cX12_deafens 48 = .ok (.iload_n 3, 1) := by decide +kernel
theorem dX12_deafens_49 : decode cX12_deafens 49 = .ok (.ireturn, 1) := by decide +kernel
theorem dX12_sent_0 : decode cX12_sent 0 = .ok (.bipush 17, 2) := by decide +kernel
theorem dX12_sent_2 : decode cX12_sent 2 = .ok (.iconst 3, 1) := by decide +kernel
theorem dX12_sent_3 : decode cX12_sent 3 = .ok (.aload_n 1, 1) := by decide +kernel
theorem dX12_sent_4 : decode cX12_sent 4 = .ok (.bipush 16, 2) := by decide +kernel
theorem dX12_sent_6 : decode cX12_sent 6 = .ok (.iaload, 1) := by decide +kernel
theorem dX12_sent_7 : decode cX12_sent 7 = .ok (.imul, 1) := by decide +kernel
theorem dX12_sent_8 : decode cX12_sent 8 = .ok (.iadd, 1) := by decide +kernel
theorem dX12_sent_9 : decode cX12_sent 9 = .ok (.istore 5, 2) := by decide +kernel
theorem dX12_sent_11 : decode cX12_sent 11 = .ok (.aload_n 1, 1) := by decide +kernel
theorem dX12_sent_12 : decode cX12_sent 12 = .ok (.iload 5, 2) := by decide +kernel
theorem dX12_sent_14 : decode cX12_sent 14 = .ok (.iload_n 2, 1) := by decide +kernel
theorem dX12_sent_15 : decode cX12_sent 15 = .ok (.iastore, 1) := by decide +kernel
theorem dX12_sent_16 : decode cX12_sent 16 = .ok (.aload_n 1, 1) := by decide +kernel
theorem dX12_sent_17 : decode cX12_sent 17 = .ok (.iload 5, 2) := by decide +kernel
theorem dX12_sent_19 : decode cX12_sent 19 = .ok (.iconst 1, 1) := by decide +kernel
theorem dX12_sent_20 : decode cX12_sent 20 = .ok (.iadd, 1) := by decide +kernel
theorem dX12_sent_21 : decode cX12_sent 21 = .ok (.iload_n 3, 1) := by decide +kernel
theorem dX12_sent_22 : decode cX12_sent 22 = .ok (.iastore, 1) := by decide +kernel
theorem dX12_sent_23 : decode cX12_sent 23 = .ok (.aload_n 1, 1) := by decide +kernel
theorem dX12_sent_24 : decode cX12_sent 24 = .ok (.iload 5, 2) := by decide +kernel
theorem dX12_sent_26 : decode cX12_sent 26 = .ok (.iconst 2, 1) := by decide +kernel
theorem dX12_sent_27 : decode cX12_sent 27 = .ok (.iadd, 1) := by decide +kernel
theorem dX12_sent_28 : decode cX12_sent 28 = .ok (.iload 4, 2) := by decide +kernel
theorem dX12_sent_30 : decode cX12_sent 30 = .ok (.iastore, 1) := by decide +kernel
theorem dX12_sent_31 : decode cX12_sent 31 = .ok (.aload_n 1, 1) := by decide +kernel
theorem dX12_sent_32 : decode cX12_sent 32 = .ok (.bipush 16, 2) := by decide +kernel
theorem dX12_sent_34 : decode cX12_sent 34 = .ok (.dup2, 1) := by decide +kernel
theorem dX12_sent_35 : decode cX12_sent 35 = .ok (.iaload, 1) := by decide +kernel
theorem dX12_sent_36 : decode cX12_sent 36 = .ok (.iconst 1, 1) := by decide +kernel
theorem dX12_sent_37 : decode cX12_sent 37 = .ok (.iadd, 1) := by decide +kernel
theorem dX12_sent_38 : decode cX12_sent 38 = .ok (.iastore, 1) := by decide +kernel
theorem dX12_sent_39 : decode cX12_sent 39 = .ok (.return_, 1) := by decide +kernel
theorem dX12_sends_0 : decode cX12_sends 0 = .ok (.aload_n 0, 1) := by decide +kernel
theorem dX12_sends_1 : decode cX12_sends 1 = .ok (.iconst 0, 1) := by decide +kernel
theorem dX12_sends_2 : decode cX12_sends 2 = .ok (.putfield 62, 3) := by decide +kernel
theorem dX12_sends_5 : decode cX12_sends 5 = .ok (.aload_n 0, 1) := by decide +kernel
theorem dX12_sends_6 : decode cX12_sends 6 = .ok (.iload_n 1, 1) := by decide +kernel
theorem dX12_sends_7 : decode cX12_sends 7 = .ok (.invokevirtual 133, 3) := by decide +kernel
theorem dX12_sends_10 : decode cX12_sends 10 = .ok (.ifCond .eq 26, 3) := by decide +kernel
theorem dX12_sends_13 : decode cX12_sends 13 = .ok (.aload_n 0, 1) := by decide +kernel
theorem dX12_sends_14 : decode cX12_sends 14 = .ok (.iload_n 2, 1) := by decide +kernel
theorem dX12_sends_15 : decode cX12_sends 15 = .ok (.invokevirtual 133, 3) := by decide +kernel
theorem dX12_sends_18 : decode cX12_sends 18 = .ok (.ifCond .eq 18, 3) := by decide +kernel
theorem dX12_sends_21 : decode cX12_sends 21 = .ok (.iload_n 1, 1) := by decide +kernel
theorem dX12_sends_22 : decode cX12_sends 22 = .ok (.iload_n 2, 1) := by decide +kernel
theorem dX12_sends_23 : decode cX12_sends 23 = .ok (.if_icmp .eq 13, 3) := by decide +kernel
theorem dX12_sends_26 : decode cX12_sends 26 = .ok (.iload_n 3, 1) := by decide +kernel
theorem dX12_sends_27 : decode cX12_sends 27 = .ok (.iconst 1, 1) := by decide +kernel
theorem dX12_sends_28 : decode cX12_sends 28 = .ok (.bipush 20, 2) := by decide +kernel
theorem dX12_sends_30 : decode cX12_sends 30 = .ok (.invokestatic 66, 3) := by decide +kernel
theorem dX12_sends_33 : decode cX12_sends 33 = .ok (.ifCond .ne 5, 3) := by decide +kernel
theorem dX12_sends_36 : decode cX12_sends 36 = .ok (.iconst (-1), 1) := by decide +kernel
theorem dX12_sends_37 : decode cX12_sends 37 = .ok (.ireturn, 1) := by decide +kernel
theorem dX12_sends_38 : decode cX12_sends 38 = .ok (.aload_n 0, 1) := by decide +kernel
theorem dX12_sends_39 : decode cX12_sends 39 = .ok (.getfield 25, 3) := by decide +kernel
theorem dX12_sends_42 : decode cX12_sends 42 = .ok (.bipush 16, 2) := by decide +kernel
theorem dX12_sends_44 : decode cX12_sends 44 = .ok (.iaload, 1) := by decide +kernel
theorem dX12_sends_45 : decode cX12_sends 45 = .ok (.iconst 2, 1) := by decide +kernel
theorem dX12_sends_46 : decode cX12_sends 46 = .ok (.if_icmp .ne 6, 3) := by decide +kernel
theorem dX12_sends_49 : decode cX12_sends 49 = .ok (.bipush (-3), 2) := by decide +kernel
theorem dX12_sends_51 : decode cX12_sends 51 = .ok (.ireturn, 1) := by decide +kernel
theorem dX12_sends_52 : decode cX12_sends 52 = .ok (.aload_n 0, 1) := by decide +kernel
theorem dX12_sends_53 : decode cX12_sends 53 = .ok (.invokevirtual 155, 3) := by decide +kernel
theorem dX12_sends_56 : decode cX12_sends 56 = .ok (.aload_n 0, 1) := by decide +kernel
theorem dX12_sends_57 : decode cX12_sends 57 = .ok (.aload_n 0, 1) := by decide +kernel
theorem dX12_sends_58 : decode cX12_sends 58 = .ok (.getfield 25, 3) := by decide +kernel
theorem dX12_sends_61 : decode cX12_sends 61 = .ok (.iload_n 1, 1) := by decide +kernel
theorem dX12_sends_62 : decode cX12_sends 62 = .ok (.iload_n 2, 1) := by decide +kernel
theorem dX12_sends_63 : decode cX12_sends 63 = .ok (.iload_n 3, 1) := by decide +kernel
theorem dX12_sends_64 : decode cX12_sends 64 = .ok (.invokevirtual 158, 3) := by decide +kernel
theorem dX12_sends_67 : decode cX12_sends 67 = .ok (.aload_n 0, 1) := by decide +kernel
theorem dX12_sends_68 : decode cX12_sends 68 = .ok (.getfield 25, 3) := by decide +kernel
theorem dX12_sends_71 : decode cX12_sends 71 = .ok (.bipush 16, 2) := by decide +kernel
theorem dX12_sends_73 : decode cX12_sends 73 = .ok (.iaload, 1) := by decide +kernel
theorem dX12_sends_74 : decode cX12_sends 74 = .ok (.ireturn, 1) := by decide +kernel
theorem dX12_undo_0 : decode cX12_undo 0 = .ok (.aload_n 0, 1) := by decide +kernel
theorem dX12_undo_1 : decode cX12_undo 1 = .ok (.iconst 0, 1) := by decide +kernel
theorem dX12_undo_2 : decode cX12_undo 2 = .ok (.putfield 62, 3) := by decide +kernel
theorem dX12_undo_5 : decode cX12_undo 5 = .ok (.aload_n 0, 1) := by decide +kernel
theorem dX12_undo_6 : decode cX12_undo 6 = .ok (.getfield 130, 3) := by decide +kernel
theorem dX12_undo_9 : decode cX12_undo 9 = .ok (.ifCond .ne 6, 3) := by decide +kernel
theorem dX12_undo_12 : decode cX12_undo 12 = .ok (.bipush (-2), 2) := by decide +kernel
theorem dX12_undo_14 : decode cX12_undo 14 = .ok (.ireturn, 1) := by decide +kernel
theorem dX12_undo_15 : decode cX12_undo 15 = .ok (.aload_n 0, 1) := by decide +kernel
theorem dX12_undo_16 : decode cX12_undo 16 = .ok (.dup, 1) := by decide +kernel
theorem dX12_undo_17 : decode cX12_undo 17 = .ok (.getfield 130, 3) := by decide +kernel
theorem dX12_undo_20 : decode cX12_undo 20 = .ok (.iconst 1, 1) := by decide +kernel
theorem dX12_undo_21 : decode cX12_undo 21 = .ok (.isub, 1) := by decide +kernel
theorem dX12_undo_22 : decode cX12_undo 22 = .ok (.putfield 130, 3) := by decide +kernel
theorem dX12_undo_25 : decode cX12_undo 25 = .ok (.iconst 0, 1) := by decide +kernel
theorem dX12_undo_26 : decode cX12_undo 26 = .ok (.istore_n 1, 1) := by decide +kernel
theorem dX12_undo_27 : decode cX12_undo 27 = .ok (.iload_n 1, 1) := by decide +kernel
theorem dX12_undo_28 : decode cX12_undo 28 = .ok (.bipush 35, 2) := by decide +kernel
theorem dX12_undo_30 : decode cX12_undo 30 = .ok (.if_icmp .ge 29, 3) := by decide +kernel
theorem dX12_undo_33 : decode cX12_undo 33 = .ok (.aload_n 0, 1) := by decide +kernel
theorem dX12_undo_34 : decode cX12_undo 34 = .ok (.getfield 25, 3) := by decide +kernel
theorem dX12_undo_37 : decode cX12_undo 37 = .ok (.iload_n 1, 1) := by decide +kernel
theorem dX12_undo_38 : decode cX12_undo 38 = .ok (.aload_n 0, 1) := by decide +kernel
theorem dX12_undo_39 : decode cX12_undo 39 = .ok (.getfield 38, 3) := by decide +kernel
theorem dX12_undo_42 : decode cX12_undo 42 = .ok (.bipush 35, 2) := by decide +kernel
theorem dX12_undo_44 : decode cX12_undo 44 = .ok (.aload_n 0, 1) := by decide +kernel
theorem dX12_undo_45 : decode cX12_undo 45 = .ok (.getfield 130, 3) := by decide +kernel
theorem dX12_undo_48 : decode cX12_undo 48 = .ok (.imul, 1) := by decide +kernel
theorem dX12_undo_49 : decode cX12_undo 49 = .ok (.iload_n 1, 1) := by decide +kernel
theorem dX12_undo_50 : decode cX12_undo 50 = .ok (.iadd, 1) := by decide +kernel
theorem dX12_undo_51 : decode cX12_undo 51 = .ok (.iaload, 1) := by decide +kernel
theorem dX12_undo_52 : decode cX12_undo 52 = .ok (.iastore, 1) := by decide +kernel
theorem dX12_undo_53 : decode cX12_undo 53 = .ok (.iinc 1 1, 3) := by decide +kernel
theorem dX12_undo_56 : decode cX12_undo 56 = .ok (.goto (-29), 3) := by decide +kernel
theorem dX12_undo_59 : decode cX12_undo 59 = .ok (.aload_n 0, 1) := by decide +kernel
theorem dX12_undo_60 : decode cX12_undo 60 = .ok (.getfield 130, 3) := by decide +kernel
theorem dX12_undo_63 : decode cX12_undo 63 = .ok (.ireturn, 1) := by decide +kernel
theorem dX12_inStrokes_0 : decode cX12_inStrokes 0 = .ok (.aload_n 0, 1) := by decide +kernel
theorem dX12_inStrokes_1 : decode cX12_inStrokes 1 = .ok (.iconst 0, 1) := by decide +kernel
theorem dX12_inStrokes_2 : decode cX12_inStrokes 2 = .ok (.putfield 62, 3) := by decide +kernel
theorem dX12_inStrokes_5 : decode cX12_inStrokes 5 = .ok (.iload_n 1, 1) := by decide +kernel
theorem dX12_inStrokes_6 : decode cX12_inStrokes 6 = .ok (.iconst 0, 1) := by decide +kernel
theorem dX12_inStrokes_7 : decode cX12_inStrokes 7 = .ok (.bipush 60, 2) := by decide +kernel
theorem dX12_inStrokes_9 : decode cX12_inStrokes 9 = .ok (.invokestatic 66, 3) := by decide +kernel
theorem dX12_inStrokes_12 : decode cX12_inStrokes 12 = .ok (.ifCond .eq 12, 3) := by decide +kernel
theorem dX12_inStrokes_15 : decode cX12_inStrokes 15 = .ok (.iload_n 2, 1) := by decide +kernel
theorem dX12_inStrokes_16 : decode cX12_inStrokes 16 = .ok (.iconst 0, 1) := by decide +kernel
theorem dX12_inStrokes_17 : decode cX12_inStrokes 17 = .ok (.iconst 1, 1) := by decide +kernel
theorem dX12_inStrokes_18 : decode cX12_inStrokes 18 = .ok (.invokestatic 66, 3) := by decide +kernel
theorem dX12_inStrokes_21 : decode cX12_inStrokes 21 = .ok (.ifCond .ne 5, 3) := by decide +kernel
theorem dX12_inStrokes_24 : decode cX12_inStrokes 24 = .ok (.iconst (-1), 1) := by decide +kernel
theorem dX12_inStrokes_25 : decode cX12_inStrokes 25 = .ok (.ireturn, 1) := by decide +kernel
theorem dX12_inStrokes_26 : decode cX12_inStrokes 26 = .ok (.aload_n 0, 1) := by decide +kernel
theorem dX12_inStrokes_27 : decode cX12_inStrokes 27 = .ok (.invokevirtual 148, 3) := by decide +kernel
theorem dX12_inStrokes_30 : decode cX12_inStrokes 30 = .ok (.aload_n 0, 1) := by decide +kernel
theorem dX12_inStrokes_31 : decode cX12_inStrokes 31 = .ok (.getfield 13, 3) := by decide +kernel
theorem dX12_inStrokes_34 : decode cX12_inStrokes 34 = .ok (.iconst 0, 1) := by decide +kernel
theorem dX12_inStrokes_35 : decode cX12_inStrokes 35 = .ok (.iaload, 1) := by decide +kernel
theorem dX12_inStrokes_36 : decode cX12_inStrokes 36 = .ok (.ifCond .le 7, 3) := by decide +kernel
theorem dX12_inStrokes_39 : decode cX12_inStrokes 39 = .ok (.iconst 1, 1) := by decide +kernel
theorem dX12_inStrokes_40 : decode cX12_inStrokes 40 = .ok (.goto 4, 3) := by decide +kernel
theorem dX12_inStrokes_43 : decode cX12_inStrokes 43 = .ok (.iconst 0, 1) := by decide +kernel
theorem dX12_inStrokes_44 : decode cX12_inStrokes 44 = .ok (.istore_n 3, 1) := by decide +kernel
theorem dX12_inStrokes_45 : decode cX12_inStrokes 45 = .ok (.iconst 0, 1) := by decide +kernel
theorem dX12_inStrokes_46 : decode cX12_inStrokes 46 = .ok (.istore 4, 2) := by decide +kernel
theorem dX12_inStrokes_48 : decode cX12_inStrokes 48 = .ok (.iload 4, 2) := by decide +kernel
theorem dX12_inStrokes_50 : decode cX12_inStrokes 50 = .ok (.iload_n 1, 1) := by decide +kernel
theorem dX12_inStrokes_51 : decode cX12_inStrokes 51 = .ok (.if_icmp .ge 22, 3) := by decide +kernel
theorem dX12_inStrokes_54 : decode cX12_inStrokes 54 = .ok (.iload_n 3, 1) := by decide +kernel
theorem dX12_inStrokes_55 : decode cX12_inStrokes 55 = .ok (.ifCond .eq 18, 3) := by decide +kernel
theorem dX12_inStrokes_58 : decode cX12_inStrokes 58 = .ok (.aload_n 0, 1) := by decide +kernel
theorem dX12_inStrokes_59 : decode cX12_inStrokes 59 = .ok (.aload_n 0, 1) := by decide +kernel
theorem dX12_inStrokes_60 : decode cX12_inStrokes 60 = .ok (.getfield 28, 3) := by decide +kernel
theorem dX12_inStrokes_63 : decode cX12_inStrokes 63 = .ok (.invokevirtual 151, 3) := by decide +kernel
theorem dX12_inStrokes_66 : decode cX12_inStrokes 66 = .ok (.istore_n 3, 1) := by decide +kernel
theorem dX12_inStrokes_67 : decode cX12_inStrokes 67 = .ok (.iinc 4 1, 3) := by decide +kernel
theorem dX12_inStrokes_70 : decode cX12_inStrokes 70 = .ok (.goto (-22), 3) := by decide +kernel
theorem dX12_inStrokes_73 : decode cX12_inStrokes 73 = .ok (.iload_n 3, 1) := by decide +kernel
theorem dX12_inStrokes_74 : decode cX12_inStrokes 74 = .ok (.ifCond .ne 8, 3) := by decide +kernel
theorem dX12_inStrokes_77 : decode cX12_inStrokes 77 = .ok (.bipush (-9), 2) := by decide +kernel
theorem dX12_inStrokes_79 : decode cX12_inStrokes 79 = .ok (.goto 22, 3) := by decide +kernel
theorem dX12_inStrokes_82 : decode cX12_inStrokes 82 = .ok (.iload_n 2, 1) := by decide +kernel
theorem dX12_inStrokes_83 : decode cX12_inStrokes 83 = .ok (.ifCond .ne 12, 3) := by decide +kernel
theorem dX12_inStrokes_86 : decode cX12_inStrokes 86 = .ok (.aload_n 0, 1) := by decide +kernel
theorem dX12_inStrokes_87 : decode cX12_inStrokes 87 = .ok (.getfield 28, 3) := by decide +kernel
theorem dX12_inStrokes_90 : decode cX12_inStrokes 90 = .ok (.iconst 2, 1) := by decide +kernel
theorem dX12_inStrokes_91 : decode cX12_inStrokes 91 = .ok (.iaload, 1) := by decide +kernel
theorem dX12_inStrokes_92 : decode cX12_inStrokes 92 = .ok (.goto 9, 3) := by decide +kernel
theorem dX12_inStrokes_95 : decode cX12_inStrokes 95 = .ok (.aload_n 0, 1) := by decide +kernel
theorem dX12_inStrokes_96 : decode cX12_inStrokes 96 = .ok (.getfield 28, 3) := by decide +kernel
theorem dX12_inStrokes_99 : decode cX12_inStrokes 99 = .ok (.iconst 1, 1) := by decide +kernel
theorem dX12_inStrokes_100 : decode cX12_inStrokes 100 = .ok (.iaload, 1) := by decide +kernel
theorem dX12_inStrokes_101 : decode cX12_inStrokes 101 = .ok (.ireturn, 1) := by decide +kernel
theorem dX12_endsIn_0 : decode cX12_endsIn 0 = .ok (.iconst 0, 1) := by decide +kernel
theorem dX12_endsIn_1 : decode cX12_endsIn 1 = .ok (.istore_n 2, 1) := by decide +kernel
theorem dX12_endsIn_2 : decode cX12_endsIn 2 = .ok (.iload_n 2, 1) := by decide +kernel
theorem dX12_endsIn_3 : decode cX12_endsIn 3 = .ok (.bipush 8, 2) := by decide +kernel
theorem dX12_endsIn_5 : decode cX12_endsIn 5 = .ok (.if_icmp .ge 19, 3) := by decide +kernel
theorem dX12_endsIn_8 : decode cX12_endsIn 8 = .ok (.aload_n 0, 1) := by decide +kernel
theorem dX12_endsIn_9 : decode cX12_endsIn 9 = .ok (.aload_n 1, 1) := by decide +kernel
theorem dX12_endsIn_10 : decode cX12_endsIn 10 = .ok (.invokevirtual 151, 3) := by decide +kernel
theorem dX12_endsIn_13 : decode cX12_endsIn 13 = .ok (.ifCond .ne 5, 3) := by decide +kernel
theorem dX12_endsIn_16 : decode cX12_endsIn 16 = .ok (.iload_n 2, 1) := by decide +kernel
theorem dX12_endsIn_17 : decode cX12_endsIn 17 = .ok (.ireturn, 1) := by decide +kernel
theorem dX12_endsIn_18 : decode cX12_endsIn 18 = .ok (.iinc 2 1, 3) := by decide +kernel
theorem dX12_endsIn_21 : decode cX12_endsIn 21 = .ok (.goto (-19), 3) := by decide +kernel
theorem dX12_endsIn_24 : decode cX12_endsIn 24 = .ok (.bipush (-9), 2) := by decide +kernel
theorem dX12_endsIn_26 : decode cX12_endsIn 26 = .ok (.ireturn, 1) := by decide +kernel
theorem dX12_ends_0 : decode cX12_ends 0 = .ok (.aload_n 0, 1) := by decide +kernel
theorem dX12_ends_1 : decode cX12_ends 1 = .ok (.iconst 0, 1) := by decide +kernel
theorem dX12_ends_2 : decode cX12_ends 2 = .ok (.putfield 62, 3) := by decide +kernel
theorem dX12_ends_5 : decode cX12_ends 5 = .ok (.aload_n 0, 1) := by decide +kernel
theorem dX12_ends_6 : decode cX12_ends 6 = .ok (.invokevirtual 148, 3) := by decide +kernel
theorem dX12_ends_9 : decode cX12_ends 9 = .ok (.aload_n 0, 1) := by decide +kernel
theorem dX12_ends_10 : decode cX12_ends 10 = .ok (.aload_n 0, 1) := by decide +kernel
theorem dX12_ends_11 : decode cX12_ends 11 = .ok (.getfield 28, 3) := by decide +kernel
theorem dX12_ends_14 : decode cX12_ends 14 = .ok (.invokevirtual 162, 3) := by decide +kernel
theorem dX12_ends_17 : decode cX12_ends 17 = .ok (.ireturn, 1) := by decide +kernel
theorem dX12_isRound_0 : decode cX12_isRound 0 = .ok (.iconst 0, 1) := by decide +kernel
theorem dX12_isRound_1 : decode cX12_isRound 1 = .ok (.istore_n 3, 1) := by decide +kernel
theorem dX12_isRound_2 : decode cX12_isRound 2 = .ok (.iload_n 3, 1) := by decide +kernel
theorem dX12_isRound_3 : decode cX12_isRound 3 = .ok (.bipush 6, 2) := by decide +kernel
theorem dX12_isRound_5 : decode cX12_isRound 5 = .ok (.if_icmp .ge 17, 3) := by decide +kernel
theorem dX12_isRound_8 : decode cX12_isRound 8 = .ok (.aload_n 0, 1) := by decide +kernel
theorem dX12_isRound_9 : decode cX12_isRound 9 = .ok (.getfield 50, 3) := by decide +kernel
theorem dX12_isRound_12 : decode cX12_isRound 12 = .ok (.iload_n 3, 1) := by decide +kernel
theorem dX12_isRound_13 : decode cX12_isRound 13 = .ok (.bipush (-9), 2) := by decide +kernel
theorem dX12_isRound_15 : decode cX12_isRound 15 = .ok (.iastore, 1) := by decide +kernel
theorem dX12_isRound_16 : decode cX12_isRound 16 = .ok (.iinc 3 1, 3) := by decide +kernel
theorem dX12_isRound_19 : decode cX12_isRound 19 = .ok (.goto (-17), 3) := by decide +kernel
theorem dX12_isRound_22 : decode cX12_isRound 22 = .ok (.iconst 0, 1) := by decide +kernel
theorem dX12_isRound_23 : decode cX12_isRound 23 = .ok (.istore_n 3, 1) := by decide +kernel
theorem dX12_isRound_24 : decode cX12_isRound 24 = .ok (.aload_n 0, 1) := by decide +kernel
theorem dX12_isRound_25 : decode cX12_isRound 25 = .ok (.getfield 13, 3) := by decide +kernel
theorem dX12_isRound_28 : decode cX12_isRound 28 = .ok (.iconst 0, 1) := by decide +kernel
theorem dX12_isRound_29 : decode cX12_isRound 29 = .ok (.iaload, 1) := by decide +kernel
theorem dX12_isRound_30 : decode cX12_isRound 30 = .ok (.ifCond .le 7, 3) := by decide +kernel
theorem dX12_isRound_33 : decode cX12_isRound 33 = .ok (.iconst 1, 1) := by decide +kernel
theorem dX12_isRound_34 : decode cX12_isRound 34 = .ok (.goto 4, 3) := by decide +kernel
theorem dX12_isRound_37 : decode cX12_isRound 37 = .ok (.iconst 0, 1) := by decide +kernel
theorem dX12_isRound_38 : decode cX12_isRound 38 = .ok (.istore 4, 2) := by decide +kernel
theorem dX12_isRound_40 : decode cX12_isRound 40 = .ok (.iload 4, 2) := by decide +kernel
theorem dX12_isRound_42 : decode cX12_isRound 42 = .ok (.ifCond .eq 49, 3) := by decide +kernel
theorem dX12_isRound_45 : decode cX12_isRound 45 = .ok (.aload_n 0, 1) := by decide +kernel
theorem dX12_isRound_46 : decode cX12_isRound 46 = .ok (.getfield 50, 3) := by decide +kernel
theorem dX12_isRound_49 : decode cX12_isRound 49 = .ok (.aload_n 1, 1) := by decide +kernel
theorem dX12_isRound_50 : decode cX12_isRound 50 = .ok (.iconst 2, 1) := by decide +kernel
theorem dX12_isRound_51 : decode cX12_isRound 51 = .ok (.iaload, 1) := by decide +kernel
theorem dX12_isRound_52 : decode cX12_isRound 52 = .ok (.iaload, 1) := by decide +kernel
theorem dX12_isRound_53 : decode cX12_isRound 53 = .ok (.bipush (-9), 2) := by decide +kernel
theorem dX12_isRound_55 : decode cX12_isRound 55 = .ok (.if_icmp .ne 36, 3) := by decide +kernel
theorem dX12_isRound_58 : decode cX12_isRound 58 = .ok (.aload_n 0, 1) := by decide +kernel
theorem dX12_isRound_59 : decode cX12_isRound 59 = .ok (.getfield 50, 3) := by decide +kernel
theorem dX12_isRound_62 : decode cX12_isRound 62 = .ok (.aload_n 1, 1) := by decide +kernel
theorem dX12_isRound_63 : decode cX12_isRound 63 = .ok (.iconst 2, 1) := by decide +kernel
theorem dX12_isRound_64 : decode cX12_isRound 64 = .ok (.iaload, 1) := by decide +kernel
theorem dX12_isRound_65 : decode cX12_isRound 65 = .ok (.iload_n 3, 1) := by decide +kernel
theorem dX12_isRound_66 : decode cX12_isRound 66 = .ok (.iastore, 1) := by decide +kernel
theorem dX12_isRound_67 : decode cX12_isRound 67 = .ok (.aload_n 0, 1) := by decide +kernel
theorem dX12_isRound_68 : decode cX12_isRound 68 = .ok (.getfield 53, 3) := by decide +kernel
theorem dX12_isRound_71 : decode cX12_isRound 71 = .ok (.aload_n 1, 1) := by decide +kernel
theorem dX12_isRound_72 : decode cX12_isRound 72 = .ok (.iconst 2, 1) := by decide +kernel
theorem dX12_isRound_73 : decode cX12_isRound 73 = .ok (.iaload, 1) := by decide +kernel
theorem dX12_isRound_74 : decode cX12_isRound 74 = .ok (.aload_n 1, 1) := by decide +kernel
theorem dX12_isRound_75 : decode cX12_isRound 75 = .ok (.iconst 1, 1) := by decide +kernel
theorem dX12_isRound_76 : decode cX12_isRound 76 = .ok (.iaload, 1) := by decide +kernel
theorem dX12_isRound_77 : decode cX12_isRound 77 = .ok (.iastore, 1) := by decide +kernel
theorem dX12_isRound_78 : decode cX12_isRound 78 = .ok (.iinc 3 1, 3) := by decide +kernel
theorem dX12_isRound_81 : decode cX12_isRound 81 = .ok (.aload_n 0, 1) := by decide +kernel
theorem dX12_isRound_82 : decode cX12_isRound 82 = .ok (.aload_n 1, 1) := by decide +kernel
theorem dX12_isRound_83 : decode cX12_isRound 83 = .ok (.invokevirtual 151, 3) := by decide +kernel
theorem dX12_isRound_86 : decode cX12_isRound 86 = .ok (.istore 4, 2) := by decide +kernel
theorem dX12_isRound_88 : decode cX12_isRound 88 = .ok (.goto (-48), 3) := by decide +kernel
theorem dX12_isRound_91 : decode cX12_isRound 91 = .ok (.iload 4, 2) := by decide +kernel
theorem dX12_isRound_93 : decode cX12_isRound 93 = .ok (.ifCond .eq 42, 3) := by decide +kernel
theorem dX12_isRound_96 : decode cX12_isRound 96 = .ok (.aload_n 2, 1) := by decide +kernel
theorem dX12_isRound_97 : decode cX12_isRound 97 = .ok (.iconst 0, 1) := by decide +kernel
theorem dX12_isRound_98 : decode cX12_isRound 98 = .ok (.aload_n 0, 1) := by decide +kernel
theorem dX12_isRound_99 : decode cX12_isRound 99 = .ok (.getfield 50, 3) := by decide +kernel
theorem dX12_isRound_102 : decode cX12_isRound 102 = .ok (.aload_n 1, 1) := by decide +kernel
theorem dX12_isRound_103 : decode cX12_isRound 103 = .ok (.iconst 2, 1) := by decide +kernel
theorem dX12_isRound_104 : decode cX12_isRound 104 = .ok (.iaload, 1) := by decide +kernel
theorem dX12_isRound_105 : decode cX12_isRound 105 = .ok (.iaload, 1) := by decide +kernel
theorem dX12_isRound_106 : decode cX12_isRound 106 = .ok (.iastore, 1) := by decide +kernel
theorem dX12_isRound_107 : decode cX12_isRound 107 = .ok (.aload_n 2, 1) := by decide +kernel
theorem dX12_isRound_108 : decode cX12_isRound 108 = .ok (.iconst 1, 1) := by decide +kernel
theorem dX12_isRound_109 : decode cX12_isRound 109 = .ok (.iload_n 3, 1) := by decide +kernel
theorem dX12_isRound_110 : decode cX12_isRound 110 = .ok (.aload_n 0, 1) := by decide +kernel
theorem dX12_isRound_111 : decode cX12_isRound 111 = .ok (.getfield 50, 3) := by decide +kernel
theorem dX12_isRound_114 : decode cX12_isRound 114 = .ok (.aload_n 1, 1) := by decide +kernel
theorem dX12_isRound_115 : decode cX12_isRound 115 = .ok (.iconst 2, 1) := by decide +kernel
theorem dX12_isRound_116 : decode cX12_isRound 116 = .ok (.iaload, 1) := by decide +kernel
theorem dX12_isRound_117 : decode cX12_isRound 117 = .ok (.iaload, 1) := by decide +kernel
theorem dX12_isRound_118 : decode cX12_isRound 118 = .ok (.isub, 1) := by decide +kernel
theorem dX12_isRound_119 : decode cX12_isRound 119 = .ok (.iastore, 1) := by decide +kernel
theorem dX12_isRound_120 : decode cX12_isRound 120 = .ok (.aload_n 2, 1) := by decide +kernel
theorem dX12_isRound_121 : decode cX12_isRound 121 = .ok (.iconst 2, 1) := by decide +kernel
theorem dX12_isRound_122 : decode cX12_isRound 122 = .ok (.aload_n 1, 1) := by decide +kernel
theorem dX12_isRound_123 : decode cX12_isRound 123 = .ok (.iconst 1, 1) := by decide +kernel
theorem dX12_isRound_124 : decode cX12_isRound 124 = .ok (.iaload, 1) := by decide +kernel
theorem dX12_isRound_125 : decode cX12_isRound 125 = .ok (.aload_n 0, 1) := by decide +kernel
theorem dX12_isRound_126 : decode cX12_isRound 126 = .ok (.getfield 53, 3) := by decide +kernel
theorem dX12_isRound_129 : decode cX12_isRound 129 = .ok (.aload_n 1, 1) := by decide +kernel
theorem dX12_isRound_130 : decode cX12_isRound 130 = .ok (.iconst 2, 1) := by decide +kernel
theorem dX12_isRound_131 : decode cX12_isRound 131 = .ok (.iaload, 1) := by decide +kernel
theorem dX12_isRound_132 : decode cX12_isRound 132 = .ok (.iaload, 1) := by decide +kernel
theorem dX12_isRound_133 : decode cX12_isRound 133 = .ok (.isub, 1) := by decide +kernel
theorem dX12_isRound_134 : decode cX12_isRound 134 = .ok (.iastore, 1) := by decide +kernel
theorem dX12_isRound_135 : decode cX12_isRound 135 = .ok (.iload 4, 2) := by decide +kernel
theorem dX12_isRound_137 : decode cX12_isRound 137 = .ok (.ireturn, 1) := by decide +kernel
theorem dX12_round_0 : decode cX12_round 0 = .ok (.aload_n 0, 1) := by decide +kernel
theorem dX12_round_1 : decode cX12_round 1 = .ok (.iconst 0, 1) := by decide +kernel
theorem dX12_round_2 : decode cX12_round 2 = .ok (.putfield 62, 3) := by decide +kernel
theorem dX12_round_5 : decode cX12_round 5 = .ok (.iload_n 1, 1) := by decide +kernel
theorem dX12_round_6 : decode cX12_round 6 = .ok (.iconst 0, 1) := by decide +kernel
theorem dX12_round_7 : decode cX12_round 7 = .ok (.iconst 2, 1) := by decide +kernel
theorem dX12_round_8 : decode cX12_round 8 = .ok (.invokestatic 66, 3) := by decide +kernel
theorem dX12_round_11 : decode cX12_round 11 = .ok (.ifCond .ne 5, 3) := by decide +kernel
theorem dX12_round_14 : decode cX12_round 14 = .ok (.iconst (-1), 1) := by decide +kernel
theorem dX12_round_15 : decode cX12_round 15 = .ok (.ireturn, 1) := by decide +kernel
theorem dX12_round_16 : decode cX12_round 16 = .ok (.aload_n 0, 1) := by decide +kernel
theorem dX12_round_17 : decode cX12_round 17 = .ok (.invokevirtual 148, 3) := by decide +kernel
theorem dX12_round_20 : decode cX12_round 20 = .ok (.aload_n 0, 1) := by decide +kernel
theorem dX12_round_21 : decode cX12_round 21 = .ok (.aload_n 0, 1) := by decide +kernel
theorem dX12_round_22 : decode cX12_round 22 = .ok (.getfield 28, 3) := by decide +kernel
theorem dX12_round_25 : decode cX12_round 25 = .ok (.aload_n 0, 1) := by decide +kernel
theorem dX12_round_26 : decode cX12_round 26 = .ok (.getfield 56, 3) := by decide +kernel
theorem dX12_round_29 : decode cX12_round 29 = .ok (.invokevirtual 166, 3) := by decide +kernel
theorem dX12_round_32 : decode cX12_round 32 = .ok (.ifCond .eq 12, 3) := by decide +kernel
theorem dX12_round_35 : decode cX12_round 35 = .ok (.aload_n 0, 1) := by decide +kernel
theorem dX12_round_36 : decode cX12_round 36 = .ok (.getfield 56, 3) := by decide +kernel
theorem dX12_round_39 : decode cX12_round 39 = .ok (.iload_n 1, 1) := by decide +kernel
theorem dX12_round_40 : decode cX12_round 40 = .ok (.iaload, 1) := by decide +kernel
theorem dX12_round_41 : decode cX12_round 41 = .ok (.goto 5, 3) := by decide +kernel
theorem dX12_round_44 : decode cX12_round 44 = .ok (.bipush (-9), 2) := by decide +kernel
theorem dX12_round_46 : decode cX12_round 46 = .ok (.ireturn, 1) := by decide +kernel
theorem dX12_heardIn_0 : decode cX12_heardIn 0 = .ok (.aload_n 0, 1) := by decide +kernel
theorem dX12_heardIn_1 : decode cX12_heardIn 1 = .ok (.iconst 0, 1) := by decide +kernel
theorem dX12_heardIn_2 : decode cX12_heardIn 2 = .ok (.putfield 62, 3) := by decide +kernel
theorem dX12_heardIn_5 : decode cX12_heardIn 5 = .ok (.aload_n 0, 1) := by decide +kernel
theorem dX12_heardIn_6 : decode cX12_heardIn 6 = .ok (.iload_n 1, 1) := by decide +kernel
theorem dX12_heardIn_7 : decode cX12_heardIn 7 = .ok (.invokevirtual 133, 3) := by decide +kernel
theorem dX12_heardIn_10 : decode cX12_heardIn 10 = .ok (.ifCond .eq 14, 3) := by decide +kernel
theorem dX12_heardIn_13 : decode cX12_heardIn 13 = .ok (.iload_n 2, 1) := by decide +kernel
theorem dX12_heardIn_14 : decode cX12_heardIn 14 = .ok (.iconst 1, 1) := by decide +kernel
theorem dX12_heardIn_15 : decode cX12_heardIn 15 = .ok (.sipush 200, 3) := by decide +kernel
theorem dX12_heardIn_18 : decode cX12_heardIn 18 = .ok (.invokestatic 66, 3) := by decide +kernel
theorem dX12_heardIn_21 : decode cX12_heardIn 21 = .ok (.ifCond .ne 5, 3) := by decide +kernel
theorem dX12_heardIn_24 : decode cX12_heardIn 24 = .ok (.iconst (-1), 1) := by decide +kernel
theorem dX12_heardIn_25 : decode cX12_heardIn 25 = .ok (.ireturn, 1) := by decide +kernel
theorem dX12_heardIn_26 : decode cX12_heardIn 26 = .ok (.aload_n 0, 1) := by decide +kernel
theorem dX12_heardIn_27 : decode cX12_heardIn 27 = .ok (.invokevirtual 148, 3) := by decide +kernel
theorem dX12_heardIn_30 : decode cX12_heardIn 30 = .ok (.aload_n 0, 1) := by decide +kernel
theorem dX12_heardIn_31 : decode cX12_heardIn 31 = .ok (.getfield 25, 3) := by decide +kernel
theorem dX12_heardIn_34 : decode cX12_heardIn 34 = .ok (.iconst 1, 1) := by decide +kernel
theorem dX12_heardIn_35 : decode cX12_heardIn 35 = .ok (.iaload, 1) := by decide +kernel
theorem dX12_heardIn_36 : decode cX12_heardIn 36 = .ok (.iload_n 2, 1) := by decide +kernel
theorem dX12_heardIn_37 : decode cX12_heardIn 37 = .ok (.iadd, 1) := by decide +kernel
theorem dX12_heardIn_38 : decode cX12_heardIn 38 = .ok (.istore_n 3, 1) := by decide +kernel
theorem dX12_heardIn_39 : decode cX12_heardIn 39 = .ok (.iconst 0, 1) := by decide +kernel
theorem dX12_heardIn_40 : decode cX12_heardIn 40 = .ok (.istore 4, 2) := by decide +kernel
theorem dX12_heardIn_42 : decode cX12_heardIn 42 = .ok (.iconst 1, 1) := by decide +kernel
theorem dX12_heardIn_43 : decode cX12_heardIn 43 = .ok (.istore 5, 2) := by decide +kernel
theorem dX12_heardIn_45 : decode cX12_heardIn 45 = .ok (.iload 5, 2) := by decide +kernel
theorem dX12_heardIn_47 : decode cX12_heardIn 47 = .ok (.ifCond .eq 73, 3) := by decide +kernel
theorem dX12_heardIn_50 : decode cX12_heardIn 50 = .ok (.aload_n 0, 1) := by decide +kernel
theorem dX12_heardIn_51 : decode cX12_heardIn 51 = .ok (.getfield 28, 3) := by decide +kernel
theorem dX12_heardIn_54 : decode cX12_heardIn 54 = .ok (.iconst 1, 1) := by decide +kernel
theorem dX12_heardIn_55 : decode cX12_heardIn 55 = .ok (.iaload, 1) := by decide +kernel
theorem dX12_heardIn_56 : decode cX12_heardIn 56 = .ok (.iload_n 3, 1) := by decide +kernel
theorem dX12_heardIn_57 : decode cX12_heardIn 57 = .ok (.if_icmp .gt 63, 3) := by decide +kernel
theorem dX12_heardIn_60 : decode cX12_heardIn 60 = .ok (.aload_n 0, 1) := by decide +kernel
theorem dX12_heardIn_61 : decode cX12_heardIn 61 = .ok (.aload_n 0, 1) := by decide +kernel
theorem dX12_heardIn_62 : decode cX12_heardIn 62 = .ok (.getfield 28, 3) := by decide +kernel
theorem dX12_heardIn_65 : decode cX12_heardIn 65 = .ok (.iload_n 1, 1) := by decide +kernel
theorem dX12_heardIn_66 : decode cX12_heardIn 66 = .ok (.aload_n 0, 1) := by decide +kernel
theorem dX12_heardIn_67 : decode cX12_heardIn 67 = .ok (.getfield 28, 3) := by decide +kernel
theorem dX12_heardIn_70 : decode cX12_heardIn 70 = .ok (.iconst 2, 1) := by decide +kernel
theorem dX12_heardIn_71 : decode cX12_heardIn 71 = .ok (.iaload, 1) := by decide +kernel
theorem dX12_heardIn_72 : decode cX12_heardIn 72 = .ok (.invokevirtual 140, 3) := by decide +kernel
theorem dX12_heardIn_75 : decode cX12_heardIn 75 = .ok (.istore 6, 2) := by decide +kernel
theorem dX12_heardIn_77 : decode cX12_heardIn 77 = .ok (.iload 4, 2) := by decide +kernel
theorem dX12_heardIn_79 : decode cX12_heardIn 79 = .ok (.iload 6, 2) := by decide +kernel
theorem dX12_heardIn_81 : decode cX12_heardIn 81 = .ok (.bipush (-9), 2) := by decide +kernel
theorem dX12_heardIn_83 : decode cX12_heardIn 83 = .ok (.if_icmp .eq 20, 3) := by decide +kernel
theorem dX12_heardIn_86 : decode cX12_heardIn 86 = .ok (.aload_n 0, 1) := by decide +kernel
theorem dX12_heardIn_87 : decode cX12_heardIn 87 = .ok (.getfield 28, 3) := by decide +kernel
theorem dX12_heardIn_90 : decode cX12_heardIn 90 = .ok (.iconst 1, 1) := by decide +kernel
theorem dX12_heardIn_91 : decode cX12_heardIn 91 = .ok (.iaload, 1) := by decide +kernel
theorem dX12_heardIn_92 : decode cX12_heardIn 92 = .ok (.iload 6, 2) := by decide +kernel
theorem dX12_heardIn_94 : decode cX12_heardIn 94 = .ok (.iadd, 1) := by decide +kernel
theorem dX12_heardIn_95 : decode cX12_heardIn 95 = .ok (.iload_n 3, 1) := by decide +kernel
theorem dX12_heardIn_96 : decode cX12_heardIn 96 = .ok (.if_icmp .gt 7, 3) := by decide +kernel
theorem dX12_heardIn_99 : decode cX12_heardIn 99 = .ok (.iconst 1, 1) := by decide +kernel
theorem dX12_heardIn_100 : decode cX12_heardIn 100 = .ok (.goto 4, 3) := by decide +kernel
theorem dX12_heardIn_103 : decode cX12_heardIn 103 = .ok (.iconst 0, 1) := by decide +kernel
theorem dX12_heardIn_104 : decode cX12_heardIn 104 = .ok (.iadd, 1) := by decide +kernel
theorem dX12_heardIn_105 : decode cX12_heardIn 105 = .ok (.istore 4, 2) := by decide +kernel
theorem dX12_heardIn_107 : decode cX12_heardIn 107 = .ok (.aload_n 0, 1) := by decide +kernel
theorem dX12_heardIn_108 : decode cX12_heardIn 108 = .ok (.aload_n 0, 1) := by decide +kernel
theorem dX12_heardIn_109 : decode cX12_heardIn 109 = .ok (.getfield 28, 3) := by decide +kernel
theorem dX12_heardIn_112 : decode cX12_heardIn 112 = .ok (.invokevirtual 151, 3) := by decide +kernel
theorem dX12_heardIn_115 : decode cX12_heardIn 115 = .ok (.istore 5, 2) := by decide +kernel
theorem dX12_heardIn_117 : decode cX12_heardIn 117 = .ok (.goto (-72), 3) := by decide +kernel
theorem dX12_heardIn_120 : decode cX12_heardIn 120 = .ok (.iload 4, 2) := by decide +kernel
theorem dX12_heardIn_122 : decode cX12_heardIn 122 = .ok (.ireturn, 1) := by decide +kernel
theorem dX12_enders_0 : decode cX12_enders 0 = .ok (.aload_n 0, 1) := by decide +kernel
theorem dX12_enders_1 : decode cX12_enders 1 = .ok (.iconst 0, 1) := by decide +kernel
theorem dX12_enders_2 : decode cX12_enders 2 = .ok (.putfield 62, 3) := by decide +kernel
theorem dX12_enders_5 : decode cX12_enders 5 = .ok (.iconst 0, 1) := by decide +kernel
theorem dX12_enders_6 : decode cX12_enders 6 = .ok (.istore_n 1, 1) := by decide +kernel
theorem dX12_enders_7 : decode cX12_enders 7 = .ok (.iconst 0, 1) := by decide +kernel
theorem dX12_enders_8 : decode cX12_enders 8 = .ok (.istore_n 2, 1) := by decide +kernel
theorem dX12_enders_9 : decode cX12_enders 9 = .ok (.iload_n 2, 1) := by decide +kernel
theorem dX12_enders_10 : decode cX12_enders 10 = .ok (.aload_n 0, 1) := by decide +kernel
theorem dX12_enders_11 : decode cX12_enders 11 = .ok (.getfield 13, 3) := by decide +kernel
theorem dX12_enders_14 : decode cX12_enders 14 = .ok (.iconst 0, 1) := by decide +kernel
theorem dX12_enders_15 : decode cX12_enders 15 = .ok (.iaload, 1) := by decide +kernel
theorem dX12_enders_16 : decode cX12_enders 16 = .ok (.if_icmp .ge 58, 3) := by decide +kernel
theorem dX12_enders_19 : decode cX12_enders 19 = .ok (.aload_n 0, 1) := by decide +kernel
theorem dX12_enders_20 : decode cX12_enders 20 = .ok (.invokevirtual 148, 3) := by decide +kernel
theorem dX12_enders_23 : decode cX12_enders 23 = .ok (.aload_n 0, 1) := by decide +kernel
theorem dX12_enders_24 : decode cX12_enders 24 = .ok (.getfield 28, 3) := by decide +kernel
theorem dX12_enders_27 : decode cX12_enders 27 = .ok (.bipush 10, 2) := by decide +kernel
theorem dX12_enders_29 : decode cX12_enders 29 = .ok (.iload_n 2, 1) := by decide +kernel
theorem dX12_enders_30 : decode cX12_enders 30 = .ok (.iadd, 1) := by decide +kernel
theorem dX12_enders_31 : decode cX12_enders 31 = .ok (.iconst 1, 1) := by decide +kernel
theorem dX12_enders_32 : decode cX12_enders 32 = .ok (.iastore, 1) := by decide +kernel
theorem dX12_enders_33 : decode cX12_enders 33 = .ok (.iload_n 1, 1) := by decide +kernel
theorem dX12_enders_34 : decode cX12_enders 34 = .ok (.aload_n 0, 1) := by decide +kernel
theorem dX12_enders_35 : decode cX12_enders 35 = .ok (.getfield 25, 3) := by decide +kernel
theorem dX12_enders_38 : decode cX12_enders 38 = .ok (.bipush 10, 2) := by decide +kernel
theorem dX12_enders_40 : decode cX12_enders 40 = .ok (.iload_n 2, 1) := by decide +kernel
theorem dX12_enders_41 : decode cX12_enders 41 = .ok (.iadd, 1) := by decide +kernel
theorem dX12_enders_42 : decode cX12_enders 42 = .ok (.iaload, 1) := by decide +kernel
theorem dX12_enders_43 : decode cX12_enders 43 = .ok (.ifCond .ne 22, 3) := by decide +kernel
theorem dX12_enders_46 : decode cX12_enders 46 = .ok (.aload_n 0, 1) := by decide +kernel
theorem dX12_enders_47 : decode cX12_enders 47 = .ok (.aload_n 0, 1) := by decide +kernel
theorem dX12_enders_48 : decode cX12_enders 48 = .ok (.getfield 28, 3) := by decide +kernel
theorem dX12_enders_51 : decode cX12_enders 51 = .ok (.invokevirtual 162, 3) := by decide +kernel
theorem dX12_enders_54 : decode cX12_enders 54 = .ok (.bipush (-9), 2) := by decide +kernel
theorem dX12_enders_56 : decode cX12_enders 56 = .ok (.if_icmp .eq 9, 3) := by decide +kernel
theorem dX12_enders_59 : decode cX12_enders 59 = .ok (.iconst 1, 1) := by decide +kernel
theorem dX12_enders_60 : decode cX12_enders 60 = .ok (.iload_n 2, 1) := by decide +kernel
theorem dX12_enders_61 : decode cX12_enders 61 = .ok (.ishl, 1) := by decide +kernel
theorem dX12_enders_62 : decode cX12_enders 62 = .ok (.goto 4, 3) := by decide +kernel
theorem dX12_enders_65 : decode cX12_enders 65 = .ok (.iconst 0, 1) := by decide +kernel
theorem dX12_enders_66 : decode cX12_enders 66 = .ok (.ior, 1) := by decide +kernel
theorem dX12_enders_67 : decode cX12_enders 67 = .ok (.istore_n 1, 1) := by decide +kernel
theorem dX12_enders_68 : decode cX12_enders 68 = .ok (.iinc 2 1, 3) := by decide +kernel
theorem dX12_enders_71 : decode cX12_enders 71 = .ok (.goto (-62), 3) := by decide +kernel
theorem dX12_enders_74 : decode cX12_enders 74 = .ok (.iload_n 1, 1) := by decide +kernel
theorem dX12_enders_75 : decode cX12_enders 75 = .ok (.ireturn, 1) := by decide +kernel
theorem dX12_isEndless_0 : decode cX12_isEndless 0 = .ok (.aload_n 0, 1) := by decide +kernel
theorem dX12_isEndless_1 : decode cX12_isEndless 1 = .ok (.invokevirtual 148, 3) := by decide +kernel
theorem dX12_isEndless_4 : decode cX12_isEndless 4 = .ok (.iload_n 1, 1) := by decide +kernel
theorem dX12_isEndless_5 : decode cX12_isEndless 5 = .ok (.ifCond .lt 20, 3) := by decide +kernel
theorem dX12_isEndless_8 : decode cX12_isEndless 8 = .ok (.aload_n 0, 1) := by decide +kernel
theorem dX12_isEndless_9 : decode cX12_isEndless 9 = .ok (.aload_n 0, 1) := by decide +kernel
theorem dX12_isEndless_10 : decode cX12_isEndless 10 = .ok (.getfield 28, 3) := by decide +kernel
theorem dX12_isEndless_13 : decode cX12_isEndless 13 = .ok (.iload_n 1, 1) := by decide +kernel
theorem dX12_isEndless_14 : decode cX12_isEndless 14 = .ok (.bipush 6, 2) := by decide +kernel
theorem dX12_isEndless_16 : decode cX12_isEndless 16 = .ok (.idiv, 1) := by decide +kernel
theorem dX12_isEndless_17 : decode cX12_isEndless 17 = .ok (.iload_n 1, 1) := by decide +kernel
theorem dX12_isEndless_18 : decode cX12_isEndless 18 = .ok (.bipush 6, 2) := by decide +kernel
theorem dX12_isEndless_20 : decode cX12_isEndless 20 = .ok (.irem, 1) := by decide +kernel
theorem dX12_isEndless_21 : decode cX12_isEndless 21 = .ok (.iload_n 3, 1) := by decide +kernel
theorem dX12_isEndless_22 : decode cX12_isEndless 22 = .ok (.invokevirtual 158, 3) := by decide +kernel
theorem dX12_isEndless_25 : decode cX12_isEndless 25 = .ok (.iload_n 2, 1) := by decide +kernel
theorem dX12_isEndless_26 : decode cX12_isEndless 26 = .ok (.ifCond .lt 20, 3) := by decide +kernel
theorem dX12_isEndless_29 : decode cX12_isEndless 29 = .ok (.aload_n 0, 1) := by decide +kernel
theorem dX12_isEndless_30 : decode cX12_isEndless 30 = .ok (.aload_n 0, 1) := by decide +kernel
theorem dX12_isEndless_31 : decode cX12_isEndless 31 = .ok (.getfield 28, 3) := by decide +kernel
theorem dX12_isEndless_34 : decode cX12_isEndless 34 = .ok (.iload_n 2, 1) := by decide +kernel
theorem dX12_isEndless_35 : decode cX12_isEndless 35 = .ok (.bipush 6, 2) := by decide +kernel
theorem dX12_isEndless_37 : decode cX12_isEndless 37 = .ok (.idiv, 1) := by decide +kernel
theorem dX12_isEndless_38 : decode cX12_isEndless 38 = .ok (.iload_n 2, 1) := by decide +kernel
theorem dX12_isEndless_39 : decode cX12_isEndless 39 = .ok (.bipush 6, 2) := by decide +kernel
theorem dX12_isEndless_41 : decode cX12_isEndless 41 = .ok (.irem, 1) := by decide +kernel
theorem dX12_isEndless_42 : decode cX12_isEndless 42 = .ok (.iload_n 3, 1) := by decide +kernel
theorem dX12_isEndless_43 : decode cX12_isEndless 43 = .ok (.invokevirtual 158, 3) := by decide +kernel
theorem dX12_isEndless_46 : decode cX12_isEndless 46 = .ok (.aload_n 0, 1) := by decide +kernel
theorem dX12_isEndless_47 : decode cX12_isEndless 47 = .ok (.aload_n 0, 1) := by decide +kernel
theorem dX12_isEndless_48 : decode cX12_isEndless 48 = .ok (.getfield 28, 3) := by decide +kernel
theorem dX12_isEndless_51 : decode cX12_isEndless 51 = .ok (.invokevirtual 162, 3) := by decide +kernel
theorem dX12_isEndless_54 : decode cX12_isEndless 54 = .ok (.bipush (-9), 2) := by decide +kernel
theorem dX12_isEndless_56 : decode cX12_isEndless 56 = .ok (.if_icmp .ne 7, 3) := by decide +kernel
theorem dX12_isEndless_59 : decode cX12_isEndless 59 = .ok (.iconst 1, 1) := by decide +kernel
theorem dX12_isEndless_60 : decode cX12_isEndless 60 = .ok (.goto 4, 3) := by decide +kernel
theorem dX12_isEndless_63 : decode cX12_isEndless 63 = .ok (.iconst 0, 1) := by decide +kernel
theorem dX12_isEndless_64 : decode cX12_isEndless 64 = .ok (.ireturn, 1) := by decide +kernel
theorem dX12_isTwo_0 : decode cX12_isTwo 0 = .ok (.iload_n 1, 1) := by decide +kernel
theorem dX12_isTwo_1 : decode cX12_isTwo 1 = .ok (.bipush 6, 2) := by decide +kernel
theorem dX12_isTwo_3 : decode cX12_isTwo 3 = .ok (.idiv, 1) := by decide +kernel
theorem dX12_isTwo_4 : decode cX12_isTwo 4 = .ok (.iload_n 1, 1) := by decide +kernel
theorem dX12_isTwo_5 : decode cX12_isTwo 5 = .ok (.bipush 6, 2) := by decide +kernel
theorem dX12_isTwo_7 : decode cX12_isTwo 7 = .ok (.irem, 1) := by decide +kernel
theorem dX12_isTwo_8 : decode cX12_isTwo 8 = .ok (.if_icmp .eq 33, 3) := by decide +kernel
theorem dX12_isTwo_11 : decode cX12_isTwo 11 = .ok (.iload_n 1, 1) := by decide +kernel
theorem dX12_isTwo_12 : decode cX12_isTwo 12 = .ok (.bipush 6, 2) := by decide +kernel
theorem dX12_isTwo_14 : decode cX12_isTwo 14 = .ok (.idiv, 1) := by decide +kernel
theorem dX12_isTwo_15 : decode cX12_isTwo 15 = .ok (.aload_n 0, 1) := by decide +kernel
theorem dX12_isTwo_16 : decode cX12_isTwo 16 = .ok (.getfield 13, 3) := by decide +kernel
theorem dX12_isTwo_19 : decode cX12_isTwo 19 = .ok (.iconst 0, 1) := by decide +kernel
theorem dX12_isTwo_20 : decode cX12_isTwo 20 = .ok (.iaload, 1) := by decide +kernel
theorem dX12_isTwo_21 : decode cX12_isTwo 21 = .ok (.if_icmp .ge 20, 3) := by decide +kernel
theorem dX12_isTwo_24 : decode cX12_isTwo 24 = .ok (.iload_n 1, 1) := by decide +kernel
theorem dX12_isTwo_25 : decode cX12_isTwo 25 = .ok (.bipush 6, 2) := by decide +kernel
theorem dX12_isTwo_27 : decode cX12_isTwo 27 = .ok (.irem, 1) := by decide +kernel
theorem dX12_isTwo_28 : decode cX12_isTwo 28 = .ok (.aload_n 0, 1) := by decide +kernel
theorem dX12_isTwo_29 : decode cX12_isTwo 29 = .ok (.getfield 13, 3) := by decide +kernel
theorem dX12_isTwo_32 : decode cX12_isTwo 32 = .ok (.iconst 0, 1) := by decide +kernel
theorem dX12_isTwo_33 : decode cX12_isTwo 33 = .ok (.iaload, 1) := by decide +kernel
theorem dX12_isTwo_34 : decode cX12_isTwo 34 = .ok (.if_icmp .ge 7, 3) := by decide +kernel
theorem dX12_isTwo_37 : decode cX12_isTwo 37 = .ok (.iconst 1, 1) := by decide +kernel
theorem dX12_isTwo_38 : decode cX12_isTwo 38 = .ok (.goto 4, 3) := by decide +kernel
theorem dX12_isTwo_41 : decode cX12_isTwo 41 = .ok (.iconst 0, 1) := by decide +kernel
theorem dX12_isTwo_42 : decode cX12_isTwo 42 = .ok (.ireturn, 1) := by decide +kernel
theorem dX12_asCode_0 : decode cX12_asCode 0 = .ok (.iload_n 0, 1) := by decide +kernel
theorem dX12_asCode_1 : decode cX12_asCode 1 = .ok (.ifCond .ge 8, 3) := by decide +kernel
theorem dX12_asCode_4 : decode cX12_asCode 4 = .ok (.bipush (-9), 2) := by decide +kernel
theorem dX12_asCode_6 : decode cX12_asCode 6 = .ok (.goto 15, 3) := by decide +kernel
theorem dX12_asCode_9 : decode cX12_asCode 9 = .ok (.bipush 10, 2) := by decide +kernel
theorem dX12_asCode_11 : decode cX12_asCode 11 = .ok (.iload_n 0, 1) := by decide +kernel
theorem dX12_asCode_12 : decode cX12_asCode 12 = .ok (.bipush 6, 2) := by decide +kernel
theorem dX12_asCode_14 : decode cX12_asCode 14 = .ok (.idiv, 1) := by decide +kernel
theorem dX12_asCode_15 : decode cX12_asCode 15 = .ok (.imul, 1) := by decide +kernel
theorem dX12_asCode_16 : decode cX12_asCode 16 = .ok (.iload_n 0, 1) := by decide +kernel
theorem dX12_asCode_17 : decode cX12_asCode 17 = .ok (.bipush 6, 2) := by decide +kernel
theorem dX12_asCode_19 : decode cX12_asCode 19 = .ok (.irem, 1) := by decide +kernel
theorem dX12_asCode_20 : decode cX12_asCode 20 = .ok (.iadd, 1) := by decide +kernel
theorem dX12_asCode_21 : decode cX12_asCode 21 = .ok (.ireturn, 1) := by decide +kernel
theorem dX12_mules_0 : decode cX12_mules 0 = .ok (.aload_n 0, 1) := by decide +kernel
theorem dX12_mules_1 : decode cX12_mules 1 = .ok (.iconst 0, 1) := by decide +kernel
theorem dX12_mules_2 : decode cX12_mules 2 = .ok (.putfield 62, 3) := by decide +kernel
theorem dX12_mules_5 : decode cX12_mules 5 = .ok (.iload_n 1, 1) := by decide +kernel
theorem dX12_mules_6 : decode cX12_mules 6 = .ok (.iconst 1, 1) := by decide +kernel
theorem dX12_mules_7 : decode cX12_mules 7 = .ok (.bipush 20, 2) := by decide +kernel
theorem dX12_mules_9 : decode cX12_mules 9 = .ok (.invokestatic 66, 3) := by decide +kernel
theorem dX12_mules_12 : decode cX12_mules 12 = .ok (.ifCond .eq 12, 3) := by decide +kernel
theorem dX12_mules_15 : decode cX12_mules 15 = .ok (.iload_n 2, 1) := by decide +kernel
theorem dX12_mules_16 : decode cX12_mules 16 = .ok (.iconst 0, 1) := by decide +kernel
theorem dX12_mules_17 : decode cX12_mules 17 = .ok (.iconst 2, 1) := by decide +kernel
theorem dX12_mules_18 : decode cX12_mules 18 = .ok (.invokestatic 66, 3) := by decide +kernel
theorem dX12_mules_21 : decode cX12_mules 21 = .ok (.ifCond .ne 5, 3) := by decide +kernel
theorem dX12_mules_24 : decode cX12_mules 24 = .ok (.iconst (-1), 1) := by decide +kernel
theorem dX12_mules_25 : decode cX12_mules 25 = .ok (.ireturn, 1) := by decide +kernel
theorem dX12_mules_26 : decode cX12_mules 26 = .ok (.aload_n 0, 1) := by decide +kernel
theorem dX12_mules_27 : decode cX12_mules 27 = .ok (.getfield 13, 3) := by decide +kernel
theorem dX12_mules_30 : decode cX12_mules 30 = .ok (.iconst 0, 1) := by decide +kernel
theorem dX12_mules_31 : decode cX12_mules 31 = .ok (.iaload, 1) := by decide +kernel
theorem dX12_mules_32 : decode cX12_mules 32 = .ok (.ifCond .ne 6, 3) := by decide +kernel
theorem dX12_mules_35 : decode cX12_mules 35 = .ok (.bipush (-9), 2) := by decide +kernel
theorem dX12_mules_37 : decode cX12_mules 37 = .ok (.ireturn, 1) := by decide +kernel
theorem dX12_mules_38 : decode cX12_mules 38 = .ok (.aload_n 0, 1) := by decide +kernel
theorem dX12_mules_39 : decode cX12_mules 39 = .ok (.iconst (-1), 1) := by decide +kernel
theorem dX12_mules_40 : decode cX12_mules 40 = .ok (.iconst (-1), 1) := by decide +kernel
theorem dX12_mules_41 : decode cX12_mules 41 = .ok (.iload_n 1, 1) := by decide +kernel
theorem dX12_mules_42 : decode cX12_mules 42 = .ok (.invokevirtual 170, 3) := by decide +kernel
theorem dX12_mules_45 : decode cX12_mules 45 = .ok (.ifCond .eq 14, 3) := by decide +kernel
theorem dX12_mules_48 : decode cX12_mules 48 = .ok (.iload_n 2, 1) := by decide +kernel
theorem dX12_mules_49 : decode cX12_mules 49 = .ok (.ifCond .ne 7, 3) := by decide +kernel
theorem dX12_mules_52 : decode cX12_mules 52 = .ok (.iconst 0, 1) := by decide +kernel
theorem dX12_mules_53 : decode cX12_mules 53 = .ok (.goto 5, 3) := by decide +kernel
theorem dX12_mules_56 : decode cX12_mules 56 = .ok (.bipush (-9), 2) := by decide +kernel
theorem dX12_mules_58 : decode cX12_mules 58 = .ok (.ireturn, 1) := by decide +kernel
theorem dX12_mules_59 : decode cX12_mules 59 = .ok (.iconst 0, 1) := by decide +kernel
theorem dX12_mules_60 : decode cX12_mules 60 = .ok (.istore_n 3, 1) := by decide +kernel
theorem dX12_mules_61 : decode cX12_mules 61 = .ok (.iload_n 3, 1) := by decide +kernel
theorem dX12_mules_62 : decode cX12_mules 62 = .ok (.bipush 36, 2) := by decide +kernel
theorem dX12_mules_64 : decode cX12_mules 64 = .ok (.if_icmp .ge 50, 3) := by decide +kernel
theorem dX12_mules_67 : decode cX12_mules 67 = .ok (.aload_n 0, 1) := by decide +kernel
theorem dX12_mules_68 : decode cX12_mules 68 = .ok (.iload_n 3, 1) := by decide +kernel
theorem dX12_mules_69 : decode cX12_mules 69 = .ok (.invokevirtual 173, 3) := by decide +kernel
theorem dX12_mules_72 : decode cX12_mules 72 = .ok (.ifCond .eq 36, 3) := by decide +kernel
theorem dX12_mules_75 : decode cX12_mules 75 = .ok (.aload_n 0, 1) := by decide +kernel
theorem dX12_mules_76 : decode cX12_mules 76 = .ok (.iload_n 3, 1) := by decide +kernel
theorem dX12_mules_77 : decode cX12_mules 77 = .ok (.iconst (-1), 1) := by decide +kernel
theorem dX12_mules_78 : decode cX12_mules 78 = .ok (.iload_n 1, 1) := by decide +kernel
theorem dX12_mules_79 : decode cX12_mules 79 = .ok (.invokevirtual 170, 3) := by decide +kernel
theorem dX12_mules_82 : decode cX12_mules 82 = .ok (.ifCond .eq 26, 3) := by decide +kernel
theorem dX12_mules_85 : decode cX12_mules 85 = .ok (.iload_n 2, 1) := by decide +kernel
theorem dX12_mules_86 : decode cX12_mules 86 = .ok (.ifCond .ne 7, 3) := by decide +kernel
theorem dX12_mules_89 : decode cX12_mules 89 = .ok (.iconst 1, 1) := by decide +kernel
theorem dX12_mules_90 : decode cX12_mules 90 = .ok (.goto 17, 3) := by decide +kernel
theorem dX12_mules_93 : decode cX12_mules 93 = .ok (.iload_n 2, 1) := by decide +kernel
theorem dX12_mules_94 : decode cX12_mules 94 = .ok (.iconst 1, 1) := by decide +kernel
theorem dX12_mules_95 : decode cX12_mules 95 = .ok (.if_icmp .ne 10, 3) := by decide +kernel
