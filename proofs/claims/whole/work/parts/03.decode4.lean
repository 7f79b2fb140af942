theorem dX12_mules_98 : decode cX12_mules 98 = .ok (.iload_n 3, 1) := by decide +kernel
theorem dX12_mules_99 : decode cX12_mules 99 = .ok (.invokestatic 176, 3) := by decide +kernel
theorem dX12_mules_102 : decode cX12_mules 102 = .ok (.goto 5, 3) := by decide +kernel
theorem dX12_mules_105 : decode cX12_mules 105 = .ok (.bipush (-9), 2) := by decide +kernel
theorem dX12_mules_107 : decode cX12_mules 107 = .ok (.ireturn, 1) := by decide +kernel
theorem dX12_mules_108 : decode cX12_mules 108 = .ok (.iinc 3 1, 3) := by decide +kernel
theorem dX12_mules_111 : decode cX12_mules 111 = .ok (.goto (-50), 3) := by decide +kernel
theorem dX12_mules_114 : decode cX12_mules 114 = .ok (.iconst 0, 1) := by decide +kernel
theorem dX12_mules_115 : decode cX12_mules 115 = .ok (.istore_n 3, 1) := by decide +kernel
theorem dX12_mules_116 : decode cX12_mules 116 = .ok (.iload_n 3, 1) := by decide +kernel
theorem dX12_mules_117 : decode cX12_mules 117 = .ok (.bipush 36, 2) := by decide +kernel
theorem dX12_mules_119 : decode cX12_mules 119 = .ok (.if_icmp .ge 78, 3) := by decide +kernel
theorem dX12_mules_122 : decode cX12_mules 122 = .ok (.iload_n 3, 1) := by decide +kernel
theorem dX12_mules_123 : decode cX12_mules 123 = .ok (.iconst 1, 1) := by decide +kernel
theorem dX12_mules_124 : decode cX12_mules 124 = .ok (.iadd, 1) := by decide +kernel
theorem dX12_mules_125 : decode cX12_mules 125 = .ok (.istore 4, 2) := by decide +kernel
theorem dX12_mules_127 : decode cX12_mules 127 = .ok (.iload 4, 2) := by decide +kernel
theorem dX12_mules_129 : decode cX12_mules 129 = .ok (.bipush 36, 2) := by decide +kernel
theorem dX12_mules_131 : decode cX12_mules 131 = .ok (.if_icmp .ge 60, 3) := by decide +kernel
theorem dX12_mules_134 : decode cX12_mules 134 = .ok (.aload_n 0, 1) := by decide +kernel
theorem dX12_mules_135 : decode cX12_mules 135 = .ok (.iload_n 3, 1) := by decide +kernel
theorem dX12_mules_136 : decode cX12_mules 136 = .ok (.invokevirtual 173, 3) := by decide +kernel
theorem dX12_mules_139 : decode cX12_mules 139 = .ok (.ifCond .eq 46, 3) := by decide +kernel
theorem dX12_mules_142 : decode cX12_mules 142 = .ok (.aload_n 0, 1) := by decide +kernel
theorem dX12_mules_143 : decode cX12_mules 143 = .ok (.iload 4, 2) := by decide +kernel
theorem dX12_mules_145 : decode cX12_mules 145 = .ok (.invokevirtual 173, 3) := by decide +kernel
theorem dX12_mules_148 : decode cX12_mules 148 = .ok (.ifCond .eq 37, 3) := by decide +kernel
theorem dX12_mules_151 : decode cX12_mules 151 = .ok (.aload_n 0, 1) := by decide +kernel
theorem dX12_mules_152 : decode cX12_mules 152 = .ok (.iload_n 3, 1) := by decide +kernel
theorem dX12_mules_153 : decode cX12_mules 153 = .ok (.iload 4, 2) := by decide +kernel
theorem dX12_mules_155 : decode cX12_mules 155 = .ok (.iload_n 1, 1) := by decide +kernel
theorem dX12_mules_156 : decode cX12_mules 156 = .ok (.invokevirtual 170, 3) := by decide +kernel
theorem dX12_mules_159 : decode cX12_mules 159 = .ok (.ifCond .eq 26, 3) := by decide +kernel
theorem dX12_mules_162 : decode cX12_mules 162 = .ok (.iload_n 2, 1) := by decide +kernel
theorem dX12_mules_163 : decode cX12_mules 163 = .ok (.ifCond .ne 7, 3) := by decide +kernel
theorem dX12_mules_166 : decode cX12_mules 166 = .ok (.iconst 2, 1) := by decide +kernel
theorem dX12_mules_167 : decode cX12_mules 167 = .ok (.goto 17, 3) := by decide +kernel
theorem dX12_mules_170 : decode cX12_mules 170 = .ok (.iload_n 2, 1) := by decide +kernel
theorem dX12_mules_171 : decode cX12_mules 171 = .ok (.iconst 1, 1) := by decide +kernel
theorem dX12_mules_172 : decode cX12_mules 172 = .ok (.if_icmp .ne 7, 3) := by decide +kernel
theorem dX12_mules_175 : decode cX12_mules 175 = .ok (.iload_n 3, 1) := by decide +kernel
theorem dX12_mules_176 : decode cX12_mules 176 = .ok (.goto 5, 3) := by decide +kernel
theorem dX12_mules_179 : decode cX12_mules 179 = .ok (.iload 4, 2) := by decide +kernel
theorem dX12_mules_181 : decode cX12_mules 181 = .ok (.invokestatic 176, 3) := by decide +kernel
theorem dX12_mules_184 : decode cX12_mules 184 = .ok (.ireturn, 1) := by decide +kernel
theorem dX12_mules_185 : decode cX12_mules 185 = .ok (.iinc 4 1, 3) := by decide +kernel
theorem dX12_mules_188 : decode cX12_mules 188 = .ok (.goto (-61), 3) := by decide +kernel
theorem dX12_mules_191 : decode cX12_mules 191 = .ok (.iinc 3 1, 3) := by decide +kernel
theorem dX12_mules_194 : decode cX12_mules 194 = .ok (.goto (-78), 3) := by decide +kernel
theorem dX12_mules_197 : decode cX12_mules 197 = .ok (.bipush (-9), 2) := by decide +kernel
theorem dX12_mules_199 : decode cX12_mules 199 = .ok (.ireturn, 1) := by decide +kernel
theorem dX12_fastest_0 : decode cX12_fastest 0 = .ok (.aload_n 0, 1) := by decide +kernel
theorem dX12_fastest_1 : decode cX12_fastest 1 = .ok (.iconst 0, 1) := by decide +kernel
theorem dX12_fastest_2 : decode cX12_fastest 2 = .ok (.putfield 62, 3) := by decide +kernel
theorem dX12_fastest_5 : decode cX12_fastest 5 = .ok (.bipush (-9), 2) := by decide +kernel
theorem dX12_fastest_7 : decode cX12_fastest 7 = .ok (.istore_n 1, 1) := by decide +kernel
theorem dX12_fastest_8 : decode cX12_fastest 8 = .ok (.iconst 0, 1) := by decide +kernel
theorem dX12_fastest_9 : decode cX12_fastest 9 = .ok (.istore_n 2, 1) := by decide +kernel
theorem dX12_fastest_10 : decode cX12_fastest 10 = .ok (.iconst 1, 1) := by decide +kernel
theorem dX12_fastest_11 : decode cX12_fastest 11 = .ok (.istore_n 3, 1) := by decide +kernel
theorem dX12_fastest_12 : decode cX12_fastest 12 = .ok (.iconst 0, 1) := by decide +kernel
theorem dX12_fastest_13 : decode cX12_fastest 13 = .ok (.istore 4, 2) := by decide +kernel
theorem dX12_fastest_15 : decode cX12_fastest 15 = .ok (.iload 4, 2) := by decide +kernel
theorem dX12_fastest_17 : decode cX12_fastest 17 = .ok (.aload_n 0, 1) := by decide +kernel
theorem dX12_fastest_18 : decode cX12_fastest 18 = .ok (.getfield 13, 3) := by decide +kernel
theorem dX12_fastest_21 : decode cX12_fastest 21 = .ok (.iconst 0, 1) := by decide +kernel
theorem dX12_fastest_22 : decode cX12_fastest 22 = .ok (.iaload, 1) := by decide +kernel
theorem dX12_fastest_23 : decode cX12_fastest 23 = .ok (.if_icmp .ge 78, 3) := by decide +kernel
theorem dX12_fastest_26 : decode cX12_fastest 26 = .ok (.aload_n 0, 1) := by decide +kernel
theorem dX12_fastest_27 : decode cX12_fastest 27 = .ok (.invokevirtual 148, 3) := by decide +kernel
theorem dX12_fastest_30 : decode cX12_fastest 30 = .ok (.aload_n 0, 1) := by decide +kernel
theorem dX12_fastest_31 : decode cX12_fastest 31 = .ok (.getfield 28, 3) := by decide +kernel
theorem dX12_fastest_34 : decode cX12_fastest 34 = .ok (.iconst 2, 1) := by decide +kernel
theorem dX12_fastest_35 : decode cX12_fastest 35 = .ok (.iload 4, 2) := by decide +kernel
theorem dX12_fastest_37 : decode cX12_fastest 37 = .ok (.iastore, 1) := by decide +kernel
theorem dX12_fastest_38 : decode cX12_fastest 38 = .ok (.aload_n 0, 1) := by decide +kernel
theorem dX12_fastest_39 : decode cX12_fastest 39 = .ok (.aload_n 0, 1) := by decide +kernel
theorem dX12_fastest_40 : decode cX12_fastest 40 = .ok (.getfield 28, 3) := by decide +kernel
theorem dX12_fastest_43 : decode cX12_fastest 43 = .ok (.aload_n 0, 1) := by decide +kernel
theorem dX12_fastest_44 : decode cX12_fastest 44 = .ok (.getfield 56, 3) := by decide +kernel
theorem dX12_fastest_47 : decode cX12_fastest 47 = .ok (.invokevirtual 166, 3) := by decide +kernel
theorem dX12_fastest_50 : decode cX12_fastest 50 = .ok (.ifCond .eq 45, 3) := by decide +kernel
theorem dX12_fastest_53 : decode cX12_fastest 53 = .ok (.iload_n 1, 1) := by decide +kernel
theorem dX12_fastest_54 : decode cX12_fastest 54 = .ok (.bipush (-9), 2) := by decide +kernel
theorem dX12_fastest_56 : decode cX12_fastest 56 = .ok (.if_icmp .eq 22, 3) := by decide +kernel
theorem dX12_fastest_59 : decode cX12_fastest 59 = .ok (.aload_n 0, 1) := by decide +kernel
theorem dX12_fastest_60 : decode cX12_fastest 60 = .ok (.getfield 56, 3) := by decide +kernel
theorem dX12_fastest_63 : decode cX12_fastest 63 = .ok (.iconst 2, 1) := by decide +kernel
theorem dX12_fastest_64 : decode cX12_fastest 64 = .ok (.iaload, 1) := by decide +kernel
theorem dX12_fastest_65 : decode cX12_fastest 65 = .ok (.iload_n 3, 1) := by decide +kernel
theorem dX12_fastest_66 : decode cX12_fastest 66 = .ok (.imul, 1) := by decide +kernel
theorem dX12_fastest_67 : decode cX12_fastest 67 = .ok (.iload_n 2, 1) := by decide +kernel
theorem dX12_fastest_68 : decode cX12_fastest 68 = .ok (.aload_n 0, 1) := by decide +kernel
theorem dX12_fastest_69 : decode cX12_fastest 69 = .ok (.getfield 56, 3) := by decide +kernel
theorem dX12_fastest_72 : decode cX12_fastest 72 = .ok (.iconst 1, 1) := by decide +kernel
theorem dX12_fastest_73 : decode cX12_fastest 73 = .ok (.iaload, 1) := by decide +kernel
theorem dX12_fastest_74 : decode cX12_fastest 74 = .ok (.imul, 1) := by decide +kernel
theorem dX12_fastest_75 : decode cX12_fastest 75 = .ok (.if_icmp .ge 20, 3) := by decide +kernel
theorem dX12_fastest_78 : decode cX12_fastest 78 = .ok (.iload 4, 2) := by decide +kernel
theorem dX12_fastest_80 : decode cX12_fastest 80 = .ok (.istore_n 1, 1) := by decide +kernel
theorem dX12_fastest_81 : decode cX12_fastest 81 = .ok (.aload_n 0, 1) := by decide +kernel
theorem dX12_fastest_82 : decode cX12_fastest 82 = .ok (.getfield 56, 3) := by decide +kernel
theorem dX12_fastest_85 : decode cX12_fastest 85 = .ok (.iconst 2, 1) := by decide +kernel
theorem dX12_fastest_86 : decode cX12_fastest 86 = .ok (.iaload, 1) := by decide +kernel
theorem dX12_fastest_87 : decode cX12_fastest 87 = .ok (.istore_n 2, 1) := by decide +kernel
theorem dX12_fastest_88 : decode cX12_fastest 88 = .ok (.aload_n 0, 1) := by decide +kernel
theorem dX12_fastest_89 : decode cX12_fastest 89 = .ok (.getfield 56, 3) := by decide +kernel
theorem dX12_fastest_92 : decode cX12_fastest 92 = .ok (.iconst 1, 1) := by decide +kernel
theorem dX12_fastest_93 : decode cX12_fastest 93 = .ok (.iaload, 1) := by decide +kernel
theorem dX12_fastest_94 : decode cX12_fastest 94 = .ok (.istore_n 3, 1) := by decide +kernel
theorem dX12_fastest_95 : decode cX12_fastest 95 = .ok (.iinc 4 1, 3) := by decide +kernel
theorem dX12_fastest_98 : decode cX12_fastest 98 = .ok (.goto (-83), 3) := by decide +kernel
theorem dX12_fastest_101 : decode cX12_fastest 101 = .ok (.iload_n 1, 1) := by decide +kernel
theorem dX12_fastest_102 : decode cX12_fastest 102 = .ok (.ireturn, 1) := by decide +kernel
theorem dX12_heard_0 : decode cX12_heard 0 = .ok (.aload_n 0, 1) := by decide +kernel
theorem dX12_heard_1 : decode cX12_heard 1 = .ok (.iconst 0, 1) := by decide +kernel
theorem dX12_heard_2 : decode cX12_heard 2 = .ok (.putfield 62, 3) := by decide +kernel
theorem dX12_heard_5 : decode cX12_heard 5 = .ok (.aload_n 0, 1) := by decide +kernel
theorem dX12_heard_6 : decode cX12_heard 6 = .ok (.iload_n 1, 1) := by decide +kernel
theorem dX12_heard_7 : decode cX12_heard 7 = .ok (.invokevirtual 133, 3) := by decide +kernel
theorem dX12_heard_10 : decode cX12_heard 10 = .ok (.ifCond .eq 14, 3) := by decide +kernel
theorem dX12_heard_13 : decode cX12_heard 13 = .ok (.iload_n 2, 1) := by decide +kernel
theorem dX12_heard_14 : decode cX12_heard 14 = .ok (.iconst 0, 1) := by decide +kernel
theorem dX12_heard_15 : decode cX12_heard 15 = .ok (.sipush 200, 3) := by decide +kernel
theorem dX12_heard_18 : decode cX12_heard 18 = .ok (.invokestatic 66, 3) := by decide +kernel
theorem dX12_heard_21 : decode cX12_heard 21 = .ok (.ifCond .ne 5, 3) := by decide +kernel
theorem dX12_heard_24 : decode cX12_heard 24 = .ok (.iconst (-1), 1) := by decide +kernel
theorem dX12_heard_25 : decode cX12_heard 25 = .ok (.ireturn, 1) := by decide +kernel
theorem dX12_heard_26 : decode cX12_heard 26 = .ok (.aload_n 0, 1) := by decide +kernel
theorem dX12_heard_27 : decode cX12_heard 27 = .ok (.getfield 124, 3) := by decide +kernel
theorem dX12_heard_30 : decode cX12_heard 30 = .ok (.iconst 5, 1) := by decide +kernel
theorem dX12_heard_31 : decode cX12_heard 31 = .ok (.if_icmp .ne 6, 3) := by decide +kernel
theorem dX12_heard_34 : decode cX12_heard 34 = .ok (.bipush (-3), 2) := by decide +kernel
theorem dX12_heard_36 : decode cX12_heard 36 = .ok (.ireturn, 1) := by decide +kernel
theorem dX12_heard_37 : decode cX12_heard 37 = .ok (.aload_n 0, 1) := by decide +kernel
theorem dX12_heard_38 : decode cX12_heard 38 = .ok (.getfield 41, 3) := by decide +kernel
theorem dX12_heard_41 : decode cX12_heard 41 = .ok (.aload_n 0, 1) := by decide +kernel
theorem dX12_heard_42 : decode cX12_heard 42 = .ok (.getfield 124, 3) := by decide +kernel
theorem dX12_heard_45 : decode cX12_heard 45 = .ok (.iload_n 1, 1) := by decide +kernel
theorem dX12_heard_46 : decode cX12_heard 46 = .ok (.iastore, 1) := by decide +kernel
theorem dX12_heard_47 : decode cX12_heard 47 = .ok (.aload_n 0, 1) := by decide +kernel
theorem dX12_heard_48 : decode cX12_heard 48 = .ok (.getfield 44, 3) := by decide +kernel
theorem dX12_heard_51 : decode cX12_heard 51 = .ok (.aload_n 0, 1) := by decide +kernel
theorem dX12_heard_52 : decode cX12_heard 52 = .ok (.getfield 124, 3) := by decide +kernel
theorem dX12_heard_55 : decode cX12_heard 55 = .ok (.iload_n 2, 1) := by decide +kernel
theorem dX12_heard_56 : decode cX12_heard 56 = .ok (.iastore, 1) := by decide +kernel
theorem dX12_heard_57 : decode cX12_heard 57 = .ok (.aload_n 0, 1) := by decide +kernel
theorem dX12_heard_58 : decode cX12_heard 58 = .ok (.dup, 1) := by decide +kernel
theorem dX12_heard_59 : decode cX12_heard 59 = .ok (.getfield 124, 3) := by decide +kernel
theorem dX12_heard_62 : decode cX12_heard 62 = .ok (.iconst 1, 1) := by decide +kernel
theorem dX12_heard_63 : decode cX12_heard 63 = .ok (.iadd, 1) := by decide +kernel
theorem dX12_heard_64 : decode cX12_heard 64 = .ok (.putfield 124, 3) := by decide +kernel
theorem dX12_heard_67 : decode cX12_heard 67 = .ok (.aload_n 0, 1) := by decide +kernel
theorem dX12_heard_68 : decode cX12_heard 68 = .ok (.getfield 124, 3) := by decide +kernel
theorem dX12_heard_71 : decode cX12_heard 71 = .ok (.ireturn, 1) := by decide +kernel
theorem dX12_forget_0 : decode cX12_forget 0 = .ok (.aload_n 0, 1) := by decide +kernel
theorem dX12_forget_1 : decode cX12_forget 1 = .ok (.iconst 0, 1) := by decide +kernel
theorem dX12_forget_2 : decode cX12_forget 2 = .ok (.putfield 62, 3) := by decide +kernel
theorem dX12_forget_5 : decode cX12_forget 5 = .ok (.aload_n 0, 1) := by decide +kernel
theorem dX12_forget_6 : decode cX12_forget 6 = .ok (.getfield 124, 3) := by decide +kernel
theorem dX12_forget_9 : decode cX12_forget 9 = .ok (.istore_n 1, 1) := by decide +kernel
theorem dX12_forget_10 : decode cX12_forget 10 = .ok (.aload_n 0, 1) := by decide +kernel
theorem dX12_forget_11 : decode cX12_forget 11 = .ok (.iconst 0, 1) := by decide +kernel
theorem dX12_forget_12 : decode cX12_forget 12 = .ok (.putfield 124, 3) := by decide +kernel
theorem dX12_forget_15 : decode cX12_forget 15 = .ok (.iload_n 1, 1) := by decide +kernel
theorem dX12_forget_16 : decode cX12_forget 16 = .ok (.ireturn, 1) := by decide +kernel
theorem dX12_isHeard_0 : decode cX12_isHeard 0 = .ok (.aload_n 0, 1) := by decide +kernel
theorem dX12_isHeard_1 : decode cX12_isHeard 1 = .ok (.aload_n 0, 1) := by decide +kernel
theorem dX12_isHeard_2 : decode cX12_isHeard 2 = .ok (.getfield 28, 3) := by decide +kernel
theorem dX12_isHeard_5 : decode cX12_isHeard 5 = .ok (.iload_n 1, 1) := by decide +kernel
theorem dX12_isHeard_6 : decode cX12_isHeard 6 = .ok (.invokevirtual 120, 3) := by decide +kernel
theorem dX12_isHeard_9 : decode cX12_isHeard 9 = .ok (.iconst 0, 1) := by decide +kernel
theorem dX12_isHeard_10 : decode cX12_isHeard 10 = .ok (.istore 4, 2) := by decide +kernel
theorem dX12_isHeard_12 : decode cX12_isHeard 12 = .ok (.iconst 1, 1) := by decide +kernel
theorem dX12_isHeard_13 : decode cX12_isHeard 13 = .ok (.istore 5, 2) := by decide +kernel
theorem dX12_isHeard_15 : decode cX12_isHeard 15 = .ok (.iload 5, 2) := by decide +kernel
theorem dX12_isHeard_17 : decode cX12_isHeard 17 = .ok (.ifCond .eq 75, 3) := by decide +kernel
theorem dX12_isHeard_20 : decode cX12_isHeard 20 = .ok (.aload_n 0, 1) := by decide +kernel
theorem dX12_isHeard_21 : decode cX12_isHeard 21 = .ok (.getfield 28, 3) := by decide +kernel
theorem dX12_isHeard_24 : decode cX12_isHeard 24 = .ok (.iconst 1, 1) := by decide +kernel
theorem dX12_isHeard_25 : decode cX12_isHeard 25 = .ok (.iaload, 1) := by decide +kernel
theorem dX12_isHeard_26 : decode cX12_isHeard 26 = .ok (.iload_n 3, 1) := by decide +kernel
theorem dX12_isHeard_27 : decode cX12_isHeard 27 = .ok (.if_icmp .gt 65, 3) := by decide +kernel
theorem dX12_isHeard_30 : decode cX12_isHeard 30 = .ok (.aload_n 0, 1) := by decide +kernel
theorem dX12_isHeard_31 : decode cX12_isHeard 31 = .ok (.aload_n 0, 1) := by decide +kernel
theorem dX12_isHeard_32 : decode cX12_isHeard 32 = .ok (.getfield 28, 3) := by decide +kernel
theorem dX12_isHeard_35 : decode cX12_isHeard 35 = .ok (.iload_n 2, 1) := by decide +kernel
theorem dX12_isHeard_36 : decode cX12_isHeard 36 = .ok (.aload_n 0, 1) := by decide +kernel
theorem dX12_isHeard_37 : decode cX12_isHeard 37 = .ok (.getfield 28, 3) := by decide +kernel
theorem dX12_isHeard_40 : decode cX12_isHeard 40 = .ok (.iconst 2, 1) := by decide +kernel
theorem dX12_isHeard_41 : decode cX12_isHeard 41 = .ok (.iaload, 1) := by decide +kernel
theorem dX12_isHeard_42 : decode cX12_isHeard 42 = .ok (.invokevirtual 140, 3) := by decide +kernel
theorem dX12_isHeard_45 : decode cX12_isHeard 45 = .ok (.istore 6, 2) := by decide +kernel
theorem dX12_isHeard_47 : decode cX12_isHeard 47 = .ok (.iload 4, 2) := by decide +kernel
theorem dX12_isHeard_49 : decode cX12_isHeard 49 = .ok (.ifCond .ne 23, 3) := by decide +kernel
theorem dX12_isHeard_52 : decode cX12_isHeard 52 = .ok (.iload 6, 2) := by decide +kernel
theorem dX12_isHeard_54 : decode cX12_isHeard 54 = .ok (.bipush (-9), 2) := by decide +kernel
theorem dX12_isHeard_56 : decode cX12_isHeard 56 = .ok (.if_icmp .eq 20, 3) := by decide +kernel
theorem dX12_isHeard_59 : decode cX12_isHeard 59 = .ok (.aload_n 0, 1) := by decide +kernel
theorem dX12_isHeard_60 : decode cX12_isHeard 60 = .ok (.getfield 28, 3) := by decide +kernel
theorem dX12_isHeard_63 : decode cX12_isHeard 63 = .ok (.iconst 1, 1) := by decide +kernel
theorem dX12_isHeard_64 : decode cX12_isHeard 64 = .ok (.iaload, 1) := by decide +kernel
theorem dX12_isHeard_65 : decode cX12_isHeard 65 = .ok (.iload 6, 2) := by decide +kernel
theorem dX12_isHeard_67 : decode cX12_isHeard 67 = .ok (.iadd, 1) := by decide +kernel
theorem dX12_isHeard_68 : decode cX12_isHeard 68 = .ok (.iload_n 3, 1) := by decide +kernel
theorem dX12_isHeard_69 : decode cX12_isHeard 69 = .ok (.if_icmp .ne 7, 3) := by decide +kernel
theorem dX12_isHeard_72 : decode cX12_isHeard 72 = .ok (.iconst 1, 1) := by decide +kernel
theorem dX12_isHeard_73 : decode cX12_isHeard 73 = .ok (.goto 4, 3) := by decide +kernel
theorem dX12_isHeard_76 : decode cX12_isHeard 76 = .ok (.iconst 0, 1) := by decide +kernel
theorem dX12_isHeard_77 : decode cX12_isHeard 77 = .ok (.istore 4, 2) := by decide +kernel
theorem dX12_isHeard_79 : decode cX12_isHeard 79 = .ok (.aload_n 0, 1) := by decide +kernel
theorem dX12_isHeard_80 : decode cX12_isHeard 80 = .ok (.aload_n 0, 1) := by decide +kernel
theorem dX12_isHeard_81 : decode cX12_isHeard 81 = .ok (.getfield 28, 3) := by decide +kernel
theorem dX12_isHeard_84 : decode cX12_isHeard 84 = .ok (.invokevirtual 151, 3) := by decide +kernel
theorem dX12_isHeard_87 : decode cX12_isHeard 87 = .ok (.istore 5, 2) := by decide +kernel
theorem dX12_isHeard_89 : decode cX12_isHeard 89 = .ok (.goto (-74), 3) := by decide +kernel
theorem dX12_isHeard_92 : decode cX12_isHeard 92 = .ok (.iload 4, 2) := by decide +kernel
theorem dX12_isHeard_94 : decode cX12_isHeard 94 = .ok (.ireturn, 1) := by decide +kernel
theorem dX12_mayBe_0 : decode cX12_mayBe 0 = .ok (.aload_n 0, 1) := by decide +kernel
theorem dX12_mayBe_1 : decode cX12_mayBe 1 = .ok (.iconst 0, 1) := by decide +kernel
theorem dX12_mayBe_2 : decode cX12_mayBe 2 = .ok (.putfield 62, 3) := by decide +kernel
theorem dX12_mayBe_5 : decode cX12_mayBe 5 = .ok (.iconst 0, 1) := by decide +kernel
theorem dX12_mayBe_6 : decode cX12_mayBe 6 = .ok (.istore_n 1, 1) := by decide +kernel
theorem dX12_mayBe_7 : decode cX12_mayBe 7 = .ok (.iconst 0, 1) := by decide +kernel
theorem dX12_mayBe_8 : decode cX12_mayBe 8 = .ok (.istore_n 2, 1) := by decide +kernel
theorem dX12_mayBe_9 : decode cX12_mayBe 9 = .ok (.iload_n 2, 1) := by decide +kernel
theorem dX12_mayBe_10 : decode cX12_mayBe 10 = .ok (.aload_n 0, 1) := by decide +kernel
theorem dX12_mayBe_11 : decode cX12_mayBe 11 = .ok (.getfield 13, 3) := by decide +kernel
theorem dX12_mayBe_14 : decode cX12_mayBe 14 = .ok (.iconst 0, 1) := by decide +kernel
theorem dX12_mayBe_15 : decode cX12_mayBe 15 = .ok (.iaload, 1) := by decide +kernel
theorem dX12_mayBe_16 : decode cX12_mayBe 16 = .ok (.if_icmp .ge 75, 3) := by decide +kernel
theorem dX12_mayBe_19 : decode cX12_mayBe 19 = .ok (.iconst 1, 1) := by decide +kernel
theorem dX12_mayBe_20 : decode cX12_mayBe 20 = .ok (.istore_n 3, 1) := by decide +kernel
theorem dX12_mayBe_21 : decode cX12_mayBe 21 = .ok (.iconst 0, 1) := by decide +kernel
theorem dX12_mayBe_22 : decode cX12_mayBe 22 = .ok (.istore 4, 2) := by decide +kernel
theorem dX12_mayBe_24 : decode cX12_mayBe 24 = .ok (.iload 4, 2) := by decide +kernel
theorem dX12_mayBe_26 : decode cX12_mayBe 26 = .ok (.aload_n 0, 1) := by decide +kernel
theorem dX12_mayBe_27 : decode cX12_mayBe 27 = .ok (.getfield 124, 3) := by decide +kernel
theorem dX12_mayBe_30 : decode cX12_mayBe 30 = .ok (.if_icmp .ge 41, 3) := by decide +kernel
theorem dX12_mayBe_33 : decode cX12_mayBe 33 = .ok (.iload_n 3, 1) := by decide +kernel
theorem dX12_mayBe_34 : decode cX12_mayBe 34 = .ok (.ifCond .eq 29, 3) := by decide +kernel
theorem dX12_mayBe_37 : decode cX12_mayBe 37 = .ok (.aload_n 0, 1) := by decide +kernel
theorem dX12_mayBe_38 : decode cX12_mayBe 38 = .ok (.iload_n 2, 1) := by decide +kernel
theorem dX12_mayBe_39 : decode cX12_mayBe 39 = .ok (.aload_n 0, 1) := by decide +kernel
theorem dX12_mayBe_40 : decode cX12_mayBe 40 = .ok (.getfield 41, 3) := by decide +kernel
theorem dX12_mayBe_43 : decode cX12_mayBe 43 = .ok (.iload 4, 2) := by decide +kernel
theorem dX12_mayBe_45 : decode cX12_mayBe 45 = .ok (.iaload, 1) := by decide +kernel
theorem dX12_mayBe_46 : decode cX12_mayBe 46 = .ok (.aload_n 0, 1) := by decide +kernel
theorem dX12_mayBe_47 : decode cX12_mayBe 47 = .ok (.getfield 44, 3) := by decide +kernel
theorem dX12_mayBe_50 : decode cX12_mayBe 50 = .ok (.iload 4, 2) := by decide +kernel
theorem dX12_mayBe_52 : decode cX12_mayBe 52 = .ok (.iaload, 1) := by decide +kernel
theorem dX12_mayBe_53 : decode cX12_mayBe 53 = .ok (.invokevirtual 179, 3) := by decide +kernel
theorem dX12_mayBe_56 : decode cX12_mayBe 56 = .ok (.ifCond .eq 7, 3) := by decide +kernel
theorem dX12_mayBe_59 : decode cX12_mayBe 59 = .ok (.iconst 1, 1) := by decide +kernel
theorem dX12_mayBe_60 : decode cX12_mayBe 60 = .ok (.goto 4, 3) := by decide +kernel
theorem dX12_mayBe_63 : decode cX12_mayBe 63 = .ok (.iconst 0, 1) := by decide +kernel
theorem dX12_mayBe_64 : decode cX12_mayBe 64 = .ok (.istore_n 3, 1) := by decide +kernel
theorem dX12_mayBe_65 : decode cX12_mayBe 65 = .ok (.iinc 4 1, 3) := by decide +kernel
theorem dX12_mayBe_68 : decode cX12_mayBe 68 = .ok (.goto (-44), 3) := by decide +kernel
theorem dX12_mayBe_71 : decode cX12_mayBe 71 = .ok (.iload_n 1, 1) := by decide +kernel
theorem dX12_mayBe_72 : decode cX12_mayBe 72 = .ok (.iload_n 3, 1) := by decide +kernel
theorem dX12_mayBe_73 : decode cX12_mayBe 73 = .ok (.ifCond .eq 9, 3) := by decide +kernel
theorem dX12_mayBe_76 : decode cX12_mayBe 76 = .ok (.iconst 1, 1) := by decide +kernel
theorem dX12_mayBe_77 : decode cX12_mayBe 77 = .ok (.iload_n 2, 1) := by decide +kernel
theorem dX12_mayBe_78 : decode cX12_mayBe 78 = .ok (.ishl, 1) := by decide +kernel
theorem dX12_mayBe_79 : decode cX12_mayBe 79 = .ok (.goto 4, 3) := by decide +kernel
theorem dX12_mayBe_82 : decode cX12_mayBe 82 = .ok (.iconst 0, 1) := by decide +kernel
theorem dX12_mayBe_83 : decode cX12_mayBe 83 = .ok (.ior, 1) := by decide +kernel
theorem dX12_mayBe_84 : decode cX12_mayBe 84 = .ok (.istore_n 1, 1) := by decide +kernel
theorem dX12_mayBe_85 : decode cX12_mayBe 85 = .ok (.iinc 2 1, 3) := by decide +kernel
theorem dX12_mayBe_88 : decode cX12_mayBe 88 = .ok (.goto (-79), 3) := by decide +kernel
theorem dX12_mayBe_91 : decode cX12_mayBe 91 = .ok (.iload_n 1, 1) := by decide +kernel
theorem dX12_mayBe_92 : decode cX12_mayBe 92 = .ok (.ireturn, 1) := by decide +kernel
theorem dX12_tells_0 : decode cX12_tells 0 = .ok (.aload_n 0, 1) := by decide +kernel
theorem dX12_tells_1 : decode cX12_tells 1 = .ok (.iconst 0, 1) := by decide +kernel
theorem dX12_tells_2 : decode cX12_tells 2 = .ok (.putfield 62, 3) := by decide +kernel
theorem dX12_tells_5 : decode cX12_tells 5 = .ok (.iload_n 1, 1) := by decide +kernel
theorem dX12_tells_6 : decode cX12_tells 6 = .ok (.iconst 0, 1) := by decide +kernel
theorem dX12_tells_7 : decode cX12_tells 7 = .ok (.sipush 400, 3) := by decide +kernel
theorem dX12_tells_10 : decode cX12_tells 10 = .ok (.invokestatic 66, 3) := by decide +kernel
theorem dX12_tells_13 : decode cX12_tells 13 = .ok (.ifCond .ne 5, 3) := by decide +kernel
theorem dX12_tells_16 : decode cX12_tells 16 = .ok (.iconst (-1), 1) := by decide +kernel
theorem dX12_tells_17 : decode cX12_tells 17 = .ok (.ireturn, 1) := by decide +kernel
theorem dX12_tells_18 : decode cX12_tells 18 = .ok (.aload_n 0, 1) := by decide +kernel
theorem dX12_tells_19 : decode cX12_tells 19 = .ok (.getfield 127, 3) := by decide +kernel
theorem dX12_tells_22 : decode cX12_tells 22 = .ok (.bipush 6, 2) := by decide +kernel
theorem dX12_tells_24 : decode cX12_tells 24 = .ok (.if_icmp .ne 6, 3) := by decide +kernel
theorem dX12_tells_27 : decode cX12_tells 27 = .ok (.bipush (-3), 2) := by decide +kernel
theorem dX12_tells_29 : decode cX12_tells 29 = .ok (.ireturn, 1) := by decide +kernel
theorem dX12_tells_30 : decode cX12_tells 30 = .ok (.aload_n 0, 1) := by decide +kernel
theorem dX12_tells_31 : decode cX12_tells 31 = .ok (.getfield 47, 3) := by decide +kernel
theorem dX12_tells_34 : decode cX12_tells 34 = .ok (.aload_n 0, 1) := by decide +kernel
theorem dX12_tells_35 : decode cX12_tells 35 = .ok (.getfield 127, 3) := by decide +kernel
theorem dX12_tells_38 : decode cX12_tells 38 = .ok (.iload_n 1, 1) := by decide +kernel
theorem dX12_tells_39 : decode cX12_tells 39 = .ok (.iastore, 1) := by decide +kernel
theorem dX12_tells_40 : decode cX12_tells 40 = .ok (.aload_n 0, 1) := by decide +kernel
theorem dX12_tells_41 : decode cX12_tells 41 = .ok (.dup, 1) := by decide +kernel
theorem dX12_tells_42 : decode cX12_tells 42 = .ok (.getfield 127, 3) := by decide +kernel
theorem dX12_tells_45 : decode cX12_tells 45 = .ok (.iconst 1, 1) := by decide +kernel
theorem dX12_tells_46 : decode cX12_tells 46 = .ok (.iadd, 1) := by decide +kernel
theorem dX12_tells_47 : decode cX12_tells 47 = .ok (.putfield 127, 3) := by decide +kernel
theorem dX12_tells_50 : decode cX12_tells 50 = .ok (.aload_n 0, 1) := by decide +kernel
theorem dX12_tells_51 : decode cX12_tells 51 = .ok (.getfield 127, 3) := by decide +kernel
theorem dX12_tells_54 : decode cX12_tells 54 = .ok (.ireturn, 1) := by decide +kernel
theorem dX12_unsay_0 : decode cX12_unsay 0 = .ok (.aload_n 0, 1) := by decide +kernel
theorem dX12_unsay_1 : decode cX12_unsay 1 = .ok (.iconst 0, 1) := by decide +kernel
theorem dX12_unsay_2 : decode cX12_unsay 2 = .ok (.putfield 62, 3) := by decide +kernel
theorem dX12_unsay_5 : decode cX12_unsay 5 = .ok (.aload_n 0, 1) := by decide +kernel
theorem dX12_unsay_6 : decode cX12_unsay 6 = .ok (.getfield 127, 3) := by decide +kernel
theorem dX12_unsay_9 : decode cX12_unsay 9 = .ok (.istore_n 1, 1) := by decide +kernel
theorem dX12_unsay_10 : decode cX12_unsay 10 = .ok (.aload_n 0, 1) := by decide +kernel
theorem dX12_unsay_11 : decode cX12_unsay 11 = .ok (.iconst 0, 1) := by decide +kernel
theorem dX12_unsay_12 : decode cX12_unsay 12 = .ok (.putfield 127, 3) := by decide +kernel
theorem dX12_unsay_15 : decode cX12_unsay 15 = .ok (.iload_n 1, 1) := by decide +kernel
theorem dX12_unsay_16 : decode cX12_unsay 16 = .ok (.ireturn, 1) := by decide +kernel
theorem dX12_isStroke_0 : decode cX12_isStroke 0 = .ok (.aload_n 0, 1) := by decide +kernel
theorem dX12_isStroke_1 : decode cX12_isStroke 1 = .ok (.aload_n 0, 1) := by decide +kernel
theorem dX12_isStroke_2 : decode cX12_isStroke 2 = .ok (.getfield 28, 3) := by decide +kernel
theorem dX12_isStroke_5 : decode cX12_isStroke 5 = .ok (.aload_n 0, 1) := by decide +kernel
theorem dX12_isStroke_6 : decode cX12_isStroke 6 = .ok (.getfield 13, 3) := by decide +kernel
theorem dX12_isStroke_9 : decode cX12_isStroke 9 = .ok (.iconst 2, 1) := by decide +kernel
theorem dX12_isStroke_10 : decode cX12_isStroke 10 = .ok (.iaload, 1) := by decide +kernel
theorem dX12_isStroke_11 : decode cX12_isStroke 11 = .ok (.invokevirtual 120, 3) := by decide +kernel
theorem dX12_isStroke_14 : decode cX12_isStroke 14 = .ok (.aload_n 0, 1) := by decide +kernel
theorem dX12_isStroke_15 : decode cX12_isStroke 15 = .ok (.getfield 13, 3) := by decide +kernel
theorem dX12_isStroke_18 : decode cX12_isStroke 18 = .ok (.iconst 0, 1) := by decide +kernel
theorem dX12_isStroke_19 : decode cX12_isStroke 19 = .ok (.iaload, 1) := by decide +kernel
theorem dX12_isStroke_20 : decode cX12_isStroke 20 = .ok (.ifCond .le 7, 3) := by decide +kernel
theorem dX12_isStroke_23 : decode cX12_isStroke 23 = .ok (.iconst 1, 1) := by decide +kernel
theorem dX12_isStroke_24 : decode cX12_isStroke 24 = .ok (.goto 4, 3) := by decide +kernel
theorem dX12_isStroke_27 : decode cX12_isStroke 27 = .ok (.iconst 0, 1) := by decide +kernel
theorem dX12_isStroke_28 : decode cX12_isStroke 28 = .ok (.istore_n 2, 1) := by decide +kernel
theorem dX12_isStroke_29 : decode cX12_isStroke 29 = .ok (.iload_n 2, 1) := by decide +kernel
theorem dX12_isStroke_30 : decode cX12_isStroke 30 = .ok (.ifCond .eq 25, 3) := by decide +kernel
theorem dX12_isStroke_33 : decode cX12_isStroke 33 = .ok (.aload_n 0, 1) := by decide +kernel
theorem dX12_isStroke_34 : decode cX12_isStroke 34 = .ok (.getfield 28, 3) := by decide +kernel
theorem dX12_isStroke_37 : decode cX12_isStroke 37 = .ok (.iconst 1, 1) := by decide +kernel
theorem dX12_isStroke_38 : decode cX12_isStroke 38 = .ok (.iaload, 1) := by decide +kernel
theorem dX12_isStroke_39 : decode cX12_isStroke 39 = .ok (.iload_n 1, 1) := by decide +kernel
theorem dX12_isStroke_40 : decode cX12_isStroke 40 = .ok (.if_icmp .ge 15, 3) := by decide +kernel
theorem dX12_isStroke_43 : decode cX12_isStroke 43 = .ok (.aload_n 0, 1) := by decide +kernel
theorem dX12_isStroke_44 : decode cX12_isStroke 44 = .ok (.aload_n 0, 1) := by decide +kernel
theorem dX12_isStroke_45 : decode cX12_isStroke 45 = .ok (.getfield 28, 3) := by decide +kernel
theorem dX12_isStroke_48 : decode cX12_isStroke 48 = .ok (.invokevirtual 151, 3) := by decide +kernel
theorem dX12_isStroke_51 : decode cX12_isStroke 51 = .ok (.istore_n 2, 1) := by decide +kernel
theorem dX12_isStroke_52 : decode cX12_isStroke 52 = .ok (.goto (-23), 3) := by decide +kernel
theorem dX12_isStroke_55 : decode cX12_isStroke 55 = .ok (.iload_n 2, 1) := by decide +kernel
theorem dX12_isStroke_56 : decode cX12_isStroke 56 = .ok (.ifCond .eq 17, 3) := by decide +kernel
theorem dX12_isStroke_59 : decode cX12_isStroke 59 = .ok (.aload_n 0, 1) := by decide +kernel
theorem dX12_isStroke_60 : decode cX12_isStroke 60 = .ok (.getfield 28, 3) := by decide +kernel
theorem dX12_isStroke_63 : decode cX12_isStroke 63 = .ok (.iconst 1, 1) := by decide +kernel
theorem dX12_isStroke_64 : decode cX12_isStroke 64 = .ok (.iaload, 1) := by decide +kernel
theorem dX12_isStroke_65 : decode cX12_isStroke 65 = .ok (.iload_n 1, 1) := by decide +kernel
theorem dX12_isStroke_66 : decode cX12_isStroke 66 = .ok (.if_icmp .ne 7, 3) := by decide +kernel
theorem dX12_isStroke_69 : decode cX12_isStroke 69 = .ok (.iconst 1, 1) := by decide +kernel
theorem dX12_isStroke_70 : decode cX12_isStroke 70 = .ok (.goto 4, 3) := by decide +kernel
theorem dX12_isStroke_73 : decode cX12_isStroke 73 = .ok (.iconst 0, 1) := by decide +kernel
theorem dX12_isStroke_74 : decode cX12_isStroke 74 = .ok (.ireturn, 1) := by decide +kernel
theorem dX12_tooMany_0 : decode cX12_tooMany 0 = .ok (.aload_n 0, 1) := by decide +kernel
theorem dX12_tooMany_1 : decode cX12_tooMany 1 = .ok (.iconst 0, 1) := by decide +kernel
theorem dX12_tooMany_2 : decode cX12_tooMany 2 = .ok (.putfield 62, 3) := by decide +kernel
theorem dX12_tooMany_5 : decode cX12_tooMany 5 = .ok (.iconst 0, 1) := by decide +kernel
theorem dX12_tooMany_6 : decode cX12_tooMany 6 = .ok (.istore_n 1, 1) := by decide +kernel
theorem dX12_tooMany_7 : decode cX12_tooMany 7 = .ok (.iconst 0, 1) := by decide +kernel
theorem dX12_tooMany_8 : decode cX12_tooMany 8 = .ok (.istore_n 2, 1) := by decide +kernel
theorem dX12_tooMany_9 : decode cX12_tooMany 9 = .ok (.iconst 0, 1) := by decide +kernel
theorem dX12_tooMany_10 : decode cX12_tooMany 10 = .ok (.istore_n 3, 1) := by decide +kernel
theorem dX12_tooMany_11 : decode cX12_tooMany 11 = .ok (.iload_n 3, 1) := by decide +kernel
theorem dX12_tooMany_12 : decode cX12_tooMany 12 = .ok (.aload_n 0, 1) := by decide +kernel
theorem dX12_tooMany_13 : decode cX12_tooMany 13 = .ok (.getfield 127, 3) := by decide +kernel
theorem dX12_tooMany_16 : decode cX12_tooMany 16 = .ok (.if_icmp .ge 29, 3) := by decide +kernel
theorem dX12_tooMany_19 : decode cX12_tooMany 19 = .ok (.aload_n 0, 1) := by decide +kernel
theorem dX12_tooMany_20 : decode cX12_tooMany 20 = .ok (.aload_n 0, 1) := by decide +kernel
theorem dX12_tooMany_21 : decode cX12_tooMany 21 = .ok (.getfield 47, 3) := by decide +kernel
theorem dX12_tooMany_24 : decode cX12_tooMany 24 = .ok (.iload_n 3, 1) := by decide +kernel
theorem dX12_tooMany_25 : decode cX12_tooMany 25 = .ok (.iaload, 1) := by decide +kernel
theorem dX12_tooMany_26 : decode cX12_tooMany 26 = .ok (.invokevirtual 182, 3) := by decide +kernel
theorem dX12_tooMany_29 : decode cX12_tooMany 29 = .ok (.ifCond .ne 10, 3) := by decide +kernel
theorem dX12_tooMany_32 : decode cX12_tooMany 32 = .ok (.iconst 1, 1) := by decide +kernel
theorem dX12_tooMany_33 : decode cX12_tooMany 33 = .ok (.iload_n 3, 1) := by decide +kernel
theorem dX12_tooMany_34 : decode cX12_tooMany 34 = .ok (.ishl, 1) := by decide +kernel
theorem dX12_tooMany_35 : decode cX12_tooMany 35 = .ok (.istore_n 1, 1) := by decide +kernel
theorem dX12_tooMany_36 : decode cX12_tooMany 36 = .ok (.iinc 2 1, 3) := by decide +kernel
theorem dX12_tooMany_39 : decode cX12_tooMany 39 = .ok (.iinc 3 1, 3) := by decide +kernel
theorem dX12_tooMany_42 : decode cX12_tooMany 42 = .ok (.goto (-31), 3) := by decide +kernel
theorem dX12_tooMany_45 : decode cX12_tooMany 45 = .ok (.iload_n 2, 1) := by decide +kernel
theorem dX12_tooMany_46 : decode cX12_tooMany 46 = .ok (.iconst 1, 1) := by decide +kernel
theorem dX12_tooMany_47 : decode cX12_tooMany 47 = .ok (.if_icmp .le 8, 3) := by decide +kernel
theorem dX12_tooMany_50 : decode cX12_tooMany 50 = .ok (.bipush (-9), 2) := by decide +kernel
theorem dX12_tooMany_52 : decode cX12_tooMany 52 = .ok (.goto 4, 3) := by decide +kernel
theorem dX12_tooMany_55 : decode cX12_tooMany 55 = .ok (.iload_n 1, 1) := by decide +kernel
theorem dX12_tooMany_56 : decode cX12_tooMany 56 = .ok (.ireturn, 1) := by decide +kernel
theorem dX12_meet_0 : decode cX12_meet 0 = .ok (.aload_n 0, 1) := by decide +kernel
theorem dX12_meet_1 : decode cX12_meet 1 = .ok (.iconst 0, 1) := by decide +kernel
theorem dX12_meet_2 : decode cX12_meet 2 = .ok (.putfield 62, 3) := by decide +kernel
theorem dX12_meet_5 : decode cX12_meet 5 = .ok (.aload_n 0, 1) := by decide +kernel
theorem dX12_meet_6 : decode cX12_meet 6 = .ok (.iload_n 1, 1) := by decide +kernel
theorem dX12_meet_7 : decode cX12_meet 7 = .ok (.invokevirtual 133, 3) := by decide +kernel
theorem dX12_meet_10 : decode cX12_meet 10 = .ok (.ifCond .eq 12, 3) := by decide +kernel
theorem dX12_meet_13 : decode cX12_meet 13 = .ok (.iload_n 2, 1) := by decide +kernel
theorem dX12_meet_14 : decode cX12_meet 14 = .ok (.iconst 0, 1) := by decide +kernel
theorem dX12_meet_15 : decode cX12_meet 15 = .ok (.iconst 1, 1) := by decide +kernel
theorem dX12_meet_16 : decode cX12_meet 16 = .ok (.invokestatic 66, 3) := by decide +kernel
theorem dX12_meet_19 : decode cX12_meet 19 = .ok (.ifCond .ne 5, 3) := by decide +kernel
theorem dX12_meet_22 : decode cX12_meet 22 = .ok (.iconst (-1), 1) := by decide +kernel
theorem dX12_meet_23 : decode cX12_meet 23 = .ok (.ireturn, 1) := by decide +kernel
theorem dX12_meet_24 : decode cX12_meet 24 = .ok (.aload_n 0, 1) := by decide +kernel
theorem dX12_meet_25 : decode cX12_meet 25 = .ok (.invokevirtual 148, 3) := by decide +kernel
theorem dX12_meet_28 : decode cX12_meet 28 = .ok (.iconst 0, 1) := by decide +kernel
theorem dX12_meet_29 : decode cX12_meet 29 = .ok (.istore_n 3, 1) := by decide +kernel
theorem dX12_meet_30 : decode cX12_meet 30 = .ok (.iload_n 3, 1) := by decide +kernel
theorem dX12_meet_31 : decode cX12_meet 31 = .ok (.bipush 35, 2) := by decide +kernel
theorem dX12_meet_33 : decode cX12_meet 33 = .ok (.if_icmp .ge 21, 3) := by decide +kernel
theorem dX12_meet_36 : decode cX12_meet 36 = .ok (.aload_n 0, 1) := by decide +kernel
theorem dX12_meet_37 : decode cX12_meet 37 = .ok (.getfield 59, 3) := by decide +kernel
theorem dX12_meet_40 : decode cX12_meet 40 = .ok (.iload_n 3, 1) := by decide +kernel
theorem dX12_meet_41 : decode cX12_meet 41 = .ok (.aload_n 0, 1) := by decide +kernel
theorem dX12_meet_42 : decode cX12_meet 42 = .ok (.getfield 25, 3) := by decide +kernel
theorem dX12_meet_45 : decode cX12_meet 45 = .ok (.iload_n 3, 1) := by decide +kernel
theorem dX12_meet_46 : decode cX12_meet 46 = .ok (.iaload, 1) := by decide +kernel
theorem dX12_meet_47 : decode cX12_meet 47 = .ok (.iastore, 1) := by decide +kernel
theorem dX12_meet_48 : decode cX12_meet 48 = .ok (.iinc 3 1, 3) := by decide +kernel
theorem dX12_meet_51 : decode cX12_meet 51 = .ok (.goto (-21), 3) := by decide +kernel
theorem dX12_meet_54 : decode cX12_meet 54 = .ok (.aload_n 0, 1) := by decide +kernel
theorem dX12_meet_55 : decode cX12_meet 55 = .ok (.getfield 59, 3) := by decide +kernel
theorem dX12_meet_58 : decode cX12_meet 58 = .ok (.iconst 2, 1) := by decide +kernel
theorem dX12_meet_59 : decode cX12_meet 59 = .ok (.iload_n 1, 1) := by decide +kernel
theorem dX12_meet_60 : decode cX12_meet 60 = .ok (.iastore, 1) := by decide +kernel
theorem dX12_meet_61 : decode cX12_meet 61 = .ok (.aload_n 0, 1) := by decide +kernel
theorem dX12_meet_62 : decode cX12_meet 62 = .ok (.getfield 25, 3) := by decide +kernel
theorem dX12_meet_65 : decode cX12_meet 65 = .ok (.iconst 1, 1) := by decide +kernel
theorem dX12_meet_66 : decode cX12_meet 66 = .ok (.iaload, 1) := by decide +kernel
theorem dX12_meet_67 : decode cX12_meet 67 = .ok (.sipush 400, 3) := by decide +kernel
theorem dX12_meet_70 : decode cX12_meet 70 = .ok (.iadd, 1) := by decide +kernel
theorem dX12_meet_71 : decode cX12_meet 71 = .ok (.istore_n 3, 1) := by decide +kernel
theorem dX12_meet_72 : decode cX12_meet 72 = .ok (.iconst 1, 1) := by decide +kernel
theorem dX12_meet_73 : decode cX12_meet 73 = .ok (.istore 4, 2) := by decide +kernel
theorem dX12_meet_75 : decode cX12_meet 75 = .ok (.iload 4, 2) := by decide +kernel
theorem dX12_meet_77 : decode cX12_meet 77 = .ok (.ifCond .eq 119, 3) := by decide +kernel
theorem dX12_meet_80 : decode cX12_meet 80 = .ok (.aload_n 0, 1) := by decide +kernel
theorem dX12_meet_81 : decode cX12_meet 81 = .ok (.getfield 28, 3) := by decide +kernel
theorem dX12_meet_84 : decode cX12_meet 84 = .ok (.iconst 1, 1) := by decide +kernel
theorem dX12_meet_85 : decode cX12_meet 85 = .ok (.iaload, 1) := by decide +kernel
theorem dX12_meet_86 : decode cX12_meet 86 = .ok (.iload_n 3, 1) := by decide +kernel
theorem dX12_meet_87 : decode cX12_meet 87 = .ok (.if_icmp .gt 109, 3) := by decide +kernel
theorem dX12_meet_90 : decode cX12_meet 90 = .ok (.aload_n 0, 1) := by decide +kernel
theorem dX12_meet_91 : decode cX12_meet 91 = .ok (.getfield 59, 3) := by decide +kernel
theorem dX12_meet_94 : decode cX12_meet 94 = .ok (.iconst 1, 1) := by decide +kernel
theorem dX12_meet_95 : decode cX12_meet 95 = .ok (.iaload, 1) := by decide +kernel
theorem dX12_meet_96 : decode cX12_meet 96 = .ok (.iload_n 3, 1) := by decide +kernel
theorem dX12_meet_97 : decode cX12_meet 97 = .ok (.if_icmp .gt 99, 3) := by decide +kernel
theorem dX12_meet_100 : decode cX12_meet 100 = .ok (.aload_n 0, 1) := by decide +kernel
theorem dX12_meet_101 : decode cX12_meet 101 = .ok (.getfield 28, 3) := by decide +kernel
theorem dX12_meet_104 : decode cX12_meet 104 = .ok (.iconst 1, 1) := by decide +kernel
theorem dX12_meet_105 : decode cX12_meet 105 = .ok (.iaload, 1) := by decide +kernel
theorem dX12_meet_106 : decode cX12_meet 106 = .ok (.aload_n 0, 1) := by decide +kernel
theorem dX12_meet_107 : decode cX12_meet 107 = .ok (.getfield 59, 3) := by decide +kernel
theorem dX12_meet_110 : decode cX12_meet 110 = .ok (.iconst 1, 1) := by decide +kernel
theorem dX12_meet_111 : decode cX12_meet 111 = .ok (.iaload, 1) := by decide +kernel
theorem dX12_meet_112 : decode cX12_meet 112 = .ok (.if_icmp .ne 45, 3) := by decide +kernel
theorem dX12_meet_115 : decode cX12_meet 115 = .ok (.aload_n 0, 1) := by decide +kernel
theorem dX12_meet_116 : decode cX12_meet 116 = .ok (.getfield 28, 3) := by decide +kernel
theorem dX12_meet_119 : decode cX12_meet 119 = .ok (.iconst 2, 1) := by decide +kernel
theorem dX12_meet_120 : decode cX12_meet 120 = .ok (.iaload, 1) := by decide +kernel
theorem dX12_meet_121 : decode cX12_meet 121 = .ok (.aload_n 0, 1) := by decide +kernel
theorem dX12_meet_122 : decode cX12_meet 122 = .ok (.getfield 59, 3) := by decide +kernel
theorem dX12_meet_125 : decode cX12_meet 125 = .ok (.iconst 2, 1) := by decide +kernel
theorem dX12_meet_126 : decode cX12_meet 126 = .ok (.iaload, 1) := by decide +kernel
theorem dX12_meet_127 : decode cX12_meet 127 = .ok (.if_icmp .ne 30, 3) := by decide +kernel
theorem dX12_meet_130 : decode cX12_meet 130 = .ok (.iload_n 2, 1) := by decide +kernel
theorem dX12_meet_131 : decode cX12_meet 131 = .ok (.ifCond .ne 19, 3) := by decide +kernel
theorem dX12_meet_134 : decode cX12_meet 134 = .ok (.aload_n 0, 1) := by decide +kernel
theorem dX12_meet_135 : decode cX12_meet 135 = .ok (.getfield 28, 3) := by decide +kernel
theorem dX12_meet_138 : decode cX12_meet 138 = .ok (.iconst 1, 1) := by decide +kernel
theorem dX12_meet_139 : decode cX12_meet 139 = .ok (.iaload, 1) := by decide +kernel
theorem dX12_meet_140 : decode cX12_meet 140 = .ok (.aload_n 0, 1) := by decide +kernel
theorem dX12_meet_141 : decode cX12_meet 141 = .ok (.getfield 25, 3) := by decide +kernel
theorem dX12_meet_144 : decode cX12_meet 144 = .ok (.iconst 1, 1) := by decide +kernel
theorem dX12_meet_145 : decode cX12_meet 145 = .ok (.iaload, 1) := by decide +kernel
theorem dX12_meet_146 : decode cX12_meet 146 = .ok (.isub, 1) := by decide +kernel
theorem dX12_meet_147 : decode cX12_meet 147 = .ok (.goto 9, 3) := by decide +kernel
theorem dX12_meet_150 : decode cX12_meet 150 = .ok (.aload_n 0, 1) := by decide +kernel
theorem dX12_meet_151 : decode cX12_meet 151 = .ok (.getfield 28, 3) := by decide +kernel
theorem dX12_meet_154 : decode cX12_meet 154 = .ok (.iconst 2, 1) := by decide +kernel
theorem dX12_meet_155 : decode cX12_meet 155 = .ok (.iaload, 1) := by decide +kernel
theorem dX12_meet_156 : decode cX12_meet 156 = .ok (.ireturn, 1) := by decide +kernel
theorem dX12_meet_157 : decode cX12_meet 157 = .ok (.aload_n 0, 1) := by decide +kernel
theorem dX12_meet_158 : decode cX12_meet 158 = .ok (.getfield 28, 3) := by decide +kernel
theorem dX12_meet_161 : decode cX12_meet 161 = .ok (.iconst 1, 1) := by decide +kernel
theorem dX12_meet_162 : decode cX12_meet 162 = .ok (.iaload, 1) := by decide +kernel
theorem dX12_meet_163 : decode cX12_meet 163 = .ok (.aload_n 0, 1) := by decide +kernel
theorem dX12_meet_164 : decode cX12_meet 164 = .ok (.getfield 59, 3) := by decide +kernel
theorem dX12_meet_167 : decode cX12_meet 167 = .ok (.iconst 1, 1) := by decide +kernel
theorem dX12_meet_168 : decode cX12_meet 168 = .ok (.iaload, 1) := by decide +kernel
theorem dX12_meet_169 : decode cX12_meet 169 = .ok (.if_icmp .gt 14, 3) := by decide +kernel
theorem dX12_meet_172 : decode cX12_meet 172 = .ok (.aload_n 0, 1) := by decide +kernel
theorem dX12_meet_173 : decode cX12_meet 173 = .ok (.aload_n 0, 1) := by decide +kernel
theorem dX12_meet_174 : decode cX12_meet 174 = .ok (.getfield 28, 3) := by decide +kernel
theorem dX12_meet_177 : decode cX12_meet 177 = .ok (.invokevirtual 151, 3) := by decide +kernel
theorem dX12_meet_180 : decode cX12_meet 180 = .ok (.goto 11, 3) := by decide +kernel
theorem dX12_meet_183 : decode cX12_meet 183 = .ok (.aload_n 0, 1) := by decide +kernel
theorem dX12_meet_184 : decode cX12_meet 184 = .ok (.aload_n 0, 1) := by decide +kernel
theorem dX12_meet_185 : decode cX12_meet 185 = .ok (.getfield 59, 3) := by decide +kernel
theorem dX12_meet_188 : decode cX12_meet 188 = .ok (.invokevirtual 151, 3) := by decide +kernel
theorem dX12_meet_191 : decode cX12_meet 191 = .ok (.istore 4, 2) := by decide +kernel
theorem dX12_meet_193 : decode cX12_meet 193 = .ok (.goto (-118), 3) := by decide +kernel
theorem dX12_meet_196 : decode cX12_meet 196 = .ok (.bipush (-9), 2) := by decide +kernel
theorem dX12_meet_198 : decode cX12_meet 198 = .ok (.ireturn, 1) := by decide +kernel
theorem dX12_power_0 : decode cX12_power 0 = .ok (.iconst 1, 1) := by decide +kernel
theorem dX12_power_1 : decode cX12_power 1 = .ok (.istore_n 2, 1) := by decide +kernel
theorem dX12_power_2 : decode cX12_power 2 = .ok (.iconst 0, 1) := by decide +kernel
theorem dX12_power_3 : decode cX12_power 3 = .ok (.istore_n 3, 1) := by decide +kernel
theorem dX12_power_4 : decode cX12_power 4 = .ok (.iload_n 3, 1) := by decide +kernel
theorem dX12_power_5 : decode cX12_power 5 = .ok (.iload_n 1, 1) := by decide +kernel
theorem dX12_power_6 : decode cX12_power 6 = .ok (.if_icmp .ge 13, 3) := by decide +kernel
theorem dX12_power_9 : decode cX12_power 9 = .ok (.iload_n 2, 1) := by decide +kernel
theorem dX12_power_10 : decode cX12_power 10 = .ok (.iload_n 0, 1) := by decide +kernel
theorem dX12_power_11 : decode cX12_power 11 = .ok (.imul, 1) := by decide +kernel
theorem dX12_power_12 : decode cX12_power 12 = .ok (.istore_n 2, 1) := by decide +kernel
theorem dX12_power_13 : decode cX12_power 13 = .ok (.iinc 3 1, 3) := by decide +kernel
theorem dX12_power_16 : decode cX12_power 16 = .ok (.goto (-12), 3) := by decide +kernel
theorem dX12_power_19 : decode cX12_power 19 = .ok (.iload_n 2, 1) := by decide +kernel
theorem dX12_power_20 : decode cX12_power 20 = .ok (.ireturn, 1) := by decide +kernel
theorem dX12_gcd_0 : decode cX12_gcd 0 = .ok (.iload_n 0, 1) := by decide +kernel
theorem dX12_gcd_1 : decode cX12_gcd 1 = .ok (.istore_n 2, 1) := by decide +kernel
theorem dX12_gcd_2 : decode cX12_gcd 2 = .ok (.iload_n 1, 1) := by decide +kernel
theorem dX12_gcd_3 : decode cX12_gcd 3 = .ok (.istore_n 3, 1) := by decide +kernel
theorem dX12_gcd_4 : decode cX12_gcd 4 = .ok (.iload_n 3, 1) := by decide +kernel
theorem dX12_gcd_5 : decode cX12_gcd 5 = .ok (.ifCond .eq 16, 3) := by decide +kernel
theorem dX12_gcd_8 : decode cX12_gcd 8 = .ok (.iload_n 2, 1) := by decide +kernel
theorem dX12_gcd_9 : decode cX12_gcd 9 = .ok (.iload_n 3, 1) := by decide +kernel
theorem dX12_gcd_10 : decode cX12_gcd 10 = .ok (.irem, 1) := by decide +kernel
theorem dX12_gcd_11 : decode cX12_gcd 11 = .ok (.istore 4, 2) := by decide +kernel
theorem dX12_gcd_13 : decode cX12_gcd 13 = .ok (.iload_n 3, 1) := by decide +kernel
theorem dX12_gcd_14 : decode cX12_gcd 14 = .ok (.istore_n 2, 1) := by decide +kernel
theorem dX12_gcd_15 : decode cX12_gcd 15 = .ok (.iload 4, 2) := by decide +kernel
theorem dX12_gcd_17 : decode cX12_gcd 17 = .ok (.istore_n 3, 1) := by decide +kernel
theorem dX12_gcd_18 : decode cX12_gcd 18 = .ok (.goto (-14), 3) := by decide +kernel
theorem dX12_gcd_21 : decode cX12_gcd 21 = .ok (.iload_n 2, 1) := by decide +kernel
theorem dX12_gcd_22 : decode cX12_gcd 22 = .ok (.ireturn, 1) := by decide +kernel
theorem dX12_odds_0 : decode cX12_odds 0 = .ok (.aload_n 0, 1) := by decide +kernel
theorem dX12_odds_1 : decode cX12_odds 1 = .ok (.iconst 0, 1) := by decide +kernel
theorem dX12_odds_2 : decode cX12_odds 2 = .ok (.putfield 62, 3) := by decide +kernel
theorem dX12_odds_5 : decode cX12_odds 5 = .ok (.aload_n 0, 1) := by decide +kernel
theorem dX12_odds_6 : decode cX12_odds 6 = .ok (.iload_n 1, 1) := by decide +kernel
theorem dX12_odds_7 : decode cX12_odds 7 = .ok (.invokevirtual 133, 3) := by decide +kernel
theorem dX12_odds_10 : decode cX12_odds 10 = .ok (.ifCond .eq 33, 3) := by decide +kernel
theorem dX12_odds_13 : decode cX12_odds 13 = .ok (.iload_n 2, 1) := by decide +kernel
theorem dX12_odds_14 : decode cX12_odds 14 = .ok (.iconst 0, 1) := by decide +kernel
theorem dX12_odds_15 : decode cX12_odds 15 = .ok (.bipush 10, 2) := by decide +kernel
theorem dX12_odds_17 : decode cX12_odds 17 = .ok (.invokestatic 66, 3) := by decide +kernel
theorem dX12_odds_20 : decode cX12_odds 20 = .ok (.ifCond .eq 23, 3) := by decide +kernel
theorem dX12_odds_23 : decode cX12_odds 23 = .ok (.iload_n 3, 1) := by decide +kernel
theorem dX12_odds_24 : decode cX12_odds 24 = .ok (.iconst 0, 1) := by decide +kernel
theorem dX12_odds_25 : decode cX12_odds 25 = .ok (.bipush 6, 2) := by decide +kernel
theorem dX12_odds_27 : decode cX12_odds 27 = .ok (.invokestatic 66, 3) := by decide +kernel
theorem dX12_odds_30 : decode cX12_odds 30 = .ok (.ifCond .eq 13, 3) := by decide +kernel
theorem dX12_odds_33 : decode cX12_odds 33 = .ok (.iload 4, 2) := by decide +kernel
theorem dX12_odds_35 : decode cX12_odds 35 = .ok (.iconst 0, 1) := by decide +kernel
theorem dX12_odds_36 : decode cX12_odds 36 = .ok (.iconst 1, 1) := by decide +kernel
theorem dX12_odds_37 : decode cX12_odds 37 = .ok (.invokestatic 66, 3) := by decide +kernel
theorem dX12_odds_40 : decode cX12_odds 40 = .ok (.ifCond .ne 5, 3) := by decide +kernel
theorem dX12_odds_43 : decode cX12_odds 43 = .ok (.iconst (-1), 1) := by decide +kernel
theorem dX12_odds_44 : decode cX12_odds 44 = .ok (.ireturn, 1) := by decide +kernel
theorem dX12_odds_45 : decode cX12_odds 45 = .ok (.iconst 0, 1) := by decide +kernel
theorem dX12_odds_46 : decode cX12_odds 46 = .ok (.istore 5, 2) := by decide +kernel
theorem dX12_odds_48 : decode cX12_odds 48 = .ok (.iconst 0, 1) := by decide +kernel
theorem dX12_odds_49 : decode cX12_odds 49 = .ok (.istore 6, 2) := by decide +kernel
theorem dX12_odds_51 : decode cX12_odds 51 = .ok (.iload 6, 2) := by decide +kernel
theorem dX12_odds_53 : decode cX12_odds 53 = .ok (.iconst 1, 1) := by decide +kernel
theorem dX12_odds_54 : decode cX12_odds 54 = .ok (.iload_n 3, 1) := by decide +kernel
theorem dX12_odds_55 : decode cX12_odds 55 = .ok (.ishl, 1) := by decide +kernel
theorem dX12_odds_56 : decode cX12_odds 56 = .ok (.if_icmp .ge 119, 3) := by decide +kernel
theorem dX12_odds_59 : decode cX12_odds 59 = .ok (.aload_n 0, 1) := by decide +kernel
theorem dX12_odds_60 : decode cX12_odds 60 = .ok (.invokevirtual 148, 3) := by decide +kernel
theorem dX12_odds_63 : decode cX12_odds 63 = .ok (.iconst 1, 1) := by decide +kernel
theorem dX12_odds_64 : decode cX12_odds 64 = .ok (.istore 7, 2) := by decide +kernel
theorem dX12_odds_66 : decode cX12_odds 66 = .ok (.iconst 1, 1) := by decide +kernel
theorem dX12_odds_67 : decode cX12_odds 67 = .ok (.istore 8, 2) := by decide +kernel
theorem dX12_odds_69 : decode cX12_odds 69 = .ok (.iconst 0, 1) := by decide +kernel
theorem dX12_odds_70 : decode cX12_odds 70 = .ok (.istore 9, 2) := by decide +kernel
theorem dX12_odds_72 : decode cX12_odds 72 = .ok (.iload 9, 2) := by decide +kernel
theorem dX12_odds_74 : decode cX12_odds 74 = .ok (.iload_n 3, 1) := by decide +kernel
theorem dX12_odds_75 : decode cX12_odds 75 = .ok (.if_icmp .ge 68, 3) := by decide +kernel
theorem dX12_odds_78 : decode cX12_odds 78 = .ok (.aload_n 0, 1) := by decide +kernel
theorem dX12_odds_79 : decode cX12_odds 79 = .ok (.getfield 28, 3) := by decide +kernel
theorem dX12_odds_82 : decode cX12_odds 82 = .ok (.iconst 3, 1) := by decide +kernel
theorem dX12_odds_83 : decode cX12_odds 83 = .ok (.iload 6, 2) := by decide +kernel
theorem dX12_odds_85 : decode cX12_odds 85 = .ok (.iload 9, 2) := by decide +kernel
theorem dX12_odds_87 : decode cX12_odds 87 = .ok (.ishr, 1) := by decide +kernel
theorem dX12_odds_88 : decode cX12_odds 88 = .ok (.iconst 1, 1) := by decide +kernel
theorem dX12_odds_89 : decode cX12_odds 89 = .ok (.iand, 1) := by decide +kernel
theorem dX12_odds_90 : decode cX12_odds 90 = .ok (.iastore, 1) := by decide +kernel
theorem dX12_odds_91 : decode cX12_odds 91 = .ok (.iload 7, 2) := by decide +kernel
theorem dX12_odds_93 : decode cX12_odds 93 = .ok (.aload_n 0, 1) := by decide +kernel
theorem dX12_odds_94 : decode cX12_odds 94 = .ok (.getfield 28, 3) := by decide +kernel
theorem dX12_odds_97 : decode cX12_odds 97 = .ok (.iconst 3, 1) := by decide +kernel
theorem dX12_odds_98 : decode cX12_odds 98 = .ok (.iaload, 1) := by decide +kernel
theorem dX12_odds_99 : decode cX12_odds 99 = .ok (.iconst 1, 1) := by decide +kernel
theorem dX12_odds_100 : decode cX12_odds 100 = .ok (.if_icmp .ne 7, 3) := by decide +kernel
theorem dX12_odds_103 : decode cX12_odds 103 = .ok (.iload_n 2, 1) := by decide +kernel
theorem dX12_odds_104 : decode cX12_odds 104 = .ok (.goto 7, 3) := by decide +kernel
theorem dX12_odds_107 : decode cX12_odds 107 = .ok (.bipush 10, 2) := by decide +kernel
theorem dX12_odds_109 : decode cX12_odds 109 = .ok (.iload_n 2, 1) := by decide +kernel
theorem dX12_odds_110 : decode cX12_odds 110 = .ok (.isub, 1) := by decide +kernel
theorem dX12_odds_111 : decode cX12_odds 111 = .ok (.imul, 1) := by decide +kernel
theorem dX12_odds_112 : decode cX12_odds 112 = .ok (.istore 7, 2) := by decide +kernel
theorem dX12_odds_114 : decode cX12_odds 114 = .ok (.iload 8, 2) := by decide +kernel
theorem dX12_odds_116 : decode cX12_odds 116 = .ok (.ifCond .eq 18, 3) := by decide +kernel
theorem dX12_odds_119 : decode cX12_odds 119 = .ok (.aload_n 0, 1) := by decide +kernel
theorem dX12_odds_120 : decode cX12_odds 120 = .ok (.aload_n 0, 1) := by decide +kernel
theorem dX12_odds_121 : decode cX12_odds 121 = .ok (.getfield 28, 3) := by decide +kernel
theorem dX12_odds_124 : decode cX12_odds 124 = .ok (.invokevirtual 151, 3) := by decide +kernel
theorem dX12_odds_127 : decode cX12_odds 127 = .ok (.ifCond .eq 7, 3) := by decide +kernel
theorem dX12_odds_130 : decode cX12_odds 130 = .ok (.iconst 1, 1) := by decide +kernel
theorem dX12_odds_131 : decode cX12_odds 131 = .ok (.goto 4, 3) := by decide +kernel
theorem dX12_odds_134 : decode cX12_odds 134 = .ok (.iconst 0, 1) := by decide +kernel
theorem dX12_odds_135 : decode cX12_odds 135 = .ok (.istore 8, 2) := by decide +kernel
theorem dX12_odds_137 : decode cX12_odds 137 = .ok (.iinc 9 1, 3) := by decide +kernel
theorem dX12_odds_140 : decode cX12_odds 140 = .ok (.goto (-68), 3) := by decide +kernel
theorem dX12_odds_143 : decode cX12_odds 143 = .ok (.iload 5, 2) := by decide +kernel
theorem dX12_odds_145 : decode cX12_odds 145 = .ok (.iload 8, 2) := by decide +kernel
theorem dX12_odds_147 : decode cX12_odds 147 = .ok (.ifCond .eq 18, 3) := by decide +kernel
theorem dX12_odds_150 : decode cX12_odds 150 = .ok (.aload_n 0, 1) := by decide +kernel
theorem dX12_odds_151 : decode cX12_odds 151 = .ok (.getfield 28, 3) := by decide +kernel
theorem dX12_odds_154 : decode cX12_odds 154 = .ok (.iconst 2, 1) := by decide +kernel
theorem dX12_odds_155 : decode cX12_odds 155 = .ok (.iaload, 1) := by decide +kernel
theorem dX12_odds_156 : decode cX12_odds 156 = .ok (.iload_n 1, 1) := by decide +kernel
theorem dX12_odds_157 : decode cX12_odds 157 = .ok (.if_icmp .ne 8, 3) := by decide +kernel
theorem dX12_odds_160 : decode cX12_odds 160 = .ok (.iload 7, 2) := by decide +kernel
theorem dX12_odds_162 : decode cX12_odds 162 = .ok (.goto 4, 3) := by decide +kernel
theorem dX12_odds_165 : decode cX12_odds 165 = .ok (.iconst 0, 1) := by decide +kernel
theorem dX12_odds_166 : decode cX12_odds 166 = .ok (.iadd, 1) := by decide +kernel
theorem dX12_odds_167 : decode cX12_odds 167 = .ok (.istore 5, 2) := by decide +kernel
theorem dX12_odds_169 : decode cX12_odds 169 = .ok (.iinc 6 1, 3) := by decide +kernel
theorem dX12_odds_172 : decode cX12_odds 172 = .ok (.goto (-121), 3) := by decide +kernel
theorem dX12_odds_175 : decode cX12_odds 175 = .ok (.bipush 10, 2) := by decide +kernel
theorem dX12_odds_177 : decode cX12_odds 177 = .ok (.iload_n 3, 1) := by decide +kernel
theorem dX12_odds_178 : decode cX12_odds 178 = .ok (.invokestatic 185, 3) := by decide +kernel
theorem dX12_odds_181 : decode cX12_odds 181 = .ok (.istore 6, 2) := by decide +kernel
theorem dX12_odds_183 : decode cX12_odds 183 = .ok (.iload 5, 2) := by decide +kernel
theorem dX12_odds_185 : decode cX12_odds 185 = .ok (.iload 6, 2) := by decide +kernel
theorem dX12_odds_187 : decode cX12_odds 187 = .ok (.invokestatic 188, 3) := by decide +kernel
theorem dX12_odds_190 : decode cX12_odds 190 = .ok (.istore 7, 2) := by decide +kernel
theorem dX12_odds_192 : decode cX12_odds 192 = .ok (.iload 4, 2) := by decide +kernel
theorem dX12_odds_194 : decode cX12_odds 194 = .ok (.ifCond .ne 11, 3) := by decide +kernel
theorem dX12_odds_197 : decode cX12_odds 197 = .ok (.iload 5, 2) := by decide +kernel
theorem dX12_odds_199 : decode cX12_odds 199 = .ok (.iload 7, 2) := by decide +kernel
theorem dX12_odds_201 : decode cX12_odds 201 = .ok (.idiv, 1) := by decide +kernel
theorem dX12_odds_202 : decode cX12_odds 202 = .ok (.goto 8, 3) := by decide +kernel
theorem dX12_odds_205 : decode cX12_odds 205 = .ok (.iload 6, 2) := by decide +kernel
theorem dX12_odds_207 : decode cX12_odds 207 = .ok (.iload 7, 2) := by decide +kernel
theorem dX12_odds_209 : decode cX12_odds 209 = .ok (.idiv, 1) := by decide +kernel
theorem dX12_odds_210 : decode cX12_odds 210 = .ok (.ireturn, 1) := by decide +kernel
theorem dX12_rate_0 : decode cX12_rate 0 = .ok (.aload_n 0, 1) := by decide +kernel
theorem dX12_rate_1 : decode cX12_rate 1 = .ok (.iconst 0, 1) := by decide +kernel
theorem dX12_rate_2 : decode cX12_rate 2 = .ok (.putfield 62, 3) := by decide +kernel
theorem dX12_rate_5 : decode cX12_rate 5 = .ok (.iload_n 1, 1) := by decide +kernel
theorem dX12_rate_6 : decode cX12_rate 6 = .ok (.iconst 0, 1) := by decide +kernel
theorem dX12_rate_7 : decode cX12_rate 7 = .ok (.iconst 5, 1) := by decide +kernel
theorem dX12_rate_8 : decode cX12_rate 8 = .ok (.invokestatic 66, 3) := by decide +kernel
theorem dX12_rate_11 : decode cX12_rate 11 = .ok (.ifCond .eq 11, 3) := by decide +kernel
theorem dX12_rate_14 : decode cX12_rate 14 = .ok (.aload_n 0, 1) := by decide +kernel
theorem dX12_rate_15 : decode cX12_rate 15 = .ok (.iload_n 2, 1) := by decide +kernel
theorem dX12_rate_16 : decode cX12_rate 16 = .ok (.invokevirtual 133, 3) := by decide +kernel
theorem dX12_rate_19 : decode cX12_rate 19 = .ok (.ifCond .ne 6, 3) := by decide +kernel
theorem dX12_rate_22 : decode cX12_rate 22 = .ok (.ldc 191, 2) := by decide +kernel
theorem dX12_rate_24 : decode cX12_rate 24 = .ok (.ireturn, 1) := by decide +kernel
theorem dX12_rate_25 : decode cX12_rate 25 = .ok (.aload_n 0, 1) := by decide +kernel
theorem dX12_rate_26 : decode cX12_rate 26 = .ok (.getfield 25, 3) := by decide +kernel
theorem dX12_rate_29 : decode cX12_rate 29 = .ok (.iconst 4, 1) := by decide +kernel
theorem dX12_rate_30 : decode cX12_rate 30 = .ok (.iload_n 2, 1) := by decide +kernel
theorem dX12_rate_31 : decode cX12_rate 31 = .ok (.iadd, 1) := by decide +kernel
theorem dX12_rate_32 : decode cX12_rate 32 = .ok (.iaload, 1) := by decide +kernel
theorem dX12_rate_33 : decode cX12_rate 33 = .ok (.istore_n 3, 1) := by decide +kernel
theorem dX12_rate_34 : decode cX12_rate 34 = .ok (.iconst 0, 1) := by decide +kernel
theorem dX12_rate_35 : decode cX12_rate 35 = .ok (.istore 4, 2) := by decide +kernel
theorem dX12_rate_37 : decode cX12_rate 37 = .ok (.iconst 0, 1) := by decide +kernel
theorem dX12_rate_38 : decode cX12_rate 38 = .ok (.istore 5, 2) := by decide +kernel
theorem dX12_rate_40 : decode cX12_rate 40 = .ok (.iconst 0, 1) := by decide +kernel
theorem dX12_rate_41 : decode cX12_rate 41 = .ok (.istore 6, 2) := by decide +kernel
theorem dX12_rate_43 : decode cX12_rate 43 = .ok (.iload 6, 2) := by decide +kernel
theorem dX12_rate_45 : decode cX12_rate 45 = .ok (.aload_n 0, 1) := by decide +kernel
theorem dX12_rate_46 : decode cX12_rate 46 = .ok (.getfield 13, 3) := by decide +kernel
theorem dX12_rate_49 : decode cX12_rate 49 = .ok (.iconst 0, 1) := by decide +kernel
theorem dX12_rate_50 : decode cX12_rate 50 = .ok (.iaload, 1) := by decide +kernel
theorem dX12_rate_51 : decode cX12_rate 51 = .ok (.if_icmp .ge 70, 3) := by decide +kernel
theorem dX12_rate_54 : decode cX12_rate 54 = .ok (.iload 4, 2) := by decide +kernel
theorem dX12_rate_56 : decode cX12_rate 56 = .ok (.aload_n 0, 1) := by decide +kernel
theorem dX12_rate_57 : decode cX12_rate 57 = .ok (.getfield 22, 3) := by decide +kernel
theorem dX12_rate_60 : decode cX12_rate 60 = .ok (.bipush 6, 2) := by decide +kernel
theorem dX12_rate_62 : decode cX12_rate 62 = .ok (.iload_n 2, 1) := by decide +kernel
theorem dX12_rate_63 : decode cX12_rate 63 = .ok (.imul, 1) := by decide +kernel
theorem dX12_rate_64 : decode cX12_rate 64 = .ok (.iload 6, 2) := by decide +kernel
theorem dX12_rate_66 : decode cX12_rate 66 = .ok (.iadd, 1) := by decide +kernel
theorem dX12_rate_67 : decode cX12_rate 67 = .ok (.iaload, 1) := by decide +kernel
theorem dX12_rate_68 : decode cX12_rate 68 = .ok (.ifCond .le 7, 3) := by decide +kernel
theorem dX12_rate_71 : decode cX12_rate 71 = .ok (.iconst 1, 1) := by decide +kernel
theorem dX12_rate_72 : decode cX12_rate 72 = .ok (.goto 4, 3) := by decide +kernel
theorem dX12_rate_75 : decode cX12_rate 75 = .ok (.iconst 0, 1) := by decide +kernel
theorem dX12_rate_76 : decode cX12_rate 76 = .ok (.iadd, 1) := by decide +kernel
theorem dX12_rate_77 : decode cX12_rate 77 = .ok (.istore 4, 2) := by decide +kernel
theorem dX12_rate_79 : decode cX12_rate 79 = .ok (.aload_n 0, 1) := by decide +kernel
theorem dX12_rate_80 : decode cX12_rate 80 = .ok (.getfield 22, 3) := by decide +kernel
theorem dX12_rate_83 : decode cX12_rate 83 = .ok (.bipush 6, 2) := by decide +kernel
theorem dX12_rate_85 : decode cX12_rate 85 = .ok (.iload_n 2, 1) := by decide +kernel
theorem dX12_rate_86 : decode cX12_rate 86 = .ok (.imul, 1) := by decide +kernel
theorem dX12_rate_87 : decode cX12_rate 87 = .ok (.iload 6, 2) := by decide +kernel
theorem dX12_rate_89 : decode cX12_rate 89 = .ok (.iadd, 1) := by decide +kernel
theorem dX12_rate_90 : decode cX12_rate 90 = .ok (.iaload, 1) := by decide +kernel
theorem dX12_rate_91 : decode cX12_rate 91 = .ok (.iload 5, 2) := by decide +kernel
theorem dX12_rate_93 : decode cX12_rate 93 = .ok (.if_icmp .le 18, 3) := by decide +kernel
theorem dX12_rate_96 : decode cX12_rate 96 = .ok (.aload_n 0, 1) := by decide +kernel
theorem dX12_rate_97 : decode cX12_rate 97 = .ok (.getfield 22, 3) := by decide +kernel
theorem dX12_rate_100 : decode cX12_rate 100 = .ok (.bipush 6, 2) := by decide +kernel
theorem dX12_rate_102 : decode cX12_rate 102 = .ok (.iload_n 2, 1) := by decide +kernel
theorem dX12_rate_103 : decode cX12_rate 103 = .ok (.imul, 1) := by decide +kernel
theorem dX12_rate_104 : decode cX12_rate 104 = .ok (.iload 6, 2) := by decide +kernel
theorem dX12_rate_106 : decode cX12_rate 106 = .ok (.iadd, 1) := by decide +kernel
theorem dX12_rate_107 : decode cX12_rate 107 = .ok (.iaload, 1) := by decide +kernel
theorem dX12_rate_108 : decode cX12_rate 108 = .ok (.goto 5, 3) := by decide +kernel
theorem dX12_rate_111 : decode cX12_rate 111 = .ok (.iload 5, 2) := by decide +kernel
theorem dX12_rate_113 : decode cX12_rate 113 = .ok (.istore 5, 2) := by decide +kernel
theorem dX12_rate_115 : decode cX12_rate 115 = .ok (.iinc 6 1, 3) := by decide +kernel
theorem dX12_rate_118 : decode cX12_rate 118 = .ok (.goto (-75), 3) := by decide +kernel
theorem dX12_rate_121 : decode cX12_rate 121 = .ok (.aload_n 0, 1) := by decide +kernel
theorem dX12_rate_122 : decode cX12_rate 122 = .ok (.dup, 1) := by decide +kernel
theorem dX12_rate_123 : decode cX12_rate 123 = .ok (.getfield 192, 3) := by decide +kernel
theorem dX12_rate_126 : decode cX12_rate 126 = .ok (.iload_n 1, 1) := by decide +kernel
theorem dX12_rate_127 : decode cX12_rate 127 = .ok (.ifCond .ne 7, 3) := by decide +kernel
theorem dX12_rate_130 : decode cX12_rate 130 = .ok (.lconst 1, 1) := by decide +kernel
theorem dX12_rate_131 : decode cX12_rate 131 = .ok (.goto 50, 3) := by decide +kernel
theorem dX12_rate_134 : decode cX12_rate 134 = .ok (.iload_n 1, 1) := by decide +kernel
theorem dX12_rate_135 : decode cX12_rate 135 = .ok (.iconst 1, 1) := by decide +kernel
theorem dX12_rate_136 : decode cX12_rate 136 = .ok (.if_icmp .ne 9, 3) := by decide +kernel
theorem dX12_rate_139 : decode cX12_rate 139 = .ok (.ldc2_w 196, 3) := by decide +kernel
theorem dX12_rate_142 : decode cX12_rate 142 = .ok (.goto 39, 3) := by decide +kernel
theorem dX12_rate_145 : decode cX12_rate 145 = .ok (.iload_n 1, 1) := by decide +kernel
theorem dX12_rate_146 : decode cX12_rate 146 = .ok (.iconst 2, 1) := by decide +kernel
theorem dX12_rate_147 : decode cX12_rate 147 = .ok (.if_icmp .ne 9, 3) := by decide +kernel
theorem dX12_rate_150 : decode cX12_rate 150 = .ok (.ldc2_w 198, 3) := by decide +kernel
theorem dX12_rate_153 : decode cX12_rate 153 = .ok (.goto 28, 3) := by decide +kernel
theorem dX12_rate_156 : decode cX12_rate 156 = .ok (.iload_n 1, 1) := by decide +kernel
theorem dX12_rate_157 : decode cX12_rate 157 = .ok (.iconst 3, 1) := by decide +kernel
theorem dX12_rate_158 : decode cX12_rate 158 = .ok (.if_icmp .ne 9, 3) := by decide +kernel
theorem dX12_rate_161 : decode cX12_rate 161 = .ok (.ldc2_w 200, 3) := by decide +kernel
theorem dX12_rate_164 : decode cX12_rate 164 = .ok (.goto 17, 3) := by decide +kernel
theorem dX12_rate_167 : decode cX12_rate 167 = .ok (.iload_n 1, 1) := by decide +kernel
theorem dX12_rate_168 : decode cX12_rate 168 = .ok (.iconst 4, 1) := by decide +kernel
theorem dX12_rate_169 : decode cX12_rate 169 = .ok (.if_icmp .ne 9, 3) := by decide +kernel
theorem dX12_rate_172 : decode cX12_rate 172 = .ok (.ldc2_w 202, 3) := by decide +kernel
theorem dX12_rate_175 : decode cX12_rate 175 = .ok (.goto 6, 3) := by decide +kernel
theorem dX12_rate_178 : decode cX12_rate 178 = .ok (.ldc2_w 204, 3) := by decide +kernel
theorem dX12_rate_181 : decode cX12_rate 181 = .ok (.ladd, 1) := by decide +kernel
theorem dX12_rate_182 : decode cX12_rate 182 = .ok (.putfield 192, 3) := by decide +kernel
theorem dX12_rate_185 : decode cX12_rate 185 = .ok (.iload_n 1, 1) := by decide +kernel
theorem dX12_rate_186 : decode cX12_rate 186 = .ok (.ifCond .ne 7, 3) := by decide +kernel
theorem dX12_rate_189 : decode cX12_rate 189 = .ok (.iload_n 3, 1) := by decide +kernel
theorem dX12_rate_190 : decode cX12_rate 190 = .ok (.goto 66, 3) := by decide +kernel
theorem dX12_rate_193 : decode cX12_rate 193 = .ok (.iload_n 1, 1) := by decide +kernel
theorem dX12_rate_194 : decode cX12_rate 194 = .ok (.iconst 1, 1) := by decide +kernel
theorem dX12_rate_195 : decode cX12_rate 195 = .ok (.if_icmp .ne 10, 3) := by decide +kernel
theorem dX12_rate_198 : decode cX12_rate 198 = .ok (.iload_n 3, 1) := by decide +kernel
theorem dX12_rate_199 : decode cX12_rate 199 = .ok (.iload 4, 2) := by decide +kernel
theorem dX12_rate_201 : decode cX12_rate 201 = .ok (.iadd, 1) := by decide +kernel
theorem dX12_rate_202 : decode cX12_rate 202 = .ok (.goto 54, 3) := by decide +kernel
theorem dX12_rate_205 : decode cX12_rate 205 = .ok (.iload_n 1, 1) := by decide +kernel
theorem dX12_rate_206 : decode cX12_rate 206 = .ok (.iconst 2, 1) := by decide +kernel
theorem dX12_rate_207 : decode cX12_rate 207 = .ok (.if_icmp .ne 10, 3) := by decide +kernel
theorem dX12_rate_210 : decode cX12_rate 210 = .ok (.iload_n 3, 1) := by decide +kernel
theorem dX12_rate_211 : decode cX12_rate 211 = .ok (.iload 5, 2) := by decide +kernel
theorem dX12_rate_213 : decode cX12_rate 213 = .ok (.isub, 1) := by decide +kernel
theorem dX12_rate_214 : decode cX12_rate 214 = .ok (.goto 42, 3) := by decide +kernel
theorem dX12_rate_217 : decode cX12_rate 217 = .ok (.iload_n 1, 1) := by decide +kernel
theorem dX12_rate_218 : decode cX12_rate 218 = .ok (.iconst 3, 1) := by decide +kernel
theorem dX12_rate_219 : decode cX12_rate 219 = .ok (.if_icmp .ne 12, 3) := by decide +kernel
theorem dX12_rate_222 : decode cX12_rate 222 = .ok (.iconst 2, 1) := by decide +kernel
theorem dX12_rate_223 : decode cX12_rate 223 = .ok (.iload_n 3, 1) := by decide +kernel
theorem dX12_rate_224 : decode cX12_rate 224 = .ok (.iload 4, 2) := by decide +kernel
theorem dX12_rate_226 : decode cX12_rate 226 = .ok (.iadd, 1) := by decide +kernel
theorem dX12_rate_227 : decode cX12_rate 227 = .ok (.imul, 1) := by decide +kernel
theorem dX12_rate_228 : decode cX12_rate 228 = .ok (.goto 28, 3) := by decide +kernel
theorem dX12_rate_231 : decode cX12_rate 231 = .ok (.iload_n 1, 1) := by decide +kernel
theorem dX12_rate_232 : decode cX12_rate 232 = .ok (.iconst 4, 1) := by decide +kernel
theorem dX12_rate_233 : decode cX12_rate 233 = .ok (.if_icmp .ne 12, 3) := by decide +kernel
theorem dX12_rate_236 : decode cX12_rate 236 = .ok (.iload_n 3, 1) := by decide +kernel
theorem dX12_rate_237 : decode cX12_rate 237 = .ok (.iload 5, 2) := by decide +kernel
theorem dX12_rate_239 : decode cX12_rate 239 = .ok (.isub, 1) := by decide +kernel
theorem dX12_rate_240 : decode cX12_rate 240 = .ok (.iload_n 2, 1) := by decide +kernel
theorem dX12_rate_241 : decode cX12_rate 241 = .ok (.iadd, 1) := by decide +kernel
theorem dX12_rate_242 : decode cX12_rate 242 = .ok (.goto 14, 3) := by decide +kernel
theorem dX12_rate_245 : decode cX12_rate 245 = .ok (.iload_n 3, 1) := by decide +kernel
theorem dX12_rate_246 : decode cX12_rate 246 = .ok (.aload_n 0, 1) := by decide +kernel
theorem dX12_rate_247 : decode cX12_rate 247 = .ok (.getfield 25, 3) := by decide +kernel
theorem dX12_rate_250 : decode cX12_rate 250 = .ok (.bipush 29, 2) := by decide +kernel
theorem dX12_rate_252 : decode cX12_rate 252 = .ok (.iload_n 2, 1) := by decide +kernel
theorem dX12_rate_253 : decode cX12_rate 253 = .ok (.iadd, 1) := by decide +kernel
theorem dX12_rate_254 : decode cX12_rate 254 = .ok (.iaload, 1) := by decide +kernel
theorem dX12_rate_255 : decode cX12_rate 255 = .ok (.iadd, 1) := by decide +kernel
theorem dX12_rate_256 : decode cX12_rate 256 = .ok (.ireturn, 1) := by decide +kernel
theorem dX12_keep_0 : decode cX12_keep 0 = .ok (.aload_n 0, 1) := by decide +kernel
theorem dX12_keep_1 : decode cX12_keep 1 = .ok (.iconst 0, 1) := by decide +kernel
theorem dX12_keep_2 : decode cX12_keep 2 = .ok (.putfield 62, 3) := by decide +kernel
theorem dX12_keep_5 : decode cX12_keep 5 = .ok (.iload_n 1, 1) := by decide +kernel
theorem dX12_keep_6 : decode cX12_keep 6 = .ok (.iconst 0, 1) := by decide +kernel
theorem dX12_keep_7 : decode cX12_keep 7 = .ok (.iconst 1, 1) := by decide +kernel
theorem dX12_keep_8 : decode cX12_keep 8 = .ok (.invokestatic 66, 3) := by decide +kernel
theorem dX12_keep_11 : decode cX12_keep 11 = .ok (.ifCond .ne 5, 3) := by decide +kernel
theorem dX12_keep_14 : decode cX12_keep 14 = .ok (.iconst (-1), 1) := by decide +kernel
theorem dX12_keep_15 : decode cX12_keep 15 = .ok (.ireturn, 1) := by decide +kernel
theorem dX12_keep_16 : decode cX12_keep 16 = .ok (.iconst 0, 1) := by decide +kernel
theorem dX12_keep_17 : decode cX12_keep 17 = .ok (.istore_n 2, 1) := by decide +kernel
theorem dX12_keep_18 : decode cX12_keep 18 = .ok (.iload_n 2, 1) := by decide +kernel
theorem dX12_keep_19 : decode cX12_keep 19 = .ok (.bipush 35, 2) := by decide +kernel
theorem dX12_keep_21 : decode cX12_keep 21 = .ok (.if_icmp .ge 26, 3) := by decide +kernel
theorem dX12_keep_24 : decode cX12_keep 24 = .ok (.aload_n 0, 1) := by decide +kernel
theorem dX12_keep_25 : decode cX12_keep 25 = .ok (.getfield 31, 3) := by decide +kernel
theorem dX12_keep_28 : decode cX12_keep 28 = .ok (.bipush 35, 2) := by decide +kernel
theorem dX12_keep_30 : decode cX12_keep 30 = .ok (.iload_n 1, 1) := by decide +kernel
theorem dX12_keep_31 : decode cX12_keep 31 = .ok (.imul, 1) := by decide +kernel
theorem dX12_keep_32 : decode cX12_keep 32 = .ok (.iload_n 2, 1) := by decide +kernel
theorem dX12_keep_33 : decode cX12_keep 33 = .ok (.iadd, 1) := by decide +kernel
theorem dX12_keep_34 : decode cX12_keep 34 = .ok (.aload_n 0, 1) := by decide +kernel
theorem dX12_keep_35 : decode cX12_keep 35 = .ok (.getfield 25, 3) := by decide +kernel
theorem dX12_keep_38 : decode cX12_keep 38 = .ok (.iload_n 2, 1) := by decide +kernel
theorem dX12_keep_39 : decode cX12_keep 39 = .ok (.iaload, 1) := by decide +kernel
theorem dX12_keep_40 : decode cX12_keep 40 = .ok (.iastore, 1) := by decide +kernel
theorem dX12_keep_41 : decode cX12_keep 41 = .ok (.iinc 2 1, 3) := by decide +kernel
theorem dX12_keep_44 : decode cX12_keep 44 = .ok (.goto (-26), 3) := by decide +kernel
theorem dX12_keep_47 : decode cX12_keep 47 = .ok (.aload_n 0, 1) := by decide +kernel
theorem dX12_keep_48 : decode cX12_keep 48 = .ok (.getfield 34, 3) := by decide +kernel
theorem dX12_keep_51 : decode cX12_keep 51 = .ok (.iload_n 1, 1) := by decide +kernel
theorem dX12_keep_52 : decode cX12_keep 52 = .ok (.iconst 1, 1) := by decide +kernel
theorem dX12_keep_53 : decode cX12_keep 53 = .ok (.bastore, 1) := by decide +kernel
theorem dX12_keep_54 : decode cX12_keep 54 = .ok (.aload_n 0, 1) := by decide +kernel
theorem dX12_keep_55 : decode cX12_keep 55 = .ok (.getfield 25, 3) := by decide +kernel
theorem dX12_keep_58 : decode cX12_keep 58 = .ok (.iconst 0, 1) := by decide +kernel
theorem dX12_keep_59 : decode cX12_keep 59 = .ok (.iaload, 1) := by decide +kernel
theorem dX12_keep_60 : decode cX12_keep 60 = .ok (.ireturn, 1) := by decide +kernel
theorem dX12_back_0 : decode cX12_back 0 = .ok (.aload_n 0, 1) := by decide +kernel
theorem dX12_back_1 : decode cX12_back 1 = .ok (.iconst 0, 1) := by decide +kernel
theorem dX12_back_2 : decode cX12_back 2 = .ok (.putfield 62, 3) := by decide +kernel
theorem dX12_back_5 : decode cX12_back 5 = .ok (.iload_n 1, 1) := by decide +kernel
theorem dX12_back_6 : decode cX12_back 6 = .ok (.iconst 0, 1) := by decide +kernel
theorem dX12_back_7 : decode cX12_back 7 = .ok (.iconst 1, 1) := by decide +kernel
theorem dX12_back_8 : decode cX12_back 8 = .ok (.invokestatic 66, 3) := by decide +kernel
theorem dX12_back_11 : decode cX12_back 11 = .ok (.ifCond .ne 5, 3) := by decide +kernel
theorem dX12_back_14 : decode cX12_back 14 = .ok (.iconst (-1), 1) := by decide +kernel
theorem dX12_back_15 : decode cX12_back 15 = .ok (.ireturn, 1) := by decide +kernel
theorem dX12_back_16 : decode cX12_back 16 = .ok (.aload_n 0, 1) := by decide +kernel
theorem dX12_back_17 : decode cX12_back 17 = .ok (.getfield 34, 3) := by decide +kernel
theorem dX12_back_20 : decode cX12_back 20 = .ok (.iload_n 1, 1) := by decide +kernel
theorem dX12_back_21 : decode cX12_back 21 = .ok (.baload, 1) := by decide +kernel
theorem dX12_back_22 : decode cX12_back 22 = .ok (.ifCond .ne 6, 3) := by decide +kernel
theorem dX12_back_25 : decode cX12_back 25 = .ok (.bipush (-2), 2) := by decide +kernel
theorem dX12_back_27 : decode cX12_back 27 = .ok (.ireturn, 1) := by decide +kernel
theorem dX12_back_28 : decode cX12_back 28 = .ok (.iconst 0, 1) := by decide +kernel
theorem dX12_back_29 : decode cX12_back 29 = .ok (.istore_n 2, 1) := by decide +kernel
theorem dX12_back_30 : decode cX12_back 30 = .ok (.iload_n 2, 1) := by decide +kernel
theorem dX12_back_31 : decode cX12_back 31 = .ok (.bipush 35, 2) := by decide +kernel
theorem dX12_back_33 : decode cX12_back 33 = .ok (.if_icmp .ge 26, 3) := by decide +kernel
theorem dX12_back_36 : decode cX12_back 36 = .ok (.aload_n 0, 1) := by decide +kernel
theorem dX12_back_37 : decode cX12_back 37 = .ok (.getfield 25, 3) := by decide +kernel
theorem dX12_back_40 : decode cX12_back 40 = .ok (.iload_n 2, 1) := by decide +kernel
theorem dX12_back_41 : decode cX12_back 41 = .ok (.aload_n 0, 1) := by decide +kernel
theorem dX12_back_42 : decode cX12_back 42 = .ok (.getfield 31, 3) := by decide +kernel
theorem dX12_back_45 : decode cX12_back 45 = .ok (.bipush 35, 2) := by decide +kernel
theorem dX12_back_47 : decode cX12_back 47 = .ok (.iload_n 1, 1) := by decide +kernel
theorem dX12_back_48 : decode cX12_back 48 = .ok (.imul, 1) := by decide +kernel
theorem dX12_back_49 : decode cX12_back 49 = .ok (.iload_n 2, 1) := by decide +kernel
theorem dX12_back_50 : decode cX12_back 50 = .ok (.iadd, 1) := by decide +kernel
theorem dX12_back_51 : decode cX12_back 51 = .ok (.iaload, 1) := by decide +kernel
theorem dX12_back_52 : decode cX12_back 52 = .ok (.iastore, 1) := by decide +kernel
theorem dX12_back_53 : decode cX12_back 53 = .ok (.iinc 2 1, 3) := by decide +kernel
theorem dX12_back_56 : decode cX12_back 56 = .ok (.goto (-26), 3) := by decide +kernel
theorem dX12_back_59 : decode cX12_back 59 = .ok (.aload_n 0, 1) := by decide +kernel
theorem dX12_back_60 : decode cX12_back 60 = .ok (.iconst 0, 1) := by decide +kernel
theorem dX12_back_61 : decode cX12_back 61 = .ok (.putfield 130, 3) := by decide +kernel
theorem dX12_back_64 : decode cX12_back 64 = .ok (.aload_n 0, 1) := by decide +kernel
theorem dX12_back_65 : decode cX12_back 65 = .ok (.getfield 25, 3) := by decide +kernel
theorem dX12_back_68 : decode cX12_back 68 = .ok (.iconst 0, 1) := by decide +kernel
theorem dX12_back_69 : decode cX12_back 69 = .ok (.iaload, 1) := by decide +kernel
theorem dX12_back_70 : decode cX12_back 70 = .ok (.ireturn, 1) := by decide +kernel
theorem dX12_count_0 : decode cX12_count 0 = .ok (.aload_n 0, 1) := by decide +kernel
theorem dX12_count_1 : decode cX12_count 1 = .ok (.iconst 0, 1) := by decide +kernel
theorem dX12_count_2 : decode cX12_count 2 = .ok (.putfield 62, 3) := by decide +kernel
theorem dX12_count_5 : decode cX12_count 5 = .ok (.iload_n 1, 1) := by decide +kernel
theorem dX12_count_6 : decode cX12_count 6 = .ok (.iconst 0, 1) := by decide +kernel
theorem dX12_count_7 : decode cX12_count 7 = .ok (.iconst 2, 1) := by decide +kernel
theorem dX12_count_8 : decode cX12_count 8 = .ok (.invokestatic 66, 3) := by decide +kernel
theorem dX12_count_11 : decode cX12_count 11 = .ok (.ifCond .eq 12, 3) := by decide +kernel
theorem dX12_count_14 : decode cX12_count 14 = .ok (.aload_n 0, 1) := by decide +kernel
theorem dX12_count_15 : decode cX12_count 15 = .ok (.getfield 13, 3) := by decide +kernel
theorem dX12_count_18 : decode cX12_count 18 = .ok (.iload_n 1, 1) := by decide +kernel
theorem dX12_count_19 : decode cX12_count 19 = .ok (.iaload, 1) := by decide +kernel
theorem dX12_count_20 : decode cX12_count 20 = .ok (.goto 40, 3) := by decide +kernel
theorem dX12_count_23 : decode cX12_count 23 = .ok (.iload_n 1, 1) := by decide +kernel
theorem dX12_count_24 : decode cX12_count 24 = .ok (.iconst 3, 1) := by decide +kernel
theorem dX12_count_25 : decode cX12_count 25 = .ok (.if_icmp .ne 10, 3) := by decide +kernel
theorem dX12_count_28 : decode cX12_count 28 = .ok (.aload_n 0, 1) := by decide +kernel
theorem dX12_count_29 : decode cX12_count 29 = .ok (.getfield 124, 3) := by decide +kernel
theorem dX12_count_32 : decode cX12_count 32 = .ok (.goto 28, 3) := by decide +kernel
theorem dX12_count_35 : decode cX12_count 35 = .ok (.iload_n 1, 1) := by decide +kernel
theorem dX12_count_36 : decode cX12_count 36 = .ok (.iconst 4, 1) := by decide +kernel
theorem dX12_count_37 : decode cX12_count 37 = .ok (.if_icmp .ne 10, 3) := by decide +kernel
theorem dX12_count_40 : decode cX12_count 40 = .ok (.aload_n 0, 1) := by decide +kernel
theorem dX12_count_41 : decode cX12_count 41 = .ok (.getfield 127, 3) := by decide +kernel
theorem dX12_count_44 : decode cX12_count 44 = .ok (.goto 16, 3) := by decide +kernel
theorem dX12_count_47 : decode cX12_count 47 = .ok (.iload_n 1, 1) := by decide +kernel
theorem dX12_count_48 : decode cX12_count 48 = .ok (.iconst 5, 1) := by decide +kernel
theorem dX12_count_49 : decode cX12_count 49 = .ok (.if_icmp .ne 10, 3) := by decide +kernel
theorem dX12_count_52 : decode cX12_count 52 = .ok (.aload_n 0, 1) := by decide +kernel
theorem dX12_count_53 : decode cX12_count 53 = .ok (.getfield 70, 3) := by decide +kernel
theorem dX12_count_56 : decode cX12_count 56 = .ok (.goto 4, 3) := by decide +kernel
theorem dX12_count_59 : decode cX12_count 59 = .ok (.iconst (-1), 1) := by decide +kernel
theorem dX12_count_60 : decode cX12_count 60 = .ok (.ireturn, 1) := by decide +kernel
theorem dX12_trace_0 : decode cX12_trace 0 = .ok (.aload_n 0, 1) := by decide +kernel
theorem dX12_trace_1 : decode cX12_trace 1 = .ok (.iconst 0, 1) := by decide +kernel
theorem dX12_trace_2 : decode cX12_trace 2 = .ok (.putfield 62, 3) := by decide +kernel
theorem dX12_trace_5 : decode cX12_trace 5 = .ok (.aload_n 0, 1) := by decide +kernel
theorem dX12_trace_6 : decode cX12_trace 6 = .ok (.getfield 192, 3) := by decide +kernel
theorem dX12_trace_9 : decode cX12_trace 9 = .ok (.lreturn, 1) := by decide +kernel
theorem dJ6_bitCount_0f7a4_0 : decode cJ6_bitCount_0f7a4 0 = .ok (.iload_n 0, 1) := by decide +kernel
theorem dJ6_bitCount_0f7a4_1 : decode cJ6_bitCount_0f7a4 1 = .ok (.iload_n 0, 1) := by decide +kernel
theorem dJ6_bitCount_0f7a4_2 : decode cJ6_bitCount_0f7a4 2 = .ok (.iconst 1, 1) := by decide +kernel
theorem dJ6_bitCount_0f7a4_3 : decode cJ6_bitCount_0f7a4 3 = .ok (.iushr, 1) := by decide +kernel
theorem dJ6_bitCount_0f7a4_4 : decode cJ6_bitCount_0f7a4 4 = .ok (.ldc_w 265, 3) := by decide +kernel
theorem dJ6_bitCount_0f7a4_7 : decode cJ6_bitCount_0f7a4 7 = .ok (.iand, 1) := by decide +kernel
theorem dJ6_bitCount_0f7a4_8 : decode cJ6_bitCount_0f7a4 8 = .ok (.isub, 1) := by decide +kernel
theorem dJ6_bitCount_0f7a4_9 : decode cJ6_bitCount_0f7a4 9 = .ok (.istore_n 0, 1) := by decide +kernel
theorem dJ6_bitCount_0f7a4_10 : decode cJ6_bitCount_0f7a4 10 = .ok (.iload_n 0, 1) := by decide +kernel
theorem dJ6_bitCount_0f7a4_11 : decode cJ6_bitCount_0f7a4 11 = .ok (.ldc_w 266, 3) := by decide +kernel
theorem dJ6_bitCount_0f7a4_14 : decode cJ6_bitCount_0f7a4 14 = .ok (.iand, 1) := by decide +kernel
theorem dJ6_bitCount_0f7a4_15 : decode cJ6_bitCount_0f7a4 15 = .ok (.iload_n 0, 1) := by decide +kernel
theorem dJ6_bitCount_0f7a4_16 : decode cJ6_bitCount_0f7a4 16 = .ok (.iconst 2, 1) := by decide +kernel
theorem dJ6_bitCount_0f7a4_17 : decode cJ6_bitCount_0f7a4 17 = .ok (.iushr, 1) := by decide +kernel
theorem dJ6_bitCount_0f7a4_18 : decode cJ6_bitCount_0f7a4 18 = .ok (.ldc_w 266, 3) := by decide +kernel
theorem dJ6_bitCount_0f7a4_21 : decode cJ6_bitCount_0f7a4 21 = .ok (.iand, 1) := by decide +kernel
theorem dJ6_bitCount_0f7a4_22 : decode cJ6_bitCount_0f7a4 22 = .ok (.iadd, 1) := by decide +kernel
theorem dJ6_bitCount_0f7a4_23 : decode cJ6_bitCount_0f7a4 23 = .ok (.istore_n 0, 1) := by decide +kernel
theorem dJ6_bitCount_0f7a4_24 : decode cJ6_bitCount_0f7a4 24 = .ok (.iload_n 0, 1) := by decide +kernel
theorem dJ6_bitCount_0f7a4_25 : decode cJ6_bitCount_0f7a4 25 = .ok (.iload_n 0, 1) := by decide +kernel
theorem dJ6_bitCount_0f7a4_26 : decode cJ6_bitCount_0f7a4 26 = .ok (.iconst 4, 1) := by decide +kernel
theorem dJ6_bitCount_0f7a4_27 : decode cJ6_bitCount_0f7a4 27 = .ok (.iushr, 1) := by decide +kernel
theorem dJ6_bitCount_0f7a4_28 : decode cJ6_bitCount_0f7a4 28 = .ok (.iadd, 1) := by decide +kernel
theorem dJ6_bitCount_0f7a4_29 : decode cJ6_bitCount_0f7a4 29 = .ok (.ldc_w 267, 3) := by decide +kernel
theorem dJ6_bitCount_0f7a4_32 : decode cJ6_bitCount_0f7a4 32 = .ok (.iand, 1) := by decide +kernel
theorem dJ6_bitCount_0f7a4_33 : decode cJ6_bitCount_0f7a4 33 = .ok (.istore_n 0, 1) := by decide +kernel
theorem dJ6_bitCount_0f7a4_34 : decode cJ6_bitCount_0f7a4 34 = .ok (.iload_n 0, 1) := by decide +kernel
theorem dJ6_bitCount_0f7a4_35 : decode cJ6_bitCount_0f7a4 35 = .ok (.iload_n 0, 1) := by decide +kernel
theorem dJ6_bitCount_0f7a4_36 : decode cJ6_bitCount_0f7a4 36 = .ok (.bipush 8, 2) := by decide +kernel
theorem dJ6_bitCount_0f7a4_38 : decode cJ6_bitCount_0f7a4 38 = .ok (.iushr, 1) := by decide +kernel
theorem dJ6_bitCount_0f7a4_39 : decode cJ6_bitCount_0f7a4 39 = .ok (.iadd, 1) := by decide +kernel
theorem dJ6_bitCount_0f7a4_40 : decode cJ6_bitCount_0f7a4 40 = .ok (.istore_n 0, 1) := by decide +kernel
theorem dJ6_bitCount_0f7a4_41 : decode cJ6_bitCount_0f7a4 41 = .ok (.iload_n 0, 1) := by decide +kernel
theorem dJ6_bitCount_0f7a4_42 : decode cJ6_bitCount_0f7a4 42 = .ok (.iload_n 0, 1) := by decide +kernel
theorem dJ6_bitCount_0f7a4_43 : decode cJ6_bitCount_0f7a4 43 = .ok (.bipush 16, 2) := by decide +kernel
theorem dJ6_bitCount_0f7a4_45 : decode cJ6_bitCount_0f7a4 45 = .ok (.iushr, 1) := by decide +kernel
theorem dJ6_bitCount_0f7a4_46 : decode cJ6_bitCount_0f7a4 46 = .ok (.iadd, 1) := by decide +kernel
theorem dJ6_bitCount_0f7a4_47 : decode cJ6_bitCount_0f7a4 47 = .ok (.istore_n 0, 1) := by decide +kernel
theorem dJ6_bitCount_0f7a4_48 : decode cJ6_bitCount_0f7a4 48 = .ok (.iload_n 0, 1) := by decide +kernel
theorem dJ6_bitCount_0f7a4_49 : decode cJ6_bitCount_0f7a4 49 = .ok (.bipush 63, 2) := by decide +kernel
theorem dJ6_bitCount_0f7a4_51 : decode cJ6_bitCount_0f7a4 51 = .ok (.iand, 1) := by decide +kernel
theorem dJ6_bitCount_0f7a4_52 : decode cJ6_bitCount_0f7a4 52 = .ok (.ireturn, 1) := by decide +kernel
theorem dJ9_max_7cf53_0 : decode cJ9_max_7cf53 0 = .ok (.iload_n 0, 1) := by decide +kernel
theorem dJ9_max_7cf53_1 : decode cJ9_max_7cf53 1 = .ok (.iload_n 1, 1) := by decide +kernel
theorem dJ9_max_7cf53_2 : decode cJ9_max_7cf53 2 = .ok (.if_icmp .lt 7, 3) := by decide +kernel
theorem dJ9_max_7cf53_5 : decode cJ9_max_7cf53 5 = .ok (.iload_n 0, 1) := by decide +kernel
theorem dJ9_max_7cf53_6 : decode cJ9_max_7cf53 6 = .ok (.goto 4, 3) := by decide +kernel
theorem dJ9_max_7cf53_9 : decode cJ9_max_7cf53 9 = .ok (.iload_n 1, 1) := by decide +kernel
theorem dJ9_max_7cf53_10 : decode cJ9_max_7cf53 10 = .ok (.ireturn, 1) := by decide +kernel
theorem dJ9_min_7cf53_0 : decode cJ9_min_7cf53 0 = .ok (.iload_n 0, 1) := by decide +kernel
theorem dJ9_min_7cf53_1 : decode cJ9_min_7cf53 1 = .ok (.iload_n 1, 1) := by decide +kernel
theorem dJ9_min_7cf53_2 : decode cJ9_min_7cf53 2 = .ok (.if_icmp .gt 7, 3) := by decide +kernel
theorem dJ9_min_7cf53_5 : decode cJ9_min_7cf53 5 = .ok (.iload_n 0, 1) := by decide +kernel
theorem dJ9_min_7cf53_6 : decode cJ9_min_7cf53 6 = .ok (.goto 4, 3) := by decide +kernel
theorem dJ9_min_7cf53_9 : decode cJ9_min_7cf53 9 = .ok (.iload_n 1, 1) := by decide +kernel
theorem dJ9_min_7cf53_10 : decode cJ9_min_7cf53 10 = .ok (.ireturn, 1) := by decide +kernel
theorem dL_law_0 : decode cL_law 0 = .ok (.new 7, 3) := by decide +kernel
theorem dL_law_3 : decode cL_law 3 = .ok (.dup, 1) := by decide +kernel
theorem dL_law_4 : decode cL_law 4 = .ok (.invokespecial 9, 3) := by decide +kernel
theorem dL_law_7 : decode cL_law 7 = .ok (.astore_n 1, 1) := by decide +kernel
theorem dL_law_8 : decode cL_law 8 = .ok (.new 10, 3) := by decide +kernel
theorem dL_law_11 : decode cL_law 11 = .ok (.dup, 1) := by decide +kernel
theorem dL_law_12 : decode cL_law 12 = .ok (.invokespecial 12, 3) := by decide +kernel
theorem dL_law_15 : decode cL_law 15 = .ok (.astore_n 2, 1) := by decide +kernel
theorem dL_law_16 : decode cL_law 16 = .ok (.iconst 0, 1) := by decide +kernel
theorem dL_law_17 : decode cL_law 17 = .ok (.istore_n 3, 1) := by decide +kernel
theorem dL_law_18 : decode cL_law 18 = .ok (.iload_n 3, 1) := by decide +kernel
theorem dL_law_19 : decode cL_law 19 = .ok (.aload_n 0, 1) := by decide +kernel
theorem dL_law_20 : decode cL_law 20 = .ok (.arraylength, 1) := by decide +kernel
theorem dL_law_21 : decode cL_law 21 = .ok (.iconst 5, 1) := by decide +kernel
theorem dL_law_22 : decode cL_law 22 = .ok (.isub, 1) := by decide +kernel
theorem dL_law_23 : decode cL_law 23 = .ok (.if_icmp .gt 963, 3) := by decide +kernel
theorem dL_law_26 : decode cL_law 26 = .ok (.aload_n 0, 1) := by decide +kernel
theorem dL_law_27 : decode cL_law 27 = .ok (.iload_n 3, 1) := by decide +kernel
theorem dL_law_28 : decode cL_law 28 = .ok (.iaload, 1) := by decide +kernel
theorem dL_law_29 : decode cL_law 29 = .ok (.bipush 63, 2) := by decide +kernel
theorem dL_law_31 : decode cL_law 31 = .ok (.iand, 1) := by decide +kernel
theorem dL_law_32 : decode cL_law 32 = .ok (.tableswitch 948 0 32 #[148, 171, 184, 197, 230, 263, 296, 319, 332, 355, 388, 421, 464, 477, 510, 523, 546, 579, 592, 625, 638, 671, 684, 697, 720, 733, 746, 779, 832, 865, 888, 911, 934], 148) := by decide +kernel
theorem dL_law_180 : decode cL_law 180 = .ok (.aload_n 1, 1) := by decide +kernel
theorem dL_law_181 : decode cL_law 181 = .ok (.aload_n 0, 1) := by decide +kernel
theorem dL_law_182 : decode cL_law 182 = .ok (.iload_n 3, 1) := by decide +kernel
theorem dL_law_183 : decode cL_law 183 = .ok (.iconst 1, 1) := by decide +kernel
theorem dL_law_184 : decode cL_law 184 = .ok (.iadd, 1) := by decide +kernel
theorem dL_law_185 : decode cL_law 185 = .ok (.iaload, 1) := by decide +kernel
theorem dL_law_186 : decode cL_law 186 = .ok (.invokevirtual 13, 3) := by decide +kernel
theorem dL_law_189 : decode cL_law 189 = .ok (.aload_n 2, 1) := by decide +kernel
theorem dL_law_190 : decode cL_law 190 = .ok (.aload_n 0, 1) := by decide +kernel
theorem dL_law_191 : decode cL_law 191 = .ok (.iload_n 3, 1) := by decide +kernel
theorem dL_law_192 : decode cL_law 192 = .ok (.iconst 1, 1) := by decide +kernel
theorem dL_law_193 : decode cL_law 193 = .ok (.iadd, 1) := by decide +kernel
theorem dL_law_194 : decode cL_law 194 = .ok (.iaload, 1) := by decide +kernel
theorem dL_law_195 : decode cL_law 195 = .ok (.invokevirtual 17, 3) := by decide +kernel
theorem dL_law_198 : decode cL_law 198 = .ok (.if_icmp .eq 782, 3) := by decide +kernel
theorem dL_law_201 : decode cL_law 201 = .ok (.iconst 0, 1) := by decide +kernel
theorem dL_law_202 : decode cL_law 202 = .ok (.ireturn, 1) := by decide +kernel
theorem dL_law_203 : decode cL_law 203 = .ok (.aload_n 1, 1) := by decide +kernel
theorem dL_law_204 : decode cL_law 204 = .ok (.invokevirtual 18, 3) := by decide +kernel
theorem dL_law_207 : decode cL_law 207 = .ok (.aload_n 2, 1) := by decide +kernel
theorem dL_law_208 : decode cL_law 208 = .ok (.invokevirtual 22, 3) := by decide +kernel
theorem dL_law_211 : decode cL_law 211 = .ok (.if_icmp .eq 769, 3) := by decide +kernel
theorem dL_law_214 : decode cL_law 214 = .ok (.iconst 0, 1) := by decide +kernel
theorem dL_law_215 : decode cL_law 215 = .ok (.ireturn, 1) := by decide +kernel
theorem dL_law_216 : decode cL_law 216 = .ok (.aload_n 1, 1) := by decide +kernel
theorem dL_law_217 : decode cL_law 217 = .ok (.invokevirtual 23, 3) := by decide +kernel
theorem dL_law_220 : decode cL_law 220 = .ok (.aload_n 2, 1) := by decide +kernel
theorem dL_law_221 : decode cL_law 221 = .ok (.invokevirtual 26, 3) := by decide +kernel
theorem dL_law_224 : decode cL_law 224 = .ok (.if_icmp .eq 756, 3) := by decide +kernel
theorem dL_law_227 : decode cL_law 227 = .ok (.iconst 0, 1) := by decide +kernel
theorem dL_law_228 : decode cL_law 228 = .ok (.ireturn, 1) := by decide +kernel
theorem dL_law_229 : decode cL_law 229 = .ok (.aload_n 1, 1) := by decide +kernel
theorem dL_law_230 : decode cL_law 230 = .ok (.aload_n 0, 1) := by decide +kernel
theorem dL_law_231 : decode cL_law 231 = .ok (.iload_n 3, 1) := by decide +kernel
theorem dL_law_232 : decode cL_law 232 = .ok (.iconst 1, 1) := by decide +kernel
theorem dL_law_233 : decode cL_law 233 = .ok (.iadd, 1) := by decide +kernel
theorem dL_law_234 : decode cL_law 234 = .ok (.iaload, 1) := by decide +kernel
theorem dL_law_235 : decode cL_law 235 = .ok (.aload_n 0, 1) := by decide +kernel
theorem dL_law_236 : decode cL_law 236 = .ok (.iload_n 3, 1) := by decide +kernel
theorem dL_law_237 : decode cL_law 237 = .ok (.iconst 2, 1) := by decide +kernel
theorem dL_law_238 : decode cL_law 238 = .ok (.iadd, 1) := by decide +kernel
theorem dL_law_239 : decode cL_law 239 = .ok (.iaload, 1) := by decide +kernel
theorem dL_law_240 : decode cL_law 240 = .ok (.invokevirtual 27, 3) := by decide +kernel
theorem dL_law_243 : decode cL_law 243 = .ok (.aload_n 2, 1) := by decide +kernel
theorem dL_law_244 : decode cL_law 244 = .ok (.aload_n 0, 1) := by decide +kernel
theorem dL_law_245 : decode cL_law 245 = .ok (.iload_n 3, 1) := by decide +kernel
theorem dL_law_246 : decode cL_law 246 = .ok (.iconst 1, 1) := by decide +kernel
theorem dL_law_247 : decode cL_law 247 = .ok (.iadd, 1) := by decide +kernel
theorem dL_law_248 : decode cL_law 248 = .ok (.iaload, 1) := by decide +kernel
theorem dL_law_249 : decode cL_law 249 = .ok (.aload_n 0, 1) := by decide +kernel
theorem dL_law_250 : decode cL_law 250 = .ok (.iload_n 3, 1) := by decide +kernel
theorem dL_law_251 : decode cL_law 251 = .ok (.iconst 2, 1) := by decide +kernel
theorem dL_law_252 : decode cL_law 252 = .ok (.iadd, 1) := by decide +kernel
theorem dL_law_253 : decode cL_law 253 = .ok (.iaload, 1) := by decide +kernel
theorem dL_law_254 : decode cL_law 254 = .ok (.invokevirtual 31, 3) := by decide +kernel
theorem dL_law_257 : decode cL_law 257 = .ok (.if_icmp .eq 723, 3) := by decide +kernel
theorem dL_law_260 : decode cL_law 260 = .ok (.iconst 0, 1) := by decide +kernel
theorem dL_law_261 : decode cL_law 261 = .ok (.ireturn, 1) := by decide +kernel
theorem dL_law_262 : decode cL_law 262 = .ok (.aload_n 1, 1) := by decide +kernel
theorem dL_law_263 : decode cL_law 263 = .ok (.aload_n 0, 1) := by decide +kernel
theorem dL_law_264 : decode cL_law 264 = .ok (.iload_n 3, 1) := by decide +kernel
theorem dL_law_265 : decode cL_law 265 = .ok (.iconst 1, 1) := by decide +kernel
theorem dL_law_266 : decode cL_law 266 = .ok (.iadd, 1) := by decide +kernel
theorem dL_law_267 : decode cL_law 267 = .ok (.iaload, 1) := by decide +kernel
theorem dL_law_268 : decode cL_law 268 = .ok (.aload_n 0, 1) := by decide +kernel
theorem dL_law_269 : decode cL_law 269 = .ok (.iload_n 3, 1) := by decide +kernel
theorem dL_law_270 : decode cL_law 270 = .ok (.iconst 2, 1) := by decide +kernel
theorem dL_law_271 : decode cL_law 271 = .ok (.iadd, 1) := by decide +kernel
theorem dL_law_272 : decode cL_law 272 = .ok (.iaload, 1) := by decide +kernel
theorem dL_law_273 : decode cL_law 273 = .ok (.invokevirtual 32, 3) := by decide +kernel
theorem dL_law_276 : decode cL_law 276 = .ok (.aload_n 2, 1) := by decide +kernel
theorem dL_law_277 : decode cL_law 277 = .ok (.aload_n 0, 1) := by decide +kernel
theorem dL_law_278 : decode cL_law 278 = .ok (.iload_n 3, 1) := by decide +kernel
theorem dL_law_279 : decode cL_law 279 = .ok (.iconst 1, 1) := by decide +kernel
theorem dL_law_280 : decode cL_law 280 = .ok (.iadd, 1) := by decide +kernel
theorem dL_law_281 : decode cL_law 281 = .ok (.iaload, 1) := by decide +kernel
theorem dL_law_282 : decode cL_law 282 = .ok (.aload_n 0, 1) := by decide +kernel
theorem dL_law_283 : decode cL_law 283 = .ok (.iload_n 3, 1) := by decide +kernel
theorem dL_law_284 : decode cL_law 284 = .ok (.iconst 2, 1) := by decide +kernel
theorem dL_law_285 : decode cL_law 285 = .ok (.iadd, 1) := by decide +kernel
theorem dL_law_286 : decode cL_law 286 = .ok (.iaload, 1) := by decide +kernel
theorem dL_law_287 : decode cL_law 287 = .ok (.invokevirtual 35, 3) := by decide +kernel
theorem dL_law_290 : decode cL_law 290 = .ok (.if_icmp .eq 690, 3) := by decide +kernel
theorem dL_law_293 : decode cL_law 293 = .ok (.iconst 0, 1) := by decide +kernel
theorem dL_law_294 : decode cL_law 294 = .ok (.ireturn, 1) := by decide +kernel
theorem dL_law_295 : decode cL_law 295 = .ok (.aload_n 1, 1) := by decide +kernel
theorem dL_law_296 : decode cL_law 296 = .ok (.aload_n 0, 1) := by decide +kernel
theorem dL_law_297 : decode cL_law 297 = .ok (.iload_n 3, 1) := by decide +kernel
theorem dL_law_298 : decode cL_law 298 = .ok (.iconst 1, 1) := by decide +kernel
theorem dL_law_299 : decode cL_law 299 = .ok (.iadd, 1) := by decide +kernel
theorem dL_law_300 : decode cL_law 300 = .ok (.iaload, 1) := by decide +kernel
theorem dL_law_301 : decode cL_law 301 = .ok (.aload_n 0, 1) := by decide +kernel
theorem dL_law_302 : decode cL_law 302 = .ok (.iload_n 3, 1) := by decide +kernel
theorem dL_law_303 : decode cL_law 303 = .ok (.iconst 2, 1) := by decide +kernel
theorem dL_law_304 : decode cL_law 304 = .ok (.iadd, 1) := by decide +kernel
theorem dL_law_305 : decode cL_law 305 = .ok (.iaload, 1) := by decide +kernel
theorem dL_law_306 : decode cL_law 306 = .ok (.invokevirtual 36, 3) := by decide +kernel
theorem dL_law_309 : decode cL_law 309 = .ok (.aload_n 2, 1) := by decide +kernel
theorem dL_law_310 : decode cL_law 310 = .ok (.aload_n 0, 1) := by decide +kernel
theorem dL_law_311 : decode cL_law 311 = .ok (.iload_n 3, 1) := by decide +kernel
theorem dL_law_312 : decode cL_law 312 = .ok (.iconst 1, 1) := by decide +kernel
theorem dL_law_313 : decode cL_law 313 = .ok (.iadd, 1) := by decide +kernel
theorem dL_law_314 : decode cL_law 314 = .ok (.iaload, 1) := by decide +kernel
theorem dL_law_315 : decode cL_law 315 = .ok (.aload_n 0, 1) := by decide +kernel
theorem dL_law_316 : decode cL_law 316 = .ok (.iload_n 3, 1) := by decide +kernel
theorem dL_law_317 : decode cL_law 317 = .ok (.iconst 2, 1) := by decide +kernel
theorem dL_law_318 : decode cL_law 318 = .ok (.iadd, 1) := by decide +kernel
theorem dL_law_319 : decode cL_law 319 = .ok (.iaload, 1) := by decide +kernel
theorem dL_law_320 : decode cL_law 320 = .ok (.invokevirtual 39, 3) := by decide +kernel
theorem dL_law_323 : decode cL_law 323 = .ok (.if_icmp .eq 657, 3) := by decide +kernel
theorem dL_law_326 : decode cL_law 326 = .ok (.iconst 0, 1) := by decide +kernel
theorem dL_law_327 : decode cL_law 327 = .ok (.ireturn, 1) := by decide +kernel
theorem dL_law_328 : decode cL_law 328 = .ok (.aload_n 1, 1) := by decide +kernel
theorem dL_law_329 : decode cL_law 329 = .ok (.aload_n 0, 1) := by decide +kernel
theorem dL_law_330 : decode cL_law 330 = .ok (.iload_n 3, 1) := by decide +kernel
theorem dL_law_331 : decode cL_law 331 = .ok (.iconst 1, 1) := by decide +kernel
theorem dL_law_332 : decode cL_law 332 = .ok (.iadd, 1) := by decide +kernel
theorem dL_law_333 : decode cL_law 333 = .ok (.iaload, 1) := by decide +kernel
theorem dL_law_334 : decode cL_law 334 = .ok (.invokevirtual 40, 3) := by decide +kernel
theorem dL_law_337 : decode cL_law 337 = .ok (.aload_n 2, 1) := by decide +kernel
theorem dL_law_338 : decode cL_law 338 = .ok (.aload_n 0, 1) := by decide +kernel
theorem dL_law_339 : decode cL_law 339 = .ok (.iload_n 3, 1) := by decide +kernel
theorem dL_law_340 : decode cL_law 340 = .ok (.iconst 1, 1) := by decide +kernel
theorem dL_law_341 : decode cL_law 341 = .ok (.iadd, 1) := by decide +kernel
theorem dL_law_342 : decode cL_law 342 = .ok (.iaload, 1) := by decide +kernel
theorem dL_law_343 : decode cL_law 343 = .ok (.invokevirtual 43, 3) := by decide +kernel
theorem dL_law_346 : decode cL_law 346 = .ok (.if_icmp .eq 634, 3) := by decide +kernel
theorem dL_law_349 : decode cL_law 349 = .ok (.iconst 0, 1) := by decide +kernel
theorem dL_law_350 : decode cL_law 350 = .ok (.ireturn, 1) := by decide +kernel
theorem dL_law_351 : decode cL_law 351 = .ok (.aload_n 1, 1) := by decide +kernel
theorem dL_law_352 : decode cL_law 352 = .ok (.invokevirtual 44, 3) := by decide +kernel
theorem dL_law_355 : decode cL_law 355 = .ok (.aload_n 2, 1) := by decide +kernel
theorem dL_law_356 : decode cL_law 356 = .ok (.invokevirtual 47, 3) := by decide +kernel
theorem dL_law_359 : decode cL_law 359 = .ok (.if_icmp .eq 621, 3) := by decide +kernel
theorem dL_law_362 : decode cL_law 362 = .ok (.iconst 0, 1) := by decide +kernel
theorem dL_law_363 : decode cL_law 363 = .ok (.ireturn, 1) := by decide +kernel
theorem dL_law_364 : decode cL_law 364 = .ok (.aload_n 1, 1) := by decide +kernel
theorem dL_law_365 : decode cL_law 365 = .ok (.aload_n 0, 1) := by decide +kernel
theorem dL_law_366 : decode cL_law 366 = .ok (.iload_n 3, 1) := by decide +kernel
theorem dL_law_367 : decode cL_law 367 = .ok (.iconst 1, 1) := by decide +kernel
theorem dL_law_368 : decode cL_law 368 = .ok (.iadd, 1) := by decide +kernel
theorem dL_law_369 : decode cL_law 369 = .ok (.iaload, 1) := by decide +kernel
theorem dL_law_370 : decode cL_law 370 = .ok (.invokevirtual 48, 3) := by decide +kernel
theorem dL_law_373 : decode cL_law 373 = .ok (.aload_n 2, 1) := by decide +kernel
theorem dL_law_374 : decode cL_law 374 = .ok (.aload_n 0, 1) := by decide +kernel
theorem dL_law_375 : decode cL_law 375 = .ok (.iload_n 3, 1) := by decide +kernel
theorem dL_law_376 : decode cL_law 376 = .ok (.iconst 1, 1) := by decide +kernel
theorem dL_law_377 : decode cL_law 377 = .ok (.iadd, 1) := by decide +kernel
theorem dL_law_378 : decode cL_law 378 = .ok (.iaload, 1) := by decide +kernel
theorem dL_law_379 : decode cL_law 379 = .ok (.invokevirtual 51, 3) := by decide +kernel
theorem dL_law_382 : decode cL_law 382 = .ok (.if_icmp .eq 598, 3) := by decide +kernel
theorem dL_law_385 : decode cL_law 385 = .ok (.iconst 0, 1) := by decide +kernel
theorem dL_law_386 : decode cL_law 386 = .ok (.ireturn, 1) := by decide +kernel
theorem dL_law_387 : decode cL_law 387 = .ok (.aload_n 1, 1) := by decide +kernel
theorem dL_law_388 : decode cL_law 388 = .ok (.aload_n 0, 1) := by decide +kernel
theorem dL_law_389 : decode cL_law 389 = .ok (.iload_n 3, 1) := by decide +kernel
theorem dL_law_390 : decode cL_law 390 = .ok (.iconst 1, 1) := by decide +kernel
theorem dL_law_391 : decode cL_law 391 = .ok (.iadd, 1) := by decide +kernel
theorem dL_law_392 : decode cL_law 392 = .ok (.iaload, 1) := by decide +kernel
theorem dL_law_393 : decode cL_law 393 = .ok (.aload_n 0, 1) := by decide +kernel
theorem dL_law_394 : decode cL_law 394 = .ok (.iload_n 3, 1) := by decide +kernel
theorem dL_law_395 : decode cL_law 395 = .ok (.iconst 2, 1) := by decide +kernel
theorem dL_law_396 : decode cL_law 396 = .ok (.iadd, 1) := by decide +kernel
theorem dL_law_397 : decode cL_law 397 = .ok (.iaload, 1) := by decide +kernel
theorem dL_law_398 : decode cL_law 398 = .ok (.invokevirtual 52, 3) := by decide +kernel
theorem dL_law_401 : decode cL_law 401 = .ok (.aload_n 2, 1) := by decide +kernel
theorem dL_law_402 : decode cL_law 402 = .ok (.aload_n 0, 1) := by decide +kernel
theorem dL_law_403 : decode cL_law 403 = .ok (.iload_n 3, 1) := by decide +kernel
theorem dL_law_404 : decode cL_law 404 = .ok (.iconst 1, 1) := by decide +kernel
theorem dL_law_405 : decode cL_law 405 = .ok (.iadd, 1) := by decide +kernel
theorem dL_law_406 : decode cL_law 406 = .ok (.iaload, 1) := by decide +kernel
theorem dL_law_407 : decode cL_law 407 = .ok (.aload_n 0, 1) := by decide +kernel
theorem dL_law_408 : decode cL_law 408 = .ok (.iload_n 3, 1) := by decide +kernel
theorem dL_law_409 : decode cL_law 409 = .ok (.iconst 2, 1) := by decide +kernel
theorem dL_law_410 : decode cL_law 410 = .ok (.iadd, 1) := by decide +kernel
theorem dL_law_411 : decode cL_law 411 = .ok (.iaload, 1) := by decide +kernel
theorem dL_law_412 : decode cL_law 412 = .ok (.invokevirtual 55, 3) := by decide +kernel
theorem dL_law_415 : decode cL_law 415 = .ok (.if_icmp .eq 565, 3) := by decide +kernel
theorem dL_law_418 : decode cL_law 418 = .ok (.iconst 0, 1) := by decide +kernel
theorem dL_law_419 : decode cL_law 419 = .ok (.ireturn, 1) := by decide +kernel
theorem dL_law_420 : decode cL_law 420 = .ok (.aload_n 1, 1) := by decide +kernel
theorem dL_law_421 : decode cL_law 421 = .ok (.aload_n 0, 1) := by decide +kernel
theorem dL_law_422 : decode cL_law 422 = .ok (.iload_n 3, 1) := by decide +kernel
theorem dL_law_423 : decode cL_law 423 = .ok (.iconst 1, 1) := by decide +kernel
theorem dL_law_424 : decode cL_law 424 = .ok (.iadd, 1) := by decide +kernel
theorem dL_law_425 : decode cL_law 425 = .ok (.iaload, 1) := by decide +kernel
theorem dL_law_426 : decode cL_law 426 = .ok (.aload_n 0, 1) := by decide +kernel
theorem dL_law_427 : decode cL_law 427 = .ok (.iload_n 3, 1) := by decide +kernel
theorem dL_law_428 : decode cL_law 428 = .ok (.iconst 2, 1) := by decide +kernel
theorem dL_law_429 : decode cL_law 429 = .ok (.iadd, 1) := by decide +kernel
theorem dL_law_430 : decode cL_law 430 = .ok (.iaload, 1) := by decide +kernel
theorem dL_law_431 : decode cL_law 431 = .ok (.invokevirtual 56, 3) := by decide +kernel
theorem dL_law_434 : decode cL_law 434 = .ok (.aload_n 2, 1) := by decide +kernel
theorem dL_law_435 : decode cL_law 435 = .ok (.aload_n 0, 1) := by decide +kernel
theorem dL_law_436 : decode cL_law 436 = .ok (.iload_n 3, 1) := by decide +kernel
theorem dL_law_437 : decode cL_law 437 = .ok (.iconst 1, 1) := by decide +kernel
theorem dL_law_438 : decode cL_law 438 = .ok (.iadd, 1) := by decide +kernel
theorem dL_law_439 : decode cL_law 439 = .ok (.iaload, 1) := by decide +kernel
theorem dL_law_440 : decode cL_law 440 = .ok (.aload_n 0, 1) := by decide +kernel
theorem dL_law_441 : decode cL_law 441 = .ok (.iload_n 3, 1) := by decide +kernel
theorem dL_law_442 : decode cL_law 442 = .ok (.iconst 2, 1) := by decide +kernel
theorem dL_law_443 : decode cL_law 443 = .ok (.iadd, 1) := by decide +kernel
theorem dL_law_444 : decode cL_law 444 = .ok (.iaload, 1) := by decide +kernel
theorem dL_law_445 : decode cL_law 445 = .ok (.invokevirtual 59, 3) := by decide +kernel
theorem dL_law_448 : decode cL_law 448 = .ok (.if_icmp .eq 532, 3) := by decide +kernel
theorem dL_law_451 : decode cL_law 451 = .ok (.iconst 0, 1) := by decide +kernel
theorem dL_law_452 : decode cL_law 452 = .ok (.ireturn, 1) := by decide +kernel
theorem dL_law_453 : decode cL_law 453 = .ok (.aload_n 1, 1) := by decide +kernel
theorem dL_law_454 : decode cL_law 454 = .ok (.aload_n 0, 1) := by decide +kernel
theorem dL_law_455 : decode cL_law 455 = .ok (.iload_n 3, 1) := by decide +kernel
theorem dL_law_456 : decode cL_law 456 = .ok (.iconst 1, 1) := by decide +kernel
theorem dL_law_457 : decode cL_law 457 = .ok (.iadd, 1) := by decide +kernel
theorem dL_law_458 : decode cL_law 458 = .ok (.iaload, 1) := by decide +kernel
theorem dL_law_459 : decode cL_law 459 = .ok (.aload_n 0, 1) := by decide +kernel
theorem dL_law_460 : decode cL_law 460 = .ok (.iload_n 3, 1) := by decide +kernel
theorem dL_law_461 : decode cL_law 461 = .ok (.iconst 2, 1) := by decide +kernel
theorem dL_law_462 : decode cL_law 462 = .ok (.iadd, 1) := by decide +kernel
theorem dL_law_463 : decode cL_law 463 = .ok (.iaload, 1) := by decide +kernel
theorem dL_law_464 : decode cL_law 464 = .ok (.aload_n 0, 1) := by decide +kernel
theorem dL_law_465 : decode cL_law 465 = .ok (.iload_n 3, 1) := by decide +kernel
theorem dL_law_466 : decode cL_law 466 = .ok (.iconst 3, 1) := by decide +kernel
theorem dL_law_467 : decode cL_law 467 = .ok (.iadd, 1) := by decide +kernel
theorem dL_law_468 : decode cL_law 468 = .ok (.iaload, 1) := by decide +kernel
theorem dL_law_469 : decode cL_law 469 = .ok (.invokevirtual 60, 3) := by decide +kernel
theorem dL_law_472 : decode cL_law 472 = .ok (.aload_n 2, 1) := by decide +kernel
theorem dL_law_473 : decode cL_law 473 = .ok (.aload_n 0, 1) := by decide +kernel
theorem dL_law_474 : decode cL_law 474 = .ok (.iload_n 3, 1) := by decide +kernel
theorem dL_law_475 : decode cL_law 475 = .ok (.iconst 1, 1) := by decide +kernel
theorem dL_law_476 : decode cL_law 476 = .ok (.iadd, 1) := by decide +kernel
theorem dL_law_477 : decode cL_law 477 = .ok (.iaload, 1) := by decide +kernel
theorem dL_law_478 : decode cL_law 478 = .ok (.aload_n 0, 1) := by decide +kernel
theorem dL_law_479 : decode cL_law 479 = .ok (.iload_n 3, 1) := by decide +kernel
theorem dL_law_480 : decode cL_law 480 = .ok (.iconst 2, 1) := by decide +kernel
theorem dL_law_481 : decode cL_law 481 = .ok (.iadd, 1) := by decide +kernel
theorem dL_law_482 : decode cL_law 482 = .ok (.iaload, 1) := by decide +kernel
theorem dL_law_483 : decode cL_law 483 = .ok (.aload_n 0, 1) := by decide +kernel
theorem dL_law_484 : decode cL_law 484 = .ok (.iload_n 3, 1) := by decide +kernel
theorem dL_law_485 : decode cL_law 485 = .ok (.iconst 3, 1) := by decide +kernel
theorem dL_law_486 : decode cL_law 486 = .ok (.iadd, 1) := by decide +kernel
theorem dL_law_487 : decode cL_law 487 = .ok (.iaload, 1) := by decide +kernel
theorem dL_law_488 : decode cL_law 488 = .ok (.invokevirtual 64, 3) := by decide +kernel
theorem dL_law_491 : decode cL_law 491 = .ok (.if_icmp .eq 489, 3) := by decide +kernel
theorem dL_law_494 : decode cL_law 494 = .ok (.iconst 0, 1) := by decide +kernel
theorem dL_law_495 : decode cL_law 495 = .ok (.ireturn, 1) := by decide +kernel
theorem dL_law_496 : decode cL_law 496 = .ok (.aload_n 1, 1) := by decide +kernel
theorem dL_law_497 : decode cL_law 497 = .ok (.invokevirtual 65, 3) := by decide +kernel
theorem dL_law_500 : decode cL_law 500 = .ok (.aload_n 2, 1) := by decide +kernel
theorem dL_law_501 : decode cL_law 501 = .ok (.invokevirtual 68, 3) := by decide +kernel
theorem dL_law_504 : decode cL_law 504 = .ok (.if_icmp .eq 476, 3) := by decide +kernel
theorem dL_law_507 : decode cL_law 507 = .ok (.iconst 0, 1) := by decide +kernel
theorem dL_law_508 : decode cL_law 508 = .ok (.ireturn, 1) := by decide +kernel
theorem dL_law_509 : decode cL_law 509 = .ok (.aload_n 1, 1) := by decide +kernel
theorem dL_law_510 : decode cL_law 510 = .ok (.aload_n 0, 1) := by decide +kernel
theorem dL_law_511 : decode cL_law 511 = .ok (.iload_n 3, 1) := by decide +kernel
theorem dL_law_512 : decode cL_law 512 = .ok (.iconst 1, 1) := by decide +kernel
theorem dL_law_513 : decode cL_law 513 = .ok (.iadd, 1) := by decide +kernel
theorem dL_law_514 : decode cL_law 514 = .ok (.iaload, 1) := by decide +kernel
theorem dL_law_515 : decode cL_law 515 = .ok (.aload_n 0, 1) := by decide +kernel
theorem dL_law_516 : decode cL_law 516 = .ok (.iload_n 3, 1) := by decide +kernel
theorem dL_law_517 : decode cL_law 517 = .ok (.iconst 2, 1) := by decide +kernel
theorem dL_law_518 : decode cL_law 518 = .ok (.iadd, 1) := by decide +kernel
theorem dL_law_519 : decode cL_law 519 = .ok (.iaload, 1) := by decide +kernel
theorem dL_law_520 : decode cL_law 520 = .ok (.invokevirtual 69, 3) := by decide +kernel
theorem dL_law_523 : decode cL_law 523 = .ok (.aload_n 2, 1) := by decide +kernel
theorem dL_law_524 : decode cL_law 524 = .ok (.aload_n 0, 1) := by decide +kernel
theorem dL_law_525 : decode cL_law 525 = .ok (.iload_n 3, 1) := by decide +kernel
theorem dL_law_526 : decode cL_law 526 = .ok (.iconst 1, 1) := by decide +kernel
theorem dL_law_527 : decode cL_law 527 = .ok (.iadd, 1) := by decide +kernel
theorem dL_law_528 : decode cL_law 528 = .ok (.iaload, 1) := by decide +kernel
theorem dL_law_529 : decode cL_law 529 = .ok (.aload_n 0, 1) := by decide +kernel
theorem dL_law_530 : decode cL_law 530 = .ok (.iload_n 3, 1) := by decide +kernel
theorem dL_law_531 : decode cL_law 531 = .ok (.iconst 2, 1) := by decide +kernel
theorem dL_law_532 : decode cL_law 532 = .ok (.iadd, 1) := by decide +kernel
theorem dL_law_533 : decode cL_law 533 = .ok (.iaload, 1) := by decide +kernel
theorem dL_law_534 : decode cL_law 534 = .ok (.invokevirtual 72, 3) := by decide +kernel
theorem dL_law_537 : decode cL_law 537 = .ok (.if_icmp .eq 443, 3) := by decide +kernel
theorem dL_law_540 : decode cL_law 540 = .ok (.iconst 0, 1) := by decide +kernel
theorem dL_law_541 : decode cL_law 541 = .ok (.ireturn, 1) := by decide +kernel
theorem dL_law_542 : decode cL_law 542 = .ok (.aload_n 1, 1) := by decide +kernel
theorem dL_law_543 : decode cL_law 543 = .ok (.invokevirtual 73, 3) := by decide +kernel
theorem dL_law_546 : decode cL_law 546 = .ok (.aload_n 2, 1) := by decide +kernel
theorem dL_law_547 : decode cL_law 547 = .ok (.invokevirtual 76, 3) := by decide +kernel
theorem dL_law_550 : decode cL_law 550 = .ok (.if_icmp .eq 430, 3) := by decide +kernel
theorem dL_law_553 : decode cL_law 553 = .ok (.iconst 0, 1) := by decide +kernel
theorem dL_law_554 : decode cL_law 554 = .ok (.ireturn, 1) := by decide +kernel
theorem dL_law_555 : decode cL_law 555 = .ok (.aload_n 1, 1) := by decide +kernel
theorem dL_law_556 : decode cL_law 556 = .ok (.aload_n 0, 1) := by decide +kernel
theorem dL_law_557 : decode cL_law 557 = .ok (.iload_n 3, 1) := by decide +kernel
theorem dL_law_558 : decode cL_law 558 = .ok (.iconst 1, 1) := by decide +kernel
theorem dL_law_559 : decode cL_law 559 = .ok (.iadd, 1) := by decide +kernel
theorem dL_law_560 : decode cL_law 560 = .ok (.iaload, 1) := by decide +kernel
theorem dL_law_561 : decode cL_law 561 = .ok (.invokevirtual 77, 3) := by decide +kernel
theorem dL_law_564 : decode cL_law 564 = .ok (.aload_n 2, 1) := by decide +kernel
theorem dL_law_565 : decode cL_law 565 = .ok (.aload_n 0, 1) := by decide +kernel
theorem dL_law_566 : decode cL_law 566 = .ok (.iload_n 3, 1) := by decide +kernel
theorem dL_law_567 : decode cL_law 567 = .ok (.iconst 1, 1) := by decide +kernel
theorem dL_law_568 : decode cL_law 568 = .ok (.iadd, 1) := by decide +kernel
theorem dL_law_569 : decode cL_law 569 = .ok (.iaload, 1) := by decide +kernel
theorem dL_law_570 : decode cL_law 570 = .ok (.invokevirtual 80, 3) := by decide +kernel
theorem dL_law_573 : decode cL_law 573 = .ok (.if_icmp .eq 407, 3) := by decide +kernel
theorem dL_law_576 : decode cL_law 576 = .ok (.iconst 0, 1) := by decide +kernel
theorem dL_law_577 : decode cL_law 577 = .ok (.ireturn, 1) := by decide +kernel
theorem dL_law_578 : decode cL_law 578 = .ok (.aload_n 1, 1) := by decide +kernel
theorem dL_law_579 : decode cL_law 579 = .ok (.aload_n 0, 1) := by decide +kernel
theorem dL_law_580 : decode cL_law 580 = .ok (.iload_n 3, 1) := by decide +kernel
theorem dL_law_581 : decode cL_law 581 = .ok (.iconst 1, 1) := by decide +kernel
theorem dL_law_582 : decode cL_law 582 = .ok (.iadd, 1) := by decide +kernel
theorem dL_law_583 : decode cL_law 583 = .ok (.iaload, 1) := by decide +kernel
theorem dL_law_584 : decode cL_law 584 = .ok (.aload_n 0, 1) := by decide +kernel
theorem dL_law_585 : decode cL_law 585 = .ok (.iload_n 3, 1) := by decide +kernel
theorem dL_law_586 : decode cL_law 586 = .ok (.iconst 2, 1) := by decide +kernel
theorem dL_law_587 : decode cL_law 587 = .ok (.iadd, 1) := by decide +kernel
theorem dL_law_588 : decode cL_law 588 = .ok (.iaload, 1) := by decide +kernel
theorem dL_law_589 : decode cL_law 589 = .ok (.invokevirtual 81, 3) := by decide +kernel
theorem dL_law_592 : decode cL_law 592 = .ok (.aload_n 2, 1) := by decide +kernel
theorem dL_law_593 : decode cL_law 593 = .ok (.aload_n 0, 1) := by decide +kernel
theorem dL_law_594 : decode cL_law 594 = .ok (.iload_n 3, 1) := by decide +kernel
theorem dL_law_595 : decode cL_law 595 = .ok (.iconst 1, 1) := by decide +kernel
theorem dL_law_596 : decode cL_law 596 = .ok (.iadd, 1) := by decide +kernel
theorem dL_law_597 : decode cL_law 597 = .ok (.iaload, 1) := by decide +kernel
theorem dL_law_598 : decode cL_law 598 = .ok (.aload_n 0, 1) := by decide +kernel
theorem dL_law_599 : decode cL_law 599 = .ok (.iload_n 3, 1) := by decide +kernel
theorem dL_law_600 : decode cL_law 600 = .ok (.iconst 2, 1) := by decide +kernel
theorem dL_law_601 : decode cL_law 601 = .ok (.iadd, 1) := by decide +kernel
theorem dL_law_602 : decode cL_law 602 = .ok (.iaload, 1) := by decide +kernel
theorem dL_law_603 : decode cL_law 603 = .ok (.invokevirtual 84, 3) := by decide +kernel
theorem dL_law_606 : decode cL_law 606 = .ok (.if_icmp .eq 374, 3) := by decide +kernel
theorem dL_law_609 : decode cL_law 609 = .ok (.iconst 0, 1) := by decide +kernel
theorem dL_law_610 : decode cL_law 610 = .ok (.ireturn, 1) := by decide +kernel
theorem dL_law_611 : decode cL_law 611 = .ok (.aload_n 1, 1) := by decide +kernel
theorem dL_law_612 : decode cL_law 612 = .ok (.invokevirtual 85, 3) := by decide +kernel
theorem dL_law_615 : decode cL_law 615 = .ok (.aload_n 2, 1) := by decide +kernel
theorem dL_law_616 : decode cL_law 616 = .ok (.invokevirtual 88, 3) := by decide +kernel
theorem dL_law_619 : decode cL_law 619 = .ok (.if_icmp .eq 361, 3) := by decide +kernel
theorem dL_law_622 : decode cL_law 622 = .ok (.iconst 0, 1) := by decide +kernel
theorem dL_law_623 : decode cL_law 623 = .ok (.ireturn, 1) := by decide +kernel
theorem dL_law_624 : decode cL_law 624 = .ok (.aload_n 1, 1) := by decide +kernel
theorem dL_law_625 : decode cL_law 625 = .ok (.aload_n 0, 1) := by decide +kernel
theorem dL_law_626 : decode cL_law 626 = .ok (.iload_n 3, 1) := by decide +kernel
theorem dL_law_627 : decode cL_law 627 = .ok (.iconst 1, 1) := by decide +kernel
theorem dL_law_628 : decode cL_law 628 = .ok (.iadd, 1) := by decide +kernel
theorem dL_law_629 : decode cL_law 629 = .ok (.iaload, 1) := by decide +kernel
theorem dL_law_630 : decode cL_law 630 = .ok (.aload_n 0, 1) := by decide +kernel
theorem dL_law_631 : decode cL_law 631 = .ok (.iload_n 3, 1) := by decide +kernel
theorem dL_law_632 : decode cL_law 632 = .ok (.iconst 2, 1) := by decide +kernel
theorem dL_law_633 : decode cL_law 633 = .ok (.iadd, 1) := by decide +kernel
theorem dL_law_634 : decode cL_law 634 = .ok (.iaload, 1) := by decide +kernel
theorem dL_law_635 : decode cL_law 635 = .ok (.invokevirtual 89, 3) := by decide +kernel
theorem dL_law_638 : decode cL_law 638 = .ok (.aload_n 2, 1) := by decide +kernel
theorem dL_law_639 : decode cL_law 639 = .ok (.aload_n 0, 1) := by decide +kernel
theorem dL_law_640 : decode cL_law 640 = .ok (.iload_n 3, 1) := by decide +kernel
theorem dL_law_641 : decode cL_law 641 = .ok (.iconst 1, 1) := by decide +kernel
theorem dL_law_642 : decode cL_law 642 = .ok (.iadd, 1) := by decide +kernel
theorem dL_law_643 : decode cL_law 643 = .ok (.iaload, 1) := by decide +kernel
theorem dL_law_644 : decode cL_law 644 = .ok (.aload_n 0, 1) := by decide +kernel
theorem dL_law_645 : decode cL_law 645 = .ok (.iload_n 3, 1) := by decide +kernel
theorem dL_law_646 : decode cL_law 646 = .ok (.iconst 2, 1) := by decide +kernel
theorem dL_law_647 : decode cL_law 647 = .ok (.iadd, 1) := by decide +kernel
theorem dL_law_648 : decode cL_law 648 = .ok (.iaload, 1) := by decide +kernel
theorem dL_law_649 : decode cL_law 649 = .ok (.invokevirtual 92, 3) := by decide +kernel
theorem dL_law_652 : decode cL_law 652 = .ok (.if_icmp .eq 328, 3) := by decide +kernel
theorem dL_law_655 : decode cL_law 655 = .ok (.iconst 0, 1) := by decide +kernel
theorem dL_law_656 : decode cL_law 656 = .ok (.ireturn, 1) := by decide +kernel
theorem dL_law_657 : decode cL_law 657 = .ok (.aload_n 1, 1) := by decide +kernel
theorem dL_law_658 : decode cL_law 658 = .ok (.invokevirtual 93, 3) := by decide +kernel
theorem dL_law_661 : decode cL_law 661 = .ok (.aload_n 2, 1) := by decide +kernel
theorem dL_law_662 : decode cL_law 662 = .ok (.invokevirtual 96, 3) := by decide +kernel
theorem dL_law_665 : decode cL_law 665 = .ok (.if_icmp .eq 315, 3) := by decide +kernel
theorem dL_law_668 : decode cL_law 668 = .ok (.iconst 0, 1) := by decide +kernel
theorem dL_law_669 : decode cL_law 669 = .ok (.ireturn, 1) := by decide +kernel
theorem dL_law_670 : decode cL_law 670 = .ok (.aload_n 1, 1) := by decide +kernel
theorem dL_law_671 : decode cL_law 671 = .ok (.aload_n 0, 1) := by decide +kernel
theorem dL_law_672 : decode cL_law 672 = .ok (.iload_n 3, 1) := by decide +kernel
theorem dL_law_673 : decode cL_law 673 = .ok (.iconst 1, 1) := by decide +kernel
theorem dL_law_674 : decode cL_law 674 = .ok (.iadd, 1) := by decide +kernel
theorem dL_law_675 : decode cL_law 675 = .ok (.iaload, 1) := by decide +kernel
theorem dL_law_676 : decode cL_law 676 = .ok (.aload_n 0, 1) := by decide +kernel
theorem dL_law_677 : decode cL_law 677 = .ok (.iload_n 3, 1) := by decide +kernel
theorem dL_law_678 : decode cL_law 678 = .ok (.iconst 2, 1) := by decide +kernel
theorem dL_law_679 : decode cL_law 679 = .ok (.iadd, 1) := by decide +kernel
theorem dL_law_680 : decode cL_law 680 = .ok (.iaload, 1) := by decide +kernel
theorem dL_law_681 : decode cL_law 681 = .ok (.invokevirtual 97, 3) := by decide +kernel
theorem dL_law_684 : decode cL_law 684 = .ok (.aload_n 2, 1) := by decide +kernel
theorem dL_law_685 : decode cL_law 685 = .ok (.aload_n 0, 1) := by decide +kernel
theorem dL_law_686 : decode cL_law 686 = .ok (.iload_n 3, 1) := by decide +kernel
theorem dL_law_687 : decode cL_law 687 = .ok (.iconst 1, 1) := by decide +kernel
theorem dL_law_688 : decode cL_law 688 = .ok (.iadd, 1) := by decide +kernel
theorem dL_law_689 : decode cL_law 689 = .ok (.iaload, 1) := by decide +kernel
theorem dL_law_690 : decode cL_law 690 = .ok (.aload_n 0, 1) := by decide +kernel
theorem dL_law_691 : decode cL_law 691 = .ok (.iload_n 3, 1) := by decide +kernel
theorem dL_law_692 : decode cL_law 692 = .ok (.iconst 2, 1) := by decide +kernel
theorem dL_law_693 : decode cL_law 693 = .ok (.iadd, 1) := by decide +kernel
theorem dL_law_694 : decode cL_law 694 = .ok (.iaload, 1) := by decide +kernel
theorem dL_law_695 : decode cL_law 695 = .ok (.invokevirtual 100, 3) := by decide +kernel
theorem dL_law_698 : decode cL_law 698 = .ok (.if_icmp .eq 282, 3) := by decide +kernel
theorem dL_law_701 : decode cL_law 701 = .ok (.iconst 0, 1) := by decide +kernel
theorem dL_law_702 : decode cL_law 702 = .ok (.ireturn, 1) := by decide +kernel
theorem dL_law_703 : decode cL_law 703 = .ok (.aload_n 1, 1) := by decide +kernel
theorem dL_law_704 : decode cL_law 704 = .ok (.invokevirtual 101, 3) := by decide +kernel
theorem dL_law_707 : decode cL_law 707 = .ok (.aload_n 2, 1) := by decide +kernel
theorem dL_law_708 : decode cL_law 708 = .ok (.invokevirtual 104, 3) := by decide +kernel
theorem dL_law_711 : decode cL_law 711 = .ok (.if_icmp .eq 269, 3) := by decide +kernel
theorem dL_law_714 : decode cL_law 714 = .ok (.iconst 0, 1) := by decide +kernel
theorem dL_law_715 : decode cL_law 715 = .ok (.ireturn, 1) := by decide +kernel
theorem dL_law_716 : decode cL_law 716 = .ok (.aload_n 1, 1) := by decide +kernel
theorem dL_law_717 : decode cL_law 717 = .ok (.invokevirtual 105, 3) := by decide +kernel
theorem dL_law_720 : decode cL_law 720 = .ok (.aload_n 2, 1) := by decide +kernel
theorem dL_law_721 : decode cL_law 721 = .ok (.invokevirtual 108, 3) := by decide +kernel
theorem dL_law_724 : decode cL_law 724 = .ok (.if_icmp .eq 256, 3) := by decide +kernel
theorem dL_law_727 : decode cL_law 727 = .ok (.iconst 0, 1) := by decide +kernel
theorem dL_law_728 : decode cL_law 728 = .ok (.ireturn, 1) := by decide +kernel
theorem dL_law_729 : decode cL_law 729 = .ok (.aload_n 1, 1) := by decide +kernel
theorem dL_law_730 : decode cL_law 730 = .ok (.aload_n 0, 1) := by decide +kernel
theorem dL_law_731 : decode cL_law 731 = .ok (.iload_n 3, 1) := by decide +kernel
theorem dL_law_732 : decode cL_law 732 = .ok (.iconst 1, 1) := by decide +kernel
theorem dL_law_733 : decode cL_law 733 = .ok (.iadd, 1) := by decide +kernel
theorem dL_law_734 : decode cL_law 734 = .ok (.iaload, 1) := by decide +kernel
theorem dL_law_735 : decode cL_law 735 = .ok (.invokevirtual 109, 3) := by decide +kernel
theorem dL_law_738 : decode cL_law 738 = .ok (.aload_n 2, 1) := by decide +kernel
theorem dL_law_739 : decode cL_law 739 = .ok (.aload_n 0, 1) := by decide +kernel
theorem dL_law_740 : decode cL_law 740 = .ok (.iload_n 3, 1) := by decide +kernel
theorem dL_law_741 : decode cL_law 741 = .ok (.iconst 1, 1) := by decide +kernel
theorem dL_law_742 : decode cL_law 742 = .ok (.iadd, 1) := by decide +kernel
theorem dL_law_743 : decode cL_law 743 = .ok (.iaload, 1) := by decide +kernel
theorem dL_law_744 : decode cL_law 744 = .ok (.invokevirtual 112, 3) := by decide +kernel
theorem dL_law_747 : decode cL_law 747 = .ok (.if_icmp .eq 233, 3) := by decide +kernel
theorem dL_law_750 : decode cL_law 750 = .ok (.iconst 0, 1) := by decide +kernel
theorem dL_law_751 : decode cL_law 751 = .ok (.ireturn, 1) := by decide +kernel
theorem dL_law_752 : decode cL_law 752 = .ok (.aload_n 1, 1) := by decide +kernel
theorem dL_law_753 : decode cL_law 753 = .ok (.invokevirtual 113, 3) := by decide +kernel
theorem dL_law_756 : decode cL_law 756 = .ok (.aload_n 2, 1) := by decide +kernel
theorem dL_law_757 : decode cL_law 757 = .ok (.invokevirtual 116, 3) := by decide +kernel
theorem dL_law_760 : decode cL_law 760 = .ok (.if_icmp .eq 220, 3) := by decide +kernel
theorem dL_law_763 : decode cL_law 763 = .ok (.iconst 0, 1) := by decide +kernel
theorem dL_law_764 : decode cL_law 764 = .ok (.ireturn, 1) := by decide +kernel
theorem dL_law_765 : decode cL_law 765 = .ok (.aload_n 1, 1) := by decide +kernel
theorem dL_law_766 : decode cL_law 766 = .ok (.invokevirtual 117, 3) := by decide +kernel
theorem dL_law_769 : decode cL_law 769 = .ok (.aload_n 2, 1) := by decide +kernel
theorem dL_law_770 : decode cL_law 770 = .ok (.invokevirtual 120, 3) := by decide +kernel
theorem dL_law_773 : decode cL_law 773 = .ok (.if_icmp .eq 207, 3) := by decide +kernel
theorem dL_law_776 : decode cL_law 776 = .ok (.iconst 0, 1) := by decide +kernel
theorem dL_law_777 : decode cL_law 777 = .ok (.ireturn, 1) := by decide +kernel
theorem dL_law_778 : decode cL_law 778 = .ok (.aload_n 1, 1) := by decide +kernel
theorem dL_law_779 : decode cL_law 779 = .ok (.aload_n 0, 1) := by decide +kernel
theorem dL_law_780 : decode cL_law 780 = .ok (.iload_n 3, 1) := by decide +kernel
theorem dL_law_781 : decode cL_law 781 = .ok (.iconst 1, 1) := by decide +kernel
theorem dL_law_782 : decode cL_law 782 = .ok (.iadd, 1) := by decide +kernel
theorem dL_law_783 : decode cL_law 783 = .ok (.iaload, 1) := by decide +kernel
theorem dL_law_784 : decode cL_law 784 = .ok (.aload_n 0, 1) := by decide +kernel
theorem dL_law_785 : decode cL_law 785 = .ok (.iload_n 3, 1) := by decide +kernel
theorem dL_law_786 : decode cL_law 786 = .ok (.iconst 2, 1) := by decide +kernel
theorem dL_law_787 : decode cL_law 787 = .ok (.iadd, 1) := by decide +kernel
theorem dL_law_788 : decode cL_law 788 = .ok (.iaload, 1) := by decide +kernel
theorem dL_law_789 : decode cL_law 789 = .ok (.invokevirtual 121, 3) := by decide +kernel
theorem dL_law_792 : decode cL_law 792 = .ok (.aload_n 2, 1) := by decide +kernel
theorem dL_law_793 : decode cL_law 793 = .ok (.aload_n 0, 1) := by decide +kernel
theorem dL_law_794 : decode cL_law 794 = .ok (.iload_n 3, 1) := by decide +kernel
theorem dL_law_795 : decode cL_law 795 = .ok (.iconst 1, 1) := by decide +kernel
theorem dL_law_796 : decode cL_law 796 = .ok (.iadd, 1) := by decide +kernel
theorem dL_law_797 : decode cL_law 797 = .ok (.iaload, 1) := by decide +kernel
theorem dL_law_798 : decode cL_law 798 = .ok (.aload_n 0, 1) := by decide +kernel
theorem dL_law_799 : decode cL_law 799 = .ok (.iload_n 3, 1) := by decide +kernel
theorem dL_law_800 : decode cL_law 800 = .ok (.iconst 2, 1) := by decide +kernel
theorem dL_law_801 : decode cL_law 801 = .ok (.iadd, 1) := by decide +kernel
theorem dL_law_802 : decode cL_law 802 = .ok (.iaload, 1) := by decide +kernel
theorem dL_law_803 : decode cL_law 803 = .ok (.invokevirtual 124, 3) := by decide +kernel
theorem dL_law_806 : decode cL_law 806 = .ok (.if_icmp .eq 174, 3) := by decide +kernel
theorem dL_law_809 : decode cL_law 809 = .ok (.iconst 0, 1) := by decide +kernel
theorem dL_law_810 : decode cL_law 810 = .ok (.ireturn, 1) := by decide +kernel
theorem dL_law_811 : decode cL_law 811 = .ok (.aload_n 1, 1) := by decide +kernel
theorem dL_law_812 : decode cL_law 812 = .ok (.aload_n 0, 1) := by decide +kernel
theorem dL_law_813 : decode cL_law 813 = .ok (.iload_n 3, 1) := by decide +kernel
theorem dL_law_814 : decode cL_law 814 = .ok (.iconst 1, 1) := by decide +kernel
theorem dL_law_815 : decode cL_law 815 = .ok (.iadd, 1) := by decide +kernel
theorem dL_law_816 : decode cL_law 816 = .ok (.iaload, 1) := by decide +kernel
theorem dL_law_817 : decode cL_law 817 = .ok (.aload_n 0, 1) := by decide +kernel
theorem dL_law_818 : decode cL_law 818 = .ok (.iload_n 3, 1) := by decide +kernel
theorem dL_law_819 : decode cL_law 819 = .ok (.iconst 2, 1) := by decide +kernel
theorem dL_law_820 : decode cL_law 820 = .ok (.iadd, 1) := by decide +kernel
theorem dL_law_821 : decode cL_law 821 = .ok (.iaload, 1) := by decide +kernel
theorem dL_law_822 : decode cL_law 822 = .ok (.aload_n 0, 1) := by decide +kernel
theorem dL_law_823 : decode cL_law 823 = .ok (.iload_n 3, 1) := by decide +kernel
theorem dL_law_824 : decode cL_law 824 = .ok (.iconst 3, 1) := by decide +kernel
theorem dL_law_825 : decode cL_law 825 = .ok (.iadd, 1) := by decide +kernel
theorem dL_law_826 : decode cL_law 826 = .ok (.iaload, 1) := by decide +kernel
theorem dL_law_827 : decode cL_law 827 = .ok (.aload_n 0, 1) := by decide +kernel
theorem dL_law_828 : decode cL_law 828 = .ok (.iload_n 3, 1) := by decide +kernel
theorem dL_law_829 : decode cL_law 829 = .ok (.iconst 4, 1) := by decide +kernel
theorem dL_law_830 : decode cL_law 830 = .ok (.iadd, 1) := by decide +kernel
theorem dL_law_831 : decode cL_law 831 = .ok (.iaload, 1) := by decide +kernel
theorem dL_law_832 : decode cL_law 832 = .ok (.invokevirtual 125, 3) := by decide +kernel
theorem dL_law_835 : decode cL_law 835 = .ok (.aload_n 2, 1) := by decide +kernel
theorem dL_law_836 : decode cL_law 836 = .ok (.aload_n 0, 1) := by decide +kernel
theorem dL_law_837 : decode cL_law 837 = .ok (.iload_n 3, 1) := by decide +kernel
theorem dL_law_838 : decode cL_law 838 = .ok (.iconst 1, 1) := by decide +kernel
theorem dL_law_839 : decode cL_law 839 = .ok (.iadd, 1) := by decide +kernel
theorem dL_law_840 : decode cL_law 840 = .ok (.iaload, 1) := by decide +kernel
theorem dL_law_841 : decode cL_law 841 = .ok (.aload_n 0, 1) := by decide +kernel
theorem dL_law_842 : decode cL_law 842 = .ok (.iload_n 3, 1) := by decide +kernel
theorem dL_law_843 : decode cL_law 843 = .ok (.iconst 2, 1) := by decide +kernel
theorem dL_law_844 : decode cL_law 844 = .ok (.iadd, 1) := by decide +kernel
theorem dL_law_845 : decode cL_law 845 = .ok (.iaload, 1) := by decide +kernel
theorem dL_law_846 : decode cL_law 846 = .ok (.aload_n 0, 1) := by decide +kernel
theorem dL_law_847 : decode cL_law 847 = .ok (.iload_n 3, 1) := by decide +kernel
theorem dL_law_848 : decode cL_law 848 = .ok (.iconst 3, 1) := by decide +kernel
theorem dL_law_849 : decode cL_law 849 = .ok (.iadd, 1) := by decide +kernel
theorem dL_law_850 : decode cL_law 850 = .ok (.iaload, 1) := by decide +kernel
theorem dL_law_851 : decode cL_law 851 = .ok (.aload_n 0, 1) := by decide +kernel
theorem dL_law_852 : decode cL_law 852 = .ok (.iload_n 3, 1) := by decide +kernel
theorem dL_law_853 : decode cL_law 853 = .ok (.iconst 4, 1) := by decide +kernel
theorem dL_law_854 : decode cL_law 854 = .ok (.iadd, 1) := by decide +kernel
theorem dL_law_855 : decode cL_law 855 = .ok (.iaload, 1) := by decide +kernel
theorem dL_law_856 : decode cL_law 856 = .ok (.invokevirtual 129, 3) := by decide +kernel
theorem dL_law_859 : decode cL_law 859 = .ok (.if_icmp .eq 121, 3) := by decide +kernel
theorem dL_law_862 : decode cL_law 862 = .ok (.iconst 0, 1) := by decide +kernel
theorem dL_law_863 : decode cL_law 863 = .ok (.ireturn, 1) := by decide +kernel
theorem dL_law_864 : decode cL_law 864 = .ok (.aload_n 1, 1) := by decide +kernel
theorem dL_law_865 : decode cL_law 865 = .ok (.aload_n 0, 1) := by decide +kernel
theorem dL_law_866 : decode cL_law 866 = .ok (.iload_n 3, 1) := by decide +kernel
theorem dL_law_867 : decode cL_law 867 = .ok (.iconst 1, 1) := by decide +kernel
theorem dL_law_868 : decode cL_law 868 = .ok (.iadd, 1) := by decide +kernel
theorem dL_law_869 : decode cL_law 869 = .ok (.iaload, 1) := by decide +kernel
theorem dL_law_870 : decode cL_law 870 = .ok (.aload_n 0, 1) := by decide +kernel
theorem dL_law_871 : decode cL_law 871 = .ok (.iload_n 3, 1) := by decide +kernel
theorem dL_law_872 : decode cL_law 872 = .ok (.iconst 2, 1) := by decide +kernel
theorem dL_law_873 : decode cL_law 873 = .ok (.iadd, 1) := by decide +kernel
theorem dL_law_874 : decode cL_law 874 = .ok (.iaload, 1) := by decide +kernel
theorem dL_law_875 : decode cL_law 875 = .ok (.invokevirtual 130, 3) := by decide +kernel
theorem dL_law_878 : decode cL_law 878 = .ok (.aload_n 2, 1) := by decide +kernel
theorem dL_law_879 : decode cL_law 879 = .ok (.aload_n 0, 1) := by decide +kernel
theorem dL_law_880 : decode cL_law 880 = .ok (.iload_n 3, 1) := by decide +kernel
theorem dL_law_881 : decode cL_law 881 = .ok (.iconst 1, 1) := by decide +kernel
theorem dL_law_882 : decode cL_law 882 = .ok (.iadd, 1) := by decide +kernel
theorem dL_law_883 : decode cL_law 883 = .ok (.iaload, 1) := by decide +kernel
theorem dL_law_884 : decode cL_law 884 = .ok (.aload_n 0, 1) := by decide +kernel
theorem dL_law_885 : decode cL_law 885 = .ok (.iload_n 3, 1) := by decide +kernel
theorem dL_law_886 : decode cL_law 886 = .ok (.iconst 2, 1) := by decide +kernel
theorem dL_law_887 : decode cL_law 887 = .ok (.iadd, 1) := by decide +kernel
theorem dL_law_888 : decode cL_law 888 = .ok (.iaload, 1) := by decide +kernel
theorem dL_law_889 : decode cL_law 889 = .ok (.invokevirtual 133, 3) := by decide +kernel
theorem dL_law_892 : decode cL_law 892 = .ok (.if_icmp .eq 88, 3) := by decide +kernel
theorem dL_law_895 : decode cL_law 895 = .ok (.iconst 0, 1) := by decide +kernel
theorem dL_law_896 : decode cL_law 896 = .ok (.ireturn, 1) := by decide +kernel
theorem dL_law_897 : decode cL_law 897 = .ok (.aload_n 1, 1) := by decide +kernel
theorem dL_law_898 : decode cL_law 898 = .ok (.aload_n 0, 1) := by decide +kernel
theorem dL_law_899 : decode cL_law 899 = .ok (.iload_n 3, 1) := by decide +kernel
theorem dL_law_900 : decode cL_law 900 = .ok (.iconst 1, 1) := by decide +kernel
theorem dL_law_901 : decode cL_law 901 = .ok (.iadd, 1) := by decide +kernel
theorem dL_law_902 : decode cL_law 902 = .ok (.iaload, 1) := by decide +kernel
theorem dL_law_903 : decode cL_law 903 = .ok (.invokevirtual 134, 3) := by decide +kernel
theorem dL_law_906 : decode cL_law 906 = .ok (.aload_n 2, 1) := by decide +kernel
theorem dL_law_907 : decode cL_law 907 = .ok (.aload_n 0, 1) := by decide +kernel
theorem dL_law_908 : decode cL_law 908 = .ok (.iload_n 3, 1) := by decide +kernel
theorem dL_law_909 : decode cL_law 909 = .ok (.iconst 1, 1) := by decide +kernel
theorem dL_law_910 : decode cL_law 910 = .ok (.iadd, 1) := by decide +kernel
theorem dL_law_911 : decode cL_law 911 = .ok (.iaload, 1) := by decide +kernel
theorem dL_law_912 : decode cL_law 912 = .ok (.invokevirtual 137, 3) := by decide +kernel
theorem dL_law_915 : decode cL_law 915 = .ok (.if_icmp .eq 65, 3) := by decide +kernel
theorem dL_law_918 : decode cL_law 918 = .ok (.iconst 0, 1) := by decide +kernel
theorem dL_law_919 : decode cL_law 919 = .ok (.ireturn, 1) := by decide +kernel
theorem dL_law_920 : decode cL_law 920 = .ok (.aload_n 1, 1) := by decide +kernel
theorem dL_law_921 : decode cL_law 921 = .ok (.aload_n 0, 1) := by decide +kernel
theorem dL_law_922 : decode cL_law 922 = .ok (.iload_n 3, 1) := by decide +kernel
theorem dL_law_923 : decode cL_law 923 = .ok (.iconst 1, 1) := by decide +kernel
theorem dL_law_924 : decode cL_law 924 = .ok (.iadd, 1) := by decide +kernel
theorem dL_law_925 : decode cL_law 925 = .ok (.iaload, 1) := by decide +kernel
theorem dL_law_926 : decode cL_law 926 = .ok (.invokevirtual 138, 3) := by decide +kernel
theorem dL_law_929 : decode cL_law 929 = .ok (.aload_n 2, 1) := by decide +kernel
theorem dL_law_930 : decode cL_law 930 = .ok (.aload_n 0, 1) := by decide +kernel
theorem dL_law_931 : decode cL_law 931 = .ok (.iload_n 3, 1) := by decide +kernel
theorem dL_law_932 : decode cL_law 932 = .ok (.iconst 1, 1) := by decide +kernel
theorem dL_law_933 : decode cL_law 933 = .ok (.iadd, 1) := by decide +kernel
theorem dL_law_934 : decode cL_law 934 = .ok (.iaload, 1) := by decide +kernel
theorem dL_law_935 : decode cL_law 935 = .ok (.invokevirtual 141, 3) := by decide +kernel
theorem dL_law_938 : decode cL_law 938 = .ok (.if_icmp .eq 42, 3) := by decide +kernel
theorem dL_law_941 : decode cL_law 941 = .ok (.iconst 0, 1) := by decide +kernel
theorem dL_law_942 : decode cL_law 942 = .ok (.ireturn, 1) := by decide +kernel
theorem dL_law_943 : decode cL_law 943 = .ok (.aload_n 1, 1) := by decide +kernel
theorem dL_law_944 : decode cL_law 944 = .ok (.aload_n 0, 1) := by decide +kernel
theorem dL_law_945 : decode cL_law 945 = .ok (.iload_n 3, 1) := by decide +kernel
theorem dL_law_946 : decode cL_law 946 = .ok (.iconst 1, 1) := by decide +kernel
theorem dL_law_947 : decode cL_law 947 = .ok (.iadd, 1) := by decide +kernel
theorem dL_law_948 : decode cL_law 948 = .ok (.iaload, 1) := by decide +kernel
theorem dL_law_949 : decode cL_law 949 = .ok (.invokevirtual 142, 3) := by decide +kernel
theorem dL_law_952 : decode cL_law 952 = .ok (.aload_n 2, 1) := by decide +kernel
theorem dL_law_953 : decode cL_law 953 = .ok (.aload_n 0, 1) := by decide +kernel
theorem dL_law_954 : decode cL_law 954 = .ok (.iload_n 3, 1) := by decide +kernel
theorem dL_law_955 : decode cL_law 955 = .ok (.iconst 1, 1) := by decide +kernel
theorem dL_law_956 : decode cL_law 956 = .ok (.iadd, 1) := by decide +kernel
theorem dL_law_957 : decode cL_law 957 = .ok (.iaload, 1) := by decide +kernel
theorem dL_law_958 : decode cL_law 958 = .ok (.invokevirtual 145, 3) := by decide +kernel
theorem dL_law_961 : decode cL_law 961 = .ok (.if_icmp .eq 19, 3) := by decide +kernel
theorem dL_law_964 : decode cL_law 964 = .ok (.iconst 0, 1) := by decide +kernel
theorem dL_law_965 : decode cL_law 965 = .ok (.ireturn, 1) := by decide +kernel
theorem dL_law_966 : decode cL_law 966 = .ok (.aload_n 1, 1) := by decide +kernel
theorem dL_law_967 : decode cL_law 967 = .ok (.invokevirtual 146, 3) := by decide +kernel
theorem dL_law_970 : decode cL_law 970 = .ok (.aload_n 2, 1) := by decide +kernel
theorem dL_law_971 : decode cL_law 971 = .ok (.invokevirtual 150, 3) := by decide +kernel
theorem dL_law_974 : decode cL_law 974 = .ok (.lcmp, 1) := by decide +kernel
theorem dL_law_975 : decode cL_law 975 = .ok (.ifCond .eq 5, 3) := by decide +kernel
theorem dL_law_978 : decode cL_law 978 = .ok (.iconst 0, 1) := by decide +kernel
theorem dL_law_979 : decode cL_law 979 = .ok (.ireturn, 1) := by decide +kernel
theorem dL_law_980 : decode cL_law 980 = .ok (.iinc 3 5, 3) := by decide +kernel
theorem dL_law_983 : decode cL_law 983 = .ok (.goto (-965), 3) := by decide +kernel
theorem dL_law_986 : decode cL_law 986 = .ok (.iconst 1, 1) := by decide +kernel
theorem dL_law_987 : decode cL_law 987 = .ok (.ireturn, 1) := by decide +kernel
