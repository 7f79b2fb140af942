theorem dX0_init_0 : decode cX0_init 0 = .ok (.aload_n 0, 1) := by decide +kernel
theorem dX0_init_1 : decode cX0_init 1 = .ok (.invokespecial 3, 3) := by decide +kernel
theorem dX0_init_4 : decode cX0_init 4 = .ok (.aload_n 0, 1) := by decide +kernel
theorem dX0_init_5 : decode cX0_init 5 = .ok (.bipush 6, 2) := by decide +kernel
theorem dX0_init_7 : decode cX0_init 7 = .ok (.newarray .int, 2) := by decide +kernel
theorem dX0_init_9 : decode cX0_init 9 = .ok (.putfield 9, 3) := by decide +kernel
theorem dX0_init_12 : decode cX0_init 12 = .ok (.aload_n 0, 1) := by decide +kernel
theorem dX0_init_13 : decode cX0_init 13 = .ok (.bipush 6, 2) := by decide +kernel
theorem dX0_init_15 : decode cX0_init 15 = .ok (.newarray .int, 2) := by decide +kernel
theorem dX0_init_17 : decode cX0_init 17 = .ok (.putfield 15, 3) := by decide +kernel
theorem dX0_init_20 : decode cX0_init 20 = .ok (.aload_n 0, 1) := by decide +kernel
theorem dX0_init_21 : decode cX0_init 21 = .ok (.bipush 36, 2) := by decide +kernel
theorem dX0_init_23 : decode cX0_init 23 = .ok (.newarray .int, 2) := by decide +kernel
theorem dX0_init_25 : decode cX0_init 25 = .ok (.putfield 18, 3) := by decide +kernel
theorem dX0_init_28 : decode cX0_init 28 = .ok (.aload_n 0, 1) := by decide +kernel
theorem dX0_init_29 : decode cX0_init 29 = .ok (.bipush 6, 2) := by decide +kernel
theorem dX0_init_31 : decode cX0_init 31 = .ok (.newarray .int, 2) := by decide +kernel
theorem dX0_init_33 : decode cX0_init 33 = .ok (.putfield 21, 3) := by decide +kernel
theorem dX0_init_36 : decode cX0_init 36 = .ok (.aload_n 0, 1) := by decide +kernel
theorem dX0_init_37 : decode cX0_init 37 = .ok (.bipush 6, 2) := by decide +kernel
theorem dX0_init_39 : decode cX0_init 39 = .ok (.newarray .int, 2) := by decide +kernel
theorem dX0_init_41 : decode cX0_init 41 = .ok (.putfield 24, 3) := by decide +kernel
theorem dX0_init_44 : decode cX0_init 44 = .ok (.aload_n 0, 1) := by decide +kernel
theorem dX0_init_45 : decode cX0_init 45 = .ok (.bipush 6, 2) := by decide +kernel
theorem dX0_init_47 : decode cX0_init 47 = .ok (.newarray .int, 2) := by decide +kernel
theorem dX0_init_49 : decode cX0_init 49 = .ok (.putfield 27, 3) := by decide +kernel
theorem dX0_init_52 : decode cX0_init 52 = .ok (.return_, 1) := by decide +kernel
theorem dX0_lay_0 : decode cX0_lay 0 = .ok (.aload_n 0, 1) := by decide +kernel
theorem dX0_lay_1 : decode cX0_lay 1 = .ok (.aload_n 1, 1) := by decide +kernel
theorem dX0_lay_2 : decode cX0_lay 2 = .ok (.getfield 30, 3) := by decide +kernel
theorem dX0_lay_5 : decode cX0_lay 5 = .ok (.putfield 36, 3) := by decide +kernel
theorem dX0_lay_8 : decode cX0_lay 8 = .ok (.aload_n 0, 1) := by decide +kernel
theorem dX0_lay_9 : decode cX0_lay 9 = .ok (.aload_n 2, 1) := by decide +kernel
theorem dX0_lay_10 : decode cX0_lay 10 = .ok (.getfield 37, 3) := by decide +kernel
theorem dX0_lay_13 : decode cX0_lay 13 = .ok (.putfield 42, 3) := by decide +kernel
theorem dX0_lay_16 : decode cX0_lay 16 = .ok (.aload_n 2, 1) := by decide +kernel
theorem dX0_lay_17 : decode cX0_lay 17 = .ok (.getfield 43, 3) := by decide +kernel
theorem dX0_lay_20 : decode cX0_lay 20 = .ok (.iconst 0, 1) := by decide +kernel
theorem dX0_lay_21 : decode cX0_lay 21 = .ok (.aload_n 0, 1) := by decide +kernel
theorem dX0_lay_22 : decode cX0_lay 22 = .ok (.getfield 21, 3) := by decide +kernel
theorem dX0_lay_25 : decode cX0_lay 25 = .ok (.iconst 0, 1) := by decide +kernel
theorem dX0_lay_26 : decode cX0_lay 26 = .ok (.bipush 6, 2) := by decide +kernel
theorem dX0_lay_28 : decode cX0_lay 28 = .ok (.invokestatic 44, 3) := by decide +kernel
theorem dX0_lay_31 : decode cX0_lay 31 = .ok (.iconst 0, 1) := by decide +kernel
theorem dX0_lay_32 : decode cX0_lay 32 = .ok (.istore 4, 2) := by decide +kernel
theorem dX0_lay_34 : decode cX0_lay 34 = .ok (.iload 4, 2) := by decide +kernel
theorem dX0_lay_36 : decode cX0_lay 36 = .ok (.bipush 6, 2) := by decide +kernel
theorem dX0_lay_38 : decode cX0_lay 38 = .ok (.if_icmp .ge 60, 3) := by decide +kernel
theorem dX0_lay_41 : decode cX0_lay 41 = .ok (.iconst 0, 1) := by decide +kernel
theorem dX0_lay_42 : decode cX0_lay 42 = .ok (.istore 5, 2) := by decide +kernel
theorem dX0_lay_44 : decode cX0_lay 44 = .ok (.iload 5, 2) := by decide +kernel
theorem dX0_lay_46 : decode cX0_lay 46 = .ok (.bipush 6, 2) := by decide +kernel
theorem dX0_lay_48 : decode cX0_lay 48 = .ok (.if_icmp .ge 44, 3) := by decide +kernel
theorem dX0_lay_51 : decode cX0_lay 51 = .ok (.aload_n 0, 1) := by decide +kernel
theorem dX0_lay_52 : decode cX0_lay 52 = .ok (.getfield 18, 3) := by decide +kernel
theorem dX0_lay_55 : decode cX0_lay 55 = .ok (.iload 4, 2) := by decide +kernel
theorem dX0_lay_57 : decode cX0_lay 57 = .ok (.bipush 6, 2) := by decide +kernel
theorem dX0_lay_59 : decode cX0_lay 59 = .ok (.imul, 1) := by decide +kernel
theorem dX0_lay_60 : decode cX0_lay 60 = .ok (.iload 5, 2) := by decide +kernel
theorem dX0_lay_62 : decode cX0_lay 62 = .ok (.iadd, 1) := by decide +kernel
theorem dX0_lay_63 : decode cX0_lay 63 = .ok (.aload_n 0, 1) := by decide +kernel
theorem dX0_lay_64 : decode cX0_lay 64 = .ok (.iload 5, 2) := by decide +kernel
theorem dX0_lay_66 : decode cX0_lay 66 = .ok (.invokevirtual 50, 3) := by decide +kernel
theorem dX0_lay_69 : decode cX0_lay 69 = .ok (.ifCond .eq 7, 3) := by decide +kernel
theorem dX0_lay_72 : decode cX0_lay 72 = .ok (.iconst 0, 1) := by decide +kernel
theorem dX0_lay_73 : decode cX0_lay 73 = .ok (.goto 12, 3) := by decide +kernel
theorem dX0_lay_76 : decode cX0_lay 76 = .ok (.aload_n 1, 1) := by decide +kernel
theorem dX0_lay_77 : decode cX0_lay 77 = .ok (.iload 4, 2) := by decide +kernel
theorem dX0_lay_79 : decode cX0_lay 79 = .ok (.iload 5, 2) := by decide +kernel
theorem dX0_lay_81 : decode cX0_lay 81 = .ok (.iload_n 3, 1) := by decide +kernel
theorem dX0_lay_82 : decode cX0_lay 82 = .ok (.invokevirtual 54, 3) := by decide +kernel
theorem dX0_lay_85 : decode cX0_lay 85 = .ok (.iastore, 1) := by decide +kernel
theorem dX0_lay_86 : decode cX0_lay 86 = .ok (.iinc 5 1, 3) := by decide +kernel
theorem dX0_lay_89 : decode cX0_lay 89 = .ok (.goto (-45), 3) := by decide +kernel
theorem dX0_lay_92 : decode cX0_lay 92 = .ok (.iinc 4 1, 3) := by decide +kernel
theorem dX0_lay_95 : decode cX0_lay 95 = .ok (.goto (-61), 3) := by decide +kernel
theorem dX0_lay_98 : decode cX0_lay 98 = .ok (.iconst 0, 1) := by decide +kernel
theorem dX0_lay_99 : decode cX0_lay 99 = .ok (.istore 4, 2) := by decide +kernel
theorem dX0_lay_101 : decode cX0_lay 101 = .ok (.iload 4, 2) := by decide +kernel
theorem dX0_lay_103 : decode cX0_lay 103 = .ok (.aload_n 2, 1) := by decide +kernel
theorem dX0_lay_104 : decode cX0_lay 104 = .ok (.getfield 58, 3) := by decide +kernel
theorem dX0_lay_107 : decode cX0_lay 107 = .ok (.if_icmp .ge 44, 3) := by decide +kernel
theorem dX0_lay_110 : decode cX0_lay 110 = .ok (.iload 4, 2) := by decide +kernel
theorem dX0_lay_112 : decode cX0_lay 112 = .ok (.iconst 2, 1) := by decide +kernel
theorem dX0_lay_113 : decode cX0_lay 113 = .ok (.if_icmp .ge 38, 3) := by decide +kernel
theorem dX0_lay_116 : decode cX0_lay 116 = .ok (.aload_n 0, 1) := by decide +kernel
theorem dX0_lay_117 : decode cX0_lay 117 = .ok (.aload_n 2, 1) := by decide +kernel
theorem dX0_lay_118 : decode cX0_lay 118 = .ok (.getfield 61, 3) := by decide +kernel
theorem dX0_lay_121 : decode cX0_lay 121 = .ok (.iload 4, 2) := by decide +kernel
theorem dX0_lay_123 : decode cX0_lay 123 = .ok (.iaload, 1) := by decide +kernel
theorem dX0_lay_124 : decode cX0_lay 124 = .ok (.bipush 6, 2) := by decide +kernel
theorem dX0_lay_126 : decode cX0_lay 126 = .ok (.imul, 1) := by decide +kernel
theorem dX0_lay_127 : decode cX0_lay 127 = .ok (.aload_n 2, 1) := by decide +kernel
theorem dX0_lay_128 : decode cX0_lay 128 = .ok (.getfield 64, 3) := by decide +kernel
theorem dX0_lay_131 : decode cX0_lay 131 = .ok (.iload 4, 2) := by decide +kernel
theorem dX0_lay_133 : decode cX0_lay 133 = .ok (.iaload, 1) := by decide +kernel
theorem dX0_lay_134 : decode cX0_lay 134 = .ok (.iadd, 1) := by decide +kernel
theorem dX0_lay_135 : decode cX0_lay 135 = .ok (.aload_n 2, 1) := by decide +kernel
theorem dX0_lay_136 : decode cX0_lay 136 = .ok (.getfield 67, 3) := by decide +kernel
theorem dX0_lay_139 : decode cX0_lay 139 = .ok (.iload 4, 2) := by decide +kernel
theorem dX0_lay_141 : decode cX0_lay 141 = .ok (.iaload, 1) := by decide +kernel
theorem dX0_lay_142 : decode cX0_lay 142 = .ok (.invokevirtual 70, 3) := by decide +kernel
theorem dX0_lay_145 : decode cX0_lay 145 = .ok (.iinc 4 1, 3) := by decide +kernel
theorem dX0_lay_148 : decode cX0_lay 148 = .ok (.goto (-47), 3) := by decide +kernel
theorem dX0_lay_151 : decode cX0_lay 151 = .ok (.aload_n 0, 1) := by decide +kernel
theorem dX0_lay_152 : decode cX0_lay 152 = .ok (.invokevirtual 74, 3) := by decide +kernel
theorem dX0_lay_155 : decode cX0_lay 155 = .ok (.return_, 1) := by decide +kernel
theorem dX0_beatsTo_0 : decode cX0_beatsTo 0 = .ok (.aload_n 0, 1) := by decide +kernel
theorem dX0_beatsTo_1 : decode cX0_beatsTo 1 = .ok (.getfield 18, 3) := by decide +kernel
theorem dX0_beatsTo_4 : decode cX0_beatsTo 4 = .ok (.iload_n 1, 1) := by decide +kernel
theorem dX0_beatsTo_5 : decode cX0_beatsTo 5 = .ok (.bipush 6, 2) := by decide +kernel
theorem dX0_beatsTo_7 : decode cX0_beatsTo 7 = .ok (.imul, 1) := by decide +kernel
theorem dX0_beatsTo_8 : decode cX0_beatsTo 8 = .ok (.iload_n 2, 1) := by decide +kernel
theorem dX0_beatsTo_9 : decode cX0_beatsTo 9 = .ok (.iadd, 1) := by decide +kernel
theorem dX0_beatsTo_10 : decode cX0_beatsTo 10 = .ok (.iaload, 1) := by decide +kernel
theorem dX0_beatsTo_11 : decode cX0_beatsTo 11 = .ok (.ireturn, 1) := by decide +kernel
theorem dX0_silence_0 : decode cX0_silence 0 = .ok (.aload_n 0, 1) := by decide +kernel
theorem dX0_silence_1 : decode cX0_silence 1 = .ok (.dup, 1) := by decide +kernel
theorem dX0_silence_2 : decode cX0_silence 2 = .ok (.getfield 42, 3) := by decide +kernel
theorem dX0_silence_5 : decode cX0_silence 5 = .ok (.iconst 1, 1) := by decide +kernel
theorem dX0_silence_6 : decode cX0_silence 6 = .ok (.iload_n 1, 1) := by decide +kernel
theorem dX0_silence_7 : decode cX0_silence 7 = .ok (.ishl, 1) := by decide +kernel
theorem dX0_silence_8 : decode cX0_silence 8 = .ok (.ior, 1) := by decide +kernel
theorem dX0_silence_9 : decode cX0_silence 9 = .ok (.putfield 42, 3) := by decide +kernel
theorem dX0_silence_12 : decode cX0_silence 12 = .ok (.iconst 0, 1) := by decide +kernel
theorem dX0_silence_13 : decode cX0_silence 13 = .ok (.istore_n 2, 1) := by decide +kernel
theorem dX0_silence_14 : decode cX0_silence 14 = .ok (.iload_n 2, 1) := by decide +kernel
theorem dX0_silence_15 : decode cX0_silence 15 = .ok (.bipush 6, 2) := by decide +kernel
theorem dX0_silence_17 : decode cX0_silence 17 = .ok (.if_icmp .ge 21, 3) := by decide +kernel
theorem dX0_silence_20 : decode cX0_silence 20 = .ok (.aload_n 0, 1) := by decide +kernel
theorem dX0_silence_21 : decode cX0_silence 21 = .ok (.getfield 18, 3) := by decide +kernel
theorem dX0_silence_24 : decode cX0_silence 24 = .ok (.iload_n 2, 1) := by decide +kernel
theorem dX0_silence_25 : decode cX0_silence 25 = .ok (.bipush 6, 2) := by decide +kernel
theorem dX0_silence_27 : decode cX0_silence 27 = .ok (.imul, 1) := by decide +kernel
theorem dX0_silence_28 : decode cX0_silence 28 = .ok (.iload_n 1, 1) := by decide +kernel
theorem dX0_silence_29 : decode cX0_silence 29 = .ok (.iadd, 1) := by decide +kernel
theorem dX0_silence_30 : decode cX0_silence 30 = .ok (.iconst 0, 1) := by decide +kernel
theorem dX0_silence_31 : decode cX0_silence 31 = .ok (.iastore, 1) := by decide +kernel
theorem dX0_silence_32 : decode cX0_silence 32 = .ok (.iinc 2 1, 3) := by decide +kernel
theorem dX0_silence_35 : decode cX0_silence 35 = .ok (.goto (-21), 3) := by decide +kernel
theorem dX0_silence_38 : decode cX0_silence 38 = .ok (.aload_n 0, 1) := by decide +kernel
theorem dX0_silence_39 : decode cX0_silence 39 = .ok (.invokevirtual 74, 3) := by decide +kernel
theorem dX0_silence_42 : decode cX0_silence 42 = .ok (.return_, 1) := by decide +kernel
theorem dX0_goesOn_0 : decode cX0_goesOn 0 = .ok (.iconst 0, 1) := by decide +kernel
theorem dX0_goesOn_1 : decode cX0_goesOn 1 = .ok (.istore_n 2, 1) := by decide +kernel
theorem dX0_goesOn_2 : decode cX0_goesOn 2 = .ok (.iload_n 2, 1) := by decide +kernel
theorem dX0_goesOn_3 : decode cX0_goesOn 3 = .ok (.bipush 6, 2) := by decide +kernel
theorem dX0_goesOn_5 : decode cX0_goesOn 5 = .ok (.if_icmp .ge 16, 3) := by decide +kernel
theorem dX0_goesOn_8 : decode cX0_goesOn 8 = .ok (.aload_n 0, 1) := by decide +kernel
theorem dX0_goesOn_9 : decode cX0_goesOn 9 = .ok (.getfield 24, 3) := by decide +kernel
theorem dX0_goesOn_12 : decode cX0_goesOn 12 = .ok (.iload_n 2, 1) := by decide +kernel
theorem dX0_goesOn_13 : decode cX0_goesOn 13 = .ok (.iconst (-1), 1) := by decide +kernel
theorem dX0_goesOn_14 : decode cX0_goesOn 14 = .ok (.iastore, 1) := by decide +kernel
theorem dX0_goesOn_15 : decode cX0_goesOn 15 = .ok (.iinc 2 1, 3) := by decide +kernel
theorem dX0_goesOn_18 : decode cX0_goesOn 18 = .ok (.goto (-16), 3) := by decide +kernel
theorem dX0_goesOn_21 : decode cX0_goesOn 21 = .ok (.iload_n 1, 1) := by decide +kernel
theorem dX0_goesOn_22 : decode cX0_goesOn 22 = .ok (.istore_n 2, 1) := by decide +kernel
theorem dX0_goesOn_23 : decode cX0_goesOn 23 = .ok (.iconst 0, 1) := by decide +kernel
theorem dX0_goesOn_24 : decode cX0_goesOn 24 = .ok (.istore_n 3, 1) := by decide +kernel
theorem dX0_goesOn_25 : decode cX0_goesOn 25 = .ok (.iconst 0, 1) := by decide +kernel
theorem dX0_goesOn_26 : decode cX0_goesOn 26 = .ok (.istore 4, 2) := by decide +kernel
theorem dX0_goesOn_28 : decode cX0_goesOn 28 = .ok (.iload 4, 2) := by decide +kernel
theorem dX0_goesOn_30 : decode cX0_goesOn 30 = .ok (.bipush 6, 2) := by decide +kernel
theorem dX0_goesOn_32 : decode cX0_goesOn 32 = .ok (.if_icmp .gt 105, 3) := by decide +kernel
theorem dX0_goesOn_35 : decode cX0_goesOn 35 = .ok (.aload_n 0, 1) := by decide +kernel
theorem dX0_goesOn_36 : decode cX0_goesOn 36 = .ok (.getfield 24, 3) := by decide +kernel
theorem dX0_goesOn_39 : decode cX0_goesOn 39 = .ok (.iload_n 2, 1) := by decide +kernel
theorem dX0_goesOn_40 : decode cX0_goesOn 40 = .ok (.iaload, 1) := by decide +kernel
theorem dX0_goesOn_41 : decode cX0_goesOn 41 = .ok (.iconst (-1), 1) := by decide +kernel
theorem dX0_goesOn_42 : decode cX0_goesOn 42 = .ok (.if_icmp .eq 40, 3) := by decide +kernel
theorem dX0_goesOn_45 : decode cX0_goesOn 45 = .ok (.aload_n 0, 1) := by decide +kernel
theorem dX0_goesOn_46 : decode cX0_goesOn 46 = .ok (.aload_n 0, 1) := by decide +kernel
theorem dX0_goesOn_47 : decode cX0_goesOn 47 = .ok (.getfield 24, 3) := by decide +kernel
theorem dX0_goesOn_50 : decode cX0_goesOn 50 = .ok (.iload_n 2, 1) := by decide +kernel
theorem dX0_goesOn_51 : decode cX0_goesOn 51 = .ok (.iaload, 1) := by decide +kernel
theorem dX0_goesOn_52 : decode cX0_goesOn 52 = .ok (.putfield 77, 3) := by decide +kernel
theorem dX0_goesOn_55 : decode cX0_goesOn 55 = .ok (.aload_n 0, 1) := by decide +kernel
theorem dX0_goesOn_56 : decode cX0_goesOn 56 = .ok (.iload 4, 2) := by decide +kernel
theorem dX0_goesOn_58 : decode cX0_goesOn 58 = .ok (.aload_n 0, 1) := by decide +kernel
theorem dX0_goesOn_59 : decode cX0_goesOn 59 = .ok (.getfield 24, 3) := by decide +kernel
theorem dX0_goesOn_62 : decode cX0_goesOn 62 = .ok (.iload_n 2, 1) := by decide +kernel
theorem dX0_goesOn_63 : decode cX0_goesOn 63 = .ok (.iaload, 1) := by decide +kernel
theorem dX0_goesOn_64 : decode cX0_goesOn 64 = .ok (.isub, 1) := by decide +kernel
theorem dX0_goesOn_65 : decode cX0_goesOn 65 = .ok (.putfield 80, 3) := by decide +kernel
theorem dX0_goesOn_68 : decode cX0_goesOn 68 = .ok (.aload_n 0, 1) := by decide +kernel
theorem dX0_goesOn_69 : decode cX0_goesOn 69 = .ok (.iload_n 3, 1) := by decide +kernel
theorem dX0_goesOn_70 : decode cX0_goesOn 70 = .ok (.aload_n 0, 1) := by decide +kernel
theorem dX0_goesOn_71 : decode cX0_goesOn 71 = .ok (.getfield 27, 3) := by decide +kernel
theorem dX0_goesOn_74 : decode cX0_goesOn 74 = .ok (.iload_n 2, 1) := by decide +kernel
theorem dX0_goesOn_75 : decode cX0_goesOn 75 = .ok (.iaload, 1) := by decide +kernel
theorem dX0_goesOn_76 : decode cX0_goesOn 76 = .ok (.isub, 1) := by decide +kernel
theorem dX0_goesOn_77 : decode cX0_goesOn 77 = .ok (.putfield 83, 3) := by decide +kernel
theorem dX0_goesOn_80 : decode cX0_goesOn 80 = .ok (.iconst 1, 1) := by decide +kernel
theorem dX0_goesOn_81 : decode cX0_goesOn 81 = .ok (.ireturn, 1) := by decide +kernel
theorem dX0_goesOn_82 : decode cX0_goesOn 82 = .ok (.aload_n 0, 1) := by decide +kernel
theorem dX0_goesOn_83 : decode cX0_goesOn 83 = .ok (.getfield 24, 3) := by decide +kernel
theorem dX0_goesOn_86 : decode cX0_goesOn 86 = .ok (.iload_n 2, 1) := by decide +kernel
theorem dX0_goesOn_87 : decode cX0_goesOn 87 = .ok (.iload 4, 2) := by decide +kernel
theorem dX0_goesOn_89 : decode cX0_goesOn 89 = .ok (.iastore, 1) := by decide +kernel
theorem dX0_goesOn_90 : decode cX0_goesOn 90 = .ok (.aload_n 0, 1) := by decide +kernel
theorem dX0_goesOn_91 : decode cX0_goesOn 91 = .ok (.getfield 27, 3) := by decide +kernel
theorem dX0_goesOn_94 : decode cX0_goesOn 94 = .ok (.iload_n 2, 1) := by decide +kernel
theorem dX0_goesOn_95 : decode cX0_goesOn 95 = .ok (.iload_n 3, 1) := by decide +kernel
theorem dX0_goesOn_96 : decode cX0_goesOn 96 = .ok (.iastore, 1) := by decide +kernel
theorem dX0_goesOn_97 : decode cX0_goesOn 97 = .ok (.aload_n 0, 1) := by decide +kernel
theorem dX0_goesOn_98 : decode cX0_goesOn 98 = .ok (.getfield 9, 3) := by decide +kernel
theorem dX0_goesOn_101 : decode cX0_goesOn 101 = .ok (.iload_n 2, 1) := by decide +kernel
theorem dX0_goesOn_102 : decode cX0_goesOn 102 = .ok (.iaload, 1) := by decide +kernel
theorem dX0_goesOn_103 : decode cX0_goesOn 103 = .ok (.iconst (-1), 1) := by decide +kernel
theorem dX0_goesOn_104 : decode cX0_goesOn 104 = .ok (.if_icmp .ne 11, 3) := by decide +kernel
theorem dX0_goesOn_107 : decode cX0_goesOn 107 = .ok (.aload_n 0, 1) := by decide +kernel
theorem dX0_goesOn_108 : decode cX0_goesOn 108 = .ok (.iload 4, 2) := by decide +kernel
theorem dX0_goesOn_110 : decode cX0_goesOn 110 = .ok (.putfield 86, 3) := by decide +kernel
theorem dX0_goesOn_113 : decode cX0_goesOn 113 = .ok (.iconst 0, 1) := by decide +kernel
theorem dX0_goesOn_114 : decode cX0_goesOn 114 = .ok (.ireturn, 1) := by decide +kernel
theorem dX0_goesOn_115 : decode cX0_goesOn 115 = .ok (.iload_n 3, 1) := by decide +kernel
theorem dX0_goesOn_116 : decode cX0_goesOn 116 = .ok (.aload_n 0, 1) := by decide +kernel
theorem dX0_goesOn_117 : decode cX0_goesOn 117 = .ok (.getfield 15, 3) := by decide +kernel
theorem dX0_goesOn_120 : decode cX0_goesOn 120 = .ok (.iload_n 2, 1) := by decide +kernel
theorem dX0_goesOn_121 : decode cX0_goesOn 121 = .ok (.iaload, 1) := by decide +kernel
theorem dX0_goesOn_122 : decode cX0_goesOn 122 = .ok (.iadd, 1) := by decide +kernel
theorem dX0_goesOn_123 : decode cX0_goesOn 123 = .ok (.istore_n 3, 1) := by decide +kernel
theorem dX0_goesOn_124 : decode cX0_goesOn 124 = .ok (.aload_n 0, 1) := by decide +kernel
theorem dX0_goesOn_125 : decode cX0_goesOn 125 = .ok (.getfield 9, 3) := by decide +kernel
theorem dX0_goesOn_128 : decode cX0_goesOn 128 = .ok (.iload_n 2, 1) := by decide +kernel
theorem dX0_goesOn_129 : decode cX0_goesOn 129 = .ok (.iaload, 1) := by decide +kernel
theorem dX0_goesOn_130 : decode cX0_goesOn 130 = .ok (.istore_n 2, 1) := by decide +kernel
theorem dX0_goesOn_131 : decode cX0_goesOn 131 = .ok (.iinc 4 1, 3) := by decide +kernel
theorem dX0_goesOn_134 : decode cX0_goesOn 134 = .ok (.goto (-106), 3) := by decide +kernel
theorem dX0_goesOn_137 : decode cX0_goesOn 137 = .ok (.iconst 0, 1) := by decide +kernel
theorem dX0_goesOn_138 : decode cX0_goesOn 138 = .ok (.ireturn, 1) := by decide +kernel
theorem dX0_fewestMules_0 : decode cX0_fewestMules 0 = .ok (.aload_n 0, 1) := by decide +kernel
theorem dX0_fewestMules_1 : decode cX0_fewestMules 1 = .ok (.iconst (-1), 1) := by decide +kernel
theorem dX0_fewestMules_2 : decode cX0_fewestMules 2 = .ok (.putfield 89, 3) := by decide +kernel
theorem dX0_fewestMules_5 : decode cX0_fewestMules 5 = .ok (.aload_n 0, 1) := by decide +kernel
theorem dX0_fewestMules_6 : decode cX0_fewestMules 6 = .ok (.iconst (-1), 1) := by decide +kernel
theorem dX0_fewestMules_7 : decode cX0_fewestMules 7 = .ok (.putfield 92, 3) := by decide +kernel
theorem dX0_fewestMules_10 : decode cX0_fewestMules 10 = .ok (.aload_n 0, 1) := by decide +kernel
theorem dX0_fewestMules_11 : decode cX0_fewestMules 11 = .ok (.iload_n 1, 1) := by decide +kernel
theorem dX0_fewestMules_12 : decode cX0_fewestMules 12 = .ok (.invokevirtual 95, 3) := by decide +kernel
theorem dX0_fewestMules_15 : decode cX0_fewestMules 15 = .ok (.ifCond .eq 5, 3) := by decide +kernel
theorem dX0_fewestMules_18 : decode cX0_fewestMules 18 = .ok (.iconst 0, 1) := by decide +kernel
theorem dX0_fewestMules_19 : decode cX0_fewestMules 19 = .ok (.ireturn, 1) := by decide +kernel
theorem dX0_fewestMules_20 : decode cX0_fewestMules 20 = .ok (.aload_n 0, 1) := by decide +kernel
theorem dX0_fewestMules_21 : decode cX0_fewestMules 21 = .ok (.aload_n 0, 1) := by decide +kernel
theorem dX0_fewestMules_22 : decode cX0_fewestMules 22 = .ok (.iload_n 1, 1) := by decide +kernel
theorem dX0_fewestMules_23 : decode cX0_fewestMules 23 = .ok (.iload_n 2, 1) := by decide +kernel
theorem dX0_fewestMules_24 : decode cX0_fewestMules 24 = .ok (.iconst 0, 1) := by decide +kernel
theorem dX0_fewestMules_25 : decode cX0_fewestMules 25 = .ok (.invokevirtual 98, 3) := by decide +kernel
theorem dX0_fewestMules_28 : decode cX0_fewestMules 28 = .ok (.putfield 89, 3) := by decide +kernel
theorem dX0_fewestMules_31 : decode cX0_fewestMules 31 = .ok (.aload_n 0, 1) := by decide +kernel
theorem dX0_fewestMules_32 : decode cX0_fewestMules 32 = .ok (.getfield 89, 3) := by decide +kernel
theorem dX0_fewestMules_35 : decode cX0_fewestMules 35 = .ok (.iconst (-1), 1) := by decide +kernel
theorem dX0_fewestMules_36 : decode cX0_fewestMules 36 = .ok (.if_icmp .eq 5, 3) := by decide +kernel
theorem dX0_fewestMules_39 : decode cX0_fewestMules 39 = .ok (.iconst 1, 1) := by decide +kernel
theorem dX0_fewestMules_40 : decode cX0_fewestMules 40 = .ok (.ireturn, 1) := by decide +kernel
theorem dX0_fewestMules_41 : decode cX0_fewestMules 41 = .ok (.iconst 0, 1) := by decide +kernel
theorem dX0_fewestMules_42 : decode cX0_fewestMules 42 = .ok (.istore_n 3, 1) := by decide +kernel
theorem dX0_fewestMules_43 : decode cX0_fewestMules 43 = .ok (.iload_n 3, 1) := by decide +kernel
theorem dX0_fewestMules_44 : decode cX0_fewestMules 44 = .ok (.bipush 36, 2) := by decide +kernel
theorem dX0_fewestMules_46 : decode cX0_fewestMules 46 = .ok (.if_icmp .ge 65, 3) := by decide +kernel
theorem dX0_fewestMules_49 : decode cX0_fewestMules 49 = .ok (.aload_n 0, 1) := by decide +kernel
theorem dX0_fewestMules_50 : decode cX0_fewestMules 50 = .ok (.iload_n 3, 1) := by decide +kernel
theorem dX0_fewestMules_51 : decode cX0_fewestMules 51 = .ok (.invokevirtual 101, 3) := by decide +kernel
theorem dX0_fewestMules_54 : decode cX0_fewestMules 54 = .ok (.ifCond .ne 6, 3) := by decide +kernel
theorem dX0_fewestMules_57 : decode cX0_fewestMules 57 = .ok (.goto 48, 3) := by decide +kernel
theorem dX0_fewestMules_60 : decode cX0_fewestMules 60 = .ok (.aload_n 0, 1) := by decide +kernel
theorem dX0_fewestMules_61 : decode cX0_fewestMules 61 = .ok (.iload_n 3, 1) := by decide +kernel
theorem dX0_fewestMules_62 : decode cX0_fewestMules 62 = .ok (.iload_n 2, 1) := by decide +kernel
theorem dX0_fewestMules_63 : decode cX0_fewestMules 63 = .ok (.invokevirtual 104, 3) := by decide +kernel
theorem dX0_fewestMules_66 : decode cX0_fewestMules 66 = .ok (.istore 4, 2) := by decide +kernel
theorem dX0_fewestMules_68 : decode cX0_fewestMules 68 = .ok (.aload_n 0, 1) := by decide +kernel
theorem dX0_fewestMules_69 : decode cX0_fewestMules 69 = .ok (.iload_n 1, 1) := by decide +kernel
theorem dX0_fewestMules_70 : decode cX0_fewestMules 70 = .ok (.iload_n 2, 1) := by decide +kernel
theorem dX0_fewestMules_71 : decode cX0_fewestMules 71 = .ok (.iload_n 3, 1) := by decide +kernel
theorem dX0_fewestMules_72 : decode cX0_fewestMules 72 = .ok (.iconst 1, 1) := by decide +kernel
theorem dX0_fewestMules_73 : decode cX0_fewestMules 73 = .ok (.iadd, 1) := by decide +kernel
theorem dX0_fewestMules_74 : decode cX0_fewestMules 74 = .ok (.invokevirtual 98, 3) := by decide +kernel
theorem dX0_fewestMules_77 : decode cX0_fewestMules 77 = .ok (.istore 5, 2) := by decide +kernel
theorem dX0_fewestMules_79 : decode cX0_fewestMules 79 = .ok (.aload_n 0, 1) := by decide +kernel
theorem dX0_fewestMules_80 : decode cX0_fewestMules 80 = .ok (.iload_n 3, 1) := by decide +kernel
theorem dX0_fewestMules_81 : decode cX0_fewestMules 81 = .ok (.iload 4, 2) := by decide +kernel
theorem dX0_fewestMules_83 : decode cX0_fewestMules 83 = .ok (.invokevirtual 108, 3) := by decide +kernel
theorem dX0_fewestMules_86 : decode cX0_fewestMules 86 = .ok (.iload 5, 2) := by decide +kernel
theorem dX0_fewestMules_88 : decode cX0_fewestMules 88 = .ok (.iconst (-1), 1) := by decide +kernel
theorem dX0_fewestMules_89 : decode cX0_fewestMules 89 = .ok (.if_icmp .eq 16, 3) := by decide +kernel
theorem dX0_fewestMules_92 : decode cX0_fewestMules 92 = .ok (.aload_n 0, 1) := by decide +kernel
theorem dX0_fewestMules_93 : decode cX0_fewestMules 93 = .ok (.iload_n 3, 1) := by decide +kernel
theorem dX0_fewestMules_94 : decode cX0_fewestMules 94 = .ok (.putfield 89, 3) := by decide +kernel
theorem dX0_fewestMules_97 : decode cX0_fewestMules 97 = .ok (.aload_n 0, 1) := by decide +kernel
theorem dX0_fewestMules_98 : decode cX0_fewestMules 98 = .ok (.iload 5, 2) := by decide +kernel
theorem dX0_fewestMules_100 : decode cX0_fewestMules 100 = .ok (.putfield 92, 3) := by decide +kernel
theorem dX0_fewestMules_103 : decode cX0_fewestMules 103 = .ok (.iconst 2, 1) := by decide +kernel
theorem dX0_fewestMules_104 : decode cX0_fewestMules 104 = .ok (.ireturn, 1) := by decide +kernel
theorem dX0_fewestMules_105 : decode cX0_fewestMules 105 = .ok (.iinc 3 1, 3) := by decide +kernel
theorem dX0_fewestMules_108 : decode cX0_fewestMules 108 = .ok (.goto (-65), 3) := by decide +kernel
theorem dX0_fewestMules_111 : decode cX0_fewestMules 111 = .ok (.bipush (-9), 2) := by decide +kernel
theorem dX0_fewestMules_113 : decode cX0_fewestMules 113 = .ok (.ireturn, 1) := by decide +kernel
theorem dX0_firstThatHelps_0 : decode cX0_firstThatHelps 0 = .ok (.iload_n 3, 1) := by decide +kernel
theorem dX0_firstThatHelps_1 : decode cX0_firstThatHelps 1 = .ok (.istore 4, 2) := by decide +kernel
theorem dX0_firstThatHelps_3 : decode cX0_firstThatHelps 3 = .ok (.iload 4, 2) := by decide +kernel
theorem dX0_firstThatHelps_5 : decode cX0_firstThatHelps 5 = .ok (.bipush 36, 2) := by decide +kernel
theorem dX0_firstThatHelps_7 : decode cX0_firstThatHelps 7 = .ok (.if_icmp .ge 53, 3) := by decide +kernel
theorem dX0_firstThatHelps_10 : decode cX0_firstThatHelps 10 = .ok (.aload_n 0, 1) := by decide +kernel
theorem dX0_firstThatHelps_11 : decode cX0_firstThatHelps 11 = .ok (.iload 4, 2) := by decide +kernel
theorem dX0_firstThatHelps_13 : decode cX0_firstThatHelps 13 = .ok (.invokevirtual 101, 3) := by decide +kernel
theorem dX0_firstThatHelps_16 : decode cX0_firstThatHelps 16 = .ok (.ifCond .ne 6, 3) := by decide +kernel
theorem dX0_firstThatHelps_19 : decode cX0_firstThatHelps 19 = .ok (.goto 35, 3) := by decide +kernel
theorem dX0_firstThatHelps_22 : decode cX0_firstThatHelps 22 = .ok (.aload_n 0, 1) := by decide +kernel
theorem dX0_firstThatHelps_23 : decode cX0_firstThatHelps 23 = .ok (.iload 4, 2) := by decide +kernel
theorem dX0_firstThatHelps_25 : decode cX0_firstThatHelps 25 = .ok (.iload_n 2, 1) := by decide +kernel
theorem dX0_firstThatHelps_26 : decode cX0_firstThatHelps 26 = .ok (.invokevirtual 104, 3) := by decide +kernel
theorem dX0_firstThatHelps_29 : decode cX0_firstThatHelps 29 = .ok (.istore 5, 2) := by decide +kernel
theorem dX0_firstThatHelps_31 : decode cX0_firstThatHelps 31 = .ok (.aload_n 0, 1) := by decide +kernel
theorem dX0_firstThatHelps_32 : decode cX0_firstThatHelps 32 = .ok (.iload_n 1, 1) := by decide +kernel
theorem dX0_firstThatHelps_33 : decode cX0_firstThatHelps 33 = .ok (.invokevirtual 95, 3) := by decide +kernel
theorem dX0_firstThatHelps_36 : decode cX0_firstThatHelps 36 = .ok (.istore 6, 2) := by decide +kernel
theorem dX0_firstThatHelps_38 : decode cX0_firstThatHelps 38 = .ok (.aload_n 0, 1) := by decide +kernel
theorem dX0_firstThatHelps_39 : decode cX0_firstThatHelps 39 = .ok (.iload 4, 2) := by decide +kernel
theorem dX0_firstThatHelps_41 : decode cX0_firstThatHelps 41 = .ok (.iload 5, 2) := by decide +kernel
theorem dX0_firstThatHelps_43 : decode cX0_firstThatHelps 43 = .ok (.invokevirtual 108, 3) := by decide +kernel
theorem dX0_firstThatHelps_46 : decode cX0_firstThatHelps 46 = .ok (.iload 6, 2) := by decide +kernel
theorem dX0_firstThatHelps_48 : decode cX0_firstThatHelps 48 = .ok (.ifCond .eq 6, 3) := by decide +kernel
theorem dX0_firstThatHelps_51 : decode cX0_firstThatHelps 51 = .ok (.iload 4, 2) := by decide +kernel
theorem dX0_firstThatHelps_53 : decode cX0_firstThatHelps 53 = .ok (.ireturn, 1) := by decide +kernel
theorem dX0_firstThatHelps_54 : decode cX0_firstThatHelps 54 = .ok (.iinc 4 1, 3) := by decide +kernel
theorem dX0_firstThatHelps_57 : decode cX0_firstThatHelps 57 = .ok (.goto (-54), 3) := by decide +kernel
theorem dX0_firstThatHelps_60 : decode cX0_firstThatHelps 60 = .ok (.iconst (-1), 1) := by decide +kernel
theorem dX0_firstThatHelps_61 : decode cX0_firstThatHelps 61 = .ok (.ireturn, 1) := by decide +kernel
theorem dX0_isPairOfTwo_0 : decode cX0_isPairOfTwo 0 = .ok (.iload_n 1, 1) := by decide +kernel
theorem dX0_isPairOfTwo_1 : decode cX0_isPairOfTwo 1 = .ok (.bipush 6, 2) := by decide +kernel
theorem dX0_isPairOfTwo_3 : decode cX0_isPairOfTwo 3 = .ok (.idiv, 1) := by decide +kernel
theorem dX0_isPairOfTwo_4 : decode cX0_isPairOfTwo 4 = .ok (.istore_n 2, 1) := by decide +kernel
theorem dX0_isPairOfTwo_5 : decode cX0_isPairOfTwo 5 = .ok (.iload_n 1, 1) := by decide +kernel
theorem dX0_isPairOfTwo_6 : decode cX0_isPairOfTwo 6 = .ok (.bipush 6, 2) := by decide +kernel
theorem dX0_isPairOfTwo_8 : decode cX0_isPairOfTwo 8 = .ok (.irem, 1) := by decide +kernel
theorem dX0_isPairOfTwo_9 : decode cX0_isPairOfTwo 9 = .ok (.istore_n 3, 1) := by decide +kernel
theorem dX0_isPairOfTwo_10 : decode cX0_isPairOfTwo 10 = .ok (.iload_n 2, 1) := by decide +kernel
theorem dX0_isPairOfTwo_11 : decode cX0_isPairOfTwo 11 = .ok (.iload_n 3, 1) := by decide +kernel
theorem dX0_isPairOfTwo_12 : decode cX0_isPairOfTwo 12 = .ok (.if_icmp .eq 23, 3) := by decide +kernel
theorem dX0_isPairOfTwo_15 : decode cX0_isPairOfTwo 15 = .ok (.iload_n 2, 1) := by decide +kernel
theorem dX0_isPairOfTwo_16 : decode cX0_isPairOfTwo 16 = .ok (.aload_n 0, 1) := by decide +kernel
theorem dX0_isPairOfTwo_17 : decode cX0_isPairOfTwo 17 = .ok (.getfield 36, 3) := by decide +kernel
theorem dX0_isPairOfTwo_20 : decode cX0_isPairOfTwo 20 = .ok (.if_icmp .ge 15, 3) := by decide +kernel
theorem dX0_isPairOfTwo_23 : decode cX0_isPairOfTwo 23 = .ok (.iload_n 3, 1) := by decide +kernel
theorem dX0_isPairOfTwo_24 : decode cX0_isPairOfTwo 24 = .ok (.aload_n 0, 1) := by decide +kernel
theorem dX0_isPairOfTwo_25 : decode cX0_isPairOfTwo 25 = .ok (.getfield 36, 3) := by decide +kernel
theorem dX0_isPairOfTwo_28 : decode cX0_isPairOfTwo 28 = .ok (.if_icmp .ge 7, 3) := by decide +kernel
theorem dX0_isPairOfTwo_31 : decode cX0_isPairOfTwo 31 = .ok (.iconst 1, 1) := by decide +kernel
theorem dX0_isPairOfTwo_32 : decode cX0_isPairOfTwo 32 = .ok (.goto 4, 3) := by decide +kernel
theorem dX0_isPairOfTwo_35 : decode cX0_isPairOfTwo 35 = .ok (.iconst 0, 1) := by decide +kernel
theorem dX0_isPairOfTwo_36 : decode cX0_isPairOfTwo 36 = .ok (.ireturn, 1) := by decide +kernel
theorem dX0_lend_0 : decode cX0_lend 0 = .ok (.aload_n 0, 1) := by decide +kernel
theorem dX0_lend_1 : decode cX0_lend 1 = .ok (.getfield 18, 3) := by decide +kernel
theorem dX0_lend_4 : decode cX0_lend 4 = .ok (.iload_n 1, 1) := by decide +kernel
theorem dX0_lend_5 : decode cX0_lend 5 = .ok (.iaload, 1) := by decide +kernel
theorem dX0_lend_6 : decode cX0_lend 6 = .ok (.istore_n 3, 1) := by decide +kernel
theorem dX0_lend_7 : decode cX0_lend 7 = .ok (.aload_n 0, 1) := by decide +kernel
theorem dX0_lend_8 : decode cX0_lend 8 = .ok (.iload_n 1, 1) := by decide +kernel
theorem dX0_lend_9 : decode cX0_lend 9 = .ok (.iload_n 2, 1) := by decide +kernel
theorem dX0_lend_10 : decode cX0_lend 10 = .ok (.invokevirtual 70, 3) := by decide +kernel
theorem dX0_lend_13 : decode cX0_lend 13 = .ok (.aload_n 0, 1) := by decide +kernel
theorem dX0_lend_14 : decode cX0_lend 14 = .ok (.iload_n 1, 1) := by decide +kernel
theorem dX0_lend_15 : decode cX0_lend 15 = .ok (.bipush 6, 2) := by decide +kernel
theorem dX0_lend_17 : decode cX0_lend 17 = .ok (.idiv, 1) := by decide +kernel
theorem dX0_lend_18 : decode cX0_lend 18 = .ok (.invokevirtual 111, 3) := by decide +kernel
theorem dX0_lend_21 : decode cX0_lend 21 = .ok (.iload_n 3, 1) := by decide +kernel
theorem dX0_lend_22 : decode cX0_lend 22 = .ok (.ireturn, 1) := by decide +kernel
theorem dX0_takeBack_0 : decode cX0_takeBack 0 = .ok (.aload_n 0, 1) := by decide +kernel
theorem dX0_takeBack_1 : decode cX0_takeBack 1 = .ok (.getfield 18, 3) := by decide +kernel
theorem dX0_takeBack_4 : decode cX0_takeBack 4 = .ok (.iload_n 1, 1) := by decide +kernel
theorem dX0_takeBack_5 : decode cX0_takeBack 5 = .ok (.iload_n 2, 1) := by decide +kernel
theorem dX0_takeBack_6 : decode cX0_takeBack 6 = .ok (.iastore, 1) := by decide +kernel
theorem dX0_takeBack_7 : decode cX0_takeBack 7 = .ok (.aload_n 0, 1) := by decide +kernel
theorem dX0_takeBack_8 : decode cX0_takeBack 8 = .ok (.iload_n 1, 1) := by decide +kernel
theorem dX0_takeBack_9 : decode cX0_takeBack 9 = .ok (.bipush 6, 2) := by decide +kernel
theorem dX0_takeBack_11 : decode cX0_takeBack 11 = .ok (.idiv, 1) := by decide +kernel
theorem dX0_takeBack_12 : decode cX0_takeBack 12 = .ok (.invokevirtual 111, 3) := by decide +kernel
theorem dX0_takeBack_15 : decode cX0_takeBack 15 = .ok (.return_, 1) := by decide +kernel
theorem dX0_shorten_0 : decode cX0_shorten 0 = .ok (.aload_n 0, 1) := by decide +kernel
theorem dX0_shorten_1 : decode cX0_shorten 1 = .ok (.getfield 18, 3) := by decide +kernel
theorem dX0_shorten_4 : decode cX0_shorten 4 = .ok (.iload_n 1, 1) := by decide +kernel
theorem dX0_shorten_5 : decode cX0_shorten 5 = .ok (.iaload, 1) := by decide +kernel
theorem dX0_shorten_6 : decode cX0_shorten 6 = .ok (.ifCond .eq 13, 3) := by decide +kernel
theorem dX0_shorten_9 : decode cX0_shorten 9 = .ok (.aload_n 0, 1) := by decide +kernel
theorem dX0_shorten_10 : decode cX0_shorten 10 = .ok (.getfield 18, 3) := by decide +kernel
theorem dX0_shorten_13 : decode cX0_shorten 13 = .ok (.iload_n 1, 1) := by decide +kernel
theorem dX0_shorten_14 : decode cX0_shorten 14 = .ok (.iaload, 1) := by decide +kernel
theorem dX0_shorten_15 : decode cX0_shorten 15 = .ok (.iload_n 2, 1) := by decide +kernel
theorem dX0_shorten_16 : decode cX0_shorten 16 = .ok (.if_icmp .le 7, 3) := by decide +kernel
theorem dX0_shorten_19 : decode cX0_shorten 19 = .ok (.iconst 1, 1) := by decide +kernel
theorem dX0_shorten_20 : decode cX0_shorten 20 = .ok (.goto 4, 3) := by decide +kernel
theorem dX0_shorten_23 : decode cX0_shorten 23 = .ok (.iconst 0, 1) := by decide +kernel
theorem dX0_shorten_24 : decode cX0_shorten 24 = .ok (.istore_n 3, 1) := by decide +kernel
theorem dX0_shorten_25 : decode cX0_shorten 25 = .ok (.iload_n 3, 1) := by decide +kernel
theorem dX0_shorten_26 : decode cX0_shorten 26 = .ok (.ifCond .eq 21, 3) := by decide +kernel
theorem dX0_shorten_29 : decode cX0_shorten 29 = .ok (.aload_n 0, 1) := by decide +kernel
theorem dX0_shorten_30 : decode cX0_shorten 30 = .ok (.iload_n 1, 1) := by decide +kernel
theorem dX0_shorten_31 : decode cX0_shorten 31 = .ok (.bipush 6, 2) := by decide +kernel
theorem dX0_shorten_33 : decode cX0_shorten 33 = .ok (.irem, 1) := by decide +kernel
theorem dX0_shorten_34 : decode cX0_shorten 34 = .ok (.invokevirtual 50, 3) := by decide +kernel
theorem dX0_shorten_37 : decode cX0_shorten 37 = .ok (.ifCond .ne 10, 3) := by decide +kernel
theorem dX0_shorten_40 : decode cX0_shorten 40 = .ok (.aload_n 0, 1) := by decide +kernel
theorem dX0_shorten_41 : decode cX0_shorten 41 = .ok (.getfield 18, 3) := by decide +kernel
theorem dX0_shorten_44 : decode cX0_shorten 44 = .ok (.iload_n 1, 1) := by decide +kernel
theorem dX0_shorten_45 : decode cX0_shorten 45 = .ok (.iload_n 2, 1) := by decide +kernel
theorem dX0_shorten_46 : decode cX0_shorten 46 = .ok (.iastore, 1) := by decide +kernel
theorem dX0_shorten_47 : decode cX0_shorten 47 = .ok (.return_, 1) := by decide +kernel
theorem dX0_isDeaf_0 : decode cX0_isDeaf 0 = .ok (.aload_n 0, 1) := by decide +kernel
theorem dX0_isDeaf_1 : decode cX0_isDeaf 1 = .ok (.getfield 42, 3) := by decide +kernel
theorem dX0_isDeaf_4 : decode cX0_isDeaf 4 = .ok (.iload_n 1, 1) := by decide +kernel
theorem dX0_isDeaf_5 : decode cX0_isDeaf 5 = .ok (.ishr, 1) := by decide +kernel
theorem dX0_isDeaf_6 : decode cX0_isDeaf 6 = .ok (.iconst 1, 1) := by decide +kernel
theorem dX0_isDeaf_7 : decode cX0_isDeaf 7 = .ok (.iand, 1) := by decide +kernel
theorem dX0_isDeaf_8 : decode cX0_isDeaf 8 = .ok (.iconst 1, 1) := by decide +kernel
theorem dX0_isDeaf_9 : decode cX0_isDeaf 9 = .ok (.if_icmp .ne 7, 3) := by decide +kernel
theorem dX0_isDeaf_12 : decode cX0_isDeaf 12 = .ok (.iconst 1, 1) := by decide +kernel
theorem dX0_isDeaf_13 : decode cX0_isDeaf 13 = .ok (.goto 4, 3) := by decide +kernel
theorem dX0_isDeaf_16 : decode cX0_isDeaf 16 = .ok (.iconst 0, 1) := by decide +kernel
theorem dX0_isDeaf_17 : decode cX0_isDeaf 17 = .ok (.ireturn, 1) := by decide +kernel
theorem dX0_findAllNext_0 : decode cX0_findAllNext 0 = .ok (.iconst 0, 1) := by decide +kernel
theorem dX0_findAllNext_1 : decode cX0_findAllNext 1 = .ok (.istore_n 1, 1) := by decide +kernel
theorem dX0_findAllNext_2 : decode cX0_findAllNext 2 = .ok (.iload_n 1, 1) := by decide +kernel
theorem dX0_findAllNext_3 : decode cX0_findAllNext 3 = .ok (.bipush 6, 2) := by decide +kernel
theorem dX0_findAllNext_5 : decode cX0_findAllNext 5 = .ok (.if_icmp .ge 14, 3) := by decide +kernel
theorem dX0_findAllNext_8 : decode cX0_findAllNext 8 = .ok (.aload_n 0, 1) := by decide +kernel
theorem dX0_findAllNext_9 : decode cX0_findAllNext 9 = .ok (.iload_n 1, 1) := by decide +kernel
theorem dX0_findAllNext_10 : decode cX0_findAllNext 10 = .ok (.invokevirtual 111, 3) := by decide +kernel
theorem dX0_findAllNext_13 : decode cX0_findAllNext 13 = .ok (.iinc 1 1, 3) := by decide +kernel
theorem dX0_findAllNext_16 : decode cX0_findAllNext 16 = .ok (.goto (-14), 3) := by decide +kernel
theorem dX0_findAllNext_19 : decode cX0_findAllNext 19 = .ok (.return_, 1) := by decide +kernel
theorem dX0_findNext_0 : decode cX0_findNext 0 = .ok (.iconst 0, 1) := by decide +kernel
theorem dX0_findNext_1 : decode cX0_findNext 1 = .ok (.istore_n 2, 1) := by decide +kernel
theorem dX0_findNext_2 : decode cX0_findNext 2 = .ok (.aload_n 0, 1) := by decide +kernel
theorem dX0_findNext_3 : decode cX0_findNext 3 = .ok (.getfield 9, 3) := by decide +kernel
theorem dX0_findNext_6 : decode cX0_findNext 6 = .ok (.iload_n 1, 1) := by decide +kernel
theorem dX0_findNext_7 : decode cX0_findNext 7 = .ok (.iconst (-1), 1) := by decide +kernel
theorem dX0_findNext_8 : decode cX0_findNext 8 = .ok (.iastore, 1) := by decide +kernel
theorem dX0_findNext_9 : decode cX0_findNext 9 = .ok (.aload_n 0, 1) := by decide +kernel
theorem dX0_findNext_10 : decode cX0_findNext 10 = .ok (.getfield 15, 3) := by decide +kernel
theorem dX0_findNext_13 : decode cX0_findNext 13 = .ok (.iload_n 1, 1) := by decide +kernel
theorem dX0_findNext_14 : decode cX0_findNext 14 = .ok (.iconst 0, 1) := by decide +kernel
theorem dX0_findNext_15 : decode cX0_findNext 15 = .ok (.iastore, 1) := by decide +kernel
theorem dX0_findNext_16 : decode cX0_findNext 16 = .ok (.iconst 0, 1) := by decide +kernel
theorem dX0_findNext_17 : decode cX0_findNext 17 = .ok (.istore_n 3, 1) := by decide +kernel
theorem dX0_findNext_18 : decode cX0_findNext 18 = .ok (.iload_n 3, 1) := by decide +kernel
theorem dX0_findNext_19 : decode cX0_findNext 19 = .ok (.aload_n 0, 1) := by decide +kernel
theorem dX0_findNext_20 : decode cX0_findNext 20 = .ok (.getfield 36, 3) := by decide +kernel
theorem dX0_findNext_23 : decode cX0_findNext 23 = .ok (.if_icmp .ge 48, 3) := by decide +kernel
theorem dX0_findNext_26 : decode cX0_findNext 26 = .ok (.aload_n 0, 1) := by decide +kernel
theorem dX0_findNext_27 : decode cX0_findNext 27 = .ok (.iload_n 1, 1) := by decide +kernel
theorem dX0_findNext_28 : decode cX0_findNext 28 = .ok (.iload_n 3, 1) := by decide +kernel
theorem dX0_findNext_29 : decode cX0_findNext 29 = .ok (.invokevirtual 115, 3) := by decide +kernel
theorem dX0_findNext_32 : decode cX0_findNext 32 = .ok (.istore 4, 2) := by decide +kernel
theorem dX0_findNext_34 : decode cX0_findNext 34 = .ok (.iload 4, 2) := by decide +kernel
theorem dX0_findNext_36 : decode cX0_findNext 36 = .ok (.iload_n 2, 1) := by decide +kernel
theorem dX0_findNext_37 : decode cX0_findNext 37 = .ok (.if_icmp .le 28, 3) := by decide +kernel
theorem dX0_findNext_40 : decode cX0_findNext 40 = .ok (.iload 4, 2) := by decide +kernel
theorem dX0_findNext_42 : decode cX0_findNext 42 = .ok (.istore_n 2, 1) := by decide +kernel
theorem dX0_findNext_43 : decode cX0_findNext 43 = .ok (.aload_n 0, 1) := by decide +kernel
theorem dX0_findNext_44 : decode cX0_findNext 44 = .ok (.getfield 9, 3) := by decide +kernel
theorem dX0_findNext_47 : decode cX0_findNext 47 = .ok (.iload_n 1, 1) := by decide +kernel
theorem dX0_findNext_48 : decode cX0_findNext 48 = .ok (.iload_n 3, 1) := by decide +kernel
theorem dX0_findNext_49 : decode cX0_findNext 49 = .ok (.iastore, 1) := by decide +kernel
theorem dX0_findNext_50 : decode cX0_findNext 50 = .ok (.aload_n 0, 1) := by decide +kernel
theorem dX0_findNext_51 : decode cX0_findNext 51 = .ok (.getfield 15, 3) := by decide +kernel
theorem dX0_findNext_54 : decode cX0_findNext 54 = .ok (.iload_n 1, 1) := by decide +kernel
theorem dX0_findNext_55 : decode cX0_findNext 55 = .ok (.iload 4, 2) := by decide +kernel
theorem dX0_findNext_57 : decode cX0_findNext 57 = .ok (.aload_n 0, 1) := by decide +kernel
theorem dX0_findNext_58 : decode cX0_findNext 58 = .ok (.getfield 21, 3) := by decide +kernel
theorem dX0_findNext_61 : decode cX0_findNext 61 = .ok (.iload_n 3, 1) := by decide +kernel
theorem dX0_findNext_62 : decode cX0_findNext 62 = .ok (.iaload, 1) := by decide +kernel
theorem dX0_findNext_63 : decode cX0_findNext 63 = .ok (.iadd, 1) := by decide +kernel
theorem dX0_findNext_64 : decode cX0_findNext 64 = .ok (.iastore, 1) := by decide +kernel
theorem dX0_findNext_65 : decode cX0_findNext 65 = .ok (.iinc 3 1, 3) := by decide +kernel
theorem dX0_findNext_68 : decode cX0_findNext 68 = .ok (.goto (-50), 3) := by decide +kernel
theorem dX0_findNext_71 : decode cX0_findNext 71 = .ok (.return_, 1) := by decide +kernel
theorem dX1_init_0 : decode cX1_init 0 = .ok (.aload_n 0, 1) := by decide +kernel
theorem dX1_init_1 : decode cX1_init 1 = .ok (.invokespecial 1, 3) := by decide +kernel
theorem dX1_init_4 : decode cX1_init 4 = .ok (.return_, 1) := by decide +kernel
theorem dX1_worth_0 : decode cX1_worth 0 = .ok (.aload_n 0, 1) := by decide +kernel
theorem dX1_worth_1 : decode cX1_worth 1 = .ok (.dup, 1) := by decide +kernel
theorem dX1_worth_2 : decode cX1_worth 2 = .ok (.getfield 7, 3) := by decide +kernel
theorem dX1_worth_5 : decode cX1_worth 5 = .ok (.ldc2_w 13, 3) := by decide +kernel
theorem dX1_worth_8 : decode cX1_worth 8 = .ok (.ladd, 1) := by decide +kernel
theorem dX1_worth_9 : decode cX1_worth 9 = .ok (.putfield 7, 3) := by decide +kernel
theorem dX1_worth_12 : decode cX1_worth 12 = .ok (.aload_n 0, 1) := by decide +kernel
theorem dX1_worth_13 : decode cX1_worth 13 = .ok (.aload_n 1, 1) := by decide +kernel
theorem dX1_worth_14 : decode cX1_worth 14 = .ok (.aload_n 2, 1) := by decide +kernel
theorem dX1_worth_15 : decode cX1_worth 15 = .ok (.iload_n 3, 1) := by decide +kernel
theorem dX1_worth_16 : decode cX1_worth 16 = .ok (.invokespecial 15, 3) := by decide +kernel
theorem dX1_worth_19 : decode cX1_worth 19 = .ok (.iload_n 3, 1) := by decide +kernel
theorem dX1_worth_20 : decode cX1_worth 20 = .ok (.iadd, 1) := by decide +kernel
theorem dX1_worth_21 : decode cX1_worth 21 = .ok (.ireturn, 1) := by decide +kernel
theorem dX2_init_0 : decode cX2_init 0 = .ok (.aload_n 0, 1) := by decide +kernel
theorem dX2_init_1 : decode cX2_init 1 = .ok (.invokespecial 1, 3) := by decide +kernel
theorem dX2_init_4 : decode cX2_init 4 = .ok (.return_, 1) := by decide +kernel
theorem dX2_worth_0 : decode cX2_worth 0 = .ok (.aload_n 0, 1) := by decide +kernel
theorem dX2_worth_1 : decode cX2_worth 1 = .ok (.dup, 1) := by decide +kernel
theorem dX2_worth_2 : decode cX2_worth 2 = .ok (.getfield 7, 3) := by decide +kernel
theorem dX2_worth_5 : decode cX2_worth 5 = .ok (.ldc2_w 13, 3) := by decide +kernel
theorem dX2_worth_8 : decode cX2_worth 8 = .ok (.ladd, 1) := by decide +kernel
theorem dX2_worth_9 : decode cX2_worth 9 = .ok (.putfield 7, 3) := by decide +kernel
theorem dX2_worth_12 : decode cX2_worth 12 = .ok (.aload_n 0, 1) := by decide +kernel
theorem dX2_worth_13 : decode cX2_worth 13 = .ok (.aload_n 1, 1) := by decide +kernel
theorem dX2_worth_14 : decode cX2_worth 14 = .ok (.aload_n 2, 1) := by decide +kernel
theorem dX2_worth_15 : decode cX2_worth 15 = .ok (.iload_n 3, 1) := by decide +kernel
theorem dX2_worth_16 : decode cX2_worth 16 = .ok (.invokespecial 15, 3) := by decide +kernel
theorem dX2_worth_19 : decode cX2_worth 19 = .ok (.aload_n 1, 1) := by decide +kernel
theorem dX2_worth_20 : decode cX2_worth 20 = .ok (.iload_n 3, 1) := by decide +kernel
theorem dX2_worth_21 : decode cX2_worth 21 = .ok (.invokevirtual 19, 3) := by decide +kernel
theorem dX2_worth_24 : decode cX2_worth 24 = .ok (.invokestatic 25, 3) := by decide +kernel
theorem dX2_worth_27 : decode cX2_worth 27 = .ok (.iadd, 1) := by decide +kernel
theorem dX2_worth_28 : decode cX2_worth 28 = .ok (.ireturn, 1) := by decide +kernel
theorem dX3_init_0 : decode cX3_init 0 = .ok (.aload_n 0, 1) := by decide +kernel
theorem dX3_init_1 : decode cX3_init 1 = .ok (.invokespecial 1, 3) := by decide +kernel
theorem dX3_init_4 : decode cX3_init 4 = .ok (.return_, 1) := by decide +kernel
theorem dX3_worth_0 : decode cX3_worth 0 = .ok (.aload_n 0, 1) := by decide +kernel
theorem dX3_worth_1 : decode cX3_worth 1 = .ok (.dup, 1) := by decide +kernel
theorem dX3_worth_2 : decode cX3_worth 2 = .ok (.getfield 7, 3) := by decide +kernel
theorem dX3_worth_5 : decode cX3_worth 5 = .ok (.ldc2_w 13, 3) := by decide +kernel
theorem dX3_worth_8 : decode cX3_worth 8 = .ok (.ladd, 1) := by decide +kernel
theorem dX3_worth_9 : decode cX3_worth 9 = .ok (.putfield 7, 3) := by decide +kernel
theorem dX3_worth_12 : decode cX3_worth 12 = .ok (.iconst 2, 1) := by decide +kernel
theorem dX3_worth_13 : decode cX3_worth 13 = .ok (.aload_n 0, 1) := by decide +kernel
theorem dX3_worth_14 : decode cX3_worth 14 = .ok (.aload_n 1, 1) := by decide +kernel
theorem dX3_worth_15 : decode cX3_worth 15 = .ok (.aload_n 2, 1) := by decide +kernel
theorem dX3_worth_16 : decode cX3_worth 16 = .ok (.iload_n 3, 1) := by decide +kernel
theorem dX3_worth_17 : decode cX3_worth 17 = .ok (.invokespecial 15, 3) := by decide +kernel
theorem dX3_worth_20 : decode cX3_worth 20 = .ok (.imul, 1) := by decide +kernel
theorem dX3_worth_21 : decode cX3_worth 21 = .ok (.ireturn, 1) := by decide +kernel
theorem dX4_init_0 : decode cX4_init 0 = .ok (.aload_n 0, 1) := by decide +kernel
theorem dX4_init_1 : decode cX4_init 1 = .ok (.invokespecial 1, 3) := by decide +kernel
theorem dX4_init_4 : decode cX4_init 4 = .ok (.return_, 1) := by decide +kernel
theorem dX4_worth_0 : decode cX4_worth 0 = .ok (.aload_n 0, 1) := by decide +kernel
theorem dX4_worth_1 : decode cX4_worth 1 = .ok (.dup, 1) := by decide +kernel
theorem dX4_worth_2 : decode cX4_worth 2 = .ok (.getfield 7, 3) := by decide +kernel
theorem dX4_worth_5 : decode cX4_worth 5 = .ok (.lconst 1, 1) := by decide +kernel
theorem dX4_worth_6 : decode cX4_worth 6 = .ok (.ladd, 1) := by decide +kernel
theorem dX4_worth_7 : decode cX4_worth 7 = .ok (.putfield 7, 3) := by decide +kernel
theorem dX4_worth_10 : decode cX4_worth 10 = .ok (.aload_n 2, 1) := by decide +kernel
theorem dX4_worth_11 : decode cX4_worth 11 = .ok (.getfield 13, 3) := by decide +kernel
theorem dX4_worth_14 : decode cX4_worth 14 = .ok (.iload_n 3, 1) := by decide +kernel
theorem dX4_worth_15 : decode cX4_worth 15 = .ok (.iaload, 1) := by decide +kernel
theorem dX4_worth_16 : decode cX4_worth 16 = .ok (.ireturn, 1) := by decide +kernel
theorem dX5_init_0 : decode cX5_init 0 = .ok (.aload_n 0, 1) := by decide +kernel
theorem dX5_init_1 : decode cX5_init 1 = .ok (.invokespecial 1, 3) := by decide +kernel
theorem dX5_init_4 : decode cX5_init 4 = .ok (.return_, 1) := by decide +kernel
theorem dX5_worth_0 : decode cX5_worth 0 = .ok (.aload_n 0, 1) := by decide +kernel
theorem dX5_worth_1 : decode cX5_worth 1 = .ok (.dup, 1) := by decide +kernel
theorem dX5_worth_2 : decode cX5_worth 2 = .ok (.getfield 7, 3) := by decide +kernel
theorem dX5_worth_5 : decode cX5_worth 5 = .ok (.ldc2_w 13, 3) := by decide +kernel
theorem dX5_worth_8 : decode cX5_worth 8 = .ok (.ladd, 1) := by decide +kernel
theorem dX5_worth_9 : decode cX5_worth 9 = .ok (.putfield 7, 3) := by decide +kernel
theorem dX5_worth_12 : decode cX5_worth 12 = .ok (.aload_n 0, 1) := by decide +kernel
theorem dX5_worth_13 : decode cX5_worth 13 = .ok (.aload_n 1, 1) := by decide +kernel
theorem dX5_worth_14 : decode cX5_worth 14 = .ok (.aload_n 2, 1) := by decide +kernel
theorem dX5_worth_15 : decode cX5_worth 15 = .ok (.iload_n 3, 1) := by decide +kernel
theorem dX5_worth_16 : decode cX5_worth 16 = .ok (.invokespecial 15, 3) := by decide +kernel
theorem dX5_worth_19 : decode cX5_worth 19 = .ok (.aload_n 1, 1) := by decide +kernel
theorem dX5_worth_20 : decode cX5_worth 20 = .ok (.iload_n 3, 1) := by decide +kernel
theorem dX5_worth_21 : decode cX5_worth 21 = .ok (.invokevirtual 19, 3) := by decide +kernel
theorem dX5_worth_24 : decode cX5_worth 24 = .ok (.isub, 1) := by decide +kernel
theorem dX5_worth_25 : decode cX5_worth 25 = .ok (.ireturn, 1) := by decide +kernel
theorem dX6_init_0 : decode cX6_init 0 = .ok (.aload_n 0, 1) := by decide +kernel
theorem dX6_init_1 : decode cX6_init 1 = .ok (.invokespecial 3, 3) := by decide +kernel
theorem dX6_init_4 : decode cX6_init 4 = .ok (.aload_n 0, 1) := by decide +kernel
theorem dX6_init_5 : decode cX6_init 5 = .ok (.bipush 10, 2) := by decide +kernel
theorem dX6_init_7 : decode cX6_init 7 = .ok (.anewarray 9, 3) := by decide +kernel
theorem dX6_init_10 : decode cX6_init 10 = .ok (.putfield 11, 3) := by decide +kernel
theorem dX6_init_13 : decode cX6_init 13 = .ok (.iconst 0, 1) := by decide +kernel
theorem dX6_init_14 : decode cX6_init 14 = .ok (.istore_n 1, 1) := by decide +kernel
theorem dX6_init_15 : decode cX6_init 15 = .ok (.iload_n 1, 1) := by decide +kernel
theorem dX6_init_16 : decode cX6_init 16 = .ok (.bipush 10, 2) := by decide +kernel
theorem dX6_init_18 : decode cX6_init 18 = .ok (.if_icmp .ge 22, 3) := by decide +kernel
theorem dX6_init_21 : decode cX6_init 21 = .ok (.aload_n 0, 1) := by decide +kernel
theorem dX6_init_22 : decode cX6_init 22 = .ok (.getfield 11, 3) := by decide +kernel
theorem dX6_init_25 : decode cX6_init 25 = .ok (.iload_n 1, 1) := by decide +kernel
theorem dX6_init_26 : decode cX6_init 26 = .ok (.new 9, 3) := by decide +kernel
theorem dX6_init_29 : decode cX6_init 29 = .ok (.dup, 1) := by decide +kernel
theorem dX6_init_30 : decode cX6_init 30 = .ok (.invokespecial 17, 3) := by decide +kernel
theorem dX6_init_33 : decode cX6_init 33 = .ok (.aastore, 1) := by decide +kernel
theorem dX6_init_34 : decode cX6_init 34 = .ok (.iinc 1 1, 3) := by decide +kernel
theorem dX6_init_37 : decode cX6_init 37 = .ok (.goto (-22), 3) := by decide +kernel
theorem dX6_init_40 : decode cX6_init 40 = .ok (.return_, 1) := by decide +kernel
theorem dX6_push_0 : decode cX6_push 0 = .ok (.aload_n 0, 1) := by decide +kernel
theorem dX6_push_1 : decode cX6_push 1 = .ok (.getfield 18, 3) := by decide +kernel
theorem dX6_push_4 : decode cX6_push 4 = .ok (.bipush 10, 2) := by decide +kernel
theorem dX6_push_6 : decode cX6_push 6 = .ok (.if_icmp .lt 7, 3) := by decide +kernel
theorem dX6_push_9 : decode cX6_push 9 = .ok (.aload_n 0, 1) := by decide +kernel
theorem dX6_push_10 : decode cX6_push 10 = .ok (.invokevirtual 22, 3) := by decide +kernel
theorem dX6_push_13 : decode cX6_push 13 = .ok (.aload_n 0, 1) := by decide +kernel
theorem dX6_push_14 : decode cX6_push 14 = .ok (.getfield 11, 3) := by decide +kernel
theorem dX6_push_17 : decode cX6_push 17 = .ok (.aload_n 0, 1) := by decide +kernel
theorem dX6_push_18 : decode cX6_push 18 = .ok (.getfield 18, 3) := by decide +kernel
theorem dX6_push_21 : decode cX6_push 21 = .ok (.aaload, 1) := by decide +kernel
theorem dX6_push_22 : decode cX6_push 22 = .ok (.aload_n 1, 1) := by decide +kernel
theorem dX6_push_23 : decode cX6_push 23 = .ok (.invokevirtual 25, 3) := by decide +kernel
theorem dX6_push_26 : decode cX6_push 26 = .ok (.aload_n 0, 1) := by decide +kernel
theorem dX6_push_27 : decode cX6_push 27 = .ok (.dup, 1) := by decide +kernel
theorem dX6_push_28 : decode cX6_push 28 = .ok (.getfield 18, 3) := by decide +kernel
theorem dX6_push_31 : decode cX6_push 31 = .ok (.iconst 1, 1) := by decide +kernel
theorem dX6_push_32 : decode cX6_push 32 = .ok (.iadd, 1) := by decide +kernel
theorem dX6_push_33 : decode cX6_push 33 = .ok (.putfield 18, 3) := by decide +kernel
theorem dX6_push_36 : decode cX6_push 36 = .ok (.return_, 1) := by decide +kernel
theorem dX6_popInto_0 : decode cX6_popInto 0 = .ok (.aload_n 0, 1) := by decide +kernel
theorem dX6_popInto_1 : decode cX6_popInto 1 = .ok (.getfield 18, 3) := by decide +kernel
theorem dX6_popInto_4 : decode cX6_popInto 4 = .ok (.ifCond .gt 4, 3) := by decide +kernel
theorem dX6_popInto_7 : decode cX6_popInto 7 = .ok (.return_, 1) := by decide +kernel
theorem dX6_popInto_8 : decode cX6_popInto 8 = .ok (.aload_n 0, 1) := by decide +kernel
theorem dX6_popInto_9 : decode cX6_popInto 9 = .ok (.dup, 1) := by decide +kernel
theorem dX6_popInto_10 : decode cX6_popInto 10 = .ok (.getfield 18, 3) := by decide +kernel
theorem dX6_popInto_13 : decode cX6_popInto 13 = .ok (.iconst 1, 1) := by decide +kernel
theorem dX6_popInto_14 : decode cX6_popInto 14 = .ok (.isub, 1) := by decide +kernel
theorem dX6_popInto_15 : decode cX6_popInto 15 = .ok (.putfield 18, 3) := by decide +kernel
theorem dX6_popInto_18 : decode cX6_popInto 18 = .ok (.aload_n 1, 1) := by decide +kernel
theorem dX6_popInto_19 : decode cX6_popInto 19 = .ok (.aload_n 0, 1) := by decide +kernel
theorem dX6_popInto_20 : decode cX6_popInto 20 = .ok (.getfield 11, 3) := by decide +kernel
theorem dX6_popInto_23 : decode cX6_popInto 23 = .ok (.aload_n 0, 1) := by decide +kernel
theorem dX6_popInto_24 : decode cX6_popInto 24 = .ok (.getfield 18, 3) := by decide +kernel
theorem dX6_popInto_27 : decode cX6_popInto 27 = .ok (.aaload, 1) := by decide +kernel
theorem dX6_popInto_28 : decode cX6_popInto 28 = .ok (.invokevirtual 25, 3) := by decide +kernel
theorem dX6_popInto_31 : decode cX6_popInto 31 = .ok (.return_, 1) := by decide +kernel
theorem dX6_dropOldest_0 : decode cX6_dropOldest 0 = .ok (.aload_n 0, 1) := by decide +kernel
theorem dX6_dropOldest_1 : decode cX6_dropOldest 1 = .ok (.getfield 11, 3) := by decide +kernel
theorem dX6_dropOldest_4 : decode cX6_dropOldest 4 = .ok (.iconst 0, 1) := by decide +kernel
theorem dX6_dropOldest_5 : decode cX6_dropOldest 5 = .ok (.aaload, 1) := by decide +kernel
theorem dX6_dropOldest_6 : decode cX6_dropOldest 6 = .ok (.astore_n 1, 1) := by decide +kernel
theorem dX6_dropOldest_7 : decode cX6_dropOldest 7 = .ok (.iconst 1, 1) := by decide +kernel
theorem dX6_dropOldest_8 : decode cX6_dropOldest 8 = .ok (.istore_n 2, 1) := by decide +kernel
theorem dX6_dropOldest_9 : decode cX6_dropOldest 9 = .ok (.iload_n 2, 1) := by decide +kernel
theorem dX6_dropOldest_10 : decode cX6_dropOldest 10 = .ok (.bipush 10, 2) := by decide +kernel
theorem dX6_dropOldest_12 : decode cX6_dropOldest 12 = .ok (.if_icmp .ge 23, 3) := by decide +kernel
theorem dX6_dropOldest_15 : decode cX6_dropOldest 15 = .ok (.aload_n 0, 1) := by decide +kernel
theorem dX6_dropOldest_16 : decode cX6_dropOldest 16 = .ok (.getfield 11, 3) := by decide +kernel
theorem dX6_dropOldest_19 : decode cX6_dropOldest 19 = .ok (.iload_n 2, 1) := by decide +kernel
theorem dX6_dropOldest_20 : decode cX6_dropOldest 20 = .ok (.iconst 1, 1) := by decide +kernel
theorem dX6_dropOldest_21 : decode cX6_dropOldest 21 = .ok (.isub, 1) := by decide +kernel
theorem dX6_dropOldest_22 : decode cX6_dropOldest 22 = .ok (.aload_n 0, 1) := by decide +kernel
theorem dX6_dropOldest_23 : decode cX6_dropOldest 23 = .ok (.getfield 11, 3) := by decide +kernel
theorem dX6_dropOldest_26 : decode cX6_dropOldest 26 = .ok (.iload_n 2, 1) := by decide +kernel
theorem dX6_dropOldest_27 : decode cX6_dropOldest 27 = .ok (.aaload, 1) := by decide +kernel
theorem dX6_dropOldest_28 : decode cX6_dropOldest 28 = .ok (.aastore, 1) := by decide +kernel
theorem dX6_dropOldest_29 : decode cX6_dropOldest 29 = .ok (.iinc 2 1, 3) := by decide +kernel
theorem dX6_dropOldest_32 : decode cX6_dropOldest 32 = .ok (.goto (-23), 3) := by decide +kernel
theorem dX6_dropOldest_35 : decode cX6_dropOldest 35 = .ok (.aload_n 0, 1) := by decide +kernel
theorem dX6_dropOldest_36 : decode cX6_dropOldest 36 = .ok (.getfield 11, 3) := by decide +kernel
theorem dX6_dropOldest_39 : decode cX6_dropOldest 39 = .ok (.bipush 9, 2) := by decide +kernel
theorem dX6_dropOldest_41 : decode cX6_dropOldest 41 = .ok (.aload_n 1, 1) := by decide +kernel
theorem dX6_dropOldest_42 : decode cX6_dropOldest 42 = .ok (.aastore, 1) := by decide +kernel
theorem dX6_dropOldest_43 : decode cX6_dropOldest 43 = .ok (.aload_n 0, 1) := by decide +kernel
theorem dX6_dropOldest_44 : decode cX6_dropOldest 44 = .ok (.bipush 9, 2) := by decide +kernel
theorem dX6_dropOldest_46 : decode cX6_dropOldest 46 = .ok (.putfield 18, 3) := by decide +kernel
theorem dX6_dropOldest_49 : decode cX6_dropOldest 49 = .ok (.return_, 1) := by decide +kernel
theorem dX7_init_0 : decode cX7_init 0 = .ok (.aload_n 0, 1) := by decide +kernel
theorem dX7_init_1 : decode cX7_init 1 = .ok (.invokespecial 3, 3) := by decide +kernel
theorem dX7_init_4 : decode cX7_init 4 = .ok (.aload_n 0, 1) := by decide +kernel
theorem dX7_init_5 : decode cX7_init 5 = .ok (.bipush 6, 2) := by decide +kernel
theorem dX7_init_7 : decode cX7_init 7 = .ok (.newarray .int, 2) := by decide +kernel
theorem dX7_init_9 : decode cX7_init 9 = .ok (.putfield 9, 3) := by decide +kernel
theorem dX7_init_12 : decode cX7_init 12 = .ok (.aload_n 0, 1) := by decide +kernel
theorem dX7_init_13 : decode cX7_init 13 = .ok (.bipush 6, 2) := by decide +kernel
theorem dX7_init_15 : decode cX7_init 15 = .ok (.newarray .int, 2) := by decide +kernel
theorem dX7_init_17 : decode cX7_init 17 = .ok (.putfield 15, 3) := by decide +kernel
theorem dX7_init_20 : decode cX7_init 20 = .ok (.aload_n 0, 1) := by decide +kernel
theorem dX7_init_21 : decode cX7_init 21 = .ok (.iconst 2, 1) := by decide +kernel
theorem dX7_init_22 : decode cX7_init 22 = .ok (.newarray .int, 2) := by decide +kernel
theorem dX7_init_24 : decode cX7_init 24 = .ok (.putfield 18, 3) := by decide +kernel
theorem dX7_init_27 : decode cX7_init 27 = .ok (.aload_n 0, 1) := by decide +kernel
theorem dX7_init_28 : decode cX7_init 28 = .ok (.iconst 2, 1) := by decide +kernel
theorem dX7_init_29 : decode cX7_init 29 = .ok (.newarray .int, 2) := by decide +kernel
theorem dX7_init_31 : decode cX7_init 31 = .ok (.putfield 21, 3) := by decide +kernel
theorem dX7_init_34 : decode cX7_init 34 = .ok (.aload_n 0, 1) := by decide +kernel
theorem dX7_init_35 : decode cX7_init 35 = .ok (.iconst 2, 1) := by decide +kernel
theorem dX7_init_36 : decode cX7_init 36 = .ok (.newarray .int, 2) := by decide +kernel
theorem dX7_init_38 : decode cX7_init 38 = .ok (.putfield 24, 3) := by decide +kernel
theorem dX7_init_41 : decode cX7_init 41 = .ok (.return_, 1) := by decide +kernel
theorem dX7_begin_0 : decode cX7_begin 0 = .ok (.aload_n 0, 1) := by decide +kernel
theorem dX7_begin_1 : decode cX7_begin 1 = .ok (.iconst 0, 1) := by decide +kernel
theorem dX7_begin_2 : decode cX7_begin 2 = .ok (.putfield 27, 3) := by decide +kernel
theorem dX7_begin_5 : decode cX7_begin 5 = .ok (.aload_n 0, 1) := by decide +kernel
theorem dX7_begin_6 : decode cX7_begin 6 = .ok (.iconst 0, 1) := by decide +kernel
theorem dX7_begin_7 : decode cX7_begin 7 = .ok (.putfield 31, 3) := by decide +kernel
theorem dX7_begin_10 : decode cX7_begin 10 = .ok (.aload_n 0, 1) := by decide +kernel
theorem dX7_begin_11 : decode cX7_begin 11 = .ok (.iconst 0, 1) := by decide +kernel
theorem dX7_begin_12 : decode cX7_begin 12 = .ok (.putfield 34, 3) := by decide +kernel
theorem dX7_begin_15 : decode cX7_begin 15 = .ok (.aload_n 0, 1) := by decide +kernel
theorem dX7_begin_16 : decode cX7_begin 16 = .ok (.iconst 0, 1) := by decide +kernel
theorem dX7_begin_17 : decode cX7_begin 17 = .ok (.putfield 37, 3) := by decide +kernel
theorem dX7_begin_20 : decode cX7_begin 20 = .ok (.aload_n 0, 1) := by decide +kernel
theorem dX7_begin_21 : decode cX7_begin 21 = .ok (.aload_n 1, 1) := by decide +kernel
theorem dX7_begin_22 : decode cX7_begin 22 = .ok (.getfield 40, 3) := by decide +kernel
theorem dX7_begin_25 : decode cX7_begin 25 = .ok (.putfield 45, 3) := by decide +kernel
theorem dX7_begin_28 : decode cX7_begin 28 = .ok (.aload_n 0, 1) := by decide +kernel
theorem dX7_begin_29 : decode cX7_begin 29 = .ok (.iconst 0, 1) := by decide +kernel
theorem dX7_begin_30 : decode cX7_begin 30 = .ok (.putfield 46, 3) := by decide +kernel
theorem dX7_begin_33 : decode cX7_begin 33 = .ok (.iconst 0, 1) := by decide +kernel
theorem dX7_begin_34 : decode cX7_begin 34 = .ok (.istore_n 2, 1) := by decide +kernel
theorem dX7_begin_35 : decode cX7_begin 35 = .ok (.iload_n 2, 1) := by decide +kernel
theorem dX7_begin_36 : decode cX7_begin 36 = .ok (.bipush 6, 2) := by decide +kernel
theorem dX7_begin_38 : decode cX7_begin 38 = .ok (.if_icmp .ge 28, 3) := by decide +kernel
theorem dX7_begin_41 : decode cX7_begin 41 = .ok (.aload_n 0, 1) := by decide +kernel
theorem dX7_begin_42 : decode cX7_begin 42 = .ok (.getfield 9, 3) := by decide +kernel
theorem dX7_begin_45 : decode cX7_begin 45 = .ok (.iload_n 2, 1) := by decide +kernel
theorem dX7_begin_46 : decode cX7_begin 46 = .ok (.aload_n 1, 1) := by decide +kernel
theorem dX7_begin_47 : decode cX7_begin 47 = .ok (.getfield 49, 3) := by decide +kernel
theorem dX7_begin_50 : decode cX7_begin 50 = .ok (.iload_n 2, 1) := by decide +kernel
theorem dX7_begin_51 : decode cX7_begin 51 = .ok (.iaload, 1) := by decide +kernel
theorem dX7_begin_52 : decode cX7_begin 52 = .ok (.iastore, 1) := by decide +kernel
theorem dX7_begin_53 : decode cX7_begin 53 = .ok (.aload_n 0, 1) := by decide +kernel
theorem dX7_begin_54 : decode cX7_begin 54 = .ok (.getfield 15, 3) := by decide +kernel
theorem dX7_begin_57 : decode cX7_begin 57 = .ok (.iload_n 2, 1) := by decide +kernel
theorem dX7_begin_58 : decode cX7_begin 58 = .ok (.iconst 0, 1) := by decide +kernel
theorem dX7_begin_59 : decode cX7_begin 59 = .ok (.iastore, 1) := by decide +kernel
theorem dX7_begin_60 : decode cX7_begin 60 = .ok (.iinc 2 1, 3) := by decide +kernel
theorem dX7_begin_63 : decode cX7_begin 63 = .ok (.goto (-28), 3) := by decide +kernel
theorem dX7_begin_66 : decode cX7_begin 66 = .ok (.aload_n 1, 1) := by decide +kernel
theorem dX7_begin_67 : decode cX7_begin 67 = .ok (.getfield 50, 3) := by decide +kernel
theorem dX7_begin_70 : decode cX7_begin 70 = .ok (.ifCond .le 12, 3) := by decide +kernel
theorem dX7_begin_73 : decode cX7_begin 73 = .ok (.aload_n 0, 1) := by decide +kernel
theorem dX7_begin_74 : decode cX7_begin 74 = .ok (.aload_n 1, 1) := by decide +kernel
theorem dX7_begin_75 : decode cX7_begin 75 = .ok (.getfield 53, 3) := by decide +kernel
theorem dX7_begin_78 : decode cX7_begin 78 = .ok (.iconst 0, 1) := by decide +kernel
theorem dX7_begin_79 : decode cX7_begin 79 = .ok (.invokevirtual 56, 3) := by decide +kernel
theorem dX7_begin_82 : decode cX7_begin 82 = .ok (.return_, 1) := by decide +kernel
theorem dX7_strike_0 : decode cX7_strike 0 = .ok (.aload_n 0, 1) := by decide +kernel
theorem dX7_strike_1 : decode cX7_strike 1 = .ok (.dup, 1) := by decide +kernel
theorem dX7_strike_2 : decode cX7_strike 2 = .ok (.getfield 27, 3) := by decide +kernel
theorem dX7_strike_5 : decode cX7_strike 5 = .ok (.iconst 1, 1) := by decide +kernel
theorem dX7_strike_6 : decode cX7_strike 6 = .ok (.iadd, 1) := by decide +kernel
theorem dX7_strike_7 : decode cX7_strike 7 = .ok (.putfield 27, 3) := by decide +kernel
theorem dX7_strike_10 : decode cX7_strike 10 = .ok (.aload_n 0, 1) := by decide +kernel
theorem dX7_strike_11 : decode cX7_strike 11 = .ok (.iload_n 2, 1) := by decide +kernel
theorem dX7_strike_12 : decode cX7_strike 12 = .ok (.putfield 31, 3) := by decide +kernel
theorem dX7_strike_15 : decode cX7_strike 15 = .ok (.aload_n 0, 1) := by decide +kernel
theorem dX7_strike_16 : decode cX7_strike 16 = .ok (.iload_n 1, 1) := by decide +kernel
theorem dX7_strike_17 : decode cX7_strike 17 = .ok (.putfield 34, 3) := by decide +kernel
theorem dX7_strike_20 : decode cX7_strike 20 = .ok (.aload_n 0, 1) := by decide +kernel
theorem dX7_strike_21 : decode cX7_strike 21 = .ok (.getfield 15, 3) := by decide +kernel
theorem dX7_strike_24 : decode cX7_strike 24 = .ok (.iload_n 1, 1) := by decide +kernel
theorem dX7_strike_25 : decode cX7_strike 25 = .ok (.dup2, 1) := by decide +kernel
theorem dX7_strike_26 : decode cX7_strike 26 = .ok (.iaload, 1) := by decide +kernel
theorem dX7_strike_27 : decode cX7_strike 27 = .ok (.iconst 1, 1) := by decide +kernel
theorem dX7_strike_28 : decode cX7_strike 28 = .ok (.iadd, 1) := by decide +kernel
theorem dX7_strike_29 : decode cX7_strike 29 = .ok (.iastore, 1) := by decide +kernel
theorem dX7_strike_30 : decode cX7_strike 30 = .ok (.return_, 1) := by decide +kernel
theorem dX7_addMule_0 : decode cX7_addMule 0 = .ok (.aload_n 0, 1) := by decide +kernel
theorem dX7_addMule_1 : decode cX7_addMule 1 = .ok (.getfield 46, 3) := by decide +kernel
theorem dX7_addMule_4 : decode cX7_addMule 4 = .ok (.iconst 2, 1) := by decide +kernel
theorem dX7_addMule_5 : decode cX7_addMule 5 = .ok (.if_icmp .lt 4, 3) := by decide +kernel
theorem dX7_addMule_8 : decode cX7_addMule 8 = .ok (.return_, 1) := by decide +kernel
theorem dX7_addMule_9 : decode cX7_addMule 9 = .ok (.aload_n 0, 1) := by decide +kernel
theorem dX7_addMule_10 : decode cX7_addMule 10 = .ok (.getfield 18, 3) := by decide +kernel
theorem dX7_addMule_13 : decode cX7_addMule 13 = .ok (.aload_n 0, 1) := by decide +kernel
theorem dX7_addMule_14 : decode cX7_addMule 14 = .ok (.getfield 46, 3) := by decide +kernel
theorem dX7_addMule_17 : decode cX7_addMule 17 = .ok (.iload_n 1, 1) := by decide +kernel
theorem dX7_addMule_18 : decode cX7_addMule 18 = .ok (.iastore, 1) := by decide +kernel
theorem dX7_addMule_19 : decode cX7_addMule 19 = .ok (.aload_n 0, 1) := by decide +kernel
theorem dX7_addMule_20 : decode cX7_addMule 20 = .ok (.getfield 21, 3) := by decide +kernel
theorem dX7_addMule_23 : decode cX7_addMule 23 = .ok (.aload_n 0, 1) := by decide +kernel
theorem dX7_addMule_24 : decode cX7_addMule 24 = .ok (.getfield 46, 3) := by decide +kernel
theorem dX7_addMule_27 : decode cX7_addMule 27 = .ok (.iload_n 2, 1) := by decide +kernel
theorem dX7_addMule_28 : decode cX7_addMule 28 = .ok (.iastore, 1) := by decide +kernel
theorem dX7_addMule_29 : decode cX7_addMule 29 = .ok (.aload_n 0, 1) := by decide +kernel
theorem dX7_addMule_30 : decode cX7_addMule 30 = .ok (.getfield 24, 3) := by decide +kernel
theorem dX7_addMule_33 : decode cX7_addMule 33 = .ok (.aload_n 0, 1) := by decide +kernel
theorem dX7_addMule_34 : decode cX7_addMule 34 = .ok (.getfield 46, 3) := by decide +kernel
theorem dX7_addMule_37 : decode cX7_addMule 37 = .ok (.iload_n 3, 1) := by decide +kernel
theorem dX7_addMule_38 : decode cX7_addMule 38 = .ok (.iastore, 1) := by decide +kernel
theorem dX7_addMule_39 : decode cX7_addMule 39 = .ok (.aload_n 0, 1) := by decide +kernel
theorem dX7_addMule_40 : decode cX7_addMule 40 = .ok (.dup, 1) := by decide +kernel
theorem dX7_addMule_41 : decode cX7_addMule 41 = .ok (.getfield 46, 3) := by decide +kernel
theorem dX7_addMule_44 : decode cX7_addMule 44 = .ok (.iconst 1, 1) := by decide +kernel
theorem dX7_addMule_45 : decode cX7_addMule 45 = .ok (.iadd, 1) := by decide +kernel
theorem dX7_addMule_46 : decode cX7_addMule 46 = .ok (.putfield 46, 3) := by decide +kernel
theorem dX7_addMule_49 : decode cX7_addMule 49 = .ok (.return_, 1) := by decide +kernel
theorem dX7_copy_0 : decode cX7_copy 0 = .ok (.aload_n 0, 1) := by decide +kernel
theorem dX7_copy_1 : decode cX7_copy 1 = .ok (.aload_n 1, 1) := by decide +kernel
theorem dX7_copy_2 : decode cX7_copy 2 = .ok (.getfield 27, 3) := by decide +kernel
theorem dX7_copy_5 : decode cX7_copy 5 = .ok (.putfield 27, 3) := by decide +kernel
theorem dX7_copy_8 : decode cX7_copy 8 = .ok (.aload_n 0, 1) := by decide +kernel
theorem dX7_copy_9 : decode cX7_copy 9 = .ok (.aload_n 1, 1) := by decide +kernel
theorem dX7_copy_10 : decode cX7_copy 10 = .ok (.getfield 31, 3) := by decide +kernel
theorem dX7_copy_13 : decode cX7_copy 13 = .ok (.putfield 31, 3) := by decide +kernel
theorem dX7_copy_16 : decode cX7_copy 16 = .ok (.aload_n 0, 1) := by decide +kernel
theorem dX7_copy_17 : decode cX7_copy 17 = .ok (.aload_n 1, 1) := by decide +kernel
theorem dX7_copy_18 : decode cX7_copy 18 = .ok (.getfield 34, 3) := by decide +kernel
theorem dX7_copy_21 : decode cX7_copy 21 = .ok (.putfield 34, 3) := by decide +kernel
theorem dX7_copy_24 : decode cX7_copy 24 = .ok (.aload_n 0, 1) := by decide +kernel
theorem dX7_copy_25 : decode cX7_copy 25 = .ok (.aload_n 1, 1) := by decide +kernel
theorem dX7_copy_26 : decode cX7_copy 26 = .ok (.getfield 37, 3) := by decide +kernel
theorem dX7_copy_29 : decode cX7_copy 29 = .ok (.putfield 37, 3) := by decide +kernel
theorem dX7_copy_32 : decode cX7_copy 32 = .ok (.aload_n 0, 1) := by decide +kernel
theorem dX7_copy_33 : decode cX7_copy 33 = .ok (.aload_n 1, 1) := by decide +kernel
theorem dX7_copy_34 : decode cX7_copy 34 = .ok (.getfield 45, 3) := by decide +kernel
theorem dX7_copy_37 : decode cX7_copy 37 = .ok (.putfield 45, 3) := by decide +kernel
theorem dX7_copy_40 : decode cX7_copy 40 = .ok (.aload_n 0, 1) := by decide +kernel
theorem dX7_copy_41 : decode cX7_copy 41 = .ok (.aload_n 1, 1) := by decide +kernel
theorem dX7_copy_42 : decode cX7_copy 42 = .ok (.getfield 46, 3) := by decide +kernel
theorem dX7_copy_45 : decode cX7_copy 45 = .ok (.putfield 46, 3) := by decide +kernel
theorem dX7_copy_48 : decode cX7_copy 48 = .ok (.aload_n 1, 1) := by decide +kernel
theorem dX7_copy_49 : decode cX7_copy 49 = .ok (.getfield 9, 3) := by decide +kernel
theorem dX7_copy_52 : decode cX7_copy 52 = .ok (.iconst 0, 1) := by decide +kernel
theorem dX7_copy_53 : decode cX7_copy 53 = .ok (.aload_n 0, 1) := by decide +kernel
theorem dX7_copy_54 : decode cX7_copy 54 = .ok (.getfield 9, 3) := by decide +kernel
theorem dX7_copy_57 : decode cX7_copy 57 = .ok (.iconst 0, 1) := by decide +kernel
theorem dX7_copy_58 : decode cX7_copy 58 = .ok (.bipush 6, 2) := by decide +kernel
theorem dX7_copy_60 : decode cX7_copy 60 = .ok (.invokestatic 60, 3) := by decide +kernel
theorem dX7_copy_63 : decode cX7_copy 63 = .ok (.aload_n 1, 1) := by decide +kernel
theorem dX7_copy_64 : decode cX7_copy 64 = .ok (.getfield 15, 3) := by decide +kernel
theorem dX7_copy_67 : decode cX7_copy 67 = .ok (.iconst 0, 1) := by decide +kernel
theorem dX7_copy_68 : decode cX7_copy 68 = .ok (.aload_n 0, 1) := by decide +kernel
theorem dX7_copy_69 : decode cX7_copy 69 = .ok (.getfield 15, 3) := by decide +kernel
theorem dX7_copy_72 : decode cX7_copy 72 = .ok (.iconst 0, 1) := by decide +kernel
theorem dX7_copy_73 : decode cX7_copy 73 = .ok (.bipush 6, 2) := by decide +kernel
theorem dX7_copy_75 : decode cX7_copy 75 = .ok (.invokestatic 60, 3) := by decide +kernel
theorem dX7_copy_78 : decode cX7_copy 78 = .ok (.aload_n 1, 1) := by decide +kernel
theorem dX7_copy_79 : decode cX7_copy 79 = .ok (.getfield 18, 3) := by decide +kernel
theorem dX7_copy_82 : decode cX7_copy 82 = .ok (.iconst 0, 1) := by decide +kernel
theorem dX7_copy_83 : decode cX7_copy 83 = .ok (.aload_n 0, 1) := by decide +kernel
theorem dX7_copy_84 : decode cX7_copy 84 = .ok (.getfield 18, 3) := by decide +kernel
theorem dX7_copy_87 : decode cX7_copy 87 = .ok (.iconst 0, 1) := by decide +kernel
theorem dX7_copy_88 : decode cX7_copy 88 = .ok (.iconst 2, 1) := by decide +kernel
theorem dX7_copy_89 : decode cX7_copy 89 = .ok (.invokestatic 60, 3) := by decide +kernel
theorem dX7_copy_92 : decode cX7_copy 92 = .ok (.aload_n 1, 1) := by decide +kernel
theorem dX7_copy_93 : decode cX7_copy 93 = .ok (.getfield 21, 3) := by decide +kernel
theorem dX7_copy_96 : decode cX7_copy 96 = .ok (.iconst 0, 1) := by decide +kernel
theorem dX7_copy_97 : decode cX7_copy 97 = .ok (.aload_n 0, 1) := by decide +kernel
theorem dX7_copy_98 : decode cX7_copy 98 = .ok (.getfield 21, 3) := by decide +kernel
theorem dX7_copy_101 : decode cX7_copy 101 = .ok (.iconst 0, 1) := by decide +kernel
theorem dX7_copy_102 : decode cX7_copy 102 = .ok (.iconst 2, 1) := by decide +kernel
theorem dX7_copy_103 : decode cX7_copy 103 = .ok (.invokestatic 60, 3) := by decide +kernel
theorem dX7_copy_106 : decode cX7_copy 106 = .ok (.aload_n 1, 1) := by decide +kernel
theorem dX7_copy_107 : decode cX7_copy 107 = .ok (.getfield 24, 3) := by decide +kernel
theorem dX7_copy_110 : decode cX7_copy 110 = .ok (.iconst 0, 1) := by decide +kernel
theorem dX7_copy_111 : decode cX7_copy 111 = .ok (.aload_n 0, 1) := by decide +kernel
theorem dX7_copy_112 : decode cX7_copy 112 = .ok (.getfield 24, 3) := by decide +kernel
theorem dX7_copy_115 : decode cX7_copy 115 = .ok (.iconst 0, 1) := by decide +kernel
theorem dX7_copy_116 : decode cX7_copy 116 = .ok (.iconst 2, 1) := by decide +kernel
theorem dX7_copy_117 : decode cX7_copy 117 = .ok (.invokestatic 60, 3) := by decide +kernel
theorem dX7_copy_120 : decode cX7_copy 120 = .ok (.return_, 1) := by decide +kernel
theorem dX8_init_0 : decode cX8_init 0 = .ok (.aload_n 0, 1) := by decide +kernel
theorem dX8_init_1 : decode cX8_init 1 = .ok (.invokespecial 3, 3) := by decide +kernel
theorem dX8_init_4 : decode cX8_init 4 = .ok (.aload_n 0, 1) := by decide +kernel
theorem dX8_init_5 : decode cX8_init 5 = .ok (.sipush 200, 3) := by decide +kernel
theorem dX8_init_8 : decode cX8_init 8 = .ok (.newarray .char, 2) := by decide +kernel
theorem dX8_init_10 : decode cX8_init 10 = .ok (.putfield 9, 3) := by decide +kernel
theorem dX8_init_13 : decode cX8_init 13 = .ok (.return_, 1) := by decide +kernel
theorem dX8_readInto_0 : decode cX8_readInto 0 = .ok (.aload_n 1, 1) := by decide +kernel
theorem dX8_readInto_1 : decode cX8_readInto 1 = .ok (.invokevirtual 15, 3) := by decide +kernel
theorem dX8_readInto_4 : decode cX8_readInto 4 = .ok (.aload_n 0, 1) := by decide +kernel
theorem dX8_readInto_5 : decode cX8_readInto 5 = .ok (.iconst 0, 1) := by decide +kernel
theorem dX8_readInto_6 : decode cX8_readInto 6 = .ok (.putfield 20, 3) := by decide +kernel
theorem dX8_readInto_9 : decode cX8_readInto 9 = .ok (.iconst 0, 1) := by decide +kernel
theorem dX8_readInto_10 : decode cX8_readInto 10 = .ok (.istore_n 2, 1) := by decide +kernel
theorem dX8_readInto_11 : decode cX8_readInto 11 = .ok (.iload_n 2, 1) := by decide +kernel
theorem dX8_readInto_12 : decode cX8_readInto 12 = .ok (.sipush 200, 3) := by decide +kernel
theorem dX8_readInto_15 : decode cX8_readInto 15 = .ok (.if_icmp .gt 33, 3) := by decide +kernel
theorem dX8_readInto_18 : decode cX8_readInto 18 = .ok (.aload_n 0, 1) := by decide +kernel
theorem dX8_readInto_19 : decode cX8_readInto 19 = .ok (.invokevirtual 24, 3) := by decide +kernel
theorem dX8_readInto_22 : decode cX8_readInto 22 = .ok (.aload_n 0, 1) := by decide +kernel
theorem dX8_readInto_23 : decode cX8_readInto 23 = .ok (.getfield 27, 3) := by decide +kernel
theorem dX8_readInto_26 : decode cX8_readInto 26 = .ok (.iconst 1, 1) := by decide +kernel
theorem dX8_readInto_27 : decode cX8_readInto 27 = .ok (.if_icmp .ne 5, 3) := by decide +kernel
theorem dX8_readInto_30 : decode cX8_readInto 30 = .ok (.iload_n 2, 1) := by decide +kernel
theorem dX8_readInto_31 : decode cX8_readInto 31 = .ok (.ireturn, 1) := by decide +kernel
theorem dX8_readInto_32 : decode cX8_readInto 32 = .ok (.aload_n 0, 1) := by decide +kernel
theorem dX8_readInto_33 : decode cX8_readInto 33 = .ok (.aload_n 1, 1) := by decide +kernel
theorem dX8_readInto_34 : decode cX8_readInto 34 = .ok (.invokevirtual 30, 3) := by decide +kernel
theorem dX8_readInto_37 : decode cX8_readInto 37 = .ok (.ifCond .ne 5, 3) := by decide +kernel
theorem dX8_readInto_40 : decode cX8_readInto 40 = .ok (.iconst (-1), 1) := by decide +kernel
theorem dX8_readInto_41 : decode cX8_readInto 41 = .ok (.ireturn, 1) := by decide +kernel
theorem dX8_readInto_42 : decode cX8_readInto 42 = .ok (.iinc 2 1, 3) := by decide +kernel
theorem dX8_readInto_45 : decode cX8_readInto 45 = .ok (.goto (-34), 3) := by decide +kernel
theorem dX8_readInto_48 : decode cX8_readInto 48 = .ok (.iconst (-1), 1) := by decide +kernel
theorem dX8_readInto_49 : decode cX8_readInto 49 = .ok (.ireturn, 1) := by decide +kernel
theorem dX8_readItem_0 : decode cX8_readItem 0 = .ok (.aload_n 0, 1) := by decide +kernel
theorem dX8_readItem_1 : decode cX8_readItem 1 = .ok (.getfield 27, 3) := by decide +kernel
theorem dX8_readItem_4 : decode cX8_readItem 4 = .ok (.lookupswitch 68 #[(101, 50), (114, 56), (115, 62), (118, 44)], 44) := by decide +kernel
theorem dX8_readItem_48 : decode cX8_readItem 48 = .ok (.aload_n 0, 1) := by decide +kernel
theorem dX8_readItem_49 : decode cX8_readItem 49 = .ok (.aload_n 1, 1) := by decide +kernel
theorem dX8_readItem_50 : decode cX8_readItem 50 = .ok (.invokevirtual 34, 3) := by decide +kernel
theorem dX8_readItem_53 : decode cX8_readItem 53 = .ok (.ireturn, 1) := by decide +kernel
theorem dX8_readItem_54 : decode cX8_readItem 54 = .ok (.aload_n 0, 1) := by decide +kernel
theorem dX8_readItem_55 : decode cX8_readItem 55 = .ok (.aload_n 1, 1) := by decide +kernel
theorem dX8_readItem_56 : decode cX8_readItem 56 = .ok (.invokevirtual 37, 3) := by decide +kernel
theorem dX8_readItem_59 : decode cX8_readItem 59 = .ok (.ireturn, 1) := by decide +kernel
theorem dX8_readItem_60 : decode cX8_readItem 60 = .ok (.aload_n 0, 1) := by decide +kernel
theorem dX8_readItem_61 : decode cX8_readItem 61 = .ok (.aload_n 1, 1) := by decide +kernel
theorem dX8_readItem_62 : decode cX8_readItem 62 = .ok (.invokevirtual 40, 3) := by decide +kernel
theorem dX8_readItem_65 : decode cX8_readItem 65 = .ok (.ireturn, 1) := by decide +kernel
theorem dX8_readItem_66 : decode cX8_readItem 66 = .ok (.aload_n 0, 1) := by decide +kernel
theorem dX8_readItem_67 : decode cX8_readItem 67 = .ok (.aload_n 1, 1) := by decide +kernel
theorem dX8_readItem_68 : decode cX8_readItem 68 = .ok (.invokevirtual 43, 3) := by decide +kernel
theorem dX8_readItem_71 : decode cX8_readItem 71 = .ok (.ireturn, 1) := by decide +kernel
theorem dX8_readItem_72 : decode cX8_readItem 72 = .ok (.iconst 0, 1) := by decide +kernel
theorem dX8_readItem_73 : decode cX8_readItem 73 = .ok (.ireturn, 1) := by decide +kernel
theorem dX8_readVillage_0 : decode cX8_readVillage 0 = .ok (.aload_n 1, 1) := by decide +kernel
theorem dX8_readVillage_1 : decode cX8_readVillage 1 = .ok (.getfield 46, 3) := by decide +kernel
theorem dX8_readVillage_4 : decode cX8_readVillage 4 = .ok (.bipush 6, 2) := by decide +kernel
theorem dX8_readVillage_6 : decode cX8_readVillage 6 = .ok (.if_icmp .lt 5, 3) := by decide +kernel
theorem dX8_readVillage_9 : decode cX8_readVillage 9 = .ok (.iconst 0, 1) := by decide +kernel
theorem dX8_readVillage_10 : decode cX8_readVillage 10 = .ok (.ireturn, 1) := by decide +kernel
theorem dX8_readVillage_11 : decode cX8_readVillage 11 = .ok (.aload_n 0, 1) := by decide +kernel
theorem dX8_readVillage_12 : decode cX8_readVillage 12 = .ok (.iconst 0, 1) := by decide +kernel
theorem dX8_readVillage_13 : decode cX8_readVillage 13 = .ok (.bipush 9, 2) := by decide +kernel
theorem dX8_readVillage_15 : decode cX8_readVillage 15 = .ok (.invokevirtual 49, 3) := by decide +kernel
theorem dX8_readVillage_18 : decode cX8_readVillage 18 = .ok (.ifCond .ne 5, 3) := by decide +kernel
theorem dX8_readVillage_21 : decode cX8_readVillage 21 = .ok (.iconst 0, 1) := by decide +kernel
theorem dX8_readVillage_22 : decode cX8_readVillage 22 = .ok (.ireturn, 1) := by decide +kernel
theorem dX8_readVillage_23 : decode cX8_readVillage 23 = .ok (.aload_n 0, 1) := by decide +kernel
theorem dX8_readVillage_24 : decode cX8_readVillage 24 = .ok (.getfield 53, 3) := by decide +kernel
theorem dX8_readVillage_27 : decode cX8_readVillage 27 = .ok (.istore_n 2, 1) := by decide +kernel
theorem dX8_readVillage_28 : decode cX8_readVillage 28 = .ok (.aload_n 0, 1) := by decide +kernel
theorem dX8_readVillage_29 : decode cX8_readVillage 29 = .ok (.iconst 0, 1) := by decide +kernel
theorem dX8_readVillage_30 : decode cX8_readVillage 30 = .ok (.iconst 1, 1) := by decide +kernel
theorem dX8_readVillage_31 : decode cX8_readVillage 31 = .ok (.invokevirtual 49, 3) := by decide +kernel
theorem dX8_readVillage_34 : decode cX8_readVillage 34 = .ok (.ifCond .ne 5, 3) := by decide +kernel
theorem dX8_readVillage_37 : decode cX8_readVillage 37 = .ok (.iconst 0, 1) := by decide +kernel
theorem dX8_readVillage_38 : decode cX8_readVillage 38 = .ok (.ireturn, 1) := by decide +kernel
theorem dX8_readVillage_39 : decode cX8_readVillage 39 = .ok (.aload_n 1, 1) := by decide +kernel
theorem dX8_readVillage_40 : decode cX8_readVillage 40 = .ok (.iload_n 2, 1) := by decide +kernel
theorem dX8_readVillage_41 : decode cX8_readVillage 41 = .ok (.aload_n 0, 1) := by decide +kernel
theorem dX8_readVillage_42 : decode cX8_readVillage 42 = .ok (.getfield 53, 3) := by decide +kernel
theorem dX8_readVillage_45 : decode cX8_readVillage 45 = .ok (.invokevirtual 56, 3) := by decide +kernel
theorem dX8_readVillage_48 : decode cX8_readVillage 48 = .ok (.aload_n 0, 1) := by decide +kernel
theorem dX8_readVillage_49 : decode cX8_readVillage 49 = .ok (.invokevirtual 60, 3) := by decide +kernel
theorem dX8_readVillage_52 : decode cX8_readVillage 52 = .ok (.ireturn, 1) := by decide +kernel
theorem dX8_readWay_0 : decode cX8_readWay 0 = .ok (.aload_n 0, 1) := by decide +kernel
theorem dX8_readWay_1 : decode cX8_readWay 1 = .ok (.iconst 0, 1) := by decide +kernel
theorem dX8_readWay_2 : decode cX8_readWay 2 = .ok (.aload_n 1, 1) := by decide +kernel
theorem dX8_readWay_3 : decode cX8_readWay 3 = .ok (.getfield 46, 3) := by decide +kernel
theorem dX8_readWay_6 : decode cX8_readWay 6 = .ok (.iconst 1, 1) := by decide +kernel
theorem dX8_readWay_7 : decode cX8_readWay 7 = .ok (.isub, 1) := by decide +kernel
theorem dX8_readWay_8 : decode cX8_readWay 8 = .ok (.invokevirtual 49, 3) := by decide +kernel
theorem dX8_readWay_11 : decode cX8_readWay 11 = .ok (.ifCond .ne 5, 3) := by decide +kernel
theorem dX8_readWay_14 : decode cX8_readWay 14 = .ok (.iconst 0, 1) := by decide +kernel
theorem dX8_readWay_15 : decode cX8_readWay 15 = .ok (.ireturn, 1) := by decide +kernel
theorem dX8_readWay_16 : decode cX8_readWay 16 = .ok (.aload_n 0, 1) := by decide +kernel
theorem dX8_readWay_17 : decode cX8_readWay 17 = .ok (.getfield 53, 3) := by decide +kernel
theorem dX8_readWay_20 : decode cX8_readWay 20 = .ok (.istore_n 2, 1) := by decide +kernel
theorem dX8_readWay_21 : decode cX8_readWay 21 = .ok (.aload_n 0, 1) := by decide +kernel
theorem dX8_readWay_22 : decode cX8_readWay 22 = .ok (.iconst 0, 1) := by decide +kernel
theorem dX8_readWay_23 : decode cX8_readWay 23 = .ok (.aload_n 1, 1) := by decide +kernel
theorem dX8_readWay_24 : decode cX8_readWay 24 = .ok (.getfield 46, 3) := by decide +kernel
theorem dX8_readWay_27 : decode cX8_readWay 27 = .ok (.iconst 1, 1) := by decide +kernel
theorem dX8_readWay_28 : decode cX8_readWay 28 = .ok (.isub, 1) := by decide +kernel
theorem dX8_readWay_29 : decode cX8_readWay 29 = .ok (.invokevirtual 49, 3) := by decide +kernel
theorem dX8_readWay_32 : decode cX8_readWay 32 = .ok (.ifCond .eq 11, 3) := by decide +kernel
theorem dX8_readWay_35 : decode cX8_readWay 35 = .ok (.aload_n 0, 1) := by decide +kernel
theorem dX8_readWay_36 : decode cX8_readWay 36 = .ok (.getfield 53, 3) := by decide +kernel
theorem dX8_readWay_39 : decode cX8_readWay 39 = .ok (.iload_n 2, 1) := by decide +kernel
theorem dX8_readWay_40 : decode cX8_readWay 40 = .ok (.if_icmp .ne 5, 3) := by decide +kernel
theorem dX8_readWay_43 : decode cX8_readWay 43 = .ok (.iconst 0, 1) := by decide +kernel
theorem dX8_readWay_44 : decode cX8_readWay 44 = .ok (.ireturn, 1) := by decide +kernel
theorem dX8_readWay_45 : decode cX8_readWay 45 = .ok (.aload_n 0, 1) := by decide +kernel
theorem dX8_readWay_46 : decode cX8_readWay 46 = .ok (.getfield 53, 3) := by decide +kernel
theorem dX8_readWay_49 : decode cX8_readWay 49 = .ok (.istore_n 3, 1) := by decide +kernel
theorem dX8_readWay_50 : decode cX8_readWay 50 = .ok (.aload_n 0, 1) := by decide +kernel
theorem dX8_readWay_51 : decode cX8_readWay 51 = .ok (.iconst 1, 1) := by decide +kernel
theorem dX8_readWay_52 : decode cX8_readWay 52 = .ok (.bipush 9, 2) := by decide +kernel
theorem dX8_readWay_54 : decode cX8_readWay 54 = .ok (.invokevirtual 49, 3) := by decide +kernel
theorem dX8_readWay_57 : decode cX8_readWay 57 = .ok (.ifCond .ne 5, 3) := by decide +kernel
theorem dX8_readWay_60 : decode cX8_readWay 60 = .ok (.iconst 0, 1) := by decide +kernel
theorem dX8_readWay_61 : decode cX8_readWay 61 = .ok (.ireturn, 1) := by decide +kernel
theorem dX8_readWay_62 : decode cX8_readWay 62 = .ok (.aload_n 1, 1) := by decide +kernel
theorem dX8_readWay_63 : decode cX8_readWay 63 = .ok (.iload_n 2, 1) := by decide +kernel
theorem dX8_readWay_64 : decode cX8_readWay 64 = .ok (.iload_n 3, 1) := by decide +kernel
theorem dX8_readWay_65 : decode cX8_readWay 65 = .ok (.aload_n 0, 1) := by decide +kernel
theorem dX8_readWay_66 : decode cX8_readWay 66 = .ok (.getfield 53, 3) := by decide +kernel
theorem dX8_readWay_69 : decode cX8_readWay 69 = .ok (.invokevirtual 64, 3) := by decide +kernel
theorem dX8_readWay_72 : decode cX8_readWay 72 = .ok (.aload_n 0, 1) := by decide +kernel
theorem dX8_readWay_73 : decode cX8_readWay 73 = .ok (.invokevirtual 60, 3) := by decide +kernel
theorem dX8_readWay_76 : decode cX8_readWay 76 = .ok (.ireturn, 1) := by decide +kernel
theorem dX8_readReach_0 : decode cX8_readReach 0 = .ok (.aload_n 1, 1) := by decide +kernel
theorem dX8_readReach_1 : decode cX8_readReach 1 = .ok (.getfield 68, 3) := by decide +kernel
theorem dX8_readReach_4 : decode cX8_readReach 4 = .ok (.ifCond .ne 13, 3) := by decide +kernel
theorem dX8_readReach_7 : decode cX8_readReach 7 = .ok (.aload_n 0, 1) := by decide +kernel
theorem dX8_readReach_8 : decode cX8_readReach 8 = .ok (.iconst 1, 1) := by decide +kernel
theorem dX8_readReach_9 : decode cX8_readReach 9 = .ok (.bipush 20, 2) := by decide +kernel
theorem dX8_readReach_11 : decode cX8_readReach 11 = .ok (.invokevirtual 49, 3) := by decide +kernel
theorem dX8_readReach_14 : decode cX8_readReach 14 = .ok (.ifCond .ne 5, 3) := by decide +kernel
theorem dX8_readReach_17 : decode cX8_readReach 17 = .ok (.iconst 0, 1) := by decide +kernel
theorem dX8_readReach_18 : decode cX8_readReach 18 = .ok (.ireturn, 1) := by decide +kernel
theorem dX8_readReach_19 : decode cX8_readReach 19 = .ok (.aload_n 1, 1) := by decide +kernel
theorem dX8_readReach_20 : decode cX8_readReach 20 = .ok (.iconst 1, 1) := by decide +kernel
theorem dX8_readReach_21 : decode cX8_readReach 21 = .ok (.putfield 68, 3) := by decide +kernel
theorem dX8_readReach_24 : decode cX8_readReach 24 = .ok (.aload_n 1, 1) := by decide +kernel
theorem dX8_readReach_25 : decode cX8_readReach 25 = .ok (.aload_n 0, 1) := by decide +kernel
theorem dX8_readReach_26 : decode cX8_readReach 26 = .ok (.getfield 53, 3) := by decide +kernel
theorem dX8_readReach_29 : decode cX8_readReach 29 = .ok (.putfield 72, 3) := by decide +kernel
theorem dX8_readReach_32 : decode cX8_readReach 32 = .ok (.aload_n 0, 1) := by decide +kernel
theorem dX8_readReach_33 : decode cX8_readReach 33 = .ok (.invokevirtual 60, 3) := by decide +kernel
theorem dX8_readReach_36 : decode cX8_readReach 36 = .ok (.ireturn, 1) := by decide +kernel
theorem dX8_readStart_0 : decode cX8_readStart 0 = .ok (.aload_n 1, 1) := by decide +kernel
theorem dX8_readStart_1 : decode cX8_readStart 1 = .ok (.getfield 75, 3) := by decide +kernel
theorem dX8_readStart_4 : decode cX8_readStart 4 = .ok (.ifCond .ne 17, 3) := by decide +kernel
theorem dX8_readStart_7 : decode cX8_readStart 7 = .ok (.aload_n 0, 1) := by decide +kernel
theorem dX8_readStart_8 : decode cX8_readStart 8 = .ok (.iconst 0, 1) := by decide +kernel
theorem dX8_readStart_9 : decode cX8_readStart 9 = .ok (.aload_n 1, 1) := by decide +kernel
theorem dX8_readStart_10 : decode cX8_readStart 10 = .ok (.getfield 46, 3) := by decide +kernel
theorem dX8_readStart_13 : decode cX8_readStart 13 = .ok (.iconst 1, 1) := by decide +kernel
theorem dX8_readStart_14 : decode cX8_readStart 14 = .ok (.isub, 1) := by decide +kernel
theorem dX8_readStart_15 : decode cX8_readStart 15 = .ok (.invokevirtual 49, 3) := by decide +kernel
theorem dX8_readStart_18 : decode cX8_readStart 18 = .ok (.ifCond .ne 5, 3) := by decide +kernel
theorem dX8_readStart_21 : decode cX8_readStart 21 = .ok (.iconst 0, 1) := by decide +kernel
theorem dX8_readStart_22 : decode cX8_readStart 22 = .ok (.ireturn, 1) := by decide +kernel
theorem dX8_readStart_23 : decode cX8_readStart 23 = .ok (.aload_n 1, 1) := by decide +kernel
theorem dX8_readStart_24 : decode cX8_readStart 24 = .ok (.iconst 1, 1) := by decide +kernel
theorem dX8_readStart_25 : decode cX8_readStart 25 = .ok (.putfield 75, 3) := by decide +kernel
theorem dX8_readStart_28 : decode cX8_readStart 28 = .ok (.aload_n 1, 1) := by decide +kernel
theorem dX8_readStart_29 : decode cX8_readStart 29 = .ok (.aload_n 0, 1) := by decide +kernel
theorem dX8_readStart_30 : decode cX8_readStart 30 = .ok (.getfield 53, 3) := by decide +kernel
theorem dX8_readStart_33 : decode cX8_readStart 33 = .ok (.putfield 78, 3) := by decide +kernel
theorem dX8_readStart_36 : decode cX8_readStart 36 = .ok (.aload_n 0, 1) := by decide +kernel
theorem dX8_readStart_37 : decode cX8_readStart 37 = .ok (.invokevirtual 60, 3) := by decide +kernel
theorem dX8_readStart_40 : decode cX8_readStart 40 = .ok (.ireturn, 1) := by decide +kernel
theorem dX8_readItemEnd_0 : decode cX8_readItemEnd 0 = .ok (.aload_n 0, 1) := by decide +kernel
theorem dX8_readItemEnd_1 : decode cX8_readItemEnd 1 = .ok (.invokevirtual 24, 3) := by decide +kernel
theorem dX8_readItemEnd_4 : decode cX8_readItemEnd 4 = .ok (.aload_n 0, 1) := by decide +kernel
theorem dX8_readItemEnd_5 : decode cX8_readItemEnd 5 = .ok (.getfield 27, 3) := by decide +kernel
theorem dX8_readItemEnd_8 : decode cX8_readItemEnd 8 = .ok (.bipush 59, 2) := by decide +kernel
theorem dX8_readItemEnd_10 : decode cX8_readItemEnd 10 = .ok (.if_icmp .ne 7, 3) := by decide +kernel
theorem dX8_readItemEnd_13 : decode cX8_readItemEnd 13 = .ok (.iconst 1, 1) := by decide +kernel
theorem dX8_readItemEnd_14 : decode cX8_readItemEnd 14 = .ok (.goto 4, 3) := by decide +kernel
theorem dX8_readItemEnd_17 : decode cX8_readItemEnd 17 = .ok (.iconst 0, 1) := by decide +kernel
theorem dX8_readItemEnd_18 : decode cX8_readItemEnd 18 = .ok (.ireturn, 1) := by decide +kernel
theorem dX8_readNumber_0 : decode cX8_readNumber 0 = .ok (.aload_n 0, 1) := by decide +kernel
theorem dX8_readNumber_1 : decode cX8_readNumber 1 = .ok (.invokevirtual 24, 3) := by decide +kernel
theorem dX8_readNumber_4 : decode cX8_readNumber 4 = .ok (.aload_n 0, 1) := by decide +kernel
theorem dX8_readNumber_5 : decode cX8_readNumber 5 = .ok (.getfield 27, 3) := by decide +kernel
theorem dX8_readNumber_8 : decode cX8_readNumber 8 = .ok (.iconst 2, 1) := by decide +kernel
theorem dX8_readNumber_9 : decode cX8_readNumber 9 = .ok (.if_icmp .ne 23, 3) := by decide +kernel
theorem dX8_readNumber_12 : decode cX8_readNumber 12 = .ok (.aload_n 0, 1) := by decide +kernel
theorem dX8_readNumber_13 : decode cX8_readNumber 13 = .ok (.getfield 53, 3) := by decide +kernel
theorem dX8_readNumber_16 : decode cX8_readNumber 16 = .ok (.iload_n 1, 1) := by decide +kernel
theorem dX8_readNumber_17 : decode cX8_readNumber 17 = .ok (.if_icmp .lt 15, 3) := by decide +kernel
theorem dX8_readNumber_20 : decode cX8_readNumber 20 = .ok (.aload_n 0, 1) := by decide +kernel
theorem dX8_readNumber_21 : decode cX8_readNumber 21 = .ok (.getfield 53, 3) := by decide +kernel
theorem dX8_readNumber_24 : decode cX8_readNumber 24 = .ok (.iload_n 2, 1) := by decide +kernel
theorem dX8_readNumber_25 : decode cX8_readNumber 25 = .ok (.if_icmp .gt 7, 3) := by decide +kernel
theorem dX8_readNumber_28 : decode cX8_readNumber 28 = .ok (.iconst 1, 1) := by decide +kernel
theorem dX8_readNumber_29 : decode cX8_readNumber 29 = .ok (.goto 4, 3) := by decide +kernel
theorem dX8_readNumber_32 : decode cX8_readNumber 32 = .ok (.iconst 0, 1) := by decide +kernel
theorem dX8_readNumber_33 : decode cX8_readNumber 33 = .ok (.ireturn, 1) := by decide +kernel
theorem dX8_readToken_0 : decode cX8_readToken 0 = .ok (.aload_n 0, 1) := by decide +kernel
theorem dX8_readToken_1 : decode cX8_readToken 1 = .ok (.getfield 20, 3) := by decide +kernel
theorem dX8_readToken_4 : decode cX8_readToken 4 = .ok (.aload_n 0, 1) := by decide +kernel
theorem dX8_readToken_5 : decode cX8_readToken 5 = .ok (.getfield 81, 3) := by decide +kernel
theorem dX8_readToken_8 : decode cX8_readToken 8 = .ok (.if_icmp .ge 30, 3) := by decide +kernel
theorem dX8_readToken_11 : decode cX8_readToken 11 = .ok (.aload_n 0, 1) := by decide +kernel
theorem dX8_readToken_12 : decode cX8_readToken 12 = .ok (.getfield 9, 3) := by decide +kernel
theorem dX8_readToken_15 : decode cX8_readToken 15 = .ok (.aload_n 0, 1) := by decide +kernel
theorem dX8_readToken_16 : decode cX8_readToken 16 = .ok (.getfield 20, 3) := by decide +kernel
theorem dX8_readToken_19 : decode cX8_readToken 19 = .ok (.caload, 1) := by decide +kernel
theorem dX8_readToken_20 : decode cX8_readToken 20 = .ok (.bipush 32, 2) := by decide +kernel
theorem dX8_readToken_22 : decode cX8_readToken 22 = .ok (.if_icmp .ne 16, 3) := by decide +kernel
theorem dX8_readToken_25 : decode cX8_readToken 25 = .ok (.aload_n 0, 1) := by decide +kernel
theorem dX8_readToken_26 : decode cX8_readToken 26 = .ok (.dup, 1) := by decide +kernel
theorem dX8_readToken_27 : decode cX8_readToken 27 = .ok (.getfield 20, 3) := by decide +kernel
theorem dX8_readToken_30 : decode cX8_readToken 30 = .ok (.iconst 1, 1) := by decide +kernel
theorem dX8_readToken_31 : decode cX8_readToken 31 = .ok (.iadd, 1) := by decide +kernel
theorem dX8_readToken_32 : decode cX8_readToken 32 = .ok (.putfield 20, 3) := by decide +kernel
theorem dX8_readToken_35 : decode cX8_readToken 35 = .ok (.goto (-35), 3) := by decide +kernel
theorem dX8_readToken_38 : decode cX8_readToken 38 = .ok (.aload_n 0, 1) := by decide +kernel
theorem dX8_readToken_39 : decode cX8_readToken 39 = .ok (.aload_n 0, 1) := by decide +kernel
theorem dX8_readToken_40 : decode cX8_readToken 40 = .ok (.getfield 20, 3) := by decide +kernel
theorem dX8_readToken_43 : decode cX8_readToken 43 = .ok (.putfield 84, 3) := by decide +kernel
theorem dX8_readToken_46 : decode cX8_readToken 46 = .ok (.aload_n 0, 1) := by decide +kernel
theorem dX8_readToken_47 : decode cX8_readToken 47 = .ok (.getfield 20, 3) := by decide +kernel
theorem dX8_readToken_50 : decode cX8_readToken 50 = .ok (.aload_n 0, 1) := by decide +kernel
theorem dX8_readToken_51 : decode cX8_readToken 51 = .ok (.getfield 81, 3) := by decide +kernel
theorem dX8_readToken_54 : decode cX8_readToken 54 = .ok (.if_icmp .lt 9, 3) := by decide +kernel
theorem dX8_readToken_57 : decode cX8_readToken 57 = .ok (.aload_n 0, 1) := by decide +kernel
theorem dX8_readToken_58 : decode cX8_readToken 58 = .ok (.iconst 1, 1) := by decide +kernel
theorem dX8_readToken_59 : decode cX8_readToken 59 = .ok (.putfield 27, 3) := by decide +kernel
theorem dX8_readToken_62 : decode cX8_readToken 62 = .ok (.return_, 1) := by decide +kernel
theorem dX8_readToken_63 : decode cX8_readToken 63 = .ok (.aload_n 0, 1) := by decide +kernel
theorem dX8_readToken_64 : decode cX8_readToken 64 = .ok (.getfield 9, 3) := by decide +kernel
theorem dX8_readToken_67 : decode cX8_readToken 67 = .ok (.aload_n 0, 1) := by decide +kernel
theorem dX8_readToken_68 : decode cX8_readToken 68 = .ok (.getfield 20, 3) := by decide +kernel
theorem dX8_readToken_71 : decode cX8_readToken 71 = .ok (.caload, 1) := by decide +kernel
theorem dX8_readToken_72 : decode cX8_readToken 72 = .ok (.istore_n 1, 1) := by decide +kernel
theorem dX8_readToken_73 : decode cX8_readToken 73 = .ok (.iload_n 1, 1) := by decide +kernel
theorem dX8_readToken_74 : decode cX8_readToken 74 = .ok (.invokestatic 87, 3) := by decide +kernel
theorem dX8_readToken_77 : decode cX8_readToken 77 = .ok (.ifCond .eq 8, 3) := by decide +kernel
theorem dX8_readToken_80 : decode cX8_readToken 80 = .ok (.aload_n 0, 1) := by decide +kernel
theorem dX8_readToken_81 : decode cX8_readToken 81 = .ok (.invokevirtual 91, 3) := by decide +kernel
theorem dX8_readToken_84 : decode cX8_readToken 84 = .ok (.return_, 1) := by decide +kernel
theorem dX8_readToken_85 : decode cX8_readToken 85 = .ok (.aload_n 0, 1) := by decide +kernel
theorem dX8_readToken_86 : decode cX8_readToken 86 = .ok (.dup, 1) := by decide +kernel
theorem dX8_readToken_87 : decode cX8_readToken 87 = .ok (.getfield 20, 3) := by decide +kernel
theorem dX8_readToken_90 : decode cX8_readToken 90 = .ok (.iconst 1, 1) := by decide +kernel
theorem dX8_readToken_91 : decode cX8_readToken 91 = .ok (.iadd, 1) := by decide +kernel
theorem dX8_readToken_92 : decode cX8_readToken 92 = .ok (.putfield 20, 3) := by decide +kernel
theorem dX8_readToken_95 : decode cX8_readToken 95 = .ok (.aload_n 0, 1) := by decide +kernel
theorem dX8_readToken_96 : decode cX8_readToken 96 = .ok (.iload_n 1, 1) := by decide +kernel
theorem dX8_readToken_97 : decode cX8_readToken 97 = .ok (.invokestatic 94, 3) := by decide +kernel
theorem dX8_readToken_100 : decode cX8_readToken 100 = .ok (.ifCond .eq 7, 3) := by decide +kernel
theorem dX8_readToken_103 : decode cX8_readToken 103 = .ok (.iload_n 1, 1) := by decide +kernel
theorem dX8_readToken_104 : decode cX8_readToken 104 = .ok (.goto 4, 3) := by decide +kernel
theorem dX8_readToken_107 : decode cX8_readToken 107 = .ok (.iconst 0, 1) := by decide +kernel
theorem dX8_readToken_108 : decode cX8_readToken 108 = .ok (.putfield 27, 3) := by decide +kernel
theorem dX8_readToken_111 : decode cX8_readToken 111 = .ok (.return_, 1) := by decide +kernel
theorem dX8_readDigits_0 : decode cX8_readDigits 0 = .ok (.aload_n 0, 1) := by decide +kernel
theorem dX8_readDigits_1 : decode cX8_readDigits 1 = .ok (.iconst 0, 1) := by decide +kernel
theorem dX8_readDigits_2 : decode cX8_readDigits 2 = .ok (.putfield 53, 3) := by decide +kernel
theorem dX8_readDigits_5 : decode cX8_readDigits 5 = .ok (.aload_n 0, 1) := by decide +kernel
theorem dX8_readDigits_6 : decode cX8_readDigits 6 = .ok (.getfield 20, 3) := by decide +kernel
theorem dX8_readDigits_9 : decode cX8_readDigits 9 = .ok (.aload_n 0, 1) := by decide +kernel
theorem dX8_readDigits_10 : decode cX8_readDigits 10 = .ok (.getfield 81, 3) := by decide +kernel
theorem dX8_readDigits_13 : decode cX8_readDigits 13 = .ok (.if_icmp .ge 61, 3) := by decide +kernel
theorem dX8_readDigits_16 : decode cX8_readDigits 16 = .ok (.aload_n 0, 1) := by decide +kernel
theorem dX8_readDigits_17 : decode cX8_readDigits 17 = .ok (.getfield 9, 3) := by decide +kernel
theorem dX8_readDigits_20 : decode cX8_readDigits 20 = .ok (.aload_n 0, 1) := by decide +kernel
theorem dX8_readDigits_21 : decode cX8_readDigits 21 = .ok (.getfield 20, 3) := by decide +kernel
theorem dX8_readDigits_24 : decode cX8_readDigits 24 = .ok (.caload, 1) := by decide +kernel
theorem dX8_readDigits_25 : decode cX8_readDigits 25 = .ok (.invokestatic 87, 3) := by decide +kernel
theorem dX8_readDigits_28 : decode cX8_readDigits 28 = .ok (.ifCond .eq 46, 3) := by decide +kernel
theorem dX8_readDigits_31 : decode cX8_readDigits 31 = .ok (.aload_n 0, 1) := by decide +kernel
theorem dX8_readDigits_32 : decode cX8_readDigits 32 = .ok (.aload_n 0, 1) := by decide +kernel
theorem dX8_readDigits_33 : decode cX8_readDigits 33 = .ok (.getfield 53, 3) := by decide +kernel
theorem dX8_readDigits_36 : decode cX8_readDigits 36 = .ok (.bipush 10, 2) := by decide +kernel
theorem dX8_readDigits_38 : decode cX8_readDigits 38 = .ok (.imul, 1) := by decide +kernel
theorem dX8_readDigits_39 : decode cX8_readDigits 39 = .ok (.aload_n 0, 1) := by decide +kernel
theorem dX8_readDigits_40 : decode cX8_readDigits 40 = .ok (.getfield 9, 3) := by decide +kernel
theorem dX8_readDigits_43 : decode cX8_readDigits 43 = .ok (.aload_n 0, 1) := by decide +kernel
theorem dX8_readDigits_44 : decode cX8_readDigits 44 = .ok (.getfield 20, 3) := by decide +kernel
theorem dX8_readDigits_47 : decode cX8_readDigits 47 = .ok (.caload, 1) := by decide +kernel
theorem dX8_readDigits_48 : decode cX8_readDigits 48 = .ok (.iadd, 1) := by decide +kernel
theorem dX8_readDigits_49 : decode cX8_readDigits 49 = .ok (.bipush 48, 2) := by decide +kernel
theorem dX8_readDigits_51 : decode cX8_readDigits 51 = .ok (.isub, 1) := by decide +kernel
theorem dX8_readDigits_52 : decode cX8_readDigits 52 = .ok (.sipush 1000, 3) := by decide +kernel
theorem dX8_readDigits_55 : decode cX8_readDigits 55 = .ok (.invokestatic 97, 3) := by decide +kernel
theorem dX8_readDigits_58 : decode cX8_readDigits 58 = .ok (.putfield 53, 3) := by decide +kernel
theorem dX8_readDigits_61 : decode cX8_readDigits 61 = .ok (.aload_n 0, 1) := by decide +kernel
theorem dX8_readDigits_62 : decode cX8_readDigits 62 = .ok (.dup, 1) := by decide +kernel
theorem dX8_readDigits_63 : decode cX8_readDigits 63 = .ok (.getfield 20, 3) := by decide +kernel
theorem dX8_readDigits_66 : decode cX8_readDigits 66 = .ok (.iconst 1, 1) := by decide +kernel
theorem dX8_readDigits_67 : decode cX8_readDigits 67 = .ok (.iadd, 1) := by decide +kernel
theorem dX8_readDigits_68 : decode cX8_readDigits 68 = .ok (.putfield 20, 3) := by decide +kernel
theorem dX8_readDigits_71 : decode cX8_readDigits 71 = .ok (.goto (-66), 3) := by decide +kernel
theorem dX8_readDigits_74 : decode cX8_readDigits 74 = .ok (.aload_n 0, 1) := by decide +kernel
theorem dX8_readDigits_75 : decode cX8_readDigits 75 = .ok (.getfield 9, 3) := by decide +kernel
theorem dX8_readDigits_78 : decode cX8_readDigits 78 = .ok (.aload_n 0, 1) := by decide +kernel
theorem dX8_readDigits_79 : decode cX8_readDigits 79 = .ok (.getfield 84, 3) := by decide +kernel
theorem dX8_readDigits_82 : decode cX8_readDigits 82 = .ok (.caload, 1) := by decide +kernel
theorem dX8_readDigits_83 : decode cX8_readDigits 83 = .ok (.bipush 48, 2) := by decide +kernel
theorem dX8_readDigits_85 : decode cX8_readDigits 85 = .ok (.if_icmp .ne 20, 3) := by decide +kernel
theorem dX8_readDigits_88 : decode cX8_readDigits 88 = .ok (.aload_n 0, 1) := by decide +kernel
theorem dX8_readDigits_89 : decode cX8_readDigits 89 = .ok (.getfield 20, 3) := by decide +kernel
theorem dX8_readDigits_92 : decode cX8_readDigits 92 = .ok (.aload_n 0, 1) := by decide +kernel
theorem dX8_readDigits_93 : decode cX8_readDigits 93 = .ok (.getfield 84, 3) := by decide +kernel
theorem dX8_readDigits_96 : decode cX8_readDigits 96 = .ok (.isub, 1) := by decide +kernel
theorem dX8_readDigits_97 : decode cX8_readDigits 97 = .ok (.iconst 1, 1) := by decide +kernel
theorem dX8_readDigits_98 : decode cX8_readDigits 98 = .ok (.if_icmp .le 7, 3) := by decide +kernel
theorem dX8_readDigits_101 : decode cX8_readDigits 101 = .ok (.iconst 1, 1) := by decide +kernel
theorem dX8_readDigits_102 : decode cX8_readDigits 102 = .ok (.goto 4, 3) := by decide +kernel
theorem dX8_readDigits_105 : decode cX8_readDigits 105 = .ok (.iconst 0, 1) := by decide +kernel
theorem dX8_readDigits_106 : decode cX8_readDigits 106 = .ok (.istore_n 1, 1) := by decide +kernel
theorem dX8_readDigits_107 : decode cX8_readDigits 107 = .ok (.aload_n 0, 1) := by decide +kernel
theorem dX8_readDigits_108 : decode cX8_readDigits 108 = .ok (.iload_n 1, 1) := by decide +kernel
theorem dX8_readDigits_109 : decode cX8_readDigits 109 = .ok (.ifCond .ne 12, 3) := by decide +kernel
theorem dX8_readDigits_112 : decode cX8_readDigits 112 = .ok (.aload_n 0, 1) := by decide +kernel
theorem dX8_readDigits_113 : decode cX8_readDigits 113 = .ok (.getfield 53, 3) := by decide +kernel
theorem dX8_readDigits_116 : decode cX8_readDigits 116 = .ok (.bipush 20, 2) := by decide +kernel
theorem dX8_readDigits_118 : decode cX8_readDigits 118 = .ok (.if_icmp .le 7, 3) := by decide +kernel
theorem dX8_readDigits_121 : decode cX8_readDigits 121 = .ok (.iconst 0, 1) := by decide +kernel
theorem dX8_readDigits_122 : decode cX8_readDigits 122 = .ok (.goto 4, 3) := by decide +kernel
theorem dX8_readDigits_125 : decode cX8_readDigits 125 = .ok (.iconst 2, 1) := by decide +kernel
theorem dX8_readDigits_126 : decode cX8_readDigits 126 = .ok (.putfield 27, 3) := by decide +kernel
theorem dX8_readDigits_129 : decode cX8_readDigits 129 = .ok (.return_, 1) := by decide +kernel
theorem dX8_isDigit_0 : decode cX8_isDigit 0 = .ok (.iload_n 0, 1) := by decide +kernel
theorem dX8_isDigit_1 : decode cX8_isDigit 1 = .ok (.bipush 48, 2) := by decide +kernel
theorem dX8_isDigit_3 : decode cX8_isDigit 3 = .ok (.if_icmp .lt 13, 3) := by decide +kernel
theorem dX8_isDigit_6 : decode cX8_isDigit 6 = .ok (.iload_n 0, 1) := by decide +kernel
theorem dX8_isDigit_7 : decode cX8_isDigit 7 = .ok (.bipush 57, 2) := by decide +kernel
theorem dX8_isDigit_9 : decode cX8_isDigit 9 = .ok (.if_icmp .gt 7, 3) := by decide +kernel
theorem dX8_isDigit_12 : decode cX8_isDigit 12 = .ok (.iconst 1, 1) := by decide +kernel
theorem dX8_isDigit_13 : decode cX8_isDigit 13 = .ok (.goto 4, 3) := by decide +kernel
theorem dX8_isDigit_16 : decode cX8_isDigit 16 = .ok (.iconst 0, 1) := by decide +kernel
theorem dX8_isDigit_17 : decode cX8_isDigit 17 = .ok (.ireturn, 1) := by decide +kernel
theorem dX8_isSign_0 : decode cX8_isSign 0 = .ok (.iload_n 0, 1) := by decide +kernel
theorem dX8_isSign_1 : decode cX8_isSign 1 = .ok (.bipush 118, 2) := by decide +kernel
theorem dX8_isSign_3 : decode cX8_isSign 3 = .ok (.if_icmp .eq 27, 3) := by decide +kernel
theorem dX8_isSign_6 : decode cX8_isSign 6 = .ok (.iload_n 0, 1) := by decide +kernel
theorem dX8_isSign_7 : decode cX8_isSign 7 = .ok (.bipush 101, 2) := by decide +kernel
theorem dX8_isSign_9 : decode cX8_isSign 9 = .ok (.if_icmp .eq 21, 3) := by decide +kernel
theorem dX8_isSign_12 : decode cX8_isSign 12 = .ok (.iload_n 0, 1) := by decide +kernel
theorem dX8_isSign_13 : decode cX8_isSign 13 = .ok (.bipush 114, 2) := by decide +kernel
theorem dX8_isSign_15 : decode cX8_isSign 15 = .ok (.if_icmp .eq 15, 3) := by decide +kernel
theorem dX8_isSign_18 : decode cX8_isSign 18 = .ok (.iload_n 0, 1) := by decide +kernel
theorem dX8_isSign_19 : decode cX8_isSign 19 = .ok (.bipush 115, 2) := by decide +kernel
theorem dX8_isSign_21 : decode cX8_isSign 21 = .ok (.if_icmp .eq 9, 3) := by decide +kernel
theorem dX8_isSign_24 : decode cX8_isSign 24 = .ok (.iload_n 0, 1) := by decide +kernel
theorem dX8_isSign_25 : decode cX8_isSign 25 = .ok (.bipush 59, 2) := by decide +kernel
theorem dX8_isSign_27 : decode cX8_isSign 27 = .ok (.if_icmp .ne 7, 3) := by decide +kernel
theorem dX8_isSign_30 : decode cX8_isSign 30 = .ok (.iconst 1, 1) := by decide +kernel
theorem dX8_isSign_31 : decode cX8_isSign 31 = .ok (.goto 4, 3) := by decide +kernel
theorem dX8_isSign_34 : decode cX8_isSign 34 = .ok (.iconst 0, 1) := by decide +kernel
theorem dX8_isSign_35 : decode cX8_isSign 35 = .ok (.ireturn, 1) := by decide +kernel
theorem dX9_init_0 : decode cX9_init 0 = .ok (.aload_n 0, 1) := by decide +kernel
theorem dX9_init_1 : decode cX9_init 1 = .ok (.invokespecial 3, 3) := by decide +kernel
theorem dX9_init_4 : decode cX9_init 4 = .ok (.aload_n 0, 1) := by decide +kernel
theorem dX9_init_5 : decode cX9_init 5 = .ok (.bipush 20, 2) := by decide +kernel
theorem dX9_init_7 : decode cX9_init 7 = .ok (.putfield 9, 3) := by decide +kernel
theorem dX9_init_10 : decode cX9_init 10 = .ok (.aload_n 0, 1) := by decide +kernel
theorem dX9_init_11 : decode cX9_init 11 = .ok (.bipush 6, 2) := by decide +kernel
theorem dX9_init_13 : decode cX9_init 13 = .ok (.newarray .int, 2) := by decide +kernel
theorem dX9_init_15 : decode cX9_init 15 = .ok (.putfield 15, 3) := by decide +kernel
theorem dX9_init_18 : decode cX9_init 18 = .ok (.aload_n 0, 1) := by decide +kernel
theorem dX9_init_19 : decode cX9_init 19 = .ok (.bipush 36, 2) := by decide +kernel
theorem dX9_init_21 : decode cX9_init 21 = .ok (.newarray .int, 2) := by decide +kernel
theorem dX9_init_23 : decode cX9_init 23 = .ok (.putfield 19, 3) := by decide +kernel
theorem dX9_init_26 : decode cX9_init 26 = .ok (.return_, 1) := by decide +kernel
theorem dX9_empty_0 : decode cX9_empty 0 = .ok (.aload_n 0, 1) := by decide +kernel
theorem dX9_empty_1 : decode cX9_empty 1 = .ok (.iconst 0, 1) := by decide +kernel
theorem dX9_empty_2 : decode cX9_empty 2 = .ok (.putfield 22, 3) := by decide +kernel
theorem dX9_empty_5 : decode cX9_empty 5 = .ok (.aload_n 0, 1) := by decide +kernel
theorem dX9_empty_6 : decode cX9_empty 6 = .ok (.iconst 0, 1) := by decide +kernel
theorem dX9_empty_7 : decode cX9_empty 7 = .ok (.putfield 25, 3) := by decide +kernel
theorem dX9_empty_10 : decode cX9_empty 10 = .ok (.aload_n 0, 1) := by decide +kernel
theorem dX9_empty_11 : decode cX9_empty 11 = .ok (.bipush 20, 2) := by decide +kernel
theorem dX9_empty_13 : decode cX9_empty 13 = .ok (.putfield 9, 3) := by decide +kernel
theorem dX9_empty_16 : decode cX9_empty 16 = .ok (.aload_n 0, 1) := by decide +kernel
theorem dX9_empty_17 : decode cX9_empty 17 = .ok (.iconst 0, 1) := by decide +kernel
theorem dX9_empty_18 : decode cX9_empty 18 = .ok (.putfield 28, 3) := by decide +kernel
theorem dX9_empty_21 : decode cX9_empty 21 = .ok (.aload_n 0, 1) := by decide +kernel
theorem dX9_empty_22 : decode cX9_empty 22 = .ok (.iconst 0, 1) := by decide +kernel
theorem dX9_empty_23 : decode cX9_empty 23 = .ok (.putfield 31, 3) := by decide +kernel
theorem dX9_empty_26 : decode cX9_empty 26 = .ok (.aload_n 0, 1) := by decide +kernel
theorem dX9_empty_27 : decode cX9_empty 27 = .ok (.iconst 0, 1) := by decide +kernel
theorem dX9_empty_28 : decode cX9_empty 28 = .ok (.putfield 35, 3) := by decide +kernel
theorem dX9_empty_31 : decode cX9_empty 31 = .ok (.iconst 0, 1) := by decide +kernel
theorem dX9_empty_32 : decode cX9_empty 32 = .ok (.istore_n 1, 1) := by decide +kernel
theorem dX9_empty_33 : decode cX9_empty 33 = .ok (.iload_n 1, 1) := by decide +kernel
theorem dX9_empty_34 : decode cX9_empty 34 = .ok (.bipush 6, 2) := by decide +kernel
theorem dX9_empty_36 : decode cX9_empty 36 = .ok (.if_icmp .ge 16, 3) := by decide +kernel
theorem dX9_empty_39 : decode cX9_empty 39 = .ok (.aload_n 0, 1) := by decide +kernel
theorem dX9_empty_40 : decode cX9_empty 40 = .ok (.getfield 15, 3) := by decide +kernel
theorem dX9_empty_43 : decode cX9_empty 43 = .ok (.iload_n 1, 1) := by decide +kernel
theorem dX9_empty_44 : decode cX9_empty 44 = .ok (.iconst 0, 1) := by decide +kernel
theorem dX9_empty_45 : decode cX9_empty 45 = .ok (.iastore, 1) := by decide +kernel
theorem dX9_empty_46 : decode cX9_empty 46 = .ok (.iinc 1 1, 3) := by decide +kernel
theorem dX9_empty_49 : decode cX9_empty 49 = .ok (.goto (-16), 3) := by decide +kernel
theorem dX9_empty_52 : decode cX9_empty 52 = .ok (.iconst 0, 1) := by decide +kernel
theorem dX9_empty_53 : decode cX9_empty 53 = .ok (.istore_n 1, 1) := by decide +kernel
theorem dX9_empty_54 : decode cX9_empty 54 = .ok (.iload_n 1, 1) := by decide +kernel
theorem dX9_empty_55 : decode cX9_empty 55 = .ok (.aload_n 0, 1) := by decide +kernel
theorem dX9_empty_56 : decode cX9_empty 56 = .ok (.getfield 19, 3) := by decide +kernel
theorem dX9_empty_59 : decode cX9_empty 59 = .ok (.arraylength, 1) := by decide +kernel
theorem dX9_empty_60 : decode cX9_empty 60 = .ok (.if_icmp .ge 16, 3) := by decide +kernel
theorem dX9_empty_63 : decode cX9_empty 63 = .ok (.aload_n 0, 1) := by decide +kernel
theorem dX9_empty_64 : decode cX9_empty 64 = .ok (.getfield 19, 3) := by decide +kernel
theorem dX9_empty_67 : decode cX9_empty 67 = .ok (.iload_n 1, 1) := by decide +kernel
theorem dX9_empty_68 : decode cX9_empty 68 = .ok (.iconst 0, 1) := by decide +kernel
theorem dX9_empty_69 : decode cX9_empty 69 = .ok (.iastore, 1) := by decide +kernel
theorem dX9_empty_70 : decode cX9_empty 70 = .ok (.iinc 1 1, 3) := by decide +kernel
theorem dX9_empty_73 : decode cX9_empty 73 = .ok (.goto (-19), 3) := by decide +kernel
theorem dX9_empty_76 : decode cX9_empty 76 = .ok (.return_, 1) := by decide +kernel
theorem dX9_addVillage_0 : decode cX9_addVillage 0 = .ok (.aload_n 0, 1) := by decide +kernel
theorem dX9_addVillage_1 : decode cX9_addVillage 1 = .ok (.getfield 22, 3) := by decide +kernel
theorem dX9_addVillage_4 : decode cX9_addVillage 4 = .ok (.bipush 6, 2) := by decide +kernel
theorem dX9_addVillage_6 : decode cX9_addVillage 6 = .ok (.if_icmp .lt 4, 3) := by decide +kernel
theorem dX9_addVillage_9 : decode cX9_addVillage 9 = .ok (.return_, 1) := by decide +kernel
theorem dX9_addVillage_10 : decode cX9_addVillage 10 = .ok (.aload_n 0, 1) := by decide +kernel
theorem dX9_addVillage_11 : decode cX9_addVillage 11 = .ok (.getfield 15, 3) := by decide +kernel
theorem dX9_addVillage_14 : decode cX9_addVillage 14 = .ok (.aload_n 0, 1) := by decide +kernel
theorem dX9_addVillage_15 : decode cX9_addVillage 15 = .ok (.getfield 22, 3) := by decide +kernel
theorem dX9_addVillage_18 : decode cX9_addVillage 18 = .ok (.iload_n 1, 1) := by decide +kernel
theorem dX9_addVillage_19 : decode cX9_addVillage 19 = .ok (.iastore, 1) := by decide +kernel
theorem dX9_addVillage_20 : decode cX9_addVillage 20 = .ok (.aload_n 0, 1) := by decide +kernel
theorem dX9_addVillage_21 : decode cX9_addVillage 21 = .ok (.dup, 1) := by decide +kernel
theorem dX9_addVillage_22 : decode cX9_addVillage 22 = .ok (.getfield 25, 3) := by decide +kernel
theorem dX9_addVillage_25 : decode cX9_addVillage 25 = .ok (.iload_n 2, 1) := by decide +kernel
theorem dX9_addVillage_26 : decode cX9_addVillage 26 = .ok (.aload_n 0, 1) := by decide +kernel
theorem dX9_addVillage_27 : decode cX9_addVillage 27 = .ok (.getfield 22, 3) := by decide +kernel
theorem dX9_addVillage_30 : decode cX9_addVillage 30 = .ok (.ishl, 1) := by decide +kernel
theorem dX9_addVillage_31 : decode cX9_addVillage 31 = .ok (.ior, 1) := by decide +kernel
theorem dX9_addVillage_32 : decode cX9_addVillage 32 = .ok (.putfield 25, 3) := by decide +kernel
theorem dX9_addVillage_35 : decode cX9_addVillage 35 = .ok (.aload_n 0, 1) := by decide +kernel
theorem dX9_addVillage_36 : decode cX9_addVillage 36 = .ok (.dup, 1) := by decide +kernel
theorem dX9_addVillage_37 : decode cX9_addVillage 37 = .ok (.getfield 22, 3) := by decide +kernel
theorem dX9_addVillage_40 : decode cX9_addVillage 40 = .ok (.iconst 1, 1) := by decide +kernel
theorem dX9_addVillage_41 : decode cX9_addVillage 41 = .ok (.iadd, 1) := by decide +kernel
theorem dX9_addVillage_42 : decode cX9_addVillage 42 = .ok (.putfield 22, 3) := by decide +kernel
theorem dX9_addVillage_45 : decode cX9_addVillage 45 = .ok (.return_, 1) := by decide +kernel
theorem dX9_addWay_0 : decode cX9_addWay 0 = .ok (.aload_n 0, 1) := by decide +kernel
theorem dX9_addWay_1 : decode cX9_addWay 1 = .ok (.getfield 19, 3) := by decide +kernel
theorem dX9_addWay_4 : decode cX9_addWay 4 = .ok (.iload_n 1, 1) := by decide +kernel
theorem dX9_addWay_5 : decode cX9_addWay 5 = .ok (.bipush 6, 2) := by decide +kernel
theorem dX9_addWay_7 : decode cX9_addWay 7 = .ok (.imul, 1) := by decide +kernel
theorem dX9_addWay_8 : decode cX9_addWay 8 = .ok (.iload_n 2, 1) := by decide +kernel
theorem dX9_addWay_9 : decode cX9_addWay 9 = .ok (.iadd, 1) := by decide +kernel
theorem dX9_addWay_10 : decode cX9_addWay 10 = .ok (.iload_n 3, 1) := by decide +kernel
theorem dX9_addWay_11 : decode cX9_addWay 11 = .ok (.iastore, 1) := by decide +kernel
theorem dX9_addWay_12 : decode cX9_addWay 12 = .ok (.aload_n 0, 1) := by decide +kernel
theorem dX9_addWay_13 : decode cX9_addWay 13 = .ok (.getfield 19, 3) := by decide +kernel
theorem dX9_addWay_16 : decode cX9_addWay 16 = .ok (.iload_n 2, 1) := by decide +kernel
theorem dX9_addWay_17 : decode cX9_addWay 17 = .ok (.bipush 6, 2) := by decide +kernel
theorem dX9_addWay_19 : decode cX9_addWay 19 = .ok (.imul, 1) := by decide +kernel
theorem dX9_addWay_20 : decode cX9_addWay 20 = .ok (.iload_n 1, 1) := by decide +kernel
theorem dX9_addWay_21 : decode cX9_addWay 21 = .ok (.iadd, 1) := by decide +kernel
theorem dX9_addWay_22 : decode cX9_addWay 22 = .ok (.iload_n 3, 1) := by decide +kernel
theorem dX9_addWay_23 : decode cX9_addWay 23 = .ok (.iastore, 1) := by decide +kernel
theorem dX9_addWay_24 : decode cX9_addWay 24 = .ok (.return_, 1) := by decide +kernel
theorem dX9_between_0 : decode cX9_between 0 = .ok (.aload_n 0, 1) := by decide +kernel
theorem dX9_between_1 : decode cX9_between 1 = .ok (.getfield 19, 3) := by decide +kernel
theorem dX9_between_4 : decode cX9_between 4 = .ok (.iload_n 1, 1) := by decide +kernel
theorem dX9_between_5 : decode cX9_between 5 = .ok (.bipush 6, 2) := by decide +kernel
theorem dX9_between_7 : decode cX9_between 7 = .ok (.imul, 1) := by decide +kernel
theorem dX9_between_8 : decode cX9_between 8 = .ok (.iload_n 2, 1) := by decide +kernel
theorem dX9_between_9 : decode cX9_between 9 = .ok (.iadd, 1) := by decide +kernel
theorem dX9_between_10 : decode cX9_between 10 = .ok (.iaload, 1) := by decide +kernel
theorem dX9_between_11 : decode cX9_between 11 = .ok (.ireturn, 1) := by decide +kernel
theorem dX9_heardOver_0 : decode cX9_heardOver 0 = .ok (.aload_n 0, 1) := by decide +kernel
theorem dX9_heardOver_1 : decode cX9_heardOver 1 = .ok (.iload_n 1, 1) := by decide +kernel
theorem dX9_heardOver_2 : decode cX9_heardOver 2 = .ok (.iload_n 2, 1) := by decide +kernel
theorem dX9_heardOver_3 : decode cX9_heardOver 3 = .ok (.invokevirtual 38, 3) := by decide +kernel
theorem dX9_heardOver_6 : decode cX9_heardOver 6 = .ok (.iload_n 3, 1) := by decide +kernel
theorem dX9_heardOver_7 : decode cX9_heardOver 7 = .ok (.ishl, 1) := by decide +kernel
theorem dX9_heardOver_8 : decode cX9_heardOver 8 = .ok (.istore 4, 2) := by decide +kernel
theorem dX9_heardOver_10 : decode cX9_heardOver 10 = .ok (.iload 4, 2) := by decide +kernel
theorem dX9_heardOver_12 : decode cX9_heardOver 12 = .ok (.aload_n 0, 1) := by decide +kernel
theorem dX9_heardOver_13 : decode cX9_heardOver 13 = .ok (.getfield 9, 3) := by decide +kernel
theorem dX9_heardOver_16 : decode cX9_heardOver 16 = .ok (.if_icmp .le 7, 3) := by decide +kernel
theorem dX9_heardOver_19 : decode cX9_heardOver 19 = .ok (.iconst 0, 1) := by decide +kernel
theorem dX9_heardOver_20 : decode cX9_heardOver 20 = .ok (.goto 5, 3) := by decide +kernel
theorem dX9_heardOver_23 : decode cX9_heardOver 23 = .ok (.iload 4, 2) := by decide +kernel
theorem dX9_heardOver_25 : decode cX9_heardOver 25 = .ok (.ireturn, 1) := by decide +kernel
theorem dX9_neighbours_0 : decode cX9_neighbours 0 = .ok (.iconst 0, 1) := by decide +kernel
theorem dX9_neighbours_1 : decode cX9_neighbours 1 = .ok (.istore_n 2, 1) := by decide +kernel
theorem dX9_neighbours_2 : decode cX9_neighbours 2 = .ok (.iconst 0, 1) := by decide +kernel
theorem dX9_neighbours_3 : decode cX9_neighbours 3 = .ok (.istore_n 3, 1) := by decide +kernel
theorem dX9_neighbours_4 : decode cX9_neighbours 4 = .ok (.iload_n 3, 1) := by decide +kernel
theorem dX9_neighbours_5 : decode cX9_neighbours 5 = .ok (.aload_n 0, 1) := by decide +kernel
theorem dX9_neighbours_6 : decode cX9_neighbours 6 = .ok (.getfield 22, 3) := by decide +kernel
theorem dX9_neighbours_9 : decode cX9_neighbours 9 = .ok (.if_icmp .ge 24, 3) := by decide +kernel
theorem dX9_neighbours_12 : decode cX9_neighbours 12 = .ok (.aload_n 0, 1) := by decide +kernel
theorem dX9_neighbours_13 : decode cX9_neighbours 13 = .ok (.iload_n 1, 1) := by decide +kernel
theorem dX9_neighbours_14 : decode cX9_neighbours 14 = .ok (.iload_n 3, 1) := by decide +kernel
theorem dX9_neighbours_15 : decode cX9_neighbours 15 = .ok (.invokevirtual 38, 3) := by decide +kernel
theorem dX9_neighbours_18 : decode cX9_neighbours 18 = .ok (.ifCond .le 9, 3) := by decide +kernel
theorem dX9_neighbours_21 : decode cX9_neighbours 21 = .ok (.iload_n 2, 1) := by decide +kernel
theorem dX9_neighbours_22 : decode cX9_neighbours 22 = .ok (.iconst 1, 1) := by decide +kernel
theorem dX9_neighbours_23 : decode cX9_neighbours 23 = .ok (.iload_n 3, 1) := by decide +kernel
theorem dX9_neighbours_24 : decode cX9_neighbours 24 = .ok (.ishl, 1) := by decide +kernel
theorem dX9_neighbours_25 : decode cX9_neighbours 25 = .ok (.ior, 1) := by decide +kernel
theorem dX9_neighbours_26 : decode cX9_neighbours 26 = .ok (.istore_n 2, 1) := by decide +kernel
theorem dX9_neighbours_27 : decode cX9_neighbours 27 = .ok (.iinc 3 1, 3) := by decide +kernel
theorem dX9_neighbours_30 : decode cX9_neighbours 30 = .ok (.goto (-26), 3) := by decide +kernel
theorem dX9_neighbours_33 : decode cX9_neighbours 33 = .ok (.iload_n 2, 1) := by decide +kernel
theorem dX9_neighbours_34 : decode cX9_neighbours 34 = .ok (.ireturn, 1) := by decide +kernel
theorem dX9_longestWay_0 : decode cX9_longestWay 0 = .ok (.iconst 0, 1) := by decide +kernel
theorem dX9_longestWay_1 : decode cX9_longestWay 1 = .ok (.istore_n 2, 1) := by decide +kernel
theorem dX9_longestWay_2 : decode cX9_longestWay 2 = .ok (.iconst 0, 1) := by decide +kernel
theorem dX9_longestWay_3 : decode cX9_longestWay 3 = .ok (.istore_n 3, 1) := by decide +kernel
theorem dX9_longestWay_4 : decode cX9_longestWay 4 = .ok (.iload_n 3, 1) := by decide +kernel
theorem dX9_longestWay_5 : decode cX9_longestWay 5 = .ok (.aload_n 0, 1) := by decide +kernel
theorem dX9_longestWay_6 : decode cX9_longestWay 6 = .ok (.getfield 22, 3) := by decide +kernel
theorem dX9_longestWay_9 : decode cX9_longestWay 9 = .ok (.if_icmp .ge 20, 3) := by decide +kernel
theorem dX9_longestWay_12 : decode cX9_longestWay 12 = .ok (.iload_n 2, 1) := by decide +kernel
theorem dX9_longestWay_13 : decode cX9_longestWay 13 = .ok (.aload_n 0, 1) := by decide +kernel
theorem dX9_longestWay_14 : decode cX9_longestWay 14 = .ok (.iload_n 1, 1) := by decide +kernel
theorem dX9_longestWay_15 : decode cX9_longestWay 15 = .ok (.iload_n 3, 1) := by decide +kernel
theorem dX9_longestWay_16 : decode cX9_longestWay 16 = .ok (.invokevirtual 38, 3) := by decide +kernel
theorem dX9_longestWay_19 : decode cX9_longestWay 19 = .ok (.invokestatic 42, 3) := by decide +kernel
theorem dX9_longestWay_22 : decode cX9_longestWay 22 = .ok (.istore_n 2, 1) := by decide +kernel
theorem dX9_longestWay_23 : decode cX9_longestWay 23 = .ok (.iinc 3 1, 3) := by decide +kernel
theorem dX9_longestWay_26 : decode cX9_longestWay 26 = .ok (.goto (-22), 3) := by decide +kernel
theorem dX9_longestWay_29 : decode cX9_longestWay 29 = .ok (.iload_n 2, 1) := by decide +kernel
theorem dX9_longestWay_30 : decode cX9_longestWay 30 = .ok (.ireturn, 1) := by decide +kernel
theorem dX10_init_0 : decode cX10_init 0 = .ok (.aload_n 0, 1) := by decide +kernel
theorem dX10_init_1 : decode cX10_init 1 = .ok (.invokespecial 1, 3) := by decide +kernel
theorem dX10_init_4 : decode cX10_init 4 = .ok (.return_, 1) := by decide +kernel
theorem dX10_worth_0 : decode cX10_worth 0 = .ok (.aload_n 0, 1) := by decide +kernel
theorem dX10_worth_1 : decode cX10_worth 1 = .ok (.dup, 1) := by decide +kernel
theorem dX10_worth_2 : decode cX10_worth 2 = .ok (.getfield 7, 3) := by decide +kernel
theorem dX10_worth_5 : decode cX10_worth 5 = .ok (.ldc2_w 13, 3) := by decide +kernel
theorem dX10_worth_8 : decode cX10_worth 8 = .ok (.ladd, 1) := by decide +kernel
theorem dX10_worth_9 : decode cX10_worth 9 = .ok (.putfield 7, 3) := by decide +kernel
theorem dX10_worth_12 : decode cX10_worth 12 = .ok (.aload_n 0, 1) := by decide +kernel
theorem dX10_worth_13 : decode cX10_worth 13 = .ok (.aload_n 1, 1) := by decide +kernel
theorem dX10_worth_14 : decode cX10_worth 14 = .ok (.aload_n 2, 1) := by decide +kernel
theorem dX10_worth_15 : decode cX10_worth 15 = .ok (.iload_n 3, 1) := by decide +kernel
theorem dX10_worth_16 : decode cX10_worth 16 = .ok (.invokespecial 15, 3) := by decide +kernel
theorem dX10_worth_19 : decode cX10_worth 19 = .ok (.aload_n 2, 1) := by decide +kernel
theorem dX10_worth_20 : decode cX10_worth 20 = .ok (.getfield 19, 3) := by decide +kernel
theorem dX10_worth_23 : decode cX10_worth 23 = .ok (.iload_n 3, 1) := by decide +kernel
theorem dX10_worth_24 : decode cX10_worth 24 = .ok (.iaload, 1) := by decide +kernel
theorem dX10_worth_25 : decode cX10_worth 25 = .ok (.iadd, 1) := by decide +kernel
theorem dX10_worth_26 : decode cX10_worth 26 = .ok (.ireturn, 1) := by decide +kernel
theorem dX11_init_0 : decode cX11_init 0 = .ok (.aload_n 0, 1) := by decide +kernel
theorem dX11_init_1 : decode cX11_init 1 = .ok (.invokespecial 1, 3) := by decide +kernel
theorem dX11_init_4 : decode cX11_init 4 = .ok (.aload_n 0, 1) := by decide +kernel
theorem dX11_init_5 : decode cX11_init 5 = .ok (.new 7, 3) := by decide +kernel
theorem dX11_init_8 : decode cX11_init 8 = .ok (.dup, 1) := by decide +kernel
theorem dX11_init_9 : decode cX11_init 9 = .ok (.invokespecial 9, 3) := by decide +kernel
theorem dX11_init_12 : decode cX11_init 12 = .ok (.putfield 10, 3) := by decide +kernel
theorem dX11_init_15 : decode cX11_init 15 = .ok (.aload_n 0, 1) := by decide +kernel
theorem dX11_init_16 : decode cX11_init 16 = .ok (.new 16, 3) := by decide +kernel
theorem dX11_init_19 : decode cX11_init 19 = .ok (.dup, 1) := by decide +kernel
theorem dX11_init_20 : decode cX11_init 20 = .ok (.invokespecial 18, 3) := by decide +kernel
theorem dX11_init_23 : decode cX11_init 23 = .ok (.putfield 19, 3) := by decide +kernel
theorem dX11_init_26 : decode cX11_init 26 = .ok (.aload_n 0, 1) := by decide +kernel
theorem dX11_init_27 : decode cX11_init 27 = .ok (.new 16, 3) := by decide +kernel
theorem dX11_init_30 : decode cX11_init 30 = .ok (.dup, 1) := by decide +kernel
theorem dX11_init_31 : decode cX11_init 31 = .ok (.invokespecial 18, 3) := by decide +kernel
theorem dX11_init_34 : decode cX11_init 34 = .ok (.putfield 23, 3) := by decide +kernel
theorem dX11_init_37 : decode cX11_init 37 = .ok (.aload_n 0, 1) := by decide +kernel
theorem dX11_init_38 : decode cX11_init 38 = .ok (.new 26, 3) := by decide +kernel
theorem dX11_init_41 : decode cX11_init 41 = .ok (.dup, 1) := by decide +kernel
theorem dX11_init_42 : decode cX11_init 42 = .ok (.invokespecial 28, 3) := by decide +kernel
theorem dX11_init_45 : decode cX11_init 45 = .ok (.putfield 29, 3) := by decide +kernel
theorem dX11_init_48 : decode cX11_init 48 = .ok (.aload_n 0, 1) := by decide +kernel
theorem dX11_init_49 : decode cX11_init 49 = .ok (.new 26, 3) := by decide +kernel
theorem dX11_init_52 : decode cX11_init 52 = .ok (.dup, 1) := by decide +kernel
theorem dX11_init_53 : decode cX11_init 53 = .ok (.invokespecial 28, 3) := by decide +kernel
theorem dX11_init_56 : decode cX11_init 56 = .ok (.putfield 33, 3) := by decide +kernel
theorem dX11_init_59 : decode cX11_init 59 = .ok (.aload_n 0, 1) := by decide +kernel
theorem dX11_init_60 : decode cX11_init 60 = .ok (.new 36, 3) := by decide +kernel
theorem dX11_init_63 : decode cX11_init 63 = .ok (.dup, 1) := by decide +kernel
theorem dX11_init_64 : decode cX11_init 64 = .ok (.invokespecial 38, 3) := by decide +kernel
theorem dX11_init_67 : decode cX11_init 67 = .ok (.putfield 39, 3) := by decide +kernel
theorem dX11_init_70 : decode cX11_init 70 = .ok (.aload_n 0, 1) := by decide +kernel
theorem dX11_init_71 : decode cX11_init 71 = .ok (.iconst 2, 1) := by decide +kernel
theorem dX11_init_72 : decode cX11_init 72 = .ok (.anewarray 26, 3) := by decide +kernel
theorem dX11_init_75 : decode cX11_init 75 = .ok (.dup, 1) := by decide +kernel
theorem dX11_init_76 : decode cX11_init 76 = .ok (.iconst 0, 1) := by decide +kernel
theorem dX11_init_77 : decode cX11_init 77 = .ok (.new 26, 3) := by decide +kernel
theorem dX11_init_80 : decode cX11_init 80 = .ok (.dup, 1) := by decide +kernel
theorem dX11_init_81 : decode cX11_init 81 = .ok (.invokespecial 28, 3) := by decide +kernel
theorem dX11_init_84 : decode cX11_init 84 = .ok (.aastore, 1) := by decide +kernel
theorem dX11_init_85 : decode cX11_init 85 = .ok (.dup, 1) := by decide +kernel
theorem dX11_init_86 : decode cX11_init 86 = .ok (.iconst 1, 1) := by decide +kernel
theorem dX11_init_87 : decode cX11_init 87 = .ok (.new 26, 3) := by decide +kernel
theorem dX11_init_90 : decode cX11_init 90 = .ok (.dup, 1) := by decide +kernel
theorem dX11_init_91 : decode cX11_init 91 = .ok (.invokespecial 28, 3) := by decide +kernel
theorem dX11_init_94 : decode cX11_init 94 = .ok (.aastore, 1) := by decide +kernel
theorem dX11_init_95 : decode cX11_init 95 = .ok (.putfield 43, 3) := by decide +kernel
theorem dX11_init_98 : decode cX11_init 98 = .ok (.aload_n 0, 1) := by decide +kernel
theorem dX11_init_99 : decode cX11_init 99 = .ok (.iconst 2, 1) := by decide +kernel
theorem dX11_init_100 : decode cX11_init 100 = .ok (.newarray .boolean, 2) := by decide +kernel
theorem dX11_init_102 : decode cX11_init 102 = .ok (.putfield 47, 3) := by decide +kernel
theorem dX11_init_105 : decode cX11_init 105 = .ok (.aload_n 0, 1) := by decide +kernel
theorem dX11_init_106 : decode cX11_init 106 = .ok (.new 51, 3) := by decide +kernel
theorem dX11_init_109 : decode cX11_init 109 = .ok (.dup, 1) := by decide +kernel
theorem dX11_init_110 : decode cX11_init 110 = .ok (.invokespecial 53, 3) := by decide +kernel
theorem dX11_init_113 : decode cX11_init 113 = .ok (.putfield 54, 3) := by decide +kernel
theorem dX11_init_116 : decode cX11_init 116 = .ok (.aload_n 0, 1) := by decide +kernel
theorem dX11_init_117 : decode cX11_init 117 = .ok (.new 51, 3) := by decide +kernel
theorem dX11_init_120 : decode cX11_init 120 = .ok (.dup, 1) := by decide +kernel
theorem dX11_init_121 : decode cX11_init 121 = .ok (.invokespecial 53, 3) := by decide +kernel
theorem dX11_init_124 : decode cX11_init 124 = .ok (.putfield 58, 3) := by decide +kernel
theorem dX11_init_127 : decode cX11_init 127 = .ok (.aload_n 0, 1) := by decide +kernel
theorem dX11_init_128 : decode cX11_init 128 = .ok (.bipush 6, 2) := by decide +kernel
theorem dX11_init_130 : decode cX11_init 130 = .ok (.anewarray 61, 3) := by decide +kernel
theorem dX11_init_133 : decode cX11_init 133 = .ok (.dup, 1) := by decide +kernel
theorem dX11_init_134 : decode cX11_init 134 = .ok (.iconst 0, 1) := by decide +kernel
theorem dX11_init_135 : decode cX11_init 135 = .ok (.new 61, 3) := by decide +kernel
theorem dX11_init_138 : decode cX11_init 138 = .ok (.dup, 1) := by decide +kernel
theorem dX11_init_139 : decode cX11_init 139 = .ok (.invokespecial 63, 3) := by decide +kernel
theorem dX11_init_142 : decode cX11_init 142 = .ok (.aastore, 1) := by decide +kernel
theorem dX11_init_143 : decode cX11_init 143 = .ok (.dup, 1) := by decide +kernel
theorem dX11_init_144 : decode cX11_init 144 = .ok (.iconst 1, 1) := by decide +kernel
theorem dX11_init_145 : decode cX11_init 145 = .ok (.new 64, 3) := by decide +kernel
theorem dX11_init_148 : decode cX11_init 148 = .ok (.dup, 1) := by decide +kernel
theorem dX11_init_149 : decode cX11_init 149 = .ok (.invokespecial 66, 3) := by decide +kernel
theorem dX11_init_152 : decode cX11_init 152 = .ok (.aastore, 1) := by decide +kernel
theorem dX11_init_153 : decode cX11_init 153 = .ok (.dup, 1) := by decide +kernel
theorem dX11_init_154 : decode cX11_init 154 = .ok (.iconst 2, 1) := by decide +kernel
theorem dX11_init_155 : decode cX11_init 155 = .ok (.new 67, 3) := by decide +kernel
theorem dX11_init_158 : decode cX11_init 158 = .ok (.dup, 1) := by decide +kernel
theorem dX11_init_159 : decode cX11_init 159 = .ok (.invokespecial 69, 3) := by decide +kernel
theorem dX11_init_162 : decode cX11_init 162 = .ok (.aastore, 1) := by decide +kernel
theorem dX11_init_163 : decode cX11_init 163 = .ok (.dup, 1) := by decide +kernel
theorem dX11_init_164 : decode cX11_init 164 = .ok (.iconst 3, 1) := by decide +kernel
theorem dX11_init_165 : decode cX11_init 165 = .ok (.new 70, 3) := by decide +kernel
theorem dX11_init_168 : decode cX11_init 168 = .ok (.dup, 1) := by decide +kernel
theorem dX11_init_169 : decode cX11_init 169 = .ok (.invokespecial 72, 3) := by decide +kernel
theorem dX11_init_172 : decode cX11_init 172 = .ok (.aastore, 1) := by decide +kernel
theorem dX11_init_173 : decode cX11_init 173 = .ok (.dup, 1) := by decide +kernel
theorem dX11_init_174 : decode cX11_init 174 = .ok (.iconst 4, 1) := by decide +kernel
theorem dX11_init_175 : decode cX11_init 175 = .ok (.new 73, 3) := by decide +kernel
theorem dX11_init_178 : decode cX11_init 178 = .ok (.dup, 1) := by decide +kernel
theorem dX11_init_179 : decode cX11_init 179 = .ok (.invokespecial 75, 3) := by decide +kernel
theorem dX11_init_182 : decode cX11_init 182 = .ok (.aastore, 1) := by decide +kernel
theorem dX11_init_183 : decode cX11_init 183 = .ok (.dup, 1) := by decide +kernel
theorem dX11_init_184 : decode cX11_init 184 = .ok (.iconst 5, 1) := by decide +kernel
theorem dX11_init_185 : decode cX11_init 185 = .ok (.new 76, 3) := by decide +kernel
theorem dX11_init_188 : decode cX11_init 188 = .ok (.dup, 1) := by decide +kernel
theorem dX11_init_189 : decode cX11_init 189 = .ok (.invokespecial 78, 3) := by decide +kernel
theorem dX11_init_192 : decode cX11_init 192 = .ok (.aastore, 1) := by decide +kernel
theorem dX11_init_193 : decode cX11_init 193 = .ok (.putfield 79, 3) := by decide +kernel
theorem dX11_init_196 : decode cX11_init 196 = .ok (.aload_n 0, 1) := by decide +kernel
theorem dX11_init_197 : decode cX11_init 197 = .ok (.iconst 5, 1) := by decide +kernel
theorem dX11_init_198 : decode cX11_init 198 = .ok (.newarray .int, 2) := by decide +kernel
theorem dX11_init_200 : decode cX11_init 200 = .ok (.putfield 83, 3) := by decide +kernel
theorem dX11_init_203 : decode cX11_init 203 = .ok (.aload_n 0, 1) := by decide +kernel
theorem dX11_init_204 : decode cX11_init 204 = .ok (.iconst 5, 1) := by decide +kernel
theorem dX11_init_205 : decode cX11_init 205 = .ok (.newarray .int, 2) := by decide +kernel
theorem dX11_init_207 : decode cX11_init 207 = .ok (.putfield 87, 3) := by decide +kernel
theorem dX11_init_210 : decode cX11_init 210 = .ok (.aload_n 0, 1) := by decide +kernel
theorem dX11_init_211 : decode cX11_init 211 = .ok (.iconst 0, 1) := by decide +kernel
theorem dX11_init_212 : decode cX11_init 212 = .ok (.putfield 90, 3) := by decide +kernel
theorem dX11_init_215 : decode cX11_init 215 = .ok (.aload_n 0, 1) := by decide +kernel
theorem dX11_init_216 : decode cX11_init 216 = .ok (.bipush 6, 2) := by decide +kernel
theorem dX11_init_218 : decode cX11_init 218 = .ok (.newarray .int, 2) := by decide +kernel
theorem dX11_init_220 : decode cX11_init 220 = .ok (.putfield 94, 3) := by decide +kernel
theorem dX11_init_223 : decode cX11_init 223 = .ok (.aload_n 0, 1) := by decide +kernel
theorem dX11_init_224 : decode cX11_init 224 = .ok (.iconst 0, 1) := by decide +kernel
theorem dX11_init_225 : decode cX11_init 225 = .ok (.putfield 97, 3) := by decide +kernel
theorem dX11_init_228 : decode cX11_init 228 = .ok (.aload_n 0, 1) := by decide +kernel
theorem dX11_init_229 : decode cX11_init 229 = .ok (.bipush 6, 2) := by decide +kernel
theorem dX11_init_231 : decode cX11_init 231 = .ok (.newarray .int, 2) := by decide +kernel
theorem dX11_init_233 : decode cX11_init 233 = .ok (.putfield 100, 3) := by decide +kernel
theorem dX11_init_236 : decode cX11_init 236 = .ok (.aload_n 0, 1) := by decide +kernel
theorem dX11_init_237 : decode cX11_init 237 = .ok (.bipush 6, 2) := by decide +kernel
theorem dX11_init_239 : decode cX11_init 239 = .ok (.newarray .int, 2) := by decide +kernel
theorem dX11_init_241 : decode cX11_init 241 = .ok (.putfield 103, 3) := by decide +kernel
theorem dX11_init_244 : decode cX11_init 244 = .ok (.return_, 1) := by decide +kernel
theorem dX11_type_0 : decode cX11_type 0 = .ok (.iload_n 1, 1) := by decide +kernel
theorem dX11_type_1 : decode cX11_type 1 = .ok (.iconst 0, 1) := by decide +kernel
theorem dX11_type_2 : decode cX11_type 2 = .ok (.sipush 255, 3) := by decide +kernel
theorem dX11_type_5 : decode cX11_type 5 = .ok (.invokestatic 106, 3) := by decide +kernel
theorem dX11_type_8 : decode cX11_type 8 = .ok (.ifCond .ne 5, 3) := by decide +kernel
theorem dX11_type_11 : decode cX11_type 11 = .ok (.iconst (-1), 1) := by decide +kernel
theorem dX11_type_12 : decode cX11_type 12 = .ok (.ireturn, 1) := by decide +kernel
theorem dX11_type_13 : decode cX11_type 13 = .ok (.aload_n 0, 1) := by decide +kernel
theorem dX11_type_14 : decode cX11_type 14 = .ok (.getfield 10, 3) := by decide +kernel
theorem dX11_type_17 : decode cX11_type 17 = .ok (.getfield 110, 3) := by decide +kernel
theorem dX11_type_20 : decode cX11_type 20 = .ok (.sipush 200, 3) := by decide +kernel
theorem dX11_type_23 : decode cX11_type 23 = .ok (.if_icmp .lt 6, 3) := by decide +kernel
theorem dX11_type_26 : decode cX11_type 26 = .ok (.bipush (-3), 2) := by decide +kernel
theorem dX11_type_28 : decode cX11_type 28 = .ok (.ireturn, 1) := by decide +kernel
theorem dX11_type_29 : decode cX11_type 29 = .ok (.aload_n 0, 1) := by decide +kernel
theorem dX11_type_30 : decode cX11_type 30 = .ok (.getfield 10, 3) := by decide +kernel
theorem dX11_type_33 : decode cX11_type 33 = .ok (.getfield 113, 3) := by decide +kernel
theorem dX11_type_36 : decode cX11_type 36 = .ok (.aload_n 0, 1) := by decide +kernel
theorem dX11_type_37 : decode cX11_type 37 = .ok (.getfield 10, 3) := by decide +kernel
theorem dX11_type_40 : decode cX11_type 40 = .ok (.getfield 110, 3) := by decide +kernel
theorem dX11_type_43 : decode cX11_type 43 = .ok (.iload_n 1, 1) := by decide +kernel
theorem dX11_type_44 : decode cX11_type 44 = .ok (.i2c, 1) := by decide +kernel
theorem dX11_type_45 : decode cX11_type 45 = .ok (.castore, 1) := by decide +kernel
theorem dX11_type_46 : decode cX11_type 46 = .ok (.aload_n 0, 1) := by decide +kernel
theorem dX11_type_47 : decode cX11_type 47 = .ok (.getfield 10, 3) := by decide +kernel
theorem dX11_type_50 : decode cX11_type 50 = .ok (.dup, 1) := by decide +kernel
theorem dX11_type_51 : decode cX11_type 51 = .ok (.getfield 110, 3) := by decide +kernel
theorem dX11_type_54 : decode cX11_type 54 = .ok (.iconst 1, 1) := by decide +kernel
theorem dX11_type_55 : decode cX11_type 55 = .ok (.iadd, 1) := by decide +kernel
theorem dX11_type_56 : decode cX11_type 56 = .ok (.putfield 110, 3) := by decide +kernel
theorem dX11_type_59 : decode cX11_type 59 = .ok (.aload_n 0, 1) := by decide +kernel
theorem dX11_type_60 : decode cX11_type 60 = .ok (.getfield 10, 3) := by decide +kernel
theorem dX11_type_63 : decode cX11_type 63 = .ok (.getfield 110, 3) := by decide +kernel
theorem dX11_type_66 : decode cX11_type 66 = .ok (.ireturn, 1) := by decide +kernel
theorem dX11_clear_0 : decode cX11_clear 0 = .ok (.aload_n 0, 1) := by decide +kernel
theorem dX11_clear_1 : decode cX11_clear 1 = .ok (.getfield 10, 3) := by decide +kernel
theorem dX11_clear_4 : decode cX11_clear 4 = .ok (.getfield 110, 3) := by decide +kernel
theorem dX11_clear_7 : decode cX11_clear 7 = .ok (.istore_n 1, 1) := by decide +kernel
theorem dX11_clear_8 : decode cX11_clear 8 = .ok (.aload_n 0, 1) := by decide +kernel
theorem dX11_clear_9 : decode cX11_clear 9 = .ok (.getfield 10, 3) := by decide +kernel
theorem dX11_clear_12 : decode cX11_clear 12 = .ok (.iconst 0, 1) := by decide +kernel
theorem dX11_clear_13 : decode cX11_clear 13 = .ok (.putfield 110, 3) := by decide +kernel
theorem dX11_clear_16 : decode cX11_clear 16 = .ok (.iload_n 1, 1) := by decide +kernel
theorem dX11_clear_17 : decode cX11_clear 17 = .ok (.ireturn, 1) := by decide +kernel
theorem dX11_valley_0 : decode cX11_valley 0 = .ok (.aload_n 0, 1) := by decide +kernel
theorem dX11_valley_1 : decode cX11_valley 1 = .ok (.getfield 10, 3) := by decide +kernel
theorem dX11_valley_4 : decode cX11_valley 4 = .ok (.aload_n 0, 1) := by decide +kernel
theorem dX11_valley_5 : decode cX11_valley 5 = .ok (.getfield 23, 3) := by decide +kernel
theorem dX11_valley_8 : decode cX11_valley 8 = .ok (.invokevirtual 117, 3) := by decide +kernel
theorem dX11_valley_11 : decode cX11_valley 11 = .ok (.istore_n 1, 1) := by decide +kernel
theorem dX11_valley_12 : decode cX11_valley 12 = .ok (.iload_n 1, 1) := by decide +kernel
theorem dX11_valley_13 : decode cX11_valley 13 = .ok (.ifCond .ge 14, 3) := by decide +kernel
theorem dX11_valley_16 : decode cX11_valley 16 = .ok (.bipush (-10), 2) := by decide +kernel
theorem dX11_valley_18 : decode cX11_valley 18 = .ok (.aload_n 0, 1) := by decide +kernel
theorem dX11_valley_19 : decode cX11_valley 19 = .ok (.getfield 10, 3) := by decide +kernel
theorem dX11_valley_22 : decode cX11_valley 22 = .ok (.getfield 121, 3) := by decide +kernel
theorem dX11_valley_25 : decode cX11_valley 25 = .ok (.isub, 1) := by decide +kernel
theorem dX11_valley_26 : decode cX11_valley 26 = .ok (.ireturn, 1) := by decide +kernel
theorem dX11_valley_27 : decode cX11_valley 27 = .ok (.aload_n 0, 1) := by decide +kernel
theorem dX11_valley_28 : decode cX11_valley 28 = .ok (.getfield 19, 3) := by decide +kernel
theorem dX11_valley_31 : decode cX11_valley 31 = .ok (.astore_n 2, 1) := by decide +kernel
theorem dX11_valley_32 : decode cX11_valley 32 = .ok (.aload_n 0, 1) := by decide +kernel
theorem dX11_valley_33 : decode cX11_valley 33 = .ok (.aload_n 0, 1) := by decide +kernel
theorem dX11_valley_34 : decode cX11_valley 34 = .ok (.getfield 23, 3) := by decide +kernel
theorem dX11_valley_37 : decode cX11_valley 37 = .ok (.putfield 19, 3) := by decide +kernel
theorem dX11_valley_40 : decode cX11_valley 40 = .ok (.aload_n 0, 1) := by decide +kernel
theorem dX11_valley_41 : decode cX11_valley 41 = .ok (.aload_n 2, 1) := by decide +kernel
theorem dX11_valley_42 : decode cX11_valley 42 = .ok (.putfield 23, 3) := by decide +kernel
theorem dX11_valley_45 : decode cX11_valley 45 = .ok (.aload_n 0, 1) := by decide +kernel
theorem dX11_valley_46 : decode cX11_valley 46 = .ok (.invokevirtual 124, 3) := by decide +kernel
theorem dX11_valley_49 : decode cX11_valley 49 = .ok (.iload_n 1, 1) := by decide +kernel
theorem dX11_valley_50 : decode cX11_valley 50 = .ok (.ireturn, 1) := by decide +kernel
theorem dX11_village_0 : decode cX11_village 0 = .ok (.aload_n 0, 1) := by decide +kernel
theorem dX11_village_1 : decode cX11_village 1 = .ok (.iload_n 1, 1) := by decide +kernel
theorem dX11_village_2 : decode cX11_village 2 = .ok (.invokevirtual 127, 3) := by decide +kernel
theorem dX11_village_5 : decode cX11_village 5 = .ok (.ifCond .ne 5, 3) := by decide +kernel
theorem dX11_village_8 : decode cX11_village 8 = .ok (.iconst (-1), 1) := by decide +kernel
theorem dX11_village_9 : decode cX11_village 9 = .ok (.ireturn, 1) := by decide +kernel
theorem dX11_village_10 : decode cX11_village 10 = .ok (.iload_n 2, 1) := by decide +kernel
theorem dX11_village_11 : decode cX11_village 11 = .ok (.tableswitch 70 0 3 #[29, 39, 51, 60], 29) := by decide +kernel
theorem dX11_village_40 : decode cX11_village 40 = .ok (.aload_n 0, 1) := by decide +kernel
theorem dX11_village_41 : decode cX11_village 41 = .ok (.getfield 33, 3) := by decide +kernel
theorem dX11_village_44 : decode cX11_village 44 = .ok (.getfield 131, 3) := by decide +kernel
theorem dX11_village_47 : decode cX11_village 47 = .ok (.iload_n 1, 1) := by decide +kernel
